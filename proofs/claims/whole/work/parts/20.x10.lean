def wX10_isIn (a0 : Int32) (a1 : Int32) (a2 : Int32)  (post : Int32 → Prop) : Prop := ((a0 < a1 → post (0 : Int32)) ∧ (¬ a0 < a1 → ((a2 < a0 → post (0 : Int32)) ∧ (¬ a2 < a0 → post (1 : Int32)))))
def rmX10_isIn : Room := { frames := 0, cells := 0, slots := 0, locals := 0 }
set_option maxHeartbeats 4000000 in
set_option maxRecDepth 100000 in
theorem mX10_isIn (l : Launch) (D : va_G) (K : Nat → ClassId)  (sz : Nat) (a0 : Int32) (a1 : Int32) (a2 : Int32)   {post : Int32 → Prop} (hw : wX10_isIn a0 a1 a2  post) : Met l yX10_isIn wsX10_isIn rmX10_isIn (va_Pc [.int a0, .int a1, .int a2] (cP D K ([]) sz)) (va_Qi (fun (r : Int32) (u : Unit) => post r) (fun u t => cQ D K ([]) (va_A ([]) sz) t) (va_A ([]) sz)) 0 0 (va_A ([]) sz) := by
  refine x_entry (cc := cX10_isIn) (maxL := 3) (ret := (some .boolean)) (QA := fun A => va_Qi (fun (r : Int32) (u : Unit) => post r) (fun u t => cQ D K ([]) A t) A) (plainFor_of_name (by decide)) rfl (Nat.le_of_ble_eq_true rfl) ?_
  intro p e s m args below meth c A ls H Q hQ hC hlk hr hnm hI hl
  obtain ⟨hx, hb, hml, hown, hts, hK, hA, hZ⟩ := id hC
  obtain ⟨locs, hlocs⟩ : ∃ y : List Loc, y = [] := ⟨_, rfl⟩
  rw [← hlocs] at hI ⊢
  clear hlocs
  replace hl : lv_has ls 3 [(0, .int a0), (1, .int a1), (2, .int a2)] := hl
  replace hw : ((a0 < a1 → post (0 : Int32)) ∧ (¬ a0 < a1 → ((a2 < a0 → post (0 : Int32)) ∧ (¬ a2 < a0 → post (1 : Int32))))) := hw
  refine lv_iload_n hx hb dX10_isIn_0 rfl (lv_at hl 0 rfl) ?_
  refine lv_iload_n hx hb dX10_isIn_1 rfl (lv_at hl 1 rfl) ?_
  refine lv_icmp_lt (tgt := 14) hx hb dX10_isIn_2 (by decide) (fun c1 => ?_) (fun c1 => ?_)
  · replace hw := hw.1 c1
    refine lv_iconst (v := (0 : Int32)) hx hb dX10_isIn_14 (by decide) ?_
    subst hQ
    exact x_zret (u := ()) hC hI hr hlk hw rfl (Or.inl rfl) dX10_isIn_15
  · replace hw := hw.2 c1
    refine lv_iload_n hx hb dX10_isIn_5 rfl (lv_at hl 0 rfl) ?_
    refine lv_iload_n hx hb dX10_isIn_6 rfl (lv_at hl 2 rfl) ?_
    refine lv_icmp_gt (tgt := 14) hx hb dX10_isIn_7 (by decide) (fun c2 => ?_) (fun c2 => ?_)
    · replace hw := hw.1 c2
      refine lv_iconst (v := (0 : Int32)) hx hb dX10_isIn_14 (by decide) ?_
      subst hQ
      exact x_zret (u := ()) hC hI hr hlk hw rfl (Or.inl rfl) dX10_isIn_15
    · replace hw := hw.2 c2
      refine lv_iconst (v := (1 : Int32)) hx hb dX10_isIn_10 (by decide) ?_
      refine lv_goto (tgt := 15) hx hb dX10_isIn_11 (by decide) ?_
      subst hQ
      exact x_zret (u := ()) hC hI hr hlk hw rfl (Or.inr rfl) dX10_isIn_15

def wX10_place (a1 : Int32) (a2 : Int32) (a3 : Int32) (bits : Nat → Int64) (strips : Int32) (caps : Int32) (seaOf : Nat → Int32) (queue : Nat → Int32) (snum : Int32) (post : Int32 → (Nat → Int32) → (Nat → Int32) → Int32 → Prop) : Prop := wX1_isPlace a1 a2 (fun (r1 : Int32) => ((r1 = 0 → post (-1 : Int32) seaOf queue snum) ∧ (¬ r1 = 0 → wX10_isIn a3 (0 : Int32) (4 : Int32) (fun (r3 : Int32) => ((r3 = 0 → post (-1 : Int32) seaOf queue snum) ∧ (¬ r3 = 0 → wX1_numberOf a1 a2 (fun (r5 : Int32) => ((a3 = (0 : Int32) → post r5 seaOf queue snum) ∧ (¬ a3 = (0 : Int32) → ((a3 = (1 : Int32) → wX0_isLand r5 bits (fun (r8 : Int32) => ((r8 = 0 → post (0 : Int32) seaOf queue snum) ∧ (¬ r8 = 0 → post (1 : Int32) seaOf queue snum)))) ∧ (¬ a3 = (1 : Int32) → ((a3 = (2 : Int32) → wX5_chart seaOf queue bits (fun (seaOf_11 : Nat → Int32) (queue_12 : Nat → Int32) (snum_13 : Int32) => vp_in r5 266 ∧ post (seaOf_11 r5.toNatClampNeg) seaOf_11 queue_12 snum_13)) ∧ (¬ a3 = (2 : Int32) → ((a3 = (3 : Int32) → wX0_isOnStrips a1 caps (fun (r16 : Int32) => ((r16 = 0 → post (-4 : Int32) seaOf queue snum) ∧ (¬ r16 = 0 → wX1_stepOf r5 (fun (r18 : Int32) => wX0_width strips (fun (r19 : Int32) => ¬ r19 = 0 ∧ post (r18 / r19) seaOf queue snum)))))) ∧ (¬ a3 = (3 : Int32) → wX0_isOnCap a1 caps (fun (r21 : Int32) => ((r21 = 0 → post (0 : Int32) seaOf queue snum) ∧ (¬ r21 = 0 → post (1 : Int32) seaOf queue snum))))))))))))))))))
def rmX10_place : Room := { frames := 5, cells := 0, slots := 0, locals := 111 }
theorem kX10_place_0 : Cond.fieldLink RX10 10 "GoreGlobe" "now" "LGoreGlobe$Globe;" ∈ wsX10_place := List.mem_cons_of_mem _ (List.mem_append_left _ (List.mem_append_left _ (List.mem_append_left _ (List.mem_append_left _ (List.mem_of_getElem? (i := 0) rfl)))))
theorem kX10_place_cX10 : ∀ w ∈ wsX100, w ∈ wsX10_place := fun _ h => List.mem_cons_of_mem _ (List.mem_append_left _ (List.mem_append_left _ (List.mem_append_right _ h)))
theorem kX10_place_2 : Cond.fieldLink RX10 45 "GoreGlobe" "seas" "LGoreGlobe$Seas;" ∈ wsX10_place := List.mem_cons_of_mem _ (List.mem_append_left _ (List.mem_append_left _ (List.mem_append_left _ (List.mem_append_left _ (List.mem_of_getElem? (i := 1) rfl)))))
theorem kX10_place_3 : Cond.fieldLink RX10 93 "GoreGlobe$Seas" "seaOf" "[I" ∈ wsX10_place := List.mem_cons_of_mem _ (List.mem_append_left _ (List.mem_append_left _ (List.mem_append_left _ (List.mem_append_left _ (List.mem_of_getElem? (i := 2) rfl)))))
theorem kX10_place_cX5 : ∀ w ∈ wsX50, w ∈ wsX10_place := fun _ h => List.mem_cons_of_mem _ (List.mem_append_left _ (List.mem_append_right _ h))
set_option maxHeartbeats 4000000 in
set_option maxRecDepth 100000 in
theorem mX10_place (l : Launch) (D : va_G) (K : Nat → ClassId) (q : Nat → Nat) (sz : Nat) (a1 : Int32) (a2 : Int32) (a3 : Int32) (bits : Nat → Int64) (stops : Nat → Int32) (num : Int32) (unit : Int32) (strips : Int32) (caps : Int32) (draw : Int32) (oldest : Int32) (known : Int32) (ring : Nat → GS) (im : GS) (iold : Int32) (iknown : Int32) (iring : Nat → GS) (hasIm : Int32) (letters : Nat → Int32) (tbits : Nat → Int64) (tlen : Int32) (tat : Int32) (fig : Int32) (shI : Nat → Nat → Int64) (shH : Nat → Int32) (shL : Nat → Int32) (shS : Nat → Int32) (seaOf : Nat → Int32) (queue : Nat → Int32) (snum : Int32) (cost : Nat → Int32) (heap : Nat → Int64) (wait : Int32) (off : Int32) (les : Int32) (gre : Int32) (abv : Int64) (blw : Int64) (needed : Int32) (ocut : Int32) (opole : Int32)  {post : Int32 → (Nat → Int32) → (Nat → Int32) → Int32 → Prop} (hw : wX10_place a1 a2 a3 bits strips caps seaOf queue snum post) : Met l yX10_place wsX10_place rmX10_place (va_Pc [.ref (q 0), .int a1, .int a2, .int a3] (cP D K (wX K q bits stops num unit strips caps draw oldest known ring im iold iknown iring hasIm letters tbits tlen tat fig shI shH shL shS seaOf queue snum cost heap wait off les gre abv blw needed ocut opole) sz)) (va_Qi (fun (r : Int32) (u : (Nat → Int32) × (Nat → Int32) × Int32) => post r u.1 u.2.1 u.2.2) (fun u t => cQ D K (wX K q bits stops num unit strips caps draw oldest known ring im iold iknown iring hasIm letters tbits tlen tat fig shI shH shL shS u.1 u.2.1 u.2.2 cost heap wait off les gre abv blw needed ocut opole) (va_A (wX K q bits stops num unit strips caps draw oldest known ring im iold iknown iring hasIm letters tbits tlen tat fig shI shH shL shS seaOf queue snum cost heap wait off les gre abv blw needed ocut opole) sz) t) (va_A (wX K q bits stops num unit strips caps draw oldest known ring im iold iknown iring hasIm letters tbits tlen tat fig shI shH shL shS seaOf queue snum cost heap wait off les gre abv blw needed ocut opole) sz)) 0 0 (va_A (wX K q bits stops num unit strips caps draw oldest known ring im iold iknown iring hasIm letters tbits tlen tat fig shI shH shL shS seaOf queue snum cost heap wait off les gre abv blw needed ocut opole) sz) := by
  refine x_entry (cc := cX10_place) (maxL := 5) (ret := (some .int)) (QA := fun A => va_Qi (fun (r : Int32) (u : (Nat → Int32) × (Nat → Int32) × Int32) => post r u.1 u.2.1 u.2.2) (fun u t => cQ D K (wX K q bits stops num unit strips caps draw oldest known ring im iold iknown iring hasIm letters tbits tlen tat fig shI shH shL shS u.1 u.2.1 u.2.2 cost heap wait off les gre abv blw needed ocut opole) A t) A) (plainFor_of_name (by decide)) rfl (Nat.le_of_ble_eq_true rfl) ?_
  intro p e s m args below meth c A ls H Q hQ hC hlk hr hnm hI hl
  obtain ⟨hx, hb, hml, hown, hts, hK, hA, hZ⟩ := id hC
  obtain ⟨locs, hlocs⟩ : ∃ y : List Loc, y = [] := ⟨_, rfl⟩
  rw [← hlocs] at hI ⊢
  clear hlocs
  replace hl : lv_has ls 5 [(0, .ref (q 0)), (1, .int a1), (2, .int a2), (3, .int a3)] := hl
  replace hw : wX1_isPlace a1 a2 (fun (r1 : Int32) => ((r1 = 0 → post (-1 : Int32) seaOf queue snum) ∧ (¬ r1 = 0 → wX10_isIn a3 (0 : Int32) (4 : Int32) (fun (r3 : Int32) => ((r3 = 0 → post (-1 : Int32) seaOf queue snum) ∧ (¬ r3 = 0 → wX1_numberOf a1 a2 (fun (r5 : Int32) => ((a3 = (0 : Int32) → post r5 seaOf queue snum) ∧ (¬ a3 = (0 : Int32) → ((a3 = (1 : Int32) → wX0_isLand r5 bits (fun (r8 : Int32) => ((r8 = 0 → post (0 : Int32) seaOf queue snum) ∧ (¬ r8 = 0 → post (1 : Int32) seaOf queue snum)))) ∧ (¬ a3 = (1 : Int32) → ((a3 = (2 : Int32) → wX5_chart seaOf queue bits (fun (seaOf_11 : Nat → Int32) (queue_12 : Nat → Int32) (snum_13 : Int32) => vp_in r5 266 ∧ post (seaOf_11 r5.toNatClampNeg) seaOf_11 queue_12 snum_13)) ∧ (¬ a3 = (2 : Int32) → ((a3 = (3 : Int32) → wX0_isOnStrips a1 caps (fun (r16 : Int32) => ((r16 = 0 → post (-4 : Int32) seaOf queue snum) ∧ (¬ r16 = 0 → wX1_stepOf r5 (fun (r18 : Int32) => wX0_width strips (fun (r19 : Int32) => ¬ r19 = 0 ∧ post (r18 / r19) seaOf queue snum)))))) ∧ (¬ a3 = (3 : Int32) → wX0_isOnCap a1 caps (fun (r21 : Int32) => ((r21 = 0 → post (0 : Int32) seaOf queue snum) ∧ (¬ r21 = 0 → post (1 : Int32) seaOf queue snum)))))))))))))))))) := hw
  refine lv_iload_n hx hb dX10_place_0 rfl (lv_at hl 1 rfl) ?_
  refine lv_iload_n hx hb dX10_place_1 rfl (lv_at hl 2 rfl) ?_
  refine x_callSi (rest := []) hC hI [] (mX1_isPlace l D K  _ a1 a2 hw) (va_cwS 2 hts gX10_place_X1_isPlace rfl rfl rfl (by decide +kernel) ⟨(Nat.le_of_ble_eq_true rfl), (Nat.le_of_ble_eq_true rfl)⟩) rfl rfl (fun _ => rfl) rfl hl.1 rfl (Nat.le_of_ble_eq_true rfl) dX10_place_2 ⟨(Nat.le_of_ble_eq_true rfl), (Nat.le_of_ble_eq_true rfl)⟩ (fun r1 u H locs hw hI => ?_)
  try dsimp only at hw
  have hI : wI s D A (wX K q bits stops num unit strips caps draw oldest known ring im iold iknown iring hasIm letters tbits tlen tat fig shI shH shL shS seaOf queue snum cost heap wait off les gre abv blw needed ocut opole) H locs := hI
  refine lv_if_eq (tgt := 17) hx hb dX10_place_5 (by decide) (fun c2 => ?_) (fun c2 => ?_)
  · replace hw := hw.1 c2
    refine lv_iconst (v := (-1 : Int32)) hx hb dX10_place_17 (by decide) ?_
    subst hQ
    exact x_iret (u := (seaOf, queue, snum)) hC hI hr hlk hw rfl dX10_place_18
  · replace hw := hw.2 c2
    refine lv_iload_n hx hb dX10_place_8 rfl (lv_at hl 3 rfl) ?_
    refine lv_iconst (v := (0 : Int32)) hx hb dX10_place_9 (by decide) ?_
    refine lv_iconst (v := (4 : Int32)) hx hb dX10_place_10 (by decide) ?_
    refine x_callSi (rest := []) hC hI [] (mX10_isIn l D K  _ a3 (0 : Int32) (4 : Int32) hw) (va_cwS 3 hts gX10_place_X10_isIn rfl rfl rfl (by decide +kernel) ⟨(Nat.le_of_ble_eq_true rfl), (Nat.le_of_ble_eq_true rfl)⟩) rfl rfl (fun _ => rfl) rfl hl.1 rfl (Nat.le_of_ble_eq_true rfl) dX10_place_11 ⟨(Nat.le_of_ble_eq_true rfl), (Nat.le_of_ble_eq_true rfl)⟩ (fun r3 u H locs hw hI => ?_)
    try dsimp only at hw
    have hI : wI s D A (wX K q bits stops num unit strips caps draw oldest known ring im iold iknown iring hasIm letters tbits tlen tat fig shI shH shL shS seaOf queue snum cost heap wait off les gre abv blw needed ocut opole) H locs := hI
    refine lv_if_ne (tgt := 19) hx hb dX10_place_14 (by decide) (fun c4 => ?_) (fun c4 => ?_)
    · replace hw := hw.2 c4
      refine lv_iload_n hx hb dX10_place_19 rfl (lv_at hl 1 rfl) ?_
      refine lv_iload_n hx hb dX10_place_20 rfl (lv_at hl 2 rfl) ?_
      refine x_callSi (rest := []) hC hI [] (mX1_numberOf l D K  _ a1 a2 hw) (va_cwS 2 hts gX10_place_X1_numberOf rfl rfl rfl (by decide +kernel) ⟨(Nat.le_of_ble_eq_true rfl), (Nat.le_of_ble_eq_true rfl)⟩) rfl rfl (fun _ => rfl) rfl hl.1 rfl (Nat.le_of_ble_eq_true rfl) dX10_place_21 ⟨(Nat.le_of_ble_eq_true rfl), (Nat.le_of_ble_eq_true rfl)⟩ (fun r5 u H locs hw hI => ?_)
      try dsimp only at hw
      have hI : wI s D A (wX K q bits stops num unit strips caps draw oldest known ring im iold iknown iring hasIm letters tbits tlen tat fig shI shH shL shS seaOf queue snum cost heap wait off les gre abv blw needed ocut opole) H locs := hI
      refine lv_istore (lv' := [(4, .int r5), (0, .ref (q 0)), (1, .int a1), (2, .int a2), (3, .int a3)]) hx hb dX10_place_24 hl (by decide) rfl (fun ls hl => ?_)
      refine lv_iload_n hx hb dX10_place_26 rfl (lv_at hl 4 rfl) ?_
      by_cases c6 : a3 = (0 : Int32)
      · replace hw := hw.1 c6
        refine lv_tableIn (off := 29) (tgt := 56) hx hb dX10_place_27 (by rw [c6]; decide) (by rw [c6]; decide) (by rw [c6]; rfl) (by decide) ?_
        refine lv_iload hx hb dX10_place_56 (lv_at hl 0 rfl) ?_
        subst hQ
        exact x_iret (u := (seaOf, queue, snum)) hC hI hr hlk hw rfl dX10_place_58
      · replace hw := hw.2 c6
        by_cases c7 : a3 = (1 : Int32)
        · replace hw := hw.1 c7
          refine lv_tableIn (off := 32) (tgt := 59) hx hb dX10_place_27 (by rw [c7]; decide) (by rw [c7]; decide) (by rw [c7]; rfl) (by decide) ?_
          refine lv_aload_n hx hb dX10_place_59 rfl (lv_at hl 1 rfl) ?_
          refine x_get (v := .ref (q 1)) hC hI kX10_place_cX10 0 rfl rfl 0 (by decide) kX10_place_0 rfl rfl dX10_place_60 ?_
          refine lv_iload hx hb dX10_place_63 (lv_at hl 0 rfl) ?_
          refine x_callVi (rest := []) hC hI [1, 2, 3] (mX0_isLand l D K (fun i => q (1 + i)) _ r5 bits stops num unit strips caps draw hw) (cwV 1 hts gX10_place_X0_isLand rfl rfl rfl (by decide +kernel) ⟨(Nat.le_of_ble_eq_true rfl), (Nat.le_of_ble_eq_true rfl)⟩) rfl rfl (fun _ => rfl) 1 0 rfl rfl rfl rfl hl.1 rfl (Nat.le_of_ble_eq_true rfl) dX10_place_65 ⟨(Nat.le_of_ble_eq_true rfl), (Nat.le_of_ble_eq_true rfl)⟩ (fun r8 u H locs hw hI => ?_)
          try dsimp only at hw
          have hI : wI s D A (wX K q bits stops num unit strips caps draw oldest known ring im iold iknown iring hasIm letters tbits tlen tat fig shI shH shL shS seaOf queue snum cost heap wait off les gre abv blw needed ocut opole) H locs := hI
          refine lv_if_eq (tgt := 75) hx hb dX10_place_68 (by decide) (fun c9 => ?_) (fun c9 => ?_)
          · replace hw := hw.1 c9
            refine lv_iconst (v := (0 : Int32)) hx hb dX10_place_75 (by decide) ?_
            subst hQ
            exact x_iret (u := (seaOf, queue, snum)) hC hI hr hlk hw rfl dX10_place_76
          · replace hw := hw.2 c9
            refine lv_iconst (v := (1 : Int32)) hx hb dX10_place_71 (by decide) ?_
            refine lv_goto (tgt := 76) hx hb dX10_place_72 (by decide) ?_
            subst hQ
            exact x_iret (u := (seaOf, queue, snum)) hC hI hr hlk hw rfl dX10_place_76
        · replace hw := hw.2 c7
          by_cases c10 : a3 = (2 : Int32)
          · replace hw := hw.1 c10
            refine lv_tableIn (off := 50) (tgt := 77) hx hb dX10_place_27 (by rw [c10]; decide) (by rw [c10]; decide) (by rw [c10]; rfl) (by decide) ?_
            refine lv_aload_n hx hb dX10_place_77 rfl (lv_at hl 1 rfl) ?_
            refine x_get (v := .ref (q 59)) hC hI kX10_place_cX10 0 rfl rfl 7 (by decide) kX10_place_2 rfl rfl dX10_place_78 ?_
            refine lv_aload_n hx hb dX10_place_81 rfl (lv_at hl 1 rfl) ?_
            refine x_get (v := .ref (q 1)) hC hI kX10_place_cX10 0 rfl rfl 0 (by decide) kX10_place_0 rfl rfl dX10_place_82 ?_
            refine x_callVv (rest := []) hC hI [59, 60, 61, 1, 2, 3] (mX5_chart l D K (fun i => q (59 + i)) (fun i => q (1 + i)) _ seaOf queue snum bits stops num unit strips caps draw hw) (cwV 1 hts gX10_place_X5_chart rfl rfl rfl (by decide +kernel) ⟨(Nat.le_of_ble_eq_true rfl), (Nat.le_of_ble_eq_true rfl)⟩) rfl rfl (fun _ => rfl) 59 3 rfl rfl rfl rfl hl.1 rfl (Nat.le_of_ble_eq_true rfl) dX10_place_85 ⟨(Nat.le_of_ble_eq_true rfl), (Nat.le_of_ble_eq_true rfl)⟩ (fun u H locs hw hI => ?_)
            obtain ⟨seaOf_11, queue_12, snum_13⟩ := u
            try dsimp only at hw
            have hI : wI s D A (wX K q bits stops num unit strips caps draw oldest known ring im iold iknown iring hasIm letters tbits tlen tat fig shI shH shL shS seaOf_11 queue_12 snum_13 cost heap wait off les gre abv blw needed ocut opole) H locs := hI
            refine lv_aload_n hx hb dX10_place_88 rfl (lv_at hl 1 rfl) ?_
            refine x_get (v := .ref (q 59)) hC hI kX10_place_cX10 0 rfl rfl 7 (by decide) kX10_place_2 rfl rfl dX10_place_89 ?_
            refine x_get (v := .ref (q 60)) hC hI kX10_place_cX5 59 rfl rfl 0 (by decide) kX10_place_3 rfl rfl dX10_place_92 ?_
            refine lv_iload hx hb dX10_place_95 (lv_at hl 0 rfl) ?_
            obtain ⟨hc14, hw⟩ := hw
            refine x_iald (f := seaOf_11) hC hI 60 rfl hc14 dX10_place_97 ?_
            subst hQ
            exact x_iret (u := (seaOf_11, queue_12, snum_13)) hC hI hr hlk hw rfl dX10_place_98
          · replace hw := hw.2 c10
            by_cases c15 : a3 = (3 : Int32)
            · replace hw := hw.1 c15
              refine lv_tableIn (off := 72) (tgt := 99) hx hb dX10_place_27 (by rw [c15]; decide) (by rw [c15]; decide) (by rw [c15]; rfl) (by decide) ?_
              refine lv_aload_n hx hb dX10_place_99 rfl (lv_at hl 1 rfl) ?_
              refine x_get (v := .ref (q 1)) hC hI kX10_place_cX10 0 rfl rfl 0 (by decide) kX10_place_0 rfl rfl dX10_place_100 ?_
              refine lv_iload_n hx hb dX10_place_103 rfl (lv_at hl 2 rfl) ?_
              refine x_callVi (rest := []) hC hI [1, 2, 3] (mX0_isOnStrips l D K (fun i => q (1 + i)) _ a1 bits stops num unit strips caps draw hw) (cwV 1 hts gX10_place_X0_isOnStrips rfl rfl rfl (by decide +kernel) ⟨(Nat.le_of_ble_eq_true rfl), (Nat.le_of_ble_eq_true rfl)⟩) rfl rfl (fun _ => rfl) 1 0 rfl rfl rfl rfl hl.1 rfl (Nat.le_of_ble_eq_true rfl) dX10_place_104 ⟨(Nat.le_of_ble_eq_true rfl), (Nat.le_of_ble_eq_true rfl)⟩ (fun r16 u H locs hw hI => ?_)
              try dsimp only at hw
              have hI : wI s D A (wX K q bits stops num unit strips caps draw oldest known ring im iold iknown iring hasIm letters tbits tlen tat fig shI shH shL shS seaOf queue snum cost heap wait off les gre abv blw needed ocut opole) H locs := hI
              refine lv_if_eq (tgt := 126) hx hb dX10_place_107 (by decide) (fun c17 => ?_) (fun c17 => ?_)
              · replace hw := hw.1 c17
                refine lv_bipush (v := (-4 : Int32)) hx hb dX10_place_126 (by decide) ?_
                subst hQ
                exact x_iret (u := (seaOf, queue, snum)) hC hI hr hlk hw rfl dX10_place_128
              · replace hw := hw.2 c17
                refine lv_iload hx hb dX10_place_110 (lv_at hl 0 rfl) ?_
                refine x_callSi (rest := []) hC hI [] (mX1_stepOf l D K  _ r5 hw) (va_cwS 1 hts gX10_place_X1_stepOf rfl rfl rfl (by decide +kernel) ⟨(Nat.le_of_ble_eq_true rfl), (Nat.le_of_ble_eq_true rfl)⟩) rfl rfl (fun _ => rfl) rfl hl.1 rfl (Nat.le_of_ble_eq_true rfl) dX10_place_112 ⟨(Nat.le_of_ble_eq_true rfl), (Nat.le_of_ble_eq_true rfl)⟩ (fun r18 u H locs hw hI => ?_)
                try dsimp only at hw
                have hI : wI s D A (wX K q bits stops num unit strips caps draw oldest known ring im iold iknown iring hasIm letters tbits tlen tat fig shI shH shL shS seaOf queue snum cost heap wait off les gre abv blw needed ocut opole) H locs := hI
                refine lv_aload_n hx hb dX10_place_115 rfl (lv_at hl 1 rfl) ?_
                refine x_get (v := .ref (q 1)) hC hI kX10_place_cX10 0 rfl rfl 0 (by decide) kX10_place_0 rfl rfl dX10_place_116 ?_
                refine x_callVi (rest := [.int r18]) hC hI [1, 2, 3] (mX0_width l D K (fun i => q (1 + i)) _ bits stops num unit strips caps draw hw) (cwV 0 hts gX10_place_X0_width rfl rfl rfl (by decide +kernel) ⟨(Nat.le_of_ble_eq_true rfl), (Nat.le_of_ble_eq_true rfl)⟩) rfl rfl (fun _ => rfl) 1 0 rfl rfl rfl rfl hl.1 rfl (Nat.le_of_ble_eq_true rfl) dX10_place_119 ⟨(Nat.le_of_ble_eq_true rfl), (Nat.le_of_ble_eq_true rfl)⟩ (fun r19 u H locs hw hI => ?_)
                try dsimp only at hw
                have hI : wI s D A (wX K q bits stops num unit strips caps draw oldest known ring im iold iknown iring hasIm letters tbits tlen tat fig shI shH shL shS seaOf queue snum cost heap wait off les gre abv blw needed ocut opole) H locs := hI
                obtain ⟨hc20, hw⟩ := hw
                refine lv_idiv hx hb dX10_place_122 hc20 ?_
                refine lv_goto (tgt := 128) hx hb dX10_place_123 (by decide) ?_
                subst hQ
                exact x_iret (u := (seaOf, queue, snum)) hC hI hr hlk hw rfl dX10_place_128
            · replace hw := hw.2 c15
              refine lv_tableOut (tgt := 129) hx hb dX10_place_27 (by have nc6 := lv_neT c6 (a := 0) rfl; have nc7 := lv_neT c7 (a := 1) rfl; have nc10 := lv_neT c10 (a := 2) rfl; have nc15 := lv_neT c15 (a := 3) rfl; omega) (by decide) ?_
              refine lv_aload_n hx hb dX10_place_129 rfl (lv_at hl 1 rfl) ?_
              refine x_get (v := .ref (q 1)) hC hI kX10_place_cX10 0 rfl rfl 0 (by decide) kX10_place_0 rfl rfl dX10_place_130 ?_
              refine lv_iload_n hx hb dX10_place_133 rfl (lv_at hl 2 rfl) ?_
              refine x_callVi (rest := []) hC hI [1, 2, 3] (mX0_isOnCap l D K (fun i => q (1 + i)) _ a1 bits stops num unit strips caps draw hw) (cwV 1 hts gX10_place_X0_isOnCap rfl rfl rfl (by decide +kernel) ⟨(Nat.le_of_ble_eq_true rfl), (Nat.le_of_ble_eq_true rfl)⟩) rfl rfl (fun _ => rfl) 1 0 rfl rfl rfl rfl hl.1 rfl (Nat.le_of_ble_eq_true rfl) dX10_place_134 ⟨(Nat.le_of_ble_eq_true rfl), (Nat.le_of_ble_eq_true rfl)⟩ (fun r21 u H locs hw hI => ?_)
              try dsimp only at hw
              have hI : wI s D A (wX K q bits stops num unit strips caps draw oldest known ring im iold iknown iring hasIm letters tbits tlen tat fig shI shH shL shS seaOf queue snum cost heap wait off les gre abv blw needed ocut opole) H locs := hI
              refine lv_if_eq (tgt := 144) hx hb dX10_place_137 (by decide) (fun c22 => ?_) (fun c22 => ?_)
              · replace hw := hw.1 c22
                refine lv_iconst (v := (0 : Int32)) hx hb dX10_place_144 (by decide) ?_
                subst hQ
                exact x_iret (u := (seaOf, queue, snum)) hC hI hr hlk hw rfl dX10_place_145
              · replace hw := hw.2 c22
                refine lv_iconst (v := (1 : Int32)) hx hb dX10_place_140 (by decide) ?_
                refine lv_goto (tgt := 145) hx hb dX10_place_141 (by decide) ?_
                subst hQ
                exact x_iret (u := (seaOf, queue, snum)) hC hI hr hlk hw rfl dX10_place_145
    · replace hw := hw.1 c4
      refine lv_iconst (v := (-1 : Int32)) hx hb dX10_place_17 (by decide) ?_
      subst hQ
      exact x_iret (u := (seaOf, queue, snum)) hC hI hr hlk hw rfl dX10_place_18

def wX10_flat (a1 : Int32) (a2 : Int32) (a3 : Int32) (unit : Int32) (strips : Int32) (caps : Int32) (post : Int32 → Prop) : Prop := wX1_isPlace a1 a2 (fun (r1 : Int32) => ((r1 = 0 → post (-1 : Int32)) ∧ (¬ r1 = 0 → wX10_isIn a3 (0 : Int32) (4 : Int32) (fun (r3 : Int32) => ((r3 = 0 → post (-1 : Int32)) ∧ (¬ r3 = 0 → wX1_numberOf a1 a2 (fun (r5 : Int32) => wX1_stepOf r5 (fun (r6 : Int32) => ∃ J53 : Int32 → Prop, (∀ (t_53 : Int32), J53 t_53 → ((t_53 = 0 → post (-4 : Int32)) ∧ (¬ t_53 = 0 → ((a3 = (0 : Int32) → wX0_width strips (fun (r9 : Int32) => wX3_stripX unit r9 a1 r6 (fun (r10 : Int32) => post r10))) ∧ (¬ a3 = (0 : Int32) → ((a3 = (1 : Int32) → wX3_stripY unit a1 (fun (r12 : Int32) => post r12)) ∧ (¬ a3 = (1 : Int32) → ((a3 = (2 : Int32) → wX3_twinX a1 r6 unit strips (fun (r14 : Int32) => post r14)) ∧ (¬ a3 = (2 : Int32) → ((a3 = (3 : Int32) → wX3_capX a1 r6 unit caps (fun (r16 : Int32) => post r16)) ∧ (¬ a3 = (3 : Int32) → wX3_capY a1 r6 unit caps (fun (r17 : Int32) => post r17)))))))))))) ∧ (((2 : Int32) < a3 → wX0_isOnCap a1 caps (fun (r19 : Int32) => J53 r19)) ∧ (¬ (2 : Int32) < a3 → wX0_isOnStrips a1 caps (fun (r20 : Int32) => J53 r20)))))))))))
def rmX10_flat : Room := { frames := 3, cells := 0, slots := 0, locals := 68 }
theorem kX10_flat_0 : Cond.fieldLink RX10 10 "GoreGlobe" "now" "LGoreGlobe$Globe;" ∈ wsX10_flat := List.mem_cons_of_mem _ (List.mem_append_left _ (List.mem_append_left _ (List.mem_append_left _ (List.mem_of_getElem? (i := 0) rfl))))
theorem kX10_flat_cX10 : ∀ w ∈ wsX100, w ∈ wsX10_flat := fun _ h => List.mem_cons_of_mem _ (List.mem_append_left _ (List.mem_append_right _ h))
theorem kX10_flat_2 : Cond.fieldLink RX10 111 "GoreGlobe$Globe" "unit" "I" ∈ wsX10_flat := List.mem_cons_of_mem _ (List.mem_append_left _ (List.mem_append_left _ (List.mem_append_left _ (List.mem_of_getElem? (i := 1) rfl))))
theorem kX10_flat_cX0 : ∀ w ∈ wsX00, w ∈ wsX10_flat := fun _ h => List.mem_cons_of_mem _ (List.mem_append_right _ h)
set_option maxHeartbeats 4000000 in
set_option maxRecDepth 100000 in
theorem mX10_flat (l : Launch) (D : va_G) (K : Nat → ClassId) (q : Nat → Nat) (sz : Nat) (a1 : Int32) (a2 : Int32) (a3 : Int32) (bits : Nat → Int64) (stops : Nat → Int32) (num : Int32) (unit : Int32) (strips : Int32) (caps : Int32) (draw : Int32) (oldest : Int32) (known : Int32) (ring : Nat → GS) (im : GS) (iold : Int32) (iknown : Int32) (iring : Nat → GS) (hasIm : Int32) (letters : Nat → Int32) (tbits : Nat → Int64) (tlen : Int32) (tat : Int32) (fig : Int32) (shI : Nat → Nat → Int64) (shH : Nat → Int32) (shL : Nat → Int32) (shS : Nat → Int32) (seaOf : Nat → Int32) (queue : Nat → Int32) (snum : Int32) (cost : Nat → Int32) (heap : Nat → Int64) (wait : Int32) (off : Int32) (les : Int32) (gre : Int32) (abv : Int64) (blw : Int64) (needed : Int32) (ocut : Int32) (opole : Int32)  {post : Int32 → Prop} (hw : wX10_flat a1 a2 a3 unit strips caps post) : Met l yX10_flat wsX10_flat rmX10_flat (va_Pc [.ref (q 0), .int a1, .int a2, .int a3] (cP D K (wX K q bits stops num unit strips caps draw oldest known ring im iold iknown iring hasIm letters tbits tlen tat fig shI shH shL shS seaOf queue snum cost heap wait off les gre abv blw needed ocut opole) sz)) (va_Qi (fun (r : Int32) (u : Unit) => post r) (fun u t => cQ D K (wX K q bits stops num unit strips caps draw oldest known ring im iold iknown iring hasIm letters tbits tlen tat fig shI shH shL shS seaOf queue snum cost heap wait off les gre abv blw needed ocut opole) (va_A (wX K q bits stops num unit strips caps draw oldest known ring im iold iknown iring hasIm letters tbits tlen tat fig shI shH shL shS seaOf queue snum cost heap wait off les gre abv blw needed ocut opole) sz) t) (va_A (wX K q bits stops num unit strips caps draw oldest known ring im iold iknown iring hasIm letters tbits tlen tat fig shI shH shL shS seaOf queue snum cost heap wait off les gre abv blw needed ocut opole) sz)) 0 0 (va_A (wX K q bits stops num unit strips caps draw oldest known ring im iold iknown iring hasIm letters tbits tlen tat fig shI shH shL shS seaOf queue snum cost heap wait off les gre abv blw needed ocut opole) sz) := by
  refine x_entry (cc := cX10_flat) (maxL := 6) (ret := (some .int)) (QA := fun A => va_Qi (fun (r : Int32) (u : Unit) => post r) (fun u t => cQ D K (wX K q bits stops num unit strips caps draw oldest known ring im iold iknown iring hasIm letters tbits tlen tat fig shI shH shL shS seaOf queue snum cost heap wait off les gre abv blw needed ocut opole) A t) A) (plainFor_of_name (by decide)) rfl (Nat.le_of_ble_eq_true rfl) ?_
  intro p e s m args below meth c A ls H Q hQ hC hlk hr hnm hI hl
  obtain ⟨hx, hb, hml, hown, hts, hK, hA, hZ⟩ := id hC
  obtain ⟨locs, hlocs⟩ : ∃ y : List Loc, y = [] := ⟨_, rfl⟩
  rw [← hlocs] at hI ⊢
  clear hlocs
  replace hl : lv_has ls 6 [(0, .ref (q 0)), (1, .int a1), (2, .int a2), (3, .int a3)] := hl
  replace hw : wX1_isPlace a1 a2 (fun (r1 : Int32) => ((r1 = 0 → post (-1 : Int32)) ∧ (¬ r1 = 0 → wX10_isIn a3 (0 : Int32) (4 : Int32) (fun (r3 : Int32) => ((r3 = 0 → post (-1 : Int32)) ∧ (¬ r3 = 0 → wX1_numberOf a1 a2 (fun (r5 : Int32) => wX1_stepOf r5 (fun (r6 : Int32) => ∃ J53 : Int32 → Prop, (∀ (t_53 : Int32), J53 t_53 → ((t_53 = 0 → post (-4 : Int32)) ∧ (¬ t_53 = 0 → ((a3 = (0 : Int32) → wX0_width strips (fun (r9 : Int32) => wX3_stripX unit r9 a1 r6 (fun (r10 : Int32) => post r10))) ∧ (¬ a3 = (0 : Int32) → ((a3 = (1 : Int32) → wX3_stripY unit a1 (fun (r12 : Int32) => post r12)) ∧ (¬ a3 = (1 : Int32) → ((a3 = (2 : Int32) → wX3_twinX a1 r6 unit strips (fun (r14 : Int32) => post r14)) ∧ (¬ a3 = (2 : Int32) → ((a3 = (3 : Int32) → wX3_capX a1 r6 unit caps (fun (r16 : Int32) => post r16)) ∧ (¬ a3 = (3 : Int32) → wX3_capY a1 r6 unit caps (fun (r17 : Int32) => post r17)))))))))))) ∧ (((2 : Int32) < a3 → wX0_isOnCap a1 caps (fun (r19 : Int32) => J53 r19)) ∧ (¬ (2 : Int32) < a3 → wX0_isOnStrips a1 caps (fun (r20 : Int32) => J53 r20))))))))))) := hw
  refine lv_iload_n hx hb dX10_flat_0 rfl (lv_at hl 1 rfl) ?_
  refine lv_iload_n hx hb dX10_flat_1 rfl (lv_at hl 2 rfl) ?_
  refine x_callSi (rest := []) hC hI [] (mX1_isPlace l D K  _ a1 a2 hw) (va_cwS 2 hts gX10_flat_X1_isPlace rfl rfl rfl (by decide +kernel) ⟨(Nat.le_of_ble_eq_true rfl), (Nat.le_of_ble_eq_true rfl)⟩) rfl rfl (fun _ => rfl) rfl hl.1 rfl (Nat.le_of_ble_eq_true rfl) dX10_flat_2 ⟨(Nat.le_of_ble_eq_true rfl), (Nat.le_of_ble_eq_true rfl)⟩ (fun r1 u H locs hw hI => ?_)
  try dsimp only at hw
  have hI : wI s D A (wX K q bits stops num unit strips caps draw oldest known ring im iold iknown iring hasIm letters tbits tlen tat fig shI shH shL shS seaOf queue snum cost heap wait off les gre abv blw needed ocut opole) H locs := hI
  refine lv_if_eq (tgt := 17) hx hb dX10_flat_5 (by decide) (fun c2 => ?_) (fun c2 => ?_)
  · replace hw := hw.1 c2
    refine lv_iconst (v := (-1 : Int32)) hx hb dX10_flat_17 (by decide) ?_
    subst hQ
    exact x_iret (u := ()) hC hI hr hlk hw rfl dX10_flat_18
  · replace hw := hw.2 c2
    refine lv_iload_n hx hb dX10_flat_8 rfl (lv_at hl 3 rfl) ?_
    refine lv_iconst (v := (0 : Int32)) hx hb dX10_flat_9 (by decide) ?_
    refine lv_iconst (v := (4 : Int32)) hx hb dX10_flat_10 (by decide) ?_
    refine x_callSi (rest := []) hC hI [] (mX10_isIn l D K  _ a3 (0 : Int32) (4 : Int32) hw) (va_cwS 3 hts gX10_flat_X10_isIn rfl rfl rfl (by decide +kernel) ⟨(Nat.le_of_ble_eq_true rfl), (Nat.le_of_ble_eq_true rfl)⟩) rfl rfl (fun _ => rfl) rfl hl.1 rfl (Nat.le_of_ble_eq_true rfl) dX10_flat_11 ⟨(Nat.le_of_ble_eq_true rfl), (Nat.le_of_ble_eq_true rfl)⟩ (fun r3 u H locs hw hI => ?_)
    try dsimp only at hw
    have hI : wI s D A (wX K q bits stops num unit strips caps draw oldest known ring im iold iknown iring hasIm letters tbits tlen tat fig shI shH shL shS seaOf queue snum cost heap wait off les gre abv blw needed ocut opole) H locs := hI
    refine lv_if_ne (tgt := 19) hx hb dX10_flat_14 (by decide) (fun c4 => ?_) (fun c4 => ?_)
    · replace hw := hw.2 c4
      refine lv_iload_n hx hb dX10_flat_19 rfl (lv_at hl 1 rfl) ?_
      refine lv_iload_n hx hb dX10_flat_20 rfl (lv_at hl 2 rfl) ?_
      refine x_callSi (rest := []) hC hI [] (mX1_numberOf l D K  _ a1 a2 hw) (va_cwS 2 hts gX10_flat_X1_numberOf rfl rfl rfl (by decide +kernel) ⟨(Nat.le_of_ble_eq_true rfl), (Nat.le_of_ble_eq_true rfl)⟩) rfl rfl (fun _ => rfl) rfl hl.1 rfl (Nat.le_of_ble_eq_true rfl) dX10_flat_21 ⟨(Nat.le_of_ble_eq_true rfl), (Nat.le_of_ble_eq_true rfl)⟩ (fun r5 u H locs hw hI => ?_)
      try dsimp only at hw
      have hI : wI s D A (wX K q bits stops num unit strips caps draw oldest known ring im iold iknown iring hasIm letters tbits tlen tat fig shI shH shL shS seaOf queue snum cost heap wait off les gre abv blw needed ocut opole) H locs := hI
      refine x_callSi (rest := []) hC hI [] (mX1_stepOf l D K  _ r5 hw) (va_cwS 1 hts gX10_flat_X1_stepOf rfl rfl rfl (by decide +kernel) ⟨(Nat.le_of_ble_eq_true rfl), (Nat.le_of_ble_eq_true rfl)⟩) rfl rfl (fun _ => rfl) rfl hl.1 rfl (Nat.le_of_ble_eq_true rfl) dX10_flat_24 ⟨(Nat.le_of_ble_eq_true rfl), (Nat.le_of_ble_eq_true rfl)⟩ (fun r6 u H locs hw hI => ?_)
      try dsimp only at hw
      have hI : wI s D A (wX K q bits stops num unit strips caps draw oldest known ring im iold iknown iring hasIm letters tbits tlen tat fig shI shH shL shS seaOf queue snum cost heap wait off les gre abv blw needed ocut opole) H locs := hI
      refine lv_istore (lv' := [(4, .int r6), (0, .ref (q 0)), (1, .int a1), (2, .int a2), (3, .int a3)]) hx hb dX10_flat_27 hl (by decide) rfl (fun ls hl => ?_)
      refine lv_iload_n hx hb dX10_flat_29 rfl (lv_at hl 4 rfl) ?_
      refine lv_iconst (v := (2 : Int32)) hx hb dX10_flat_30 (by decide) ?_
      obtain ⟨J53, hJ53, hw⟩ := hw
      have jn53 : ∀ (t_53 : Int32) (ls : Array Slot) (H : Heap) (locs : List Loc), J53 t_53 → wI s D A (wX K q bits stops num unit strips caps draw oldest known ring im iold iknown iring hasIm letters tbits tlen tat fig shI shH shL shS seaOf queue snum cost heap wait off les gre abv blw needed ocut opole) H locs → lv_has ls 6 [(0, .ref (q 0)), (1, .int a1), (3, .int a3), (4, .int r6)] → W p l e rmX10_flat s m args below meth c H locs 0 0 Q (F0 m 53 ls [.int t_53]) := by
        intro t_53 ls H locs hw hI hl
        replace hw := hJ53 t_53 hw
        refine lv_istore (lv' := [(5, .int t_53), (0, .ref (q 0)), (1, .int a1), (3, .int a3), (4, .int r6)]) hx hb dX10_flat_53 hl (by decide) rfl (fun ls hl => ?_)
        refine lv_iload hx hb dX10_flat_55 (lv_at hl 0 rfl) ?_
        refine lv_if_ne (tgt := 63) hx hb dX10_flat_57 (by decide) (fun c7 => ?_) (fun c7 => ?_)
        · replace hw := hw.2 c7
          refine lv_iload_n hx hb dX10_flat_63 rfl (lv_at hl 3 rfl) ?_
          by_cases c8 : a3 = (0 : Int32)
          · replace hw := hw.1 c8
            refine lv_tableIn (off := 32) (tgt := 96) hx hb dX10_flat_64 (by rw [c8]; decide) (by rw [c8]; decide) (by rw [c8]; rfl) (by decide) ?_
            refine lv_aload_n hx hb dX10_flat_96 rfl (lv_at hl 1 rfl) ?_
            refine x_get (v := .ref (q 1)) hC hI kX10_flat_cX10 0 rfl rfl 0 (by decide) kX10_flat_0 rfl rfl dX10_flat_97 ?_
            refine x_get (v := .int unit) hC hI kX10_flat_cX0 1 rfl rfl 3 (by decide) kX10_flat_2 rfl rfl dX10_flat_100 ?_
            refine lv_aload_n hx hb dX10_flat_103 rfl (lv_at hl 1 rfl) ?_
            refine x_get (v := .ref (q 1)) hC hI kX10_flat_cX10 0 rfl rfl 0 (by decide) kX10_flat_0 rfl rfl dX10_flat_104 ?_
            refine x_callVi (rest := [.int unit]) hC hI [1, 2, 3] (mX0_width l D K (fun i => q (1 + i)) _ bits stops num unit strips caps draw hw) (cwV 0 hts gX10_flat_X0_width rfl rfl rfl (by decide +kernel) ⟨(Nat.le_of_ble_eq_true rfl), (Nat.le_of_ble_eq_true rfl)⟩) rfl rfl (fun _ => rfl) 1 0 rfl rfl rfl rfl hl.1 rfl (Nat.le_of_ble_eq_true rfl) dX10_flat_107 ⟨(Nat.le_of_ble_eq_true rfl), (Nat.le_of_ble_eq_true rfl)⟩ (fun r9 u H locs hw hI => ?_)
            try dsimp only at hw
            have hI : wI s D A (wX K q bits stops num unit strips caps draw oldest known ring im iold iknown iring hasIm letters tbits tlen tat fig shI shH shL shS seaOf queue snum cost heap wait off les gre abv blw needed ocut opole) H locs := hI
            refine lv_iload_n hx hb dX10_flat_110 rfl (lv_at hl 2 rfl) ?_
            refine lv_iload hx hb dX10_flat_111 (lv_at hl 4 rfl) ?_
            refine x_callSi (rest := []) hC hI [] (mX3_stripX l D K  _ unit r9 a1 r6 hw) (va_cwS 4 hts gX10_flat_X3_stripX rfl rfl rfl (by decide +kernel) ⟨(Nat.le_of_ble_eq_true rfl), (Nat.le_of_ble_eq_true rfl)⟩) rfl rfl (fun _ => rfl) rfl hl.1 rfl (Nat.le_of_ble_eq_true rfl) dX10_flat_113 ⟨(Nat.le_of_ble_eq_true rfl), (Nat.le_of_ble_eq_true rfl)⟩ (fun r10 u H locs hw hI => ?_)
            try dsimp only at hw
            have hI : wI s D A (wX K q bits stops num unit strips caps draw oldest known ring im iold iknown iring hasIm letters tbits tlen tat fig shI shH shL shS seaOf queue snum cost heap wait off les gre abv blw needed ocut opole) H locs := hI
            subst hQ
            exact x_iret (u := ()) hC hI hr hlk hw rfl dX10_flat_116
          · replace hw := hw.2 c8
            by_cases c11 : a3 = (1 : Int32)
            · replace hw := hw.1 c11
              refine lv_tableIn (off := 53) (tgt := 117) hx hb dX10_flat_64 (by rw [c11]; decide) (by rw [c11]; decide) (by rw [c11]; rfl) (by decide) ?_
              refine lv_aload_n hx hb dX10_flat_117 rfl (lv_at hl 1 rfl) ?_
              refine x_get (v := .ref (q 1)) hC hI kX10_flat_cX10 0 rfl rfl 0 (by decide) kX10_flat_0 rfl rfl dX10_flat_118 ?_
              refine x_get (v := .int unit) hC hI kX10_flat_cX0 1 rfl rfl 3 (by decide) kX10_flat_2 rfl rfl dX10_flat_121 ?_
              refine lv_iload_n hx hb dX10_flat_124 rfl (lv_at hl 2 rfl) ?_
              refine x_callSi (rest := []) hC hI [] (mX3_stripY l D K  _ unit a1 hw) (va_cwS 2 hts gX10_flat_X3_stripY rfl rfl rfl (by decide +kernel) ⟨(Nat.le_of_ble_eq_true rfl), (Nat.le_of_ble_eq_true rfl)⟩) rfl rfl (fun _ => rfl) rfl hl.1 rfl (Nat.le_of_ble_eq_true rfl) dX10_flat_125 ⟨(Nat.le_of_ble_eq_true rfl), (Nat.le_of_ble_eq_true rfl)⟩ (fun r12 u H locs hw hI => ?_)
              try dsimp only at hw
              have hI : wI s D A (wX K q bits stops num unit strips caps draw oldest known ring im iold iknown iring hasIm letters tbits tlen tat fig shI shH shL shS seaOf queue snum cost heap wait off les gre abv blw needed ocut opole) H locs := hI
              subst hQ
              exact x_iret (u := ()) hC hI hr hlk hw rfl dX10_flat_128
            · replace hw := hw.2 c11
              by_cases c13 : a3 = (2 : Int32)
              · replace hw := hw.1 c13
                refine lv_tableIn (off := 65) (tgt := 129) hx hb dX10_flat_64 (by rw [c13]; decide) (by rw [c13]; decide) (by rw [c13]; rfl) (by decide) ?_
                refine lv_aload_n hx hb dX10_flat_129 rfl (lv_at hl 1 rfl) ?_
                refine x_get (v := .ref (q 1)) hC hI kX10_flat_cX10 0 rfl rfl 0 (by decide) kX10_flat_0 rfl rfl dX10_flat_130 ?_
                refine lv_iload_n hx hb dX10_flat_133 rfl (lv_at hl 2 rfl) ?_
                refine lv_iload hx hb dX10_flat_134 (lv_at hl 4 rfl) ?_
                refine x_callSi (rest := []) hC hI [1, 2, 3] (mX3_twinX l D K (fun i => q (1 + i)) _ a1 r6 bits stops num unit strips caps draw hw) (va_cwS 3 hts gX10_flat_X3_twinX rfl rfl rfl (by decide +kernel) ⟨(Nat.le_of_ble_eq_true rfl), (Nat.le_of_ble_eq_true rfl)⟩) rfl rfl (fun _ => rfl) rfl hl.1 rfl (Nat.le_of_ble_eq_true rfl) dX10_flat_136 ⟨(Nat.le_of_ble_eq_true rfl), (Nat.le_of_ble_eq_true rfl)⟩ (fun r14 u H locs hw hI => ?_)
                try dsimp only at hw
                have hI : wI s D A (wX K q bits stops num unit strips caps draw oldest known ring im iold iknown iring hasIm letters tbits tlen tat fig shI shH shL shS seaOf queue snum cost heap wait off les gre abv blw needed ocut opole) H locs := hI
                subst hQ
                exact x_iret (u := ()) hC hI hr hlk hw rfl dX10_flat_139
              · replace hw := hw.2 c13
                by_cases c15 : a3 = (3 : Int32)
                · replace hw := hw.1 c15
                  refine lv_tableIn (off := 76) (tgt := 140) hx hb dX10_flat_64 (by rw [c15]; decide) (by rw [c15]; decide) (by rw [c15]; rfl) (by decide) ?_
                  refine lv_aload_n hx hb dX10_flat_140 rfl (lv_at hl 1 rfl) ?_
                  refine x_get (v := .ref (q 1)) hC hI kX10_flat_cX10 0 rfl rfl 0 (by decide) kX10_flat_0 rfl rfl dX10_flat_141 ?_
                  refine lv_iload_n hx hb dX10_flat_144 rfl (lv_at hl 2 rfl) ?_
                  refine lv_iload hx hb dX10_flat_145 (lv_at hl 4 rfl) ?_
                  refine x_callSi (rest := []) hC hI [1, 2, 3] (mX3_capX l D K (fun i => q (1 + i)) _ a1 r6 bits stops num unit strips caps draw hw) (va_cwS 3 hts gX10_flat_X3_capX rfl rfl rfl (by decide +kernel) ⟨(Nat.le_of_ble_eq_true rfl), (Nat.le_of_ble_eq_true rfl)⟩) rfl rfl (fun _ => rfl) rfl hl.1 rfl (Nat.le_of_ble_eq_true rfl) dX10_flat_147 ⟨(Nat.le_of_ble_eq_true rfl), (Nat.le_of_ble_eq_true rfl)⟩ (fun r16 u H locs hw hI => ?_)
                  try dsimp only at hw
                  have hI : wI s D A (wX K q bits stops num unit strips caps draw oldest known ring im iold iknown iring hasIm letters tbits tlen tat fig shI shH shL shS seaOf queue snum cost heap wait off les gre abv blw needed ocut opole) H locs := hI
                  subst hQ
                  exact x_iret (u := ()) hC hI hr hlk hw rfl dX10_flat_150
                · replace hw := hw.2 c15
                  refine lv_tableOut (tgt := 151) hx hb dX10_flat_64 (by have nc8 := lv_neT c8 (a := 0) rfl; have nc11 := lv_neT c11 (a := 1) rfl; have nc13 := lv_neT c13 (a := 2) rfl; have nc15 := lv_neT c15 (a := 3) rfl; omega) (by decide) ?_
                  refine lv_aload_n hx hb dX10_flat_151 rfl (lv_at hl 1 rfl) ?_
                  refine x_get (v := .ref (q 1)) hC hI kX10_flat_cX10 0 rfl rfl 0 (by decide) kX10_flat_0 rfl rfl dX10_flat_152 ?_
                  refine lv_iload_n hx hb dX10_flat_155 rfl (lv_at hl 2 rfl) ?_
                  refine lv_iload hx hb dX10_flat_156 (lv_at hl 4 rfl) ?_
                  refine x_callSi (rest := []) hC hI [1, 2, 3] (mX3_capY l D K (fun i => q (1 + i)) _ a1 r6 bits stops num unit strips caps draw hw) (va_cwS 3 hts gX10_flat_X3_capY rfl rfl rfl (by decide +kernel) ⟨(Nat.le_of_ble_eq_true rfl), (Nat.le_of_ble_eq_true rfl)⟩) rfl rfl (fun _ => rfl) rfl hl.1 rfl (Nat.le_of_ble_eq_true rfl) dX10_flat_158 ⟨(Nat.le_of_ble_eq_true rfl), (Nat.le_of_ble_eq_true rfl)⟩ (fun r17 u H locs hw hI => ?_)
                  try dsimp only at hw
                  have hI : wI s D A (wX K q bits stops num unit strips caps draw oldest known ring im iold iknown iring hasIm letters tbits tlen tat fig shI shH shL shS seaOf queue snum cost heap wait off les gre abv blw needed ocut opole) H locs := hI
                  subst hQ
                  exact x_iret (u := ()) hC hI hr hlk hw rfl dX10_flat_161
        · replace hw := hw.1 c7
          refine lv_bipush (v := (-4 : Int32)) hx hb dX10_flat_60 (by decide) ?_
          subst hQ
          exact x_iret (u := ()) hC hI hr hlk hw rfl dX10_flat_62
      refine lv_icmp_gt (tgt := 45) hx hb dX10_flat_31 (by decide) (fun c18 => ?_) (fun c18 => ?_)
      · replace hw := hw.1 c18
        refine lv_aload_n hx hb dX10_flat_45 rfl (lv_at hl 1 rfl) ?_
        refine x_get (v := .ref (q 1)) hC hI kX10_flat_cX10 0 rfl rfl 0 (by decide) kX10_flat_0 rfl rfl dX10_flat_46 ?_
        refine lv_iload_n hx hb dX10_flat_49 rfl (lv_at hl 2 rfl) ?_
        refine x_callVi (rest := []) hC hI [1, 2, 3] (mX0_isOnCap l D K (fun i => q (1 + i)) _ a1 bits stops num unit strips caps draw hw) (cwV 1 hts gX10_flat_X0_isOnCap rfl rfl rfl (by decide +kernel) ⟨(Nat.le_of_ble_eq_true rfl), (Nat.le_of_ble_eq_true rfl)⟩) rfl rfl (fun _ => rfl) 1 0 rfl rfl rfl rfl hl.1 rfl (Nat.le_of_ble_eq_true rfl) dX10_flat_50 ⟨(Nat.le_of_ble_eq_true rfl), (Nat.le_of_ble_eq_true rfl)⟩ (fun r19 u H locs hw hI => ?_)
        try dsimp only at hw
        have hI : wI s D A (wX K q bits stops num unit strips caps draw oldest known ring im iold iknown iring hasIm letters tbits tlen tat fig shI shH shL shS seaOf queue snum cost heap wait off les gre abv blw needed ocut opole) H locs := hI
        exact jn53 r19 ls H locs hw hI (lv_sub hl [1, 2, 4, 0] rfl)
      · replace hw := hw.2 c18
        refine lv_aload_n hx hb dX10_flat_34 rfl (lv_at hl 1 rfl) ?_
        refine x_get (v := .ref (q 1)) hC hI kX10_flat_cX10 0 rfl rfl 0 (by decide) kX10_flat_0 rfl rfl dX10_flat_35 ?_
        refine lv_iload_n hx hb dX10_flat_38 rfl (lv_at hl 2 rfl) ?_
        refine x_callVi (rest := []) hC hI [1, 2, 3] (mX0_isOnStrips l D K (fun i => q (1 + i)) _ a1 bits stops num unit strips caps draw hw) (cwV 1 hts gX10_flat_X0_isOnStrips rfl rfl rfl (by decide +kernel) ⟨(Nat.le_of_ble_eq_true rfl), (Nat.le_of_ble_eq_true rfl)⟩) rfl rfl (fun _ => rfl) 1 0 rfl rfl rfl rfl hl.1 rfl (Nat.le_of_ble_eq_true rfl) dX10_flat_39 ⟨(Nat.le_of_ble_eq_true rfl), (Nat.le_of_ble_eq_true rfl)⟩ (fun r20 u H locs hw hI => ?_)
        try dsimp only at hw
        have hI : wI s D A (wX K q bits stops num unit strips caps draw oldest known ring im iold iknown iring hasIm letters tbits tlen tat fig shI shH shL shS seaOf queue snum cost heap wait off les gre abv blw needed ocut opole) H locs := hI
        refine lv_goto (tgt := 53) hx hb dX10_flat_42 (by decide) ?_
        exact jn53 r20 ls H locs hw hI (lv_sub hl [1, 2, 4, 0] rfl)
    · replace hw := hw.1 c4
      refine lv_iconst (v := (-1 : Int32)) hx hb dX10_flat_17 (by decide) ?_
      subst hQ
      exact x_iret (u := ()) hC hI hr hlk hw rfl dX10_flat_18

def wX10_back (a1 : Int32) (a2 : Int32) (a3 : Int32) (unit : Int32) (strips : Int32) (caps : Int32) (post : Int32 → Prop) : Prop := wX10_isIn a1 (0 : Int32) (2 : Int32) (fun (r1 : Int32) => ((r1 = 0 → post (-1 : Int32)) ∧ (¬ r1 = 0 → ∀ x3 : Int32, x3 = ((4 : Int32) * unit) * caps → ∃ J49 : Int32 → Prop, (∀ (t_49 : Int32), J49 t_49 → ∃ J70 : Int32 → Prop, (∀ (t_70 : Int32), J70 t_70 → wX10_isIn a2 (0 : Int32) t_49 (fun (r4 : Int32) => ((r4 = 0 → post (-1 : Int32)) ∧ (¬ r4 = 0 → wX10_isIn a3 (0 : Int32) t_70 (fun (r6 : Int32) => ((r6 = 0 → post (-1 : Int32)) ∧ (¬ r6 = 0 → ((a1 = 0 → wX3_foundOnStrips a2 a3 unit strips caps (fun (r12 : Int32) => post r12)) ∧ (¬ a1 = 0 → ((caps = 0 → post (-4 : Int32)) ∧ (¬ caps = 0 → ∃ J137 : Int32 → Prop, (∀ (t_137 : Int32), J137 t_137 → wX3_foundOnCap t_137 a2 a3 unit caps (fun (r10 : Int32) => post r10)) ∧ ((a1 = (1 : Int32) → J137 (1 : Int32)) ∧ (¬ a1 = (1 : Int32) → J137 (0 : Int32)))))))))))))) ∧ ((a1 = 0 → J70 ((24 : Int32) * unit)) ∧ (¬ a1 = 0 → J70 x3))) ∧ ((a1 = 0 → J49 ((48 : Int32) * unit)) ∧ (¬ a1 = 0 → J49 x3)))))
def rmX10_back : Room := { frames := 4, cells := 0, slots := 0, locals := 100 }
theorem kX10_back_0 : Cond.fieldLink RX10 10 "GoreGlobe" "now" "LGoreGlobe$Globe;" ∈ wsX10_back := List.mem_cons_of_mem _ (List.mem_append_left _ (List.mem_append_left _ (List.mem_append_left _ (List.mem_of_getElem? (i := 0) rfl))))
theorem kX10_back_cX10 : ∀ w ∈ wsX100, w ∈ wsX10_back := fun _ h => List.mem_cons_of_mem _ (List.mem_append_left _ (List.mem_append_right _ h))
theorem kX10_back_2 : Cond.fieldLink RX10 111 "GoreGlobe$Globe" "unit" "I" ∈ wsX10_back := List.mem_cons_of_mem _ (List.mem_append_left _ (List.mem_append_left _ (List.mem_append_left _ (List.mem_of_getElem? (i := 1) rfl))))
theorem kX10_back_cX0 : ∀ w ∈ wsX00, w ∈ wsX10_back := fun _ h => List.mem_cons_of_mem _ (List.mem_append_right _ h)
theorem kX10_back_4 : Cond.fieldLink RX10 134 "GoreGlobe$Globe" "caps" "I" ∈ wsX10_back := List.mem_cons_of_mem _ (List.mem_append_left _ (List.mem_append_left _ (List.mem_append_left _ (List.mem_of_getElem? (i := 2) rfl))))
set_option maxHeartbeats 4000000 in
set_option maxRecDepth 100000 in
theorem mX10_back (l : Launch) (D : va_G) (K : Nat → ClassId) (q : Nat → Nat) (sz : Nat) (a1 : Int32) (a2 : Int32) (a3 : Int32) (bits : Nat → Int64) (stops : Nat → Int32) (num : Int32) (unit : Int32) (strips : Int32) (caps : Int32) (draw : Int32) (oldest : Int32) (known : Int32) (ring : Nat → GS) (im : GS) (iold : Int32) (iknown : Int32) (iring : Nat → GS) (hasIm : Int32) (letters : Nat → Int32) (tbits : Nat → Int64) (tlen : Int32) (tat : Int32) (fig : Int32) (shI : Nat → Nat → Int64) (shH : Nat → Int32) (shL : Nat → Int32) (shS : Nat → Int32) (seaOf : Nat → Int32) (queue : Nat → Int32) (snum : Int32) (cost : Nat → Int32) (heap : Nat → Int64) (wait : Int32) (off : Int32) (les : Int32) (gre : Int32) (abv : Int64) (blw : Int64) (needed : Int32) (ocut : Int32) (opole : Int32)  {post : Int32 → Prop} (hw : wX10_back a1 a2 a3 unit strips caps post) : Met l yX10_back wsX10_back rmX10_back (va_Pc [.ref (q 0), .int a1, .int a2, .int a3] (cP D K (wX K q bits stops num unit strips caps draw oldest known ring im iold iknown iring hasIm letters tbits tlen tat fig shI shH shL shS seaOf queue snum cost heap wait off les gre abv blw needed ocut opole) sz)) (va_Qi (fun (r : Int32) (u : Unit) => post r) (fun u t => cQ D K (wX K q bits stops num unit strips caps draw oldest known ring im iold iknown iring hasIm letters tbits tlen tat fig shI shH shL shS seaOf queue snum cost heap wait off les gre abv blw needed ocut opole) (va_A (wX K q bits stops num unit strips caps draw oldest known ring im iold iknown iring hasIm letters tbits tlen tat fig shI shH shL shS seaOf queue snum cost heap wait off les gre abv blw needed ocut opole) sz) t) (va_A (wX K q bits stops num unit strips caps draw oldest known ring im iold iknown iring hasIm letters tbits tlen tat fig shI shH shL shS seaOf queue snum cost heap wait off les gre abv blw needed ocut opole) sz)) 0 0 (va_A (wX K q bits stops num unit strips caps draw oldest known ring im iold iknown iring hasIm letters tbits tlen tat fig shI shH shL shS seaOf queue snum cost heap wait off les gre abv blw needed ocut opole) sz) := by
  refine x_entry (cc := cX10_back) (maxL := 7) (ret := (some .int)) (QA := fun A => va_Qi (fun (r : Int32) (u : Unit) => post r) (fun u t => cQ D K (wX K q bits stops num unit strips caps draw oldest known ring im iold iknown iring hasIm letters tbits tlen tat fig shI shH shL shS seaOf queue snum cost heap wait off les gre abv blw needed ocut opole) A t) A) (plainFor_of_name (by decide)) rfl (Nat.le_of_ble_eq_true rfl) ?_
  intro p e s m args below meth c A ls H Q hQ hC hlk hr hnm hI hl
  obtain ⟨hx, hb, hml, hown, hts, hK, hA, hZ⟩ := id hC
  obtain ⟨locs, hlocs⟩ : ∃ y : List Loc, y = [] := ⟨_, rfl⟩
  rw [← hlocs] at hI ⊢
  clear hlocs
  replace hl : lv_has ls 7 [(0, .ref (q 0)), (1, .int a1), (2, .int a2), (3, .int a3)] := hl
  replace hw : wX10_isIn a1 (0 : Int32) (2 : Int32) (fun (r1 : Int32) => ((r1 = 0 → post (-1 : Int32)) ∧ (¬ r1 = 0 → ∀ x3 : Int32, x3 = ((4 : Int32) * unit) * caps → ∃ J49 : Int32 → Prop, (∀ (t_49 : Int32), J49 t_49 → ∃ J70 : Int32 → Prop, (∀ (t_70 : Int32), J70 t_70 → wX10_isIn a2 (0 : Int32) t_49 (fun (r4 : Int32) => ((r4 = 0 → post (-1 : Int32)) ∧ (¬ r4 = 0 → wX10_isIn a3 (0 : Int32) t_70 (fun (r6 : Int32) => ((r6 = 0 → post (-1 : Int32)) ∧ (¬ r6 = 0 → ((a1 = 0 → wX3_foundOnStrips a2 a3 unit strips caps (fun (r12 : Int32) => post r12)) ∧ (¬ a1 = 0 → ((caps = 0 → post (-4 : Int32)) ∧ (¬ caps = 0 → ∃ J137 : Int32 → Prop, (∀ (t_137 : Int32), J137 t_137 → wX3_foundOnCap t_137 a2 a3 unit caps (fun (r10 : Int32) => post r10)) ∧ ((a1 = (1 : Int32) → J137 (1 : Int32)) ∧ (¬ a1 = (1 : Int32) → J137 (0 : Int32)))))))))))))) ∧ ((a1 = 0 → J70 ((24 : Int32) * unit)) ∧ (¬ a1 = 0 → J70 x3))) ∧ ((a1 = 0 → J49 ((48 : Int32) * unit)) ∧ (¬ a1 = 0 → J49 x3))))) := hw
  refine lv_iload_n hx hb dX10_back_0 rfl (lv_at hl 1 rfl) ?_
  refine lv_iconst (v := (0 : Int32)) hx hb dX10_back_1 (by decide) ?_
  refine lv_iconst (v := (2 : Int32)) hx hb dX10_back_2 (by decide) ?_
  refine x_callSi (rest := []) hC hI [] (mX10_isIn l D K  _ a1 (0 : Int32) (2 : Int32) hw) (va_cwS 3 hts gX10_back_X10_isIn rfl rfl rfl (by decide +kernel) ⟨(Nat.le_of_ble_eq_true rfl), (Nat.le_of_ble_eq_true rfl)⟩) rfl rfl (fun _ => rfl) rfl hl.1 rfl (Nat.le_of_ble_eq_true rfl) dX10_back_3 ⟨(Nat.le_of_ble_eq_true rfl), (Nat.le_of_ble_eq_true rfl)⟩ (fun r1 u H locs hw hI => ?_)
  try dsimp only at hw
  have hI : wI s D A (wX K q bits stops num unit strips caps draw oldest known ring im iold iknown iring hasIm letters tbits tlen tat fig shI shH shL shS seaOf queue snum cost heap wait off les gre abv blw needed ocut opole) H locs := hI
  refine lv_if_ne (tgt := 11) hx hb dX10_back_6 (by decide) (fun c2 => ?_) (fun c2 => ?_)
  · replace hw := hw.2 c2
    refine lv_iconst (v := (4 : Int32)) hx hb dX10_back_11 (by decide) ?_
    refine lv_aload_n hx hb dX10_back_12 rfl (lv_at hl 0 rfl) ?_
    refine x_get (v := .ref (q 1)) hC hI kX10_back_cX10 0 rfl rfl 0 (by decide) kX10_back_0 rfl rfl dX10_back_13 ?_
    refine x_get (v := .int unit) hC hI kX10_back_cX0 1 rfl rfl 3 (by decide) kX10_back_2 rfl rfl dX10_back_16 ?_
    refine lv_imul hx hb dX10_back_19 ?_
    refine lv_aload_n hx hb dX10_back_20 rfl (lv_at hl 0 rfl) ?_
    refine x_get (v := .ref (q 1)) hC hI kX10_back_cX10 0 rfl rfl 0 (by decide) kX10_back_0 rfl rfl dX10_back_21 ?_
    refine x_get (v := .int caps) hC hI kX10_back_cX0 1 rfl rfl 5 (by decide) kX10_back_4 rfl rfl dX10_back_24 ?_
    refine lv_imul hx hb dX10_back_27 ?_
    refine lv_topi (fun x3 ex3 => ?_)
    replace hw := hw x3 ex3
    refine lv_istore (lv' := [(4, .int x3), (0, .ref (q 0)), (1, .int a1), (2, .int a2), (3, .int a3)]) hx hb dX10_back_28 hl (by decide) rfl (fun ls hl => ?_)
    refine lv_iload_n hx hb dX10_back_30 rfl (lv_at hl 2 rfl) ?_
    obtain ⟨J49, hJ49, hw⟩ := hw
    have jn49 : ∀ (t_49 : Int32) (ls : Array Slot) (H : Heap) (locs : List Loc), J49 t_49 → wI s D A (wX K q bits stops num unit strips caps draw oldest known ring im iold iknown iring hasIm letters tbits tlen tat fig shI shH shL shS seaOf queue snum cost heap wait off les gre abv blw needed ocut opole) H locs → lv_has ls 7 [(0, .ref (q 0)), (1, .int a1), (2, .int a2), (3, .int a3), (4, .int x3)] → W p l e rmX10_back s m args below meth c H locs 0 0 Q (F0 m 49 ls [.int t_49]) := by
      intro t_49 ls H locs hw hI hl
      replace hw := hJ49 t_49 hw
      refine lv_istore (lv' := [(5, .int t_49), (0, .ref (q 0)), (1, .int a1), (2, .int a2), (3, .int a3), (4, .int x3)]) hx hb dX10_back_49 hl (by decide) rfl (fun ls hl => ?_)
      refine lv_iload_n hx hb dX10_back_51 rfl (lv_at hl 2 rfl) ?_
      obtain ⟨J70, hJ70, hw⟩ := hw
      have jn70 : ∀ (t_70 : Int32) (ls : Array Slot) (H : Heap) (locs : List Loc), J70 t_70 → wI s D A (wX K q bits stops num unit strips caps draw oldest known ring im iold iknown iring hasIm letters tbits tlen tat fig shI shH shL shS seaOf queue snum cost heap wait off les gre abv blw needed ocut opole) H locs → lv_has ls 7 [(0, .ref (q 0)), (1, .int a1), (2, .int a2), (3, .int a3), (5, .int t_49)] → W p l e rmX10_back s m args below meth c H locs 0 0 Q (F0 m 70 ls [.int t_70]) := by
        intro t_70 ls H locs hw hI hl
        replace hw := hJ70 t_70 hw
        refine lv_istore (lv' := [(6, .int t_70), (0, .ref (q 0)), (1, .int a1), (2, .int a2), (3, .int a3), (5, .int t_49)]) hx hb dX10_back_70 hl (by decide) rfl (fun ls hl => ?_)
        refine lv_iload_n hx hb dX10_back_72 rfl (lv_at hl 3 rfl) ?_
        refine lv_iconst (v := (0 : Int32)) hx hb dX10_back_73 (by decide) ?_
        refine lv_iload hx hb dX10_back_74 (lv_at hl 5 rfl) ?_
        refine x_callSi (rest := []) hC hI [] (mX10_isIn l D K  _ a2 (0 : Int32) t_49 hw) (va_cwS 3 hts gX10_back_X10_isIn rfl rfl rfl (by decide +kernel) ⟨(Nat.le_of_ble_eq_true rfl), (Nat.le_of_ble_eq_true rfl)⟩) rfl rfl (fun _ => rfl) rfl hl.1 rfl (Nat.le_of_ble_eq_true rfl) dX10_back_76 ⟨(Nat.le_of_ble_eq_true rfl), (Nat.le_of_ble_eq_true rfl)⟩ (fun r4 u H locs hw hI => ?_)
        try dsimp only at hw
        have hI : wI s D A (wX K q bits stops num unit strips caps draw oldest known ring im iold iknown iring hasIm letters tbits tlen tat fig shI shH shL shS seaOf queue snum cost heap wait off les gre abv blw needed ocut opole) H locs := hI
        refine lv_if_eq (tgt := 92) hx hb dX10_back_79 (by decide) (fun c5 => ?_) (fun c5 => ?_)
        · replace hw := hw.1 c5
          refine lv_iconst (v := (-1 : Int32)) hx hb dX10_back_92 (by decide) ?_
          subst hQ
          exact x_iret (u := ()) hC hI hr hlk hw rfl dX10_back_93
        · replace hw := hw.2 c5
          refine lv_iload_n hx hb dX10_back_82 rfl (lv_at hl 4 rfl) ?_
          refine lv_iconst (v := (0 : Int32)) hx hb dX10_back_83 (by decide) ?_
          refine lv_iload hx hb dX10_back_84 (lv_at hl 0 rfl) ?_
          refine x_callSi (rest := []) hC hI [] (mX10_isIn l D K  _ a3 (0 : Int32) t_70 hw) (va_cwS 3 hts gX10_back_X10_isIn rfl rfl rfl (by decide +kernel) ⟨(Nat.le_of_ble_eq_true rfl), (Nat.le_of_ble_eq_true rfl)⟩) rfl rfl (fun _ => rfl) rfl hl.1 rfl (Nat.le_of_ble_eq_true rfl) dX10_back_86 ⟨(Nat.le_of_ble_eq_true rfl), (Nat.le_of_ble_eq_true rfl)⟩ (fun r6 u H locs hw hI => ?_)
          try dsimp only at hw
          have hI : wI s D A (wX K q bits stops num unit strips caps draw oldest known ring im iold iknown iring hasIm letters tbits tlen tat fig shI shH shL shS seaOf queue snum cost heap wait off les gre abv blw needed ocut opole) H locs := hI
          refine lv_if_ne (tgt := 94) hx hb dX10_back_89 (by decide) (fun c7 => ?_) (fun c7 => ?_)
          · replace hw := hw.2 c7
            refine lv_iload_n hx hb dX10_back_94 rfl (lv_at hl 2 rfl) ?_
            refine lv_if_ne (tgt := 108) hx hb dX10_back_95 (by decide) (fun c8 => ?_) (fun c8 => ?_)
            · replace hw := hw.2 c8
              refine lv_aload_n hx hb dX10_back_108 rfl (lv_at hl 1 rfl) ?_
              refine x_get (v := .ref (q 1)) hC hI kX10_back_cX10 0 rfl rfl 0 (by decide) kX10_back_0 rfl rfl dX10_back_109 ?_
              refine x_get (v := .int caps) hC hI kX10_back_cX0 1 rfl rfl 5 (by decide) kX10_back_4 rfl rfl dX10_back_112 ?_
              refine lv_if_ne (tgt := 123) hx hb dX10_back_115 (by decide) (fun c9 => ?_) (fun c9 => ?_)
              · replace hw := hw.2 c9
                refine lv_aload_n hx hb dX10_back_123 rfl (lv_at hl 1 rfl) ?_
                refine x_get (v := .ref (q 1)) hC hI kX10_back_cX10 0 rfl rfl 0 (by decide) kX10_back_0 rfl rfl dX10_back_124 ?_
                refine lv_iload_n hx hb dX10_back_127 rfl (lv_at hl 2 rfl) ?_
                refine lv_iconst (v := (1 : Int32)) hx hb dX10_back_128 (by decide) ?_
                obtain ⟨J137, hJ137, hw⟩ := hw
                have jn137 : ∀ (t_137 : Int32) (ls : Array Slot) (H : Heap) (locs : List Loc), J137 t_137 → wI s D A (wX K q bits stops num unit strips caps draw oldest known ring im iold iknown iring hasIm letters tbits tlen tat fig shI shH shL shS seaOf queue snum cost heap wait off les gre abv blw needed ocut opole) H locs → lv_has ls 7 [(2, .int a2), (3, .int a3)] → W p l e rmX10_back s m args below meth c H locs 0 0 Q (F0 m 137 ls [.int t_137, .ref (q 1)]) := by
                  intro t_137 ls H locs hw hI hl
                  replace hw := hJ137 t_137 hw
                  refine lv_iload_n hx hb dX10_back_137 rfl (lv_at hl 0 rfl) ?_
                  refine lv_iload_n hx hb dX10_back_138 rfl (lv_at hl 1 rfl) ?_
                  refine x_callSi (rest := []) hC hI [1, 2, 3] (mX3_foundOnCap l D K (fun i => q (1 + i)) _ t_137 a2 a3 bits stops num unit strips caps draw hw) (va_cwS 4 hts gX10_back_X3_foundOnCap rfl rfl rfl (by decide +kernel) ⟨(Nat.le_of_ble_eq_true rfl), (Nat.le_of_ble_eq_true rfl)⟩) rfl rfl (fun _ => rfl) rfl hl.1 rfl (Nat.le_of_ble_eq_true rfl) dX10_back_139 ⟨(Nat.le_of_ble_eq_true rfl), (Nat.le_of_ble_eq_true rfl)⟩ (fun r10 u H locs hw hI => ?_)
                  try dsimp only at hw
                  have hI : wI s D A (wX K q bits stops num unit strips caps draw oldest known ring im iold iknown iring hasIm letters tbits tlen tat fig shI shH shL shS seaOf queue snum cost heap wait off les gre abv blw needed ocut opole) H locs := hI
                  subst hQ
                  exact x_iret (u := ()) hC hI hr hlk hw rfl dX10_back_142
                refine lv_icmp_ne (tgt := 136) hx hb dX10_back_129 (by decide) (fun c11 => ?_) (fun c11 => ?_)
                · replace hw := hw.2 c11
                  refine lv_iconst (v := (0 : Int32)) hx hb dX10_back_136 (by decide) ?_
                  exact jn137 (0 : Int32) ls H locs hw hI (lv_sub hl [3, 4] rfl)
                · replace hw := hw.1 c11
                  refine lv_iconst (v := (1 : Int32)) hx hb dX10_back_132 (by decide) ?_
                  refine lv_goto (tgt := 137) hx hb dX10_back_133 (by decide) ?_
                  exact jn137 (1 : Int32) ls H locs hw hI (lv_sub hl [3, 4] rfl)
              · replace hw := hw.1 c9
                refine lv_bipush (v := (-4 : Int32)) hx hb dX10_back_118 (by decide) ?_
                refine lv_goto (tgt := 142) hx hb dX10_back_120 (by decide) ?_
                subst hQ
                exact x_iret (u := ()) hC hI hr hlk hw rfl dX10_back_142
            · replace hw := hw.1 c8
              refine lv_aload_n hx hb dX10_back_98 rfl (lv_at hl 1 rfl) ?_
              refine x_get (v := .ref (q 1)) hC hI kX10_back_cX10 0 rfl rfl 0 (by decide) kX10_back_0 rfl rfl dX10_back_99 ?_
              refine lv_iload_n hx hb dX10_back_102 rfl (lv_at hl 3 rfl) ?_
              refine lv_iload_n hx hb dX10_back_103 rfl (lv_at hl 4 rfl) ?_
              refine x_callSi (rest := []) hC hI [1, 2, 3] (mX3_foundOnStrips l D K (fun i => q (1 + i)) _ a2 a3 bits stops num unit strips caps draw hw) (va_cwS 3 hts gX10_back_X3_foundOnStrips rfl rfl rfl (by decide +kernel) ⟨(Nat.le_of_ble_eq_true rfl), (Nat.le_of_ble_eq_true rfl)⟩) rfl rfl (fun _ => rfl) rfl hl.1 rfl (Nat.le_of_ble_eq_true rfl) dX10_back_104 ⟨(Nat.le_of_ble_eq_true rfl), (Nat.le_of_ble_eq_true rfl)⟩ (fun r12 u H locs hw hI => ?_)
              try dsimp only at hw
              have hI : wI s D A (wX K q bits stops num unit strips caps draw oldest known ring im iold iknown iring hasIm letters tbits tlen tat fig shI shH shL shS seaOf queue snum cost heap wait off les gre abv blw needed ocut opole) H locs := hI
              subst hQ
              exact x_iret (u := ()) hC hI hr hlk hw rfl dX10_back_107
          · replace hw := hw.1 c7
            refine lv_iconst (v := (-1 : Int32)) hx hb dX10_back_92 (by decide) ?_
            subst hQ
            exact x_iret (u := ()) hC hI hr hlk hw rfl dX10_back_93
      refine lv_if_ne (tgt := 68) hx hb dX10_back_52 (by decide) (fun c13 => ?_) (fun c13 => ?_)
      · replace hw := hw.2 c13
        refine lv_iload hx hb dX10_back_68 (lv_at hl 5 rfl) ?_
        exact jn70 x3 ls H locs hw hI (lv_sub hl [1, 2, 3, 4, 0] rfl)
      · replace hw := hw.1 c13
        refine lv_bipush (v := (24 : Int32)) hx hb dX10_back_55 (by decide) ?_
        refine lv_aload_n hx hb dX10_back_57 rfl (lv_at hl 1 rfl) ?_
        refine x_get (v := .ref (q 1)) hC hI kX10_back_cX10 0 rfl rfl 0 (by decide) kX10_back_0 rfl rfl dX10_back_58 ?_
        refine x_get (v := .int unit) hC hI kX10_back_cX0 1 rfl rfl 3 (by decide) kX10_back_2 rfl rfl dX10_back_61 ?_
        refine lv_imul hx hb dX10_back_64 ?_
        refine lv_goto (tgt := 70) hx hb dX10_back_65 (by decide) ?_
        exact jn70 ((24 : Int32) * unit) ls H locs hw hI (lv_sub hl [1, 2, 3, 4, 0] rfl)
    refine lv_if_ne (tgt := 47) hx hb dX10_back_31 (by decide) (fun c14 => ?_) (fun c14 => ?_)
    · replace hw := hw.2 c14
      refine lv_iload hx hb dX10_back_47 (lv_at hl 0 rfl) ?_
      exact jn49 x3 ls H locs hw hI (lv_sub hl [1, 2, 3, 4, 0] rfl)
    · replace hw := hw.1 c14
      refine lv_bipush (v := (48 : Int32)) hx hb dX10_back_34 (by decide) ?_
      refine lv_aload_n hx hb dX10_back_36 rfl (lv_at hl 1 rfl) ?_
      refine x_get (v := .ref (q 1)) hC hI kX10_back_cX10 0 rfl rfl 0 (by decide) kX10_back_0 rfl rfl dX10_back_37 ?_
      refine x_get (v := .int unit) hC hI kX10_back_cX0 1 rfl rfl 3 (by decide) kX10_back_2 rfl rfl dX10_back_40 ?_
      refine lv_imul hx hb dX10_back_43 ?_
      refine lv_goto (tgt := 49) hx hb dX10_back_44 (by decide) ?_
      exact jn49 ((48 : Int32) * unit) ls H locs hw hI (lv_sub hl [1, 2, 3, 4, 0] rfl)
  · replace hw := hw.1 c2
    refine lv_iconst (v := (-1 : Int32)) hx hb dX10_back_9 (by decide) ?_
    subst hQ
    exact x_iret (u := ()) hC hI hr hlk hw rfl dX10_back_10

def wX10_pair (a1 : Int32) (a2 : Int32) (a3 : Int32) (unit : Int32) (strips : Int32) (caps : Int32) (post : Int32 → Prop) : Prop := wX1_isNumber a1 (fun (r1 : Int32) => ((r1 = 0 → post (-1 : Int32)) ∧ (¬ r1 = 0 → wX1_isNumber a2 (fun (r3 : Int32) => ((r3 = 0 → post (-1 : Int32)) ∧ (¬ r3 = 0 → wX10_isIn a3 (0 : Int32) (1 : Int32) (fun (r5 : Int32) => ((r5 = 0 → post (-1 : Int32)) ∧ (¬ r5 = 0 → wX1_areNeighbours a1 a2 (fun (r7 : Int32) => ((r7 = 0 → post (-2 : Int32)) ∧ (¬ r7 = 0 → ((a3 = 0 → wX1_rowOf a1 (fun (r13 : Int32) => wX1_rowOf a2 (fun (r14 : Int32) => wX0_far r13 r14 unit (fun (r15 : Int32) => post r15)))) ∧ (¬ a3 = 0 → wX0_areOnStrips a1 a2 caps (fun (r10 : Int32) => ((r10 = 0 → post (-4 : Int32)) ∧ (¬ r10 = 0 → wX3_straight a1 a2 unit strips (fun (r12 : Int32) => post r12))))))))))))))))))
def rmX10_pair : Room := { frames := 4, cells := 0, slots := 0, locals := 84 }
theorem kX10_pair_0 : Cond.fieldLink RX10 10 "GoreGlobe" "now" "LGoreGlobe$Globe;" ∈ wsX10_pair := List.mem_cons_of_mem _ (List.mem_append_left _ (List.mem_append_left _ (List.mem_append_left _ (List.mem_of_getElem? (i := 0) rfl))))
theorem kX10_pair_cX10 : ∀ w ∈ wsX100, w ∈ wsX10_pair := fun _ h => List.mem_cons_of_mem _ (List.mem_append_left _ (List.mem_append_right _ h))
set_option maxHeartbeats 4000000 in
set_option maxRecDepth 100000 in
theorem mX10_pair (l : Launch) (D : va_G) (K : Nat → ClassId) (q : Nat → Nat) (sz : Nat) (a1 : Int32) (a2 : Int32) (a3 : Int32) (bits : Nat → Int64) (stops : Nat → Int32) (num : Int32) (unit : Int32) (strips : Int32) (caps : Int32) (draw : Int32) (oldest : Int32) (known : Int32) (ring : Nat → GS) (im : GS) (iold : Int32) (iknown : Int32) (iring : Nat → GS) (hasIm : Int32) (letters : Nat → Int32) (tbits : Nat → Int64) (tlen : Int32) (tat : Int32) (fig : Int32) (shI : Nat → Nat → Int64) (shH : Nat → Int32) (shL : Nat → Int32) (shS : Nat → Int32) (seaOf : Nat → Int32) (queue : Nat → Int32) (snum : Int32) (cost : Nat → Int32) (heap : Nat → Int64) (wait : Int32) (off : Int32) (les : Int32) (gre : Int32) (abv : Int64) (blw : Int64) (needed : Int32) (ocut : Int32) (opole : Int32)  {post : Int32 → Prop} (hw : wX10_pair a1 a2 a3 unit strips caps post) : Met l yX10_pair wsX10_pair rmX10_pair (va_Pc [.ref (q 0), .int a1, .int a2, .int a3] (cP D K (wX K q bits stops num unit strips caps draw oldest known ring im iold iknown iring hasIm letters tbits tlen tat fig shI shH shL shS seaOf queue snum cost heap wait off les gre abv blw needed ocut opole) sz)) (va_Qi (fun (r : Int32) (u : Unit) => post r) (fun u t => cQ D K (wX K q bits stops num unit strips caps draw oldest known ring im iold iknown iring hasIm letters tbits tlen tat fig shI shH shL shS seaOf queue snum cost heap wait off les gre abv blw needed ocut opole) (va_A (wX K q bits stops num unit strips caps draw oldest known ring im iold iknown iring hasIm letters tbits tlen tat fig shI shH shL shS seaOf queue snum cost heap wait off les gre abv blw needed ocut opole) sz) t) (va_A (wX K q bits stops num unit strips caps draw oldest known ring im iold iknown iring hasIm letters tbits tlen tat fig shI shH shL shS seaOf queue snum cost heap wait off les gre abv blw needed ocut opole) sz)) 0 0 (va_A (wX K q bits stops num unit strips caps draw oldest known ring im iold iknown iring hasIm letters tbits tlen tat fig shI shH shL shS seaOf queue snum cost heap wait off les gre abv blw needed ocut opole) sz) := by
  refine x_entry (cc := cX10_pair) (maxL := 4) (ret := (some .int)) (QA := fun A => va_Qi (fun (r : Int32) (u : Unit) => post r) (fun u t => cQ D K (wX K q bits stops num unit strips caps draw oldest known ring im iold iknown iring hasIm letters tbits tlen tat fig shI shH shL shS seaOf queue snum cost heap wait off les gre abv blw needed ocut opole) A t) A) (plainFor_of_name (by decide)) rfl (Nat.le_of_ble_eq_true rfl) ?_
  intro p e s m args below meth c A ls H Q hQ hC hlk hr hnm hI hl
  obtain ⟨hx, hb, hml, hown, hts, hK, hA, hZ⟩ := id hC
  obtain ⟨locs, hlocs⟩ : ∃ y : List Loc, y = [] := ⟨_, rfl⟩
  rw [← hlocs] at hI ⊢
  clear hlocs
  replace hl : lv_has ls 4 [(0, .ref (q 0)), (1, .int a1), (2, .int a2), (3, .int a3)] := hl
  replace hw : wX1_isNumber a1 (fun (r1 : Int32) => ((r1 = 0 → post (-1 : Int32)) ∧ (¬ r1 = 0 → wX1_isNumber a2 (fun (r3 : Int32) => ((r3 = 0 → post (-1 : Int32)) ∧ (¬ r3 = 0 → wX10_isIn a3 (0 : Int32) (1 : Int32) (fun (r5 : Int32) => ((r5 = 0 → post (-1 : Int32)) ∧ (¬ r5 = 0 → wX1_areNeighbours a1 a2 (fun (r7 : Int32) => ((r7 = 0 → post (-2 : Int32)) ∧ (¬ r7 = 0 → ((a3 = 0 → wX1_rowOf a1 (fun (r13 : Int32) => wX1_rowOf a2 (fun (r14 : Int32) => wX0_far r13 r14 unit (fun (r15 : Int32) => post r15)))) ∧ (¬ a3 = 0 → wX0_areOnStrips a1 a2 caps (fun (r10 : Int32) => ((r10 = 0 → post (-4 : Int32)) ∧ (¬ r10 = 0 → wX3_straight a1 a2 unit strips (fun (r12 : Int32) => post r12)))))))))))))))))) := hw
  refine lv_iload_n hx hb dX10_pair_0 rfl (lv_at hl 1 rfl) ?_
  refine x_callSi (rest := []) hC hI [] (mX1_isNumber l D K  _ a1 hw) (va_cwS 1 hts gX10_pair_X1_isNumber rfl rfl rfl (by decide +kernel) ⟨(Nat.le_of_ble_eq_true rfl), (Nat.le_of_ble_eq_true rfl)⟩) rfl rfl (fun _ => rfl) rfl hl.1 rfl (Nat.le_of_ble_eq_true rfl) dX10_pair_1 ⟨(Nat.le_of_ble_eq_true rfl), (Nat.le_of_ble_eq_true rfl)⟩ (fun r1 u H locs hw hI => ?_)
  try dsimp only at hw
  have hI : wI s D A (wX K q bits stops num unit strips caps draw oldest known ring im iold iknown iring hasIm letters tbits tlen tat fig shI shH shL shS seaOf queue snum cost heap wait off les gre abv blw needed ocut opole) H locs := hI
  refine lv_if_eq (tgt := 23) hx hb dX10_pair_4 (by decide) (fun c2 => ?_) (fun c2 => ?_)
  · replace hw := hw.1 c2
    refine lv_iconst (v := (-1 : Int32)) hx hb dX10_pair_23 (by decide) ?_
    subst hQ
    exact x_iret (u := ()) hC hI hr hlk hw rfl dX10_pair_24
  · replace hw := hw.2 c2
    refine lv_iload_n hx hb dX10_pair_7 rfl (lv_at hl 2 rfl) ?_
    refine x_callSi (rest := []) hC hI [] (mX1_isNumber l D K  _ a2 hw) (va_cwS 1 hts gX10_pair_X1_isNumber rfl rfl rfl (by decide +kernel) ⟨(Nat.le_of_ble_eq_true rfl), (Nat.le_of_ble_eq_true rfl)⟩) rfl rfl (fun _ => rfl) rfl hl.1 rfl (Nat.le_of_ble_eq_true rfl) dX10_pair_8 ⟨(Nat.le_of_ble_eq_true rfl), (Nat.le_of_ble_eq_true rfl)⟩ (fun r3 u H locs hw hI => ?_)
    try dsimp only at hw
    have hI : wI s D A (wX K q bits stops num unit strips caps draw oldest known ring im iold iknown iring hasIm letters tbits tlen tat fig shI shH shL shS seaOf queue snum cost heap wait off les gre abv blw needed ocut opole) H locs := hI
    refine lv_if_eq (tgt := 23) hx hb dX10_pair_11 (by decide) (fun c4 => ?_) (fun c4 => ?_)
    · replace hw := hw.1 c4
      refine lv_iconst (v := (-1 : Int32)) hx hb dX10_pair_23 (by decide) ?_
      subst hQ
      exact x_iret (u := ()) hC hI hr hlk hw rfl dX10_pair_24
    · replace hw := hw.2 c4
      refine lv_iload_n hx hb dX10_pair_14 rfl (lv_at hl 3 rfl) ?_
      refine lv_iconst (v := (0 : Int32)) hx hb dX10_pair_15 (by decide) ?_
      refine lv_iconst (v := (1 : Int32)) hx hb dX10_pair_16 (by decide) ?_
      refine x_callSi (rest := []) hC hI [] (mX10_isIn l D K  _ a3 (0 : Int32) (1 : Int32) hw) (va_cwS 3 hts gX10_pair_X10_isIn rfl rfl rfl (by decide +kernel) ⟨(Nat.le_of_ble_eq_true rfl), (Nat.le_of_ble_eq_true rfl)⟩) rfl rfl (fun _ => rfl) rfl hl.1 rfl (Nat.le_of_ble_eq_true rfl) dX10_pair_17 ⟨(Nat.le_of_ble_eq_true rfl), (Nat.le_of_ble_eq_true rfl)⟩ (fun r5 u H locs hw hI => ?_)
      try dsimp only at hw
      have hI : wI s D A (wX K q bits stops num unit strips caps draw oldest known ring im iold iknown iring hasIm letters tbits tlen tat fig shI shH shL shS seaOf queue snum cost heap wait off les gre abv blw needed ocut opole) H locs := hI
      refine lv_if_ne (tgt := 25) hx hb dX10_pair_20 (by decide) (fun c6 => ?_) (fun c6 => ?_)
      · replace hw := hw.2 c6
        refine lv_iload_n hx hb dX10_pair_25 rfl (lv_at hl 1 rfl) ?_
        refine lv_iload_n hx hb dX10_pair_26 rfl (lv_at hl 2 rfl) ?_
        refine x_callSi (rest := []) hC hI [] (mX1_areNeighbours l D K  _ a1 a2 hw) (va_cwS 2 hts gX10_pair_X1_areNeighbours rfl rfl rfl (by decide +kernel) ⟨(Nat.le_of_ble_eq_true rfl), (Nat.le_of_ble_eq_true rfl)⟩) rfl rfl (fun _ => rfl) rfl hl.1 rfl (Nat.le_of_ble_eq_true rfl) dX10_pair_27 ⟨(Nat.le_of_ble_eq_true rfl), (Nat.le_of_ble_eq_true rfl)⟩ (fun r7 u H locs hw hI => ?_)
        try dsimp only at hw
        have hI : wI s D A (wX K q bits stops num unit strips caps draw oldest known ring im iold iknown iring hasIm letters tbits tlen tat fig shI shH shL shS seaOf queue snum cost heap wait off les gre abv blw needed ocut opole) H locs := hI
        refine lv_if_ne (tgt := 36) hx hb dX10_pair_30 (by decide) (fun c8 => ?_) (fun c8 => ?_)
        · replace hw := hw.2 c8
          refine lv_iload_n hx hb dX10_pair_36 rfl (lv_at hl 3 rfl) ?_
          refine lv_if_ne (tgt := 56) hx hb dX10_pair_37 (by decide) (fun c9 => ?_) (fun c9 => ?_)
          · replace hw := hw.2 c9
            refine lv_aload_n hx hb dX10_pair_56 rfl (lv_at hl 0 rfl) ?_
            refine x_get (v := .ref (q 1)) hC hI kX10_pair_cX10 0 rfl rfl 0 (by decide) kX10_pair_0 rfl rfl dX10_pair_57 ?_
            refine lv_iload_n hx hb dX10_pair_60 rfl (lv_at hl 1 rfl) ?_
            refine lv_iload_n hx hb dX10_pair_61 rfl (lv_at hl 2 rfl) ?_
            refine x_callVi (rest := []) hC hI [1, 2, 3] (mX0_areOnStrips l D K (fun i => q (1 + i)) _ a1 a2 bits stops num unit strips caps draw hw) (cwV 2 hts gX10_pair_X0_areOnStrips rfl rfl rfl (by decide +kernel) ⟨(Nat.le_of_ble_eq_true rfl), (Nat.le_of_ble_eq_true rfl)⟩) rfl rfl (fun _ => rfl) 1 0 rfl rfl rfl rfl hl.1 rfl (Nat.le_of_ble_eq_true rfl) dX10_pair_62 ⟨(Nat.le_of_ble_eq_true rfl), (Nat.le_of_ble_eq_true rfl)⟩ (fun r10 u H locs hw hI => ?_)
            try dsimp only at hw
            have hI : wI s D A (wX K q bits stops num unit strips caps draw oldest known ring im iold iknown iring hasIm letters tbits tlen tat fig shI shH shL shS seaOf queue snum cost heap wait off les gre abv blw needed ocut opole) H locs := hI
            refine lv_if_eq (tgt := 80) hx hb dX10_pair_65 (by decide) (fun c11 => ?_) (fun c11 => ?_)
            · replace hw := hw.1 c11
              refine lv_bipush (v := (-4 : Int32)) hx hb dX10_pair_80 (by decide) ?_
              subst hQ
              exact x_iret (u := ()) hC hI hr hlk hw rfl dX10_pair_82
            · replace hw := hw.2 c11
              refine lv_aload_n hx hb dX10_pair_68 rfl (lv_at hl 0 rfl) ?_
              refine x_get (v := .ref (q 1)) hC hI kX10_pair_cX10 0 rfl rfl 0 (by decide) kX10_pair_0 rfl rfl dX10_pair_69 ?_
              refine lv_iload_n hx hb dX10_pair_72 rfl (lv_at hl 1 rfl) ?_
              refine lv_iload_n hx hb dX10_pair_73 rfl (lv_at hl 2 rfl) ?_
              refine x_callSi (rest := []) hC hI [1, 2, 3] (mX3_straight l D K (fun i => q (1 + i)) _ a1 a2 bits stops num unit strips caps draw hw) (va_cwS 3 hts gX10_pair_X3_straight rfl rfl rfl (by decide +kernel) ⟨(Nat.le_of_ble_eq_true rfl), (Nat.le_of_ble_eq_true rfl)⟩) rfl rfl (fun _ => rfl) rfl hl.1 rfl (Nat.le_of_ble_eq_true rfl) dX10_pair_74 ⟨(Nat.le_of_ble_eq_true rfl), (Nat.le_of_ble_eq_true rfl)⟩ (fun r12 u H locs hw hI => ?_)
              try dsimp only at hw
              have hI : wI s D A (wX K q bits stops num unit strips caps draw oldest known ring im iold iknown iring hasIm letters tbits tlen tat fig shI shH shL shS seaOf queue snum cost heap wait off les gre abv blw needed ocut opole) H locs := hI
              refine lv_goto (tgt := 82) hx hb dX10_pair_77 (by decide) ?_
              subst hQ
              exact x_iret (u := ()) hC hI hr hlk hw rfl dX10_pair_82
          · replace hw := hw.1 c9
            refine lv_aload_n hx hb dX10_pair_40 rfl (lv_at hl 0 rfl) ?_
            refine x_get (v := .ref (q 1)) hC hI kX10_pair_cX10 0 rfl rfl 0 (by decide) kX10_pair_0 rfl rfl dX10_pair_41 ?_
            refine lv_iload_n hx hb dX10_pair_44 rfl (lv_at hl 1 rfl) ?_
            refine x_callSi (rest := [.ref (q 1)]) hC hI [] (mX1_rowOf l D K  _ a1 hw) (va_cwS 1 hts gX10_pair_X1_rowOf rfl rfl rfl (by decide +kernel) ⟨(Nat.le_of_ble_eq_true rfl), (Nat.le_of_ble_eq_true rfl)⟩) rfl rfl (fun _ => rfl) rfl hl.1 rfl (Nat.le_of_ble_eq_true rfl) dX10_pair_45 ⟨(Nat.le_of_ble_eq_true rfl), (Nat.le_of_ble_eq_true rfl)⟩ (fun r13 u H locs hw hI => ?_)
            try dsimp only at hw
            have hI : wI s D A (wX K q bits stops num unit strips caps draw oldest known ring im iold iknown iring hasIm letters tbits tlen tat fig shI shH shL shS seaOf queue snum cost heap wait off les gre abv blw needed ocut opole) H locs := hI
            refine lv_iload_n hx hb dX10_pair_48 rfl (lv_at hl 2 rfl) ?_
            refine x_callSi (rest := [.int r13, .ref (q 1)]) hC hI [] (mX1_rowOf l D K  _ a2 hw) (va_cwS 1 hts gX10_pair_X1_rowOf rfl rfl rfl (by decide +kernel) ⟨(Nat.le_of_ble_eq_true rfl), (Nat.le_of_ble_eq_true rfl)⟩) rfl rfl (fun _ => rfl) rfl hl.1 rfl (Nat.le_of_ble_eq_true rfl) dX10_pair_49 ⟨(Nat.le_of_ble_eq_true rfl), (Nat.le_of_ble_eq_true rfl)⟩ (fun r14 u H locs hw hI => ?_)
            try dsimp only at hw
            have hI : wI s D A (wX K q bits stops num unit strips caps draw oldest known ring im iold iknown iring hasIm letters tbits tlen tat fig shI shH shL shS seaOf queue snum cost heap wait off les gre abv blw needed ocut opole) H locs := hI
            refine x_callVi (rest := []) hC hI [1, 2, 3] (mX0_far l D K (fun i => q (1 + i)) _ r13 r14 bits stops num unit strips caps draw hw) (cwV 2 hts gX10_pair_X0_far rfl rfl rfl (by decide +kernel) ⟨(Nat.le_of_ble_eq_true rfl), (Nat.le_of_ble_eq_true rfl)⟩) rfl rfl (fun _ => rfl) 1 0 rfl rfl rfl rfl hl.1 rfl (Nat.le_of_ble_eq_true rfl) dX10_pair_52 ⟨(Nat.le_of_ble_eq_true rfl), (Nat.le_of_ble_eq_true rfl)⟩ (fun r15 u H locs hw hI => ?_)
            try dsimp only at hw
            have hI : wI s D A (wX K q bits stops num unit strips caps draw oldest known ring im iold iknown iring hasIm letters tbits tlen tat fig shI shH shL shS seaOf queue snum cost heap wait off les gre abv blw needed ocut opole) H locs := hI
            subst hQ
            exact x_iret (u := ()) hC hI hr hlk hw rfl dX10_pair_55
        · replace hw := hw.1 c8
          refine lv_bipush (v := (-2 : Int32)) hx hb dX10_pair_33 (by decide) ?_
          subst hQ
          exact x_iret (u := ()) hC hI hr hlk hw rfl dX10_pair_35
      · replace hw := hw.1 c6
        refine lv_iconst (v := (-1 : Int32)) hx hb dX10_pair_23 (by decide) ?_
        subst hQ
        exact x_iret (u := ()) hC hI hr hlk hw rfl dX10_pair_24

def wX10_worst (a1 : Int32) (unit : Int32) (strips : Int32) (caps : Int32) (off : Int32) (les : Int32) (gre : Int32) (post : Int32 → Int32 → Int32 → Int32 → Prop) : Prop := wX10_isIn a1 (0 : Int32) (2 : Int32) (fun (r1 : Int32) => ((r1 = 0 → post (-1 : Int32) off les gre) ∧ (¬ r1 = 0 → wX9_seek les gre unit strips caps (fun (off_3 : Int32) (les_4 : Int32) (gre_5 : Int32) => ((a1 = 0 → post off_3 off_3 les_4 gre_5) ∧ (¬ a1 = 0 → ((a1 = (1 : Int32) → post les_4 off_3 les_4 gre_5) ∧ (¬ a1 = (1 : Int32) → post gre_5 off_3 les_4 gre_5))))))))
def rmX10_worst : Room := { frames := 5, cells := 0, slots := 0, locals := 123 }
theorem kX10_worst_0 : Cond.fieldLink RX10 59 "GoreGlobe" "worstPair" "LGoreGlobe$WorstPair;" ∈ wsX10_worst := List.mem_cons_of_mem _ (List.mem_append_left _ (List.mem_append_left _ (List.mem_append_left _ (List.mem_append_left _ (List.mem_of_getElem? (i := 0) rfl)))))
theorem kX10_worst_cX10 : ∀ w ∈ wsX100, w ∈ wsX10_worst := fun _ h => List.mem_cons_of_mem _ (List.mem_append_left _ (List.mem_append_left _ (List.mem_append_right _ h)))
theorem kX10_worst_2 : Cond.fieldLink RX10 10 "GoreGlobe" "now" "LGoreGlobe$Globe;" ∈ wsX10_worst := List.mem_cons_of_mem _ (List.mem_append_left _ (List.mem_append_left _ (List.mem_append_left _ (List.mem_append_left _ (List.mem_of_getElem? (i := 1) rfl)))))
theorem kX10_worst_3 : Cond.fieldLink RX10 171 "GoreGlobe$WorstPair" "greater" "I" ∈ wsX10_worst := List.mem_cons_of_mem _ (List.mem_append_left _ (List.mem_append_left _ (List.mem_append_left _ (List.mem_append_left _ (List.mem_of_getElem? (i := 4) rfl)))))
theorem kX10_worst_cX9 : ∀ w ∈ wsX90, w ∈ wsX10_worst := fun _ h => List.mem_cons_of_mem _ (List.mem_append_left _ (List.mem_append_right _ h))
theorem kX10_worst_5 : Cond.fieldLink RX10 168 "GoreGlobe$WorstPair" "lesser" "I" ∈ wsX10_worst := List.mem_cons_of_mem _ (List.mem_append_left _ (List.mem_append_left _ (List.mem_append_left _ (List.mem_append_left _ (List.mem_of_getElem? (i := 3) rfl)))))
theorem kX10_worst_6 : Cond.fieldLink RX10 165 "GoreGlobe$WorstPair" "off" "I" ∈ wsX10_worst := List.mem_cons_of_mem _ (List.mem_append_left _ (List.mem_append_left _ (List.mem_append_left _ (List.mem_append_left _ (List.mem_of_getElem? (i := 2) rfl)))))
set_option maxHeartbeats 4000000 in
set_option maxRecDepth 100000 in
theorem mX10_worst (l : Launch) (D : va_G) (K : Nat → ClassId) (q : Nat → Nat) (sz : Nat) (a1 : Int32) (bits : Nat → Int64) (stops : Nat → Int32) (num : Int32) (unit : Int32) (strips : Int32) (caps : Int32) (draw : Int32) (oldest : Int32) (known : Int32) (ring : Nat → GS) (im : GS) (iold : Int32) (iknown : Int32) (iring : Nat → GS) (hasIm : Int32) (letters : Nat → Int32) (tbits : Nat → Int64) (tlen : Int32) (tat : Int32) (fig : Int32) (shI : Nat → Nat → Int64) (shH : Nat → Int32) (shL : Nat → Int32) (shS : Nat → Int32) (seaOf : Nat → Int32) (queue : Nat → Int32) (snum : Int32) (cost : Nat → Int32) (heap : Nat → Int64) (wait : Int32) (off : Int32) (les : Int32) (gre : Int32) (abv : Int64) (blw : Int64) (needed : Int32) (ocut : Int32) (opole : Int32)  {post : Int32 → Int32 → Int32 → Int32 → Prop} (hw : wX10_worst a1 unit strips caps off les gre post) : Met l yX10_worst wsX10_worst rmX10_worst (va_Pc [.ref (q 0), .int a1] (cP D K (wX K q bits stops num unit strips caps draw oldest known ring im iold iknown iring hasIm letters tbits tlen tat fig shI shH shL shS seaOf queue snum cost heap wait off les gre abv blw needed ocut opole) sz)) (va_Qi (fun (r : Int32) (u : Int32 × Int32 × Int32) => post r u.1 u.2.1 u.2.2) (fun u t => cQ D K (wX K q bits stops num unit strips caps draw oldest known ring im iold iknown iring hasIm letters tbits tlen tat fig shI shH shL shS seaOf queue snum cost heap wait u.1 u.2.1 u.2.2 abv blw needed ocut opole) (va_A (wX K q bits stops num unit strips caps draw oldest known ring im iold iknown iring hasIm letters tbits tlen tat fig shI shH shL shS seaOf queue snum cost heap wait off les gre abv blw needed ocut opole) sz) t) (va_A (wX K q bits stops num unit strips caps draw oldest known ring im iold iknown iring hasIm letters tbits tlen tat fig shI shH shL shS seaOf queue snum cost heap wait off les gre abv blw needed ocut opole) sz)) 0 0 (va_A (wX K q bits stops num unit strips caps draw oldest known ring im iold iknown iring hasIm letters tbits tlen tat fig shI shH shL shS seaOf queue snum cost heap wait off les gre abv blw needed ocut opole) sz) := by
  refine x_entry (cc := cX10_worst) (maxL := 2) (ret := (some .int)) (QA := fun A => va_Qi (fun (r : Int32) (u : Int32 × Int32 × Int32) => post r u.1 u.2.1 u.2.2) (fun u t => cQ D K (wX K q bits stops num unit strips caps draw oldest known ring im iold iknown iring hasIm letters tbits tlen tat fig shI shH shL shS seaOf queue snum cost heap wait u.1 u.2.1 u.2.2 abv blw needed ocut opole) A t) A) (plainFor_of_name (by decide)) rfl (Nat.le_of_ble_eq_true rfl) ?_
  intro p e s m args below meth c A ls H Q hQ hC hlk hr hnm hI hl
  obtain ⟨hx, hb, hml, hown, hts, hK, hA, hZ⟩ := id hC
  obtain ⟨locs, hlocs⟩ : ∃ y : List Loc, y = [] := ⟨_, rfl⟩
  rw [← hlocs] at hI ⊢
  clear hlocs
  replace hl : lv_has ls 2 [(0, .ref (q 0)), (1, .int a1)] := hl
  replace hw : wX10_isIn a1 (0 : Int32) (2 : Int32) (fun (r1 : Int32) => ((r1 = 0 → post (-1 : Int32) off les gre) ∧ (¬ r1 = 0 → wX9_seek les gre unit strips caps (fun (off_3 : Int32) (les_4 : Int32) (gre_5 : Int32) => ((a1 = 0 → post off_3 off_3 les_4 gre_5) ∧ (¬ a1 = 0 → ((a1 = (1 : Int32) → post les_4 off_3 les_4 gre_5) ∧ (¬ a1 = (1 : Int32) → post gre_5 off_3 les_4 gre_5)))))))) := hw
  refine lv_iload_n hx hb dX10_worst_0 rfl (lv_at hl 1 rfl) ?_
  refine lv_iconst (v := (0 : Int32)) hx hb dX10_worst_1 (by decide) ?_
  refine lv_iconst (v := (2 : Int32)) hx hb dX10_worst_2 (by decide) ?_
  refine x_callSi (rest := []) hC hI [] (mX10_isIn l D K  _ a1 (0 : Int32) (2 : Int32) hw) (va_cwS 3 hts gX10_worst_X10_isIn rfl rfl rfl (by decide +kernel) ⟨(Nat.le_of_ble_eq_true rfl), (Nat.le_of_ble_eq_true rfl)⟩) rfl rfl (fun _ => rfl) rfl hl.1 rfl (Nat.le_of_ble_eq_true rfl) dX10_worst_3 ⟨(Nat.le_of_ble_eq_true rfl), (Nat.le_of_ble_eq_true rfl)⟩ (fun r1 u H locs hw hI => ?_)
  try dsimp only at hw
  have hI : wI s D A (wX K q bits stops num unit strips caps draw oldest known ring im iold iknown iring hasIm letters tbits tlen tat fig shI shH shL shS seaOf queue snum cost heap wait off les gre abv blw needed ocut opole) H locs := hI
  refine lv_if_ne (tgt := 11) hx hb dX10_worst_6 (by decide) (fun c2 => ?_) (fun c2 => ?_)
  · replace hw := hw.2 c2
    refine lv_aload_n hx hb dX10_worst_11 rfl (lv_at hl 0 rfl) ?_
    refine x_get (v := .ref (q 65)) hC hI kX10_worst_cX10 0 rfl rfl 9 (by decide) kX10_worst_0 rfl rfl dX10_worst_12 ?_
    refine lv_aload_n hx hb dX10_worst_15 rfl (lv_at hl 0 rfl) ?_
    refine x_get (v := .ref (q 1)) hC hI kX10_worst_cX10 0 rfl rfl 0 (by decide) kX10_worst_2 rfl rfl dX10_worst_16 ?_
    refine x_callVv (rest := []) hC hI [65, 1, 2, 3] (mX9_seek l D K (fun i => q (65 + i)) (fun i => q (1 + i)) _ off les gre bits stops num unit strips caps draw hw) (cwV 1 hts gX10_worst_X9_seek rfl rfl rfl (by decide +kernel) ⟨(Nat.le_of_ble_eq_true rfl), (Nat.le_of_ble_eq_true rfl)⟩) rfl rfl (fun _ => rfl) 65 7 rfl rfl rfl rfl hl.1 rfl (Nat.le_of_ble_eq_true rfl) dX10_worst_19 ⟨(Nat.le_of_ble_eq_true rfl), (Nat.le_of_ble_eq_true rfl)⟩ (fun u H locs hw hI => ?_)
    obtain ⟨off_3, les_4, gre_5⟩ := u
    try dsimp only at hw
    have hI : wI s D A (wX K q bits stops num unit strips caps draw oldest known ring im iold iknown iring hasIm letters tbits tlen tat fig shI shH shL shS seaOf queue snum cost heap wait off_3 les_4 gre_5 abv blw needed ocut opole) H locs := hI
    refine lv_iload_n hx hb dX10_worst_22 rfl (lv_at hl 1 rfl) ?_
    refine lv_if_ne (tgt := 34) hx hb dX10_worst_23 (by decide) (fun c6 => ?_) (fun c6 => ?_)
    · replace hw := hw.2 c6
      refine lv_iload_n hx hb dX10_worst_34 rfl (lv_at hl 1 rfl) ?_
      refine lv_iconst (v := (1 : Int32)) hx hb dX10_worst_35 (by decide) ?_
      refine lv_icmp_ne (tgt := 49) hx hb dX10_worst_36 (by decide) (fun c7 => ?_) (fun c7 => ?_)
      · replace hw := hw.2 c7
        refine lv_aload_n hx hb dX10_worst_49 rfl (lv_at hl 0 rfl) ?_
        refine x_get (v := .ref (q 65)) hC hI kX10_worst_cX10 0 rfl rfl 9 (by decide) kX10_worst_0 rfl rfl dX10_worst_50 ?_
        refine x_get (v := .int gre_5) hC hI kX10_worst_cX9 65 rfl rfl 2 (by decide) kX10_worst_3 rfl rfl dX10_worst_53 ?_
        subst hQ
        exact x_iret (u := (off_3, les_4, gre_5)) hC hI hr hlk hw rfl dX10_worst_56
      · replace hw := hw.1 c7
        refine lv_aload_n hx hb dX10_worst_39 rfl (lv_at hl 0 rfl) ?_
        refine x_get (v := .ref (q 65)) hC hI kX10_worst_cX10 0 rfl rfl 9 (by decide) kX10_worst_0 rfl rfl dX10_worst_40 ?_
        refine x_get (v := .int les_4) hC hI kX10_worst_cX9 65 rfl rfl 1 (by decide) kX10_worst_5 rfl rfl dX10_worst_43 ?_
        refine lv_goto (tgt := 56) hx hb dX10_worst_46 (by decide) ?_
        subst hQ
        exact x_iret (u := (off_3, les_4, gre_5)) hC hI hr hlk hw rfl dX10_worst_56
    · replace hw := hw.1 c6
      refine lv_aload_n hx hb dX10_worst_26 rfl (lv_at hl 0 rfl) ?_
      refine x_get (v := .ref (q 65)) hC hI kX10_worst_cX10 0 rfl rfl 9 (by decide) kX10_worst_0 rfl rfl dX10_worst_27 ?_
      refine x_get (v := .int off_3) hC hI kX10_worst_cX9 65 rfl rfl 0 (by decide) kX10_worst_6 rfl rfl dX10_worst_30 ?_
      subst hQ
      exact x_iret (u := (off_3, les_4, gre_5)) hC hI hr hlk hw rfl dX10_worst_33
  · replace hw := hw.1 c2
    refine lv_iconst (v := (-1 : Int32)) hx hb dX10_worst_9 (by decide) ?_
    subst hQ
    exact x_iret (u := (off, les, gre)) hC hI hr hlk hw rfl dX10_worst_10

def wX10_way (a1 : Int32) (a2 : Int32) (a3 : Int32) (bits : Nat → Int64) (unit : Int32) (cost : Nat → Int32) (heap : Nat → Int64) (wait : Int32) (post : Int32 → (Nat → Int32) → (Nat → Int64) → Int32 → Prop) : Prop := wX1_isNumber a1 (fun (r1 : Int32) => ((r1 = 0 → post (-1 : Int32) cost heap wait) ∧ (¬ r1 = 0 → wX1_isNumber a2 (fun (r3 : Int32) => ((r3 = 0 → post (-1 : Int32) cost heap wait) ∧ (¬ r3 = 0 → wX10_isIn a3 (0 : Int32) (2 : Int32) (fun (r5 : Int32) => ((r5 = 0 → post (-1 : Int32) cost heap wait) ∧ (¬ r5 = 0 → wX8_spread a2 a1 cost heap bits unit (fun (cost_7 : Nat → Int32) (heap_8 : Nat → Int64) (wait_9 : Int32) => vp_in a1 266 ∧ ∀ x11 : Int32, x11 = cost_7 a1.toNatClampNeg → ((x11 = (2147483647 : Int32) → post (-4 : Int32) cost_7 heap_8 wait_9) ∧ (¬ x11 = (2147483647 : Int32) → ((a3 = (0 : Int32) → wX8_farOf x11 (fun (r14 : Int32) => post r14 cost_7 heap_8 wait_9)) ∧ (¬ a3 = (0 : Int32) → ((a3 = (1 : Int32) → wX8_stepsOf x11 (fun (r16 : Int32) => post r16 cost_7 heap_8 wait_9)) ∧ (¬ a3 = (1 : Int32) → wX8_leastFirstStep a1 cost_7 unit (fun (r17 : Int32) => post r17 cost_7 heap_8 wait_9)))))))))))))))))
def rmX10_way : Room := { frames := 5, cells := 0, slots := 0, locals := 116 }
theorem kX10_way_0 : Cond.fieldLink RX10 52 "GoreGlobe" "ways" "LGoreGlobe$Ways;" ∈ wsX10_way := List.mem_cons_of_mem _ (List.mem_append_left _ (List.mem_append_left _ (List.mem_append_left _ (List.mem_append_left _ (List.mem_of_getElem? (i := 0) rfl)))))
theorem kX10_way_cX10 : ∀ w ∈ wsX100, w ∈ wsX10_way := fun _ h => List.mem_cons_of_mem _ (List.mem_append_left _ (List.mem_append_left _ (List.mem_append_right _ h)))
theorem kX10_way_2 : Cond.fieldLink RX10 10 "GoreGlobe" "now" "LGoreGlobe$Globe;" ∈ wsX10_way := List.mem_cons_of_mem _ (List.mem_append_left _ (List.mem_append_left _ (List.mem_append_left _ (List.mem_append_left _ (List.mem_of_getElem? (i := 1) rfl)))))
theorem kX10_way_3 : Cond.fieldLink RX10 178 "GoreGlobe$Ways" "cost" "[I" ∈ wsX10_way := List.mem_cons_of_mem _ (List.mem_append_left _ (List.mem_append_left _ (List.mem_append_left _ (List.mem_append_left _ (List.mem_of_getElem? (i := 2) rfl)))))
theorem kX10_way_cX8 : ∀ w ∈ wsX80, w ∈ wsX10_way := fun _ h => List.mem_cons_of_mem _ (List.mem_append_left _ (List.mem_append_right _ h))
theorem kX10_way_5 : Cond.constant RX10 181 (2147483647) ∈ wsX10_way := List.mem_cons_of_mem _ (List.mem_append_left _ (List.mem_append_left _ (List.mem_append_left _ (List.mem_append_left _ (List.mem_of_getElem? (i := 3) rfl)))))
set_option maxHeartbeats 4000000 in
set_option maxRecDepth 100000 in
theorem mX10_way (l : Launch) (D : va_G) (K : Nat → ClassId) (q : Nat → Nat) (sz : Nat) (a1 : Int32) (a2 : Int32) (a3 : Int32) (bits : Nat → Int64) (stops : Nat → Int32) (num : Int32) (unit : Int32) (strips : Int32) (caps : Int32) (draw : Int32) (oldest : Int32) (known : Int32) (ring : Nat → GS) (im : GS) (iold : Int32) (iknown : Int32) (iring : Nat → GS) (hasIm : Int32) (letters : Nat → Int32) (tbits : Nat → Int64) (tlen : Int32) (tat : Int32) (fig : Int32) (shI : Nat → Nat → Int64) (shH : Nat → Int32) (shL : Nat → Int32) (shS : Nat → Int32) (seaOf : Nat → Int32) (queue : Nat → Int32) (snum : Int32) (cost : Nat → Int32) (heap : Nat → Int64) (wait : Int32) (off : Int32) (les : Int32) (gre : Int32) (abv : Int64) (blw : Int64) (needed : Int32) (ocut : Int32) (opole : Int32)  {post : Int32 → (Nat → Int32) → (Nat → Int64) → Int32 → Prop} (hw : wX10_way a1 a2 a3 bits unit cost heap wait post) : Met l yX10_way wsX10_way rmX10_way (va_Pc [.ref (q 0), .int a1, .int a2, .int a3] (cP D K (wX K q bits stops num unit strips caps draw oldest known ring im iold iknown iring hasIm letters tbits tlen tat fig shI shH shL shS seaOf queue snum cost heap wait off les gre abv blw needed ocut opole) sz)) (va_Qi (fun (r : Int32) (u : (Nat → Int32) × (Nat → Int64) × Int32) => post r u.1 u.2.1 u.2.2) (fun u t => cQ D K (wX K q bits stops num unit strips caps draw oldest known ring im iold iknown iring hasIm letters tbits tlen tat fig shI shH shL shS seaOf queue snum u.1 u.2.1 u.2.2 off les gre abv blw needed ocut opole) (va_A (wX K q bits stops num unit strips caps draw oldest known ring im iold iknown iring hasIm letters tbits tlen tat fig shI shH shL shS seaOf queue snum cost heap wait off les gre abv blw needed ocut opole) sz) t) (va_A (wX K q bits stops num unit strips caps draw oldest known ring im iold iknown iring hasIm letters tbits tlen tat fig shI shH shL shS seaOf queue snum cost heap wait off les gre abv blw needed ocut opole) sz)) 0 0 (va_A (wX K q bits stops num unit strips caps draw oldest known ring im iold iknown iring hasIm letters tbits tlen tat fig shI shH shL shS seaOf queue snum cost heap wait off les gre abv blw needed ocut opole) sz) := by
  refine x_entry (cc := cX10_way) (maxL := 5) (ret := (some .int)) (QA := fun A => va_Qi (fun (r : Int32) (u : (Nat → Int32) × (Nat → Int64) × Int32) => post r u.1 u.2.1 u.2.2) (fun u t => cQ D K (wX K q bits stops num unit strips caps draw oldest known ring im iold iknown iring hasIm letters tbits tlen tat fig shI shH shL shS seaOf queue snum u.1 u.2.1 u.2.2 off les gre abv blw needed ocut opole) A t) A) (plainFor_of_name (by decide)) rfl (Nat.le_of_ble_eq_true rfl) ?_
  intro p e s m args below meth c A ls H Q hQ hC hlk hr hnm hI hl
  obtain ⟨hx, hb, hml, hown, hts, hK, hA, hZ⟩ := id hC
  obtain ⟨locs, hlocs⟩ : ∃ y : List Loc, y = [] := ⟨_, rfl⟩
  rw [← hlocs] at hI ⊢
  clear hlocs
  replace hl : lv_has ls 5 [(0, .ref (q 0)), (1, .int a1), (2, .int a2), (3, .int a3)] := hl
  replace hw : wX1_isNumber a1 (fun (r1 : Int32) => ((r1 = 0 → post (-1 : Int32) cost heap wait) ∧ (¬ r1 = 0 → wX1_isNumber a2 (fun (r3 : Int32) => ((r3 = 0 → post (-1 : Int32) cost heap wait) ∧ (¬ r3 = 0 → wX10_isIn a3 (0 : Int32) (2 : Int32) (fun (r5 : Int32) => ((r5 = 0 → post (-1 : Int32) cost heap wait) ∧ (¬ r5 = 0 → wX8_spread a2 a1 cost heap bits unit (fun (cost_7 : Nat → Int32) (heap_8 : Nat → Int64) (wait_9 : Int32) => vp_in a1 266 ∧ ∀ x11 : Int32, x11 = cost_7 a1.toNatClampNeg → ((x11 = (2147483647 : Int32) → post (-4 : Int32) cost_7 heap_8 wait_9) ∧ (¬ x11 = (2147483647 : Int32) → ((a3 = (0 : Int32) → wX8_farOf x11 (fun (r14 : Int32) => post r14 cost_7 heap_8 wait_9)) ∧ (¬ a3 = (0 : Int32) → ((a3 = (1 : Int32) → wX8_stepsOf x11 (fun (r16 : Int32) => post r16 cost_7 heap_8 wait_9)) ∧ (¬ a3 = (1 : Int32) → wX8_leastFirstStep a1 cost_7 unit (fun (r17 : Int32) => post r17 cost_7 heap_8 wait_9))))))))))))))))) := hw
  refine lv_iload_n hx hb dX10_way_0 rfl (lv_at hl 1 rfl) ?_
  refine x_callSi (rest := []) hC hI [] (mX1_isNumber l D K  _ a1 hw) (va_cwS 1 hts gX10_way_X1_isNumber rfl rfl rfl (by decide +kernel) ⟨(Nat.le_of_ble_eq_true rfl), (Nat.le_of_ble_eq_true rfl)⟩) rfl rfl (fun _ => rfl) rfl hl.1 rfl (Nat.le_of_ble_eq_true rfl) dX10_way_1 ⟨(Nat.le_of_ble_eq_true rfl), (Nat.le_of_ble_eq_true rfl)⟩ (fun r1 u H locs hw hI => ?_)
  try dsimp only at hw
  have hI : wI s D A (wX K q bits stops num unit strips caps draw oldest known ring im iold iknown iring hasIm letters tbits tlen tat fig shI shH shL shS seaOf queue snum cost heap wait off les gre abv blw needed ocut opole) H locs := hI
  refine lv_if_eq (tgt := 23) hx hb dX10_way_4 (by decide) (fun c2 => ?_) (fun c2 => ?_)
  · replace hw := hw.1 c2
    refine lv_iconst (v := (-1 : Int32)) hx hb dX10_way_23 (by decide) ?_
    subst hQ
    exact x_iret (u := (cost, heap, wait)) hC hI hr hlk hw rfl dX10_way_24
  · replace hw := hw.2 c2
    refine lv_iload_n hx hb dX10_way_7 rfl (lv_at hl 2 rfl) ?_
    refine x_callSi (rest := []) hC hI [] (mX1_isNumber l D K  _ a2 hw) (va_cwS 1 hts gX10_way_X1_isNumber rfl rfl rfl (by decide +kernel) ⟨(Nat.le_of_ble_eq_true rfl), (Nat.le_of_ble_eq_true rfl)⟩) rfl rfl (fun _ => rfl) rfl hl.1 rfl (Nat.le_of_ble_eq_true rfl) dX10_way_8 ⟨(Nat.le_of_ble_eq_true rfl), (Nat.le_of_ble_eq_true rfl)⟩ (fun r3 u H locs hw hI => ?_)
    try dsimp only at hw
    have hI : wI s D A (wX K q bits stops num unit strips caps draw oldest known ring im iold iknown iring hasIm letters tbits tlen tat fig shI shH shL shS seaOf queue snum cost heap wait off les gre abv blw needed ocut opole) H locs := hI
    refine lv_if_eq (tgt := 23) hx hb dX10_way_11 (by decide) (fun c4 => ?_) (fun c4 => ?_)
    · replace hw := hw.1 c4
      refine lv_iconst (v := (-1 : Int32)) hx hb dX10_way_23 (by decide) ?_
      subst hQ
      exact x_iret (u := (cost, heap, wait)) hC hI hr hlk hw rfl dX10_way_24
    · replace hw := hw.2 c4
      refine lv_iload_n hx hb dX10_way_14 rfl (lv_at hl 3 rfl) ?_
      refine lv_iconst (v := (0 : Int32)) hx hb dX10_way_15 (by decide) ?_
      refine lv_iconst (v := (2 : Int32)) hx hb dX10_way_16 (by decide) ?_
      refine x_callSi (rest := []) hC hI [] (mX10_isIn l D K  _ a3 (0 : Int32) (2 : Int32) hw) (va_cwS 3 hts gX10_way_X10_isIn rfl rfl rfl (by decide +kernel) ⟨(Nat.le_of_ble_eq_true rfl), (Nat.le_of_ble_eq_true rfl)⟩) rfl rfl (fun _ => rfl) rfl hl.1 rfl (Nat.le_of_ble_eq_true rfl) dX10_way_17 ⟨(Nat.le_of_ble_eq_true rfl), (Nat.le_of_ble_eq_true rfl)⟩ (fun r5 u H locs hw hI => ?_)
      try dsimp only at hw
      have hI : wI s D A (wX K q bits stops num unit strips caps draw oldest known ring im iold iknown iring hasIm letters tbits tlen tat fig shI shH shL shS seaOf queue snum cost heap wait off les gre abv blw needed ocut opole) H locs := hI
      refine lv_if_ne (tgt := 25) hx hb dX10_way_20 (by decide) (fun c6 => ?_) (fun c6 => ?_)
      · replace hw := hw.2 c6
        refine lv_aload_n hx hb dX10_way_25 rfl (lv_at hl 0 rfl) ?_
        refine x_get (v := .ref (q 62)) hC hI kX10_way_cX10 0 rfl rfl 8 (by decide) kX10_way_0 rfl rfl dX10_way_26 ?_
        refine lv_aload_n hx hb dX10_way_29 rfl (lv_at hl 0 rfl) ?_
        refine x_get (v := .ref (q 1)) hC hI kX10_way_cX10 0 rfl rfl 0 (by decide) kX10_way_2 rfl rfl dX10_way_30 ?_
        refine lv_iload_n hx hb dX10_way_33 rfl (lv_at hl 2 rfl) ?_
        refine lv_iload_n hx hb dX10_way_34 rfl (lv_at hl 1 rfl) ?_
        refine x_callVv (rest := []) hC hI [62, 63, 64, 1, 2, 3] (mX8_spread l D K (fun i => q (62 + i)) (fun i => q (1 + i)) _ a2 a1 cost heap wait bits stops num unit strips caps draw hw) (cwV 3 hts gX10_way_X8_spread rfl rfl rfl (by decide +kernel) ⟨(Nat.le_of_ble_eq_true rfl), (Nat.le_of_ble_eq_true rfl)⟩) rfl rfl (fun _ => rfl) 62 6 rfl rfl rfl rfl hl.1 rfl (Nat.le_of_ble_eq_true rfl) dX10_way_35 ⟨(Nat.le_of_ble_eq_true rfl), (Nat.le_of_ble_eq_true rfl)⟩ (fun u H locs hw hI => ?_)
        obtain ⟨cost_7, heap_8, wait_9⟩ := u
        try dsimp only at hw
        have hI : wI s D A (wX K q bits stops num unit strips caps draw oldest known ring im iold iknown iring hasIm letters tbits tlen tat fig shI shH shL shS seaOf queue snum cost_7 heap_8 wait_9 off les gre abv blw needed ocut opole) H locs := hI
        refine lv_aload_n hx hb dX10_way_38 rfl (lv_at hl 0 rfl) ?_
        refine x_get (v := .ref (q 62)) hC hI kX10_way_cX10 0 rfl rfl 8 (by decide) kX10_way_0 rfl rfl dX10_way_39 ?_
        refine x_get (v := .ref (q 63)) hC hI kX10_way_cX8 62 rfl rfl 0 (by decide) kX10_way_3 rfl rfl dX10_way_42 ?_
        refine lv_iload_n hx hb dX10_way_45 rfl (lv_at hl 1 rfl) ?_
        obtain ⟨hc10, hw⟩ := hw
        refine x_iald (f := cost_7) hC hI 63 rfl hc10 dX10_way_46 ?_
        refine lv_topi (fun x11 ex11 => ?_)
        replace hw := hw x11 ex11
        refine lv_istore (lv' := [(4, .int x11), (0, .ref (q 0)), (1, .int a1), (2, .int a2), (3, .int a3)]) hx hb dX10_way_47 hl (by decide) rfl (fun ls hl => ?_)
        refine lv_iload hx hb dX10_way_49 (lv_at hl 0 rfl) ?_
        refine lv_ldc (v := (2147483647 : Int32)) hx hb hown (hts _ kX10_way_5) dX10_way_51 ?_
        refine lv_icmp_ne (tgt := 59) hx hb dX10_way_53 (by decide) (fun c12 => ?_) (fun c12 => ?_)
        · replace hw := hw.2 c12
          refine lv_iload_n hx hb dX10_way_59 rfl (lv_at hl 4 rfl) ?_
          by_cases c13 : a3 = (0 : Int32)
          · replace hw := hw.1 c13
            refine lv_lookup (off := 28) (tgt := 88) hx hb dX10_way_60 (by decide) (by rw [c13]; rfl) (by decide) ?_
            refine lv_iload hx hb dX10_way_88 (lv_at hl 0 rfl) ?_
            refine x_callSi (rest := []) hC hI [] (mX8_farOf l D K  _ x11 hw) (va_cwS 1 hts gX10_way_X8_farOf rfl rfl rfl (by decide +kernel) ⟨(Nat.le_of_ble_eq_true rfl), (Nat.le_of_ble_eq_true rfl)⟩) rfl rfl (fun _ => rfl) rfl hl.1 rfl (Nat.le_of_ble_eq_true rfl) dX10_way_90 ⟨(Nat.le_of_ble_eq_true rfl), (Nat.le_of_ble_eq_true rfl)⟩ (fun r14 u H locs hw hI => ?_)
            try dsimp only at hw
            have hI : wI s D A (wX K q bits stops num unit strips caps draw oldest known ring im iold iknown iring hasIm letters tbits tlen tat fig shI shH shL shS seaOf queue snum cost_7 heap_8 wait_9 off les gre abv blw needed ocut opole) H locs := hI
            subst hQ
            exact x_iret (u := (cost_7, heap_8, wait_9)) hC hI hr hlk hw rfl dX10_way_93
          · replace hw := hw.2 c13
            by_cases c15 : a3 = (1 : Int32)
            · replace hw := hw.1 c15
              refine lv_lookup (off := 34) (tgt := 94) hx hb dX10_way_60 (by decide) (by rw [c15]; rfl) (by decide) ?_
              refine lv_iload hx hb dX10_way_94 (lv_at hl 0 rfl) ?_
              refine x_callSi (rest := []) hC hI [] (mX8_stepsOf l D K  _ x11 hw) (va_cwS 1 hts gX10_way_X8_stepsOf rfl rfl rfl (by decide +kernel) ⟨(Nat.le_of_ble_eq_true rfl), (Nat.le_of_ble_eq_true rfl)⟩) rfl rfl (fun _ => rfl) rfl hl.1 rfl (Nat.le_of_ble_eq_true rfl) dX10_way_96 ⟨(Nat.le_of_ble_eq_true rfl), (Nat.le_of_ble_eq_true rfl)⟩ (fun r16 u H locs hw hI => ?_)
              try dsimp only at hw
              have hI : wI s D A (wX K q bits stops num unit strips caps draw oldest known ring im iold iknown iring hasIm letters tbits tlen tat fig shI shH shL shS seaOf queue snum cost_7 heap_8 wait_9 off les gre abv blw needed ocut opole) H locs := hI
              subst hQ
              exact x_iret (u := (cost_7, heap_8, wait_9)) hC hI hr hlk hw rfl dX10_way_99
            · replace hw := hw.2 c15
              refine lv_lookup (off := 40) (tgt := 100) hx hb dX10_way_60 (by decide) (by show Op.lookupswitch.offset [(0, 28), (1, 34)] 40 _ = 40; rw [lv_osw (a := 0) c13 rfl, lv_osw (a := 1) c15 rfl]; rfl) (by decide) ?_
              refine lv_aload_n hx hb dX10_way_100 rfl (lv_at hl 1 rfl) ?_
              refine x_get (v := .ref (q 62)) hC hI kX10_way_cX10 0 rfl rfl 8 (by decide) kX10_way_0 rfl rfl dX10_way_101 ?_
              refine lv_aload_n hx hb dX10_way_104 rfl (lv_at hl 1 rfl) ?_
              refine x_get (v := .ref (q 1)) hC hI kX10_way_cX10 0 rfl rfl 0 (by decide) kX10_way_2 rfl rfl dX10_way_105 ?_
              refine lv_iload_n hx hb dX10_way_108 rfl (lv_at hl 2 rfl) ?_
              refine x_callVi (rest := []) hC hI [62, 63, 64, 1, 2, 3] (mX8_leastFirstStep l D K (fun i => q (62 + i)) (fun i => q (1 + i)) _ a1 cost_7 heap_8 wait_9 bits stops num unit strips caps draw hw) (cwV 2 hts gX10_way_X8_leastFirstStep rfl rfl rfl (by decide +kernel) ⟨(Nat.le_of_ble_eq_true rfl), (Nat.le_of_ble_eq_true rfl)⟩) rfl rfl (fun _ => rfl) 62 6 rfl rfl rfl rfl hl.1 rfl (Nat.le_of_ble_eq_true rfl) dX10_way_109 ⟨(Nat.le_of_ble_eq_true rfl), (Nat.le_of_ble_eq_true rfl)⟩ (fun r17 u H locs hw hI => ?_)
              try dsimp only at hw
              have hI : wI s D A (wX K q bits stops num unit strips caps draw oldest known ring im iold iknown iring hasIm letters tbits tlen tat fig shI shH shL shS seaOf queue snum cost_7 heap_8 wait_9 off les gre abv blw needed ocut opole) H locs := hI
              subst hQ
              exact x_iret (u := (cost_7, heap_8, wait_9)) hC hI hr hlk hw rfl dX10_way_112
        · replace hw := hw.1 c12
          refine lv_bipush (v := (-4 : Int32)) hx hb dX10_way_56 (by decide) ?_
          subst hQ
          exact x_iret (u := (cost_7, heap_8, wait_9)) hC hI hr hlk hw rfl dX10_way_58
      · replace hw := hw.1 c6
        refine lv_iconst (v := (-1 : Int32)) hx hb dX10_way_23 (by decide) ?_
        subst hQ
        exact x_iret (u := (cost, heap, wait)) hC hI hr hlk hw rfl dX10_way_24
