def wX10_place (a1 : Int32) (a2 : Int32) (a3 : Int32) (bits : Nat → Int64) (strips : Int32) (caps : Int32) (seaOf : Nat → Int32) (queue : Nat → Int32) (snum : Int32) (post : Int32 → (Nat → Int32) → (Nat → Int32) → Int32 → Prop) : Prop := wX1_isPlace a1 a2 (fun (r1 : Int32) => ((r1 = 0 → post (-1 : Int32) seaOf queue snum) ∧ (¬ r1 = 0 → wX10_isIn a3 (0 : Int32) (4 : Int32) (fun (r3 : Int32) => ((r3 = 0 → post (-1 : Int32) seaOf queue snum) ∧ (¬ r3 = 0 → wX1_numberOf a1 a2 (fun (r5 : Int32) => ((a3 = (0 : Int32) → post r5 seaOf queue snum) ∧ (¬ a3 = (0 : Int32) → ((a3 = (1 : Int32) → wX0_isLand r5 bits (fun (r8 : Int32) => ((r8 = 0 → post (0 : Int32) seaOf queue snum) ∧ (¬ r8 = 0 → post (1 : Int32) seaOf queue snum)))) ∧ (¬ a3 = (1 : Int32) → ((a3 = (2 : Int32) → wX5_chart seaOf queue bits (fun (seaOf_c11 : Nat → Int32) (queue_c12 : Nat → Int32) (snum_c13 : Int32) => vp_in r5 266 ∧ post (seaOf_c11 r5.toNatClampNeg) seaOf_c11 queue_c12 snum_c13)) ∧ (¬ a3 = (2 : Int32) → ((a3 = (3 : Int32) → wX0_isOnStrips a1 caps (fun (r16 : Int32) => ((r16 = 0 → post (-4 : Int32) seaOf queue snum) ∧ (¬ r16 = 0 → wX1_stepOf r5 (fun (r18 : Int32) => wX0_width strips (fun (r19 : Int32) => ¬ r19 = 0 ∧ post (r18 / r19) seaOf queue snum)))))) ∧ (¬ a3 = (3 : Int32) → wX0_isOnCap a1 caps (fun (r21 : Int32) => ((r21 = 0 → post (0 : Int32) seaOf queue snum) ∧ (¬ r21 = 0 → post (1 : Int32) seaOf queue snum))))))))))))))))))
def rmX10_place : Room := { frames := 5, cells := 0, slots := 0, locals := 111 }
theorem kX10_place_0 : Cond.fieldLink RX10 10 "GoreGlobe" "now" "LGoreGlobe$Globe;" ∈ wsX10_place := List.mem_cons_of_mem _ (List.mem_append_left _ (List.mem_append_left _ (List.mem_append_left _ (List.mem_append_left _ (List.mem_of_getElem? (i := 0) rfl)))))
theorem kX10_place_cX10 : ∀ w ∈ wsX100, w ∈ wsX10_place := fun _ h => List.mem_cons_of_mem _ (List.mem_append_left _ (List.mem_append_left _ (List.mem_append_right _ h)))
theorem kX10_place_2 : Cond.fieldLink RX10 45 "GoreGlobe" "seas" "LGoreGlobe$Seas;" ∈ wsX10_place := List.mem_cons_of_mem _ (List.mem_append_left _ (List.mem_append_left _ (List.mem_append_left _ (List.mem_append_left _ (List.mem_of_getElem? (i := 1) rfl)))))
theorem kX10_place_3 : Cond.fieldLink RX10 93 "GoreGlobe$Seas" "seaOf" "[I" ∈ wsX10_place := List.mem_cons_of_mem _ (List.mem_append_left _ (List.mem_append_left _ (List.mem_append_left _ (List.mem_append_left _ (List.mem_of_getElem? (i := 2) rfl)))))
theorem kX10_place_cX5 : ∀ w ∈ wsX50, w ∈ wsX10_place := fun _ h => List.mem_cons_of_mem _ (List.mem_append_left _ (List.mem_append_right _ h))
set_option maxHeartbeats 4000000 in
set_option maxRecDepth 100000 in
theorem mX10_place (l : Launch) (D : va_G) (K : Nat → ClassId) (q : Nat → Nat) (sz : Nat) (a1 : Int32) (a2 : Int32) (a3 : Int32) (bits : Nat → Int64) (stops : Nat → Int32) (num : Int32) (unit : Int32) (strips : Int32) (caps : Int32) (draw : Int32) (oldest : Int32) (known : Int32) (ring : Nat → GS) (im : GS) (iold : Int32) (iknown : Int32) (iring : Nat → GS) (hasIm : Int32) (letters : Nat → Int32) (tbits : Nat → Int64) (tlen : Int32) (tat : Int32) (fig : Int32) (shI : Nat → Nat → Int64) (shH : Nat → Int32) (shL : Nat → Int32) (shS : Nat → Int32) (seaOf : Nat → Int32) (queue : Nat → Int32) (snum : Int32) (cost : Nat → Int32) (heap : Nat → Int64) (wait : Int32) (off : Int32) (les : Int32) (gre : Int32) (abv : Int64) (blw : Int64) (needed : Int32) (ocut : Int32) (opole : Int32)  {post : Int32 → (Nat → Int32) → (Nat → Int32) → Int32 → Prop} (hw : wX10_place a1 a2 a3 bits strips caps seaOf queue snum post) : Met l yX10_place wsX10_place rmX10_place (va_Pc [.ref (q 0), .int a1, .int a2, .int a3] (cP D K (fl (lX K q bits stops num unit strips caps draw oldest known ring im iold iknown iring hasIm letters tbits tlen tat fig shI shH shL shS seaOf queue snum cost heap wait off les gre abv blw needed ocut opole)) sz)) (va_Qi (fun (r : Int32) (u : (Nat → Int32) × (Nat → Int32) × Int32) => post r u.1 u.2.1 u.2.2) (fun u t => cQ D K (fl (lX K q bits stops num unit strips caps draw oldest known ring im iold iknown iring hasIm letters tbits tlen tat fig shI shH shL shS u.1 u.2.1 u.2.2 cost heap wait off les gre abv blw needed ocut opole)) (va_A (fl (lX K q bits stops num unit strips caps draw oldest known ring im iold iknown iring hasIm letters tbits tlen tat fig shI shH shL shS seaOf queue snum cost heap wait off les gre abv blw needed ocut opole)) sz) t) (va_A (fl (lX K q bits stops num unit strips caps draw oldest known ring im iold iknown iring hasIm letters tbits tlen tat fig shI shH shL shS seaOf queue snum cost heap wait off les gre abv blw needed ocut opole)) sz)) 0 0 (va_A (fl (lX K q bits stops num unit strips caps draw oldest known ring im iold iknown iring hasIm letters tbits tlen tat fig shI shH shL shS seaOf queue snum cost heap wait off les gre abv blw needed ocut opole)) sz) := by
  refine x_entry (cc := cX10_place) (maxL := 5) (ret := (some .int)) (QA := fun A => va_Qi (fun (r : Int32) (u : (Nat → Int32) × (Nat → Int32) × Int32) => post r u.1 u.2.1 u.2.2) (fun u t => cQ D K (fl (lX K q bits stops num unit strips caps draw oldest known ring im iold iknown iring hasIm letters tbits tlen tat fig shI shH shL shS u.1 u.2.1 u.2.2 cost heap wait off les gre abv blw needed ocut opole)) A t) A) (plainFor_of_name (by decide)) rfl (Nat.le_of_ble_eq_true rfl) ?_
  intro p e s m args below meth c A ls H Q hQ hC hlk hr hnm hI hl
  obtain ⟨hx, hb, hml, hown, hts, hK, hA, hZ⟩ := id hC
  obtain ⟨locs, hlocs⟩ : ∃ y : List Loc, y = [] := ⟨_, rfl⟩
  rw [← hlocs] at hI ⊢
  clear hlocs
  replace hl : lv_has ls 5 [(0, .ref (q 0)), (1, .int a1), (2, .int a2), (3, .int a3)] := hl
  replace hw : wX1_isPlace a1 a2 (fun (r1 : Int32) => ((r1 = 0 → post (-1 : Int32) seaOf queue snum) ∧ (¬ r1 = 0 → wX10_isIn a3 (0 : Int32) (4 : Int32) (fun (r3 : Int32) => ((r3 = 0 → post (-1 : Int32) seaOf queue snum) ∧ (¬ r3 = 0 → wX1_numberOf a1 a2 (fun (r5 : Int32) => ((a3 = (0 : Int32) → post r5 seaOf queue snum) ∧ (¬ a3 = (0 : Int32) → ((a3 = (1 : Int32) → wX0_isLand r5 bits (fun (r8 : Int32) => ((r8 = 0 → post (0 : Int32) seaOf queue snum) ∧ (¬ r8 = 0 → post (1 : Int32) seaOf queue snum)))) ∧ (¬ a3 = (1 : Int32) → ((a3 = (2 : Int32) → wX5_chart seaOf queue bits (fun (seaOf_c11 : Nat → Int32) (queue_c12 : Nat → Int32) (snum_c13 : Int32) => vp_in r5 266 ∧ post (seaOf_c11 r5.toNatClampNeg) seaOf_c11 queue_c12 snum_c13)) ∧ (¬ a3 = (2 : Int32) → ((a3 = (3 : Int32) → wX0_isOnStrips a1 caps (fun (r16 : Int32) => ((r16 = 0 → post (-4 : Int32) seaOf queue snum) ∧ (¬ r16 = 0 → wX1_stepOf r5 (fun (r18 : Int32) => wX0_width strips (fun (r19 : Int32) => ¬ r19 = 0 ∧ post (r18 / r19) seaOf queue snum)))))) ∧ (¬ a3 = (3 : Int32) → wX0_isOnCap a1 caps (fun (r21 : Int32) => ((r21 = 0 → post (0 : Int32) seaOf queue snum) ∧ (¬ r21 = 0 → post (1 : Int32) seaOf queue snum)))))))))))))))))) := hw
  refine lv_iload_n hx hb dX10_place_0 rfl (lv_at hl 1 rfl) ?_
  refine lv_iload_n hx hb dX10_place_1 rfl (lv_at hl 2 rfl) ?_
  refine x_callSi (rest := []) hC hI [] (mX1_isPlace l D K  _ a1 a2 hw) (va_cwS 2 hts gX10_place_X1_isPlace rfl rfl rfl (by decide +kernel) ⟨(Nat.le_of_ble_eq_true rfl), (Nat.le_of_ble_eq_true rfl)⟩) (by decide) rfl (fun _ => rfl) rfl hl.1 rfl (Nat.le_of_ble_eq_true rfl) dX10_place_2 ⟨(Nat.le_of_ble_eq_true rfl), (Nat.le_of_ble_eq_true rfl)⟩ (fun r1 u H locs hw hI => ?_)
  try dsimp only at hw
  have hI : wI s D A (fl (lX K q bits stops num unit strips caps draw oldest known ring im iold iknown iring hasIm letters tbits tlen tat fig shI shH shL shS seaOf queue snum cost heap wait off les gre abv blw needed ocut opole)) H locs := hI
  refine lv_if_eq (tgt := 17) hx hb dX10_place_5 (by decide) (fun c2 => ?_) (fun c2 => ?_)
  · replace hw := hw.1 c2
    refine lv_iconst (v := (-1 : Int32)) hx hb dX10_place_17 (by decide) ?_
    subst hQ
    exact x_iret (u := (seaOf, queue, snum)) hC hI hr hlk hw rfl dX10_place_18
  · replace hw := hw.2 c2
    refine lv_iload_n hx hb dX10_place_8 rfl (lv_at hl 3 rfl) ?_
    refine lv_iconst (v := (0 : Int32)) hx hb dX10_place_9 (by decide) ?_
    refine lv_iconst (v := (4 : Int32)) hx hb dX10_place_10 (by decide) ?_
    refine x_callSi (rest := []) hC hI [] (mX10_isIn l D K  _ a3 (0 : Int32) (4 : Int32) hw) (va_cwS 3 hts gX10_place_X10_isIn rfl rfl rfl (by decide +kernel) ⟨(Nat.le_of_ble_eq_true rfl), (Nat.le_of_ble_eq_true rfl)⟩) (by decide) rfl (fun _ => rfl) rfl hl.1 rfl (Nat.le_of_ble_eq_true rfl) dX10_place_11 ⟨(Nat.le_of_ble_eq_true rfl), (Nat.le_of_ble_eq_true rfl)⟩ (fun r3 u H locs hw hI => ?_)
    try dsimp only at hw
    have hI : wI s D A (fl (lX K q bits stops num unit strips caps draw oldest known ring im iold iknown iring hasIm letters tbits tlen tat fig shI shH shL shS seaOf queue snum cost heap wait off les gre abv blw needed ocut opole)) H locs := hI
    refine lv_if_ne (tgt := 19) hx hb dX10_place_14 (by decide) (fun c4 => ?_) (fun c4 => ?_)
    · replace hw := hw.2 c4
      refine lv_iload_n hx hb dX10_place_19 rfl (lv_at hl 1 rfl) ?_
      refine lv_iload_n hx hb dX10_place_20 rfl (lv_at hl 2 rfl) ?_
      refine x_callSi (rest := []) hC hI [] (mX1_numberOf l D K  _ a1 a2 hw) (va_cwS 2 hts gX10_place_X1_numberOf rfl rfl rfl (by decide +kernel) ⟨(Nat.le_of_ble_eq_true rfl), (Nat.le_of_ble_eq_true rfl)⟩) (by decide) rfl (fun _ => rfl) rfl hl.1 rfl (Nat.le_of_ble_eq_true rfl) dX10_place_21 ⟨(Nat.le_of_ble_eq_true rfl), (Nat.le_of_ble_eq_true rfl)⟩ (fun r5 u H locs hw hI => ?_)
      try dsimp only at hw
      have hI : wI s D A (fl (lX K q bits stops num unit strips caps draw oldest known ring im iold iknown iring hasIm letters tbits tlen tat fig shI shH shL shS seaOf queue snum cost heap wait off les gre abv blw needed ocut opole)) H locs := hI
      refine lv_istore (lv' := [(4, .int r5), (0, .ref (q 0)), (1, .int a1), (2, .int a2), (3, .int a3)]) hx hb dX10_place_24 hl (by decide) rfl (fun ls hl => ?_)
      refine lv_iload_n hx hb dX10_place_26 rfl (lv_at hl 4 rfl) ?_
      by_cases c6 : a3 = (0 : Int32)
      · replace hw := hw.1 c6
        refine lv_tableIn (off := 29) (tgt := 56) hx hb dX10_place_27 (by rw [c6]; decide) (by rw [c6]; decide) (by rw [c6]; rfl) (by decide) ?_
        refine lv_iload hx hb dX10_place_56 (lv_at hl 0 rfl) ?_
        subst hQ
        exact x_iret (u := (seaOf, queue, snum)) hC hI hr hlk hw rfl dX10_place_58
      · replace hw := hw.2 c6
        by_cases c7 : a3 = (1 : Int32)
        · replace hw := hw.1 c7
          refine lv_tableIn (off := 32) (tgt := 59) hx hb dX10_place_27 (by rw [c7]; decide) (by rw [c7]; decide) (by rw [c7]; rfl) (by decide) ?_
          refine lv_aload_n hx hb dX10_place_59 rfl (lv_at hl 1 rfl) ?_
          refine x_get (v := .ref (q 1)) hC hI kX10_place_cX10 0 rfl rfl 0 (by decide) kX10_place_0 rfl rfl dX10_place_60 ?_
          refine lv_iload hx hb dX10_place_63 (lv_at hl 0 rfl) ?_
          refine x_callVi (rest := []) hC hI [1] (mX0_isLand l D K (fun i => q (1 + i)) _ r5 bits stops num unit strips caps draw hw) (cwV 1 hts gX10_place_X0_isLand rfl rfl rfl (by decide +kernel) ⟨(Nat.le_of_ble_eq_true rfl), (Nat.le_of_ble_eq_true rfl)⟩) (by decide) rfl (fun _ => rfl) 1 0 rfl rfl rfl rfl hl.1 rfl (Nat.le_of_ble_eq_true rfl) dX10_place_65 ⟨(Nat.le_of_ble_eq_true rfl), (Nat.le_of_ble_eq_true rfl)⟩ (fun r8 u H locs hw hI => ?_)
          try dsimp only at hw
          have hI : wI s D A (fl (lX K q bits stops num unit strips caps draw oldest known ring im iold iknown iring hasIm letters tbits tlen tat fig shI shH shL shS seaOf queue snum cost heap wait off les gre abv blw needed ocut opole)) H locs := hI
          refine lv_if_eq (tgt := 75) hx hb dX10_place_68 (by decide) (fun c9 => ?_) (fun c9 => ?_)
          · replace hw := hw.1 c9
            refine lv_iconst (v := (0 : Int32)) hx hb dX10_place_75 (by decide) ?_
            subst hQ
            exact x_iret (u := (seaOf, queue, snum)) hC hI hr hlk hw rfl dX10_place_76
          · replace hw := hw.2 c9
            refine lv_iconst (v := (1 : Int32)) hx hb dX10_place_71 (by decide) ?_
            refine lv_goto (tgt := 76) hx hb dX10_place_72 (by decide) ?_
            subst hQ
            exact x_iret (u := (seaOf, queue, snum)) hC hI hr hlk hw rfl dX10_place_76
        · replace hw := hw.2 c7
          by_cases c10 : a3 = (2 : Int32)
          · replace hw := hw.1 c10
            refine lv_tableIn (off := 50) (tgt := 77) hx hb dX10_place_27 (by rw [c10]; decide) (by rw [c10]; decide) (by rw [c10]; rfl) (by decide) ?_
            refine lv_aload_n hx hb dX10_place_77 rfl (lv_at hl 1 rfl) ?_
            refine x_get (v := .ref (q 59)) hC hI kX10_place_cX10 0 rfl rfl 7 (by decide) kX10_place_2 rfl rfl dX10_place_78 ?_
            refine lv_aload_n hx hb dX10_place_81 rfl (lv_at hl 1 rfl) ?_
            refine x_get (v := .ref (q 1)) hC hI kX10_place_cX10 0 rfl rfl 0 (by decide) kX10_place_0 rfl rfl dX10_place_82 ?_
            refine x_callVv (rest := []) hC hI [23, 1] (mX5_chart l D K (fun i => q (59 + i)) (fun i => q (1 + i)) _ seaOf queue snum bits stops num unit strips caps draw hw) (cwV 1 hts gX10_place_X5_chart rfl rfl rfl (by decide +kernel) ⟨(Nat.le_of_ble_eq_true rfl), (Nat.le_of_ble_eq_true rfl)⟩) (by decide) rfl (fun _ => rfl) 59 3 rfl rfl rfl rfl hl.1 rfl (Nat.le_of_ble_eq_true rfl) dX10_place_85 ⟨(Nat.le_of_ble_eq_true rfl), (Nat.le_of_ble_eq_true rfl)⟩ (fun u H locs hw hI => ?_)
            obtain ⟨seaOf_c11, queue_c12, snum_c13⟩ := u
            try dsimp only at hw
            have hI : wI s D A (fl (lX K q bits stops num unit strips caps draw oldest known ring im iold iknown iring hasIm letters tbits tlen tat fig shI shH shL shS seaOf_c11 queue_c12 snum_c13 cost heap wait off les gre abv blw needed ocut opole)) H locs := hI
            refine lv_aload_n hx hb dX10_place_88 rfl (lv_at hl 1 rfl) ?_
            refine x_get (v := .ref (q 59)) hC hI kX10_place_cX10 0 rfl rfl 7 (by decide) kX10_place_2 rfl rfl dX10_place_89 ?_
            refine x_get (v := .ref (q 60)) hC hI kX10_place_cX5 59 rfl rfl 0 (by decide) kX10_place_3 rfl rfl dX10_place_92 ?_
            refine lv_iload hx hb dX10_place_95 (lv_at hl 0 rfl) ?_
            obtain ⟨hc14, hw⟩ := hw
            refine x_iald (f := seaOf_c11) hC hI 60 rfl hc14 dX10_place_97 ?_
            subst hQ
            exact x_iret (u := (seaOf_c11, queue_c12, snum_c13)) hC hI hr hlk hw rfl dX10_place_98
          · replace hw := hw.2 c10
            by_cases c15 : a3 = (3 : Int32)
            · replace hw := hw.1 c15
              refine lv_tableIn (off := 72) (tgt := 99) hx hb dX10_place_27 (by rw [c15]; decide) (by rw [c15]; decide) (by rw [c15]; rfl) (by decide) ?_
              refine lv_aload_n hx hb dX10_place_99 rfl (lv_at hl 1 rfl) ?_
              refine x_get (v := .ref (q 1)) hC hI kX10_place_cX10 0 rfl rfl 0 (by decide) kX10_place_0 rfl rfl dX10_place_100 ?_
              refine lv_iload_n hx hb dX10_place_103 rfl (lv_at hl 2 rfl) ?_
              refine x_callVi (rest := []) hC hI [1] (mX0_isOnStrips l D K (fun i => q (1 + i)) _ a1 bits stops num unit strips caps draw hw) (cwV 1 hts gX10_place_X0_isOnStrips rfl rfl rfl (by decide +kernel) ⟨(Nat.le_of_ble_eq_true rfl), (Nat.le_of_ble_eq_true rfl)⟩) (by decide) rfl (fun _ => rfl) 1 0 rfl rfl rfl rfl hl.1 rfl (Nat.le_of_ble_eq_true rfl) dX10_place_104 ⟨(Nat.le_of_ble_eq_true rfl), (Nat.le_of_ble_eq_true rfl)⟩ (fun r16 u H locs hw hI => ?_)
              try dsimp only at hw
              have hI : wI s D A (fl (lX K q bits stops num unit strips caps draw oldest known ring im iold iknown iring hasIm letters tbits tlen tat fig shI shH shL shS seaOf queue snum cost heap wait off les gre abv blw needed ocut opole)) H locs := hI
              refine lv_if_eq (tgt := 126) hx hb dX10_place_107 (by decide) (fun c17 => ?_) (fun c17 => ?_)
              · replace hw := hw.1 c17
                refine lv_bipush (v := (-4 : Int32)) hx hb dX10_place_126 (by decide) ?_
                subst hQ
                exact x_iret (u := (seaOf, queue, snum)) hC hI hr hlk hw rfl dX10_place_128
              · replace hw := hw.2 c17
                refine lv_iload hx hb dX10_place_110 (lv_at hl 0 rfl) ?_
                refine x_callSi (rest := []) hC hI [] (mX1_stepOf l D K  _ r5 hw) (va_cwS 1 hts gX10_place_X1_stepOf rfl rfl rfl (by decide +kernel) ⟨(Nat.le_of_ble_eq_true rfl), (Nat.le_of_ble_eq_true rfl)⟩) (by decide) rfl (fun _ => rfl) rfl hl.1 rfl (Nat.le_of_ble_eq_true rfl) dX10_place_112 ⟨(Nat.le_of_ble_eq_true rfl), (Nat.le_of_ble_eq_true rfl)⟩ (fun r18 u H locs hw hI => ?_)
                try dsimp only at hw
                have hI : wI s D A (fl (lX K q bits stops num unit strips caps draw oldest known ring im iold iknown iring hasIm letters tbits tlen tat fig shI shH shL shS seaOf queue snum cost heap wait off les gre abv blw needed ocut opole)) H locs := hI
                refine lv_aload_n hx hb dX10_place_115 rfl (lv_at hl 1 rfl) ?_
                refine x_get (v := .ref (q 1)) hC hI kX10_place_cX10 0 rfl rfl 0 (by decide) kX10_place_0 rfl rfl dX10_place_116 ?_
                refine x_callVi (rest := [.int r18]) hC hI [1] (mX0_width l D K (fun i => q (1 + i)) _ bits stops num unit strips caps draw hw) (cwV 0 hts gX10_place_X0_width rfl rfl rfl (by decide +kernel) ⟨(Nat.le_of_ble_eq_true rfl), (Nat.le_of_ble_eq_true rfl)⟩) (by decide) rfl (fun _ => rfl) 1 0 rfl rfl rfl rfl hl.1 rfl (Nat.le_of_ble_eq_true rfl) dX10_place_119 ⟨(Nat.le_of_ble_eq_true rfl), (Nat.le_of_ble_eq_true rfl)⟩ (fun r19 u H locs hw hI => ?_)
                try dsimp only at hw
                have hI : wI s D A (fl (lX K q bits stops num unit strips caps draw oldest known ring im iold iknown iring hasIm letters tbits tlen tat fig shI shH shL shS seaOf queue snum cost heap wait off les gre abv blw needed ocut opole)) H locs := hI
                obtain ⟨hc20, hw⟩ := hw
                refine lv_idiv hx hb dX10_place_122 hc20 ?_
                refine lv_goto (tgt := 128) hx hb dX10_place_123 (by decide) ?_
                subst hQ
                exact x_iret (u := (seaOf, queue, snum)) hC hI hr hlk hw rfl dX10_place_128
            · replace hw := hw.2 c15
              refine lv_tableOut (tgt := 129) hx hb dX10_place_27 (by have nc6 := lv_neT c6 (a := 0) rfl; have nc7 := lv_neT c7 (a := 1) rfl; have nc10 := lv_neT c10 (a := 2) rfl; have nc15 := lv_neT c15 (a := 3) rfl; omega) (by decide) ?_
              refine lv_aload_n hx hb dX10_place_129 rfl (lv_at hl 1 rfl) ?_
              refine x_get (v := .ref (q 1)) hC hI kX10_place_cX10 0 rfl rfl 0 (by decide) kX10_place_0 rfl rfl dX10_place_130 ?_
              refine lv_iload_n hx hb dX10_place_133 rfl (lv_at hl 2 rfl) ?_
              refine x_callVi (rest := []) hC hI [1] (mX0_isOnCap l D K (fun i => q (1 + i)) _ a1 bits stops num unit strips caps draw hw) (cwV 1 hts gX10_place_X0_isOnCap rfl rfl rfl (by decide +kernel) ⟨(Nat.le_of_ble_eq_true rfl), (Nat.le_of_ble_eq_true rfl)⟩) (by decide) rfl (fun _ => rfl) 1 0 rfl rfl rfl rfl hl.1 rfl (Nat.le_of_ble_eq_true rfl) dX10_place_134 ⟨(Nat.le_of_ble_eq_true rfl), (Nat.le_of_ble_eq_true rfl)⟩ (fun r21 u H locs hw hI => ?_)
              try dsimp only at hw
              have hI : wI s D A (fl (lX K q bits stops num unit strips caps draw oldest known ring im iold iknown iring hasIm letters tbits tlen tat fig shI shH shL shS seaOf queue snum cost heap wait off les gre abv blw needed ocut opole)) H locs := hI
              refine lv_if_eq (tgt := 144) hx hb dX10_place_137 (by decide) (fun c22 => ?_) (fun c22 => ?_)
              · replace hw := hw.1 c22
                refine lv_iconst (v := (0 : Int32)) hx hb dX10_place_144 (by decide) ?_
                subst hQ
                exact x_iret (u := (seaOf, queue, snum)) hC hI hr hlk hw rfl dX10_place_145
              · replace hw := hw.2 c22
                refine lv_iconst (v := (1 : Int32)) hx hb dX10_place_140 (by decide) ?_
                refine lv_goto (tgt := 145) hx hb dX10_place_141 (by decide) ?_
                subst hQ
                exact x_iret (u := (seaOf, queue, snum)) hC hI hr hlk hw rfl dX10_place_145
    · replace hw := hw.1 c4
      refine lv_iconst (v := (-1 : Int32)) hx hb dX10_place_17 (by decide) ?_
      subst hQ
      exact x_iret (u := (seaOf, queue, snum)) hC hI hr hlk hw rfl dX10_place_18
