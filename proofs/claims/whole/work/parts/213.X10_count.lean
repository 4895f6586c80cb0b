def wX10_count (a1 : Int32) (bits : Nat → Int64) (unit : Int32) (strips : Int32) (caps : Int32) (known : Int32) (seaOf : Nat → Int32) (queue : Nat → Int32) (snum : Int32) (post : Int32 → (Nat → Int32) → (Nat → Int32) → Int32 → Prop) : Prop := ((a1 = (0 : Int32) → post unit seaOf queue snum) ∧ (¬ a1 = (0 : Int32) → ((a1 = (1 : Int32) → post strips seaOf queue snum) ∧ (¬ a1 = (1 : Int32) → ((a1 = (2 : Int32) → post caps seaOf queue snum) ∧ (¬ a1 = (2 : Int32) → ((a1 = (3 : Int32) → wX0_landNumber bits (fun (r5 : Int32) => post r5 seaOf queue snum)) ∧ (¬ a1 = (3 : Int32) → ((a1 = (4 : Int32) → wX5_chart seaOf queue bits (fun (seaOf_c7 : Nat → Int32) (queue_c8 : Nat → Int32) (snum_c9 : Int32) => post snum_c9 seaOf_c7 queue_c8 snum_c9)) ∧ (¬ a1 = (4 : Int32) → ((a1 = (5 : Int32) → wX0_landNumberOnStrips bits caps (fun (r11 : Int32) => post r11 seaOf queue snum)) ∧ (¬ a1 = (5 : Int32) → ((a1 = (6 : Int32) → post known seaOf queue snum) ∧ (¬ a1 = (6 : Int32) → post (-1 : Int32) seaOf queue snum))))))))))))))
def rmX10_count : Room := { frames := 5, cells := 0, slots := 0, locals := 111 }
theorem kX10_count_0 : Cond.fieldLink RX10 10 "GoreGlobe" "now" "LGoreGlobe$Globe;" ∈ wsX10_count := List.mem_cons_of_mem _ (List.mem_append_left _ (List.mem_append_left _ (List.mem_append_left _ (List.mem_append_left _ (List.mem_append_left _ (List.mem_of_getElem? (i := 0) rfl))))))
theorem kX10_count_cX10 : ∀ w ∈ wsX100, w ∈ wsX10_count := fun _ h => List.mem_cons_of_mem _ (List.mem_append_left _ (List.mem_append_left _ (List.mem_append_left _ (List.mem_append_right _ h))))
theorem kX10_count_2 : Cond.fieldLink RX10 111 "GoreGlobe$Globe" "unit" "I" ∈ wsX10_count := List.mem_cons_of_mem _ (List.mem_append_left _ (List.mem_append_left _ (List.mem_append_left _ (List.mem_append_left _ (List.mem_append_left _ (List.mem_of_getElem? (i := 1) rfl))))))
theorem kX10_count_cX0 : ∀ w ∈ wsX00, w ∈ wsX10_count := fun _ h => List.mem_cons_of_mem _ (List.mem_append_left _ (List.mem_append_left _ (List.mem_append_right _ h)))
theorem kX10_count_4 : Cond.fieldLink RX10 226 "GoreGlobe$Globe" "strips" "I" ∈ wsX10_count := List.mem_cons_of_mem _ (List.mem_append_left _ (List.mem_append_left _ (List.mem_append_left _ (List.mem_append_left _ (List.mem_append_left _ (List.mem_of_getElem? (i := 2) rfl))))))
theorem kX10_count_5 : Cond.fieldLink RX10 134 "GoreGlobe$Globe" "caps" "I" ∈ wsX10_count := List.mem_cons_of_mem _ (List.mem_append_left _ (List.mem_append_left _ (List.mem_append_left _ (List.mem_append_left _ (List.mem_append_left _ (List.mem_of_getElem? (i := 3) rfl))))))
theorem kX10_count_6 : Cond.fieldLink RX10 45 "GoreGlobe" "seas" "LGoreGlobe$Seas;" ∈ wsX10_count := List.mem_cons_of_mem _ (List.mem_append_left _ (List.mem_append_left _ (List.mem_append_left _ (List.mem_append_left _ (List.mem_append_left _ (List.mem_of_getElem? (i := 4) rfl))))))
theorem kX10_count_7 : Cond.fieldLink RX10 192 "GoreGlobe$Seas" "number" "I" ∈ wsX10_count := List.mem_cons_of_mem _ (List.mem_append_left _ (List.mem_append_left _ (List.mem_append_left _ (List.mem_append_left _ (List.mem_append_left _ (List.mem_of_getElem? (i := 5) rfl))))))
theorem kX10_count_cX5 : ∀ w ∈ wsX50, w ∈ wsX10_count := fun _ h => List.mem_cons_of_mem _ (List.mem_append_left _ (List.mem_append_right _ h))
theorem kX10_count_9 : Cond.fieldLink RX10 19 "GoreGlobe" "past" "LGoreGlobe$Past;" ∈ wsX10_count := List.mem_cons_of_mem _ (List.mem_append_left _ (List.mem_append_left _ (List.mem_append_left _ (List.mem_append_left _ (List.mem_append_left _ (List.mem_of_getElem? (i := 6) rfl))))))
theorem kX10_count_10 : Cond.fieldLink RX10 235 "GoreGlobe$Past" "known" "I" ∈ wsX10_count := List.mem_cons_of_mem _ (List.mem_append_left _ (List.mem_append_left _ (List.mem_append_left _ (List.mem_append_left _ (List.mem_append_left _ (List.mem_of_getElem? (i := 7) rfl))))))
theorem kX10_count_cX4 : ∀ w ∈ wsX40, w ∈ wsX10_count := fun _ h => List.mem_cons_of_mem _ (List.mem_append_right _ h)
set_option maxHeartbeats 4000000 in
set_option maxRecDepth 100000 in
theorem mX10_count (l : Launch) (D : va_G) (K : Nat → ClassId) (q : Nat → Nat) (sz : Nat) (a1 : Int32) (bits : Nat → Int64) (stops : Nat → Int32) (num : Int32) (unit : Int32) (strips : Int32) (caps : Int32) (draw : Int32) (oldest : Int32) (known : Int32) (ring : Nat → GS) (im : GS) (iold : Int32) (iknown : Int32) (iring : Nat → GS) (hasIm : Int32) (letters : Nat → Int32) (tbits : Nat → Int64) (tlen : Int32) (tat : Int32) (fig : Int32) (shI : Nat → Nat → Int64) (shH : Nat → Int32) (shL : Nat → Int32) (shS : Nat → Int32) (seaOf : Nat → Int32) (queue : Nat → Int32) (snum : Int32) (cost : Nat → Int32) (heap : Nat → Int64) (wait : Int32) (off : Int32) (les : Int32) (gre : Int32) (abv : Int64) (blw : Int64) (needed : Int32) (ocut : Int32) (opole : Int32)  {post : Int32 → (Nat → Int32) → (Nat → Int32) → Int32 → Prop} (hw : wX10_count a1 bits unit strips caps known seaOf queue snum post) : Met l yX10_count wsX10_count rmX10_count (va_Pc [.ref (q 0), .int a1] (cP D K (fl (lX K q bits stops num unit strips caps draw oldest known ring im iold iknown iring hasIm letters tbits tlen tat fig shI shH shL shS seaOf queue snum cost heap wait off les gre abv blw needed ocut opole)) sz)) (va_Qi (fun (r : Int32) (u : (Nat → Int32) × (Nat → Int32) × Int32) => post r u.1 u.2.1 u.2.2) (fun u t => cQ D K (fl (lX K q bits stops num unit strips caps draw oldest known ring im iold iknown iring hasIm letters tbits tlen tat fig shI shH shL shS u.1 u.2.1 u.2.2 cost heap wait off les gre abv blw needed ocut opole)) (va_A (fl (lX K q bits stops num unit strips caps draw oldest known ring im iold iknown iring hasIm letters tbits tlen tat fig shI shH shL shS seaOf queue snum cost heap wait off les gre abv blw needed ocut opole)) sz) t) (va_A (fl (lX K q bits stops num unit strips caps draw oldest known ring im iold iknown iring hasIm letters tbits tlen tat fig shI shH shL shS seaOf queue snum cost heap wait off les gre abv blw needed ocut opole)) sz)) 0 0 (va_A (fl (lX K q bits stops num unit strips caps draw oldest known ring im iold iknown iring hasIm letters tbits tlen tat fig shI shH shL shS seaOf queue snum cost heap wait off les gre abv blw needed ocut opole)) sz) := by
  refine x_entry (cc := cX10_count) (maxL := 2) (ret := (some .int)) (QA := fun A => va_Qi (fun (r : Int32) (u : (Nat → Int32) × (Nat → Int32) × Int32) => post r u.1 u.2.1 u.2.2) (fun u t => cQ D K (fl (lX K q bits stops num unit strips caps draw oldest known ring im iold iknown iring hasIm letters tbits tlen tat fig shI shH shL shS u.1 u.2.1 u.2.2 cost heap wait off les gre abv blw needed ocut opole)) A t) A) (plainFor_of_name (by decide)) rfl (Nat.le_of_ble_eq_true rfl) ?_
  intro p e s m args below meth c A ls H Q hQ hC hlk hr hnm hI hl
  obtain ⟨hx, hb, hml, hown, hts, hK, hA, hZ⟩ := id hC
  obtain ⟨locs, hlocs⟩ : ∃ y : List Loc, y = [] := ⟨_, rfl⟩
  rw [← hlocs] at hI ⊢
  clear hlocs
  replace hl : lv_has ls 2 [(0, .ref (q 0)), (1, .int a1)] := hl
  replace hw : ((a1 = (0 : Int32) → post unit seaOf queue snum) ∧ (¬ a1 = (0 : Int32) → ((a1 = (1 : Int32) → post strips seaOf queue snum) ∧ (¬ a1 = (1 : Int32) → ((a1 = (2 : Int32) → post caps seaOf queue snum) ∧ (¬ a1 = (2 : Int32) → ((a1 = (3 : Int32) → wX0_landNumber bits (fun (r5 : Int32) => post r5 seaOf queue snum)) ∧ (¬ a1 = (3 : Int32) → ((a1 = (4 : Int32) → wX5_chart seaOf queue bits (fun (seaOf_c7 : Nat → Int32) (queue_c8 : Nat → Int32) (snum_c9 : Int32) => post snum_c9 seaOf_c7 queue_c8 snum_c9)) ∧ (¬ a1 = (4 : Int32) → ((a1 = (5 : Int32) → wX0_landNumberOnStrips bits caps (fun (r11 : Int32) => post r11 seaOf queue snum)) ∧ (¬ a1 = (5 : Int32) → ((a1 = (6 : Int32) → post known seaOf queue snum) ∧ (¬ a1 = (6 : Int32) → post (-1 : Int32) seaOf queue snum)))))))))))))) := hw
  refine lv_iload_n hx hb dX10_count_0 rfl (lv_at hl 1 rfl) ?_
  by_cases c1 : a1 = (0 : Int32)
  · replace hw := hw.1 c1
    refine lv_tableIn (off := 43) (tgt := 44) hx hb dX10_count_1 (by rw [c1]; decide) (by rw [c1]; decide) (by rw [c1]; rfl) (by decide) ?_
    refine lv_aload_n hx hb dX10_count_44 rfl (lv_at hl 0 rfl) ?_
    refine x_get (v := .ref (q 1)) hC hI kX10_count_cX10 0 rfl rfl 0 (by decide) kX10_count_0 rfl rfl dX10_count_45 ?_
    refine x_get (v := .int unit) hC hI kX10_count_cX0 1 rfl rfl 3 (by decide) kX10_count_2 rfl rfl dX10_count_48 ?_
    subst hQ
    exact x_iret (u := (seaOf, queue, snum)) hC hI hr hlk hw rfl dX10_count_51
  · replace hw := hw.2 c1
    by_cases c2 : a1 = (1 : Int32)
    · replace hw := hw.1 c2
      refine lv_tableIn (off := 51) (tgt := 52) hx hb dX10_count_1 (by rw [c2]; decide) (by rw [c2]; decide) (by rw [c2]; rfl) (by decide) ?_
      refine lv_aload_n hx hb dX10_count_52 rfl (lv_at hl 0 rfl) ?_
      refine x_get (v := .ref (q 1)) hC hI kX10_count_cX10 0 rfl rfl 0 (by decide) kX10_count_0 rfl rfl dX10_count_53 ?_
      refine x_get (v := .int strips) hC hI kX10_count_cX0 1 rfl rfl 4 (by decide) kX10_count_4 rfl rfl dX10_count_56 ?_
      subst hQ
      exact x_iret (u := (seaOf, queue, snum)) hC hI hr hlk hw rfl dX10_count_59
    · replace hw := hw.2 c2
      by_cases c3 : a1 = (2 : Int32)
      · replace hw := hw.1 c3
        refine lv_tableIn (off := 59) (tgt := 60) hx hb dX10_count_1 (by rw [c3]; decide) (by rw [c3]; decide) (by rw [c3]; rfl) (by decide) ?_
        refine lv_aload_n hx hb dX10_count_60 rfl (lv_at hl 0 rfl) ?_
        refine x_get (v := .ref (q 1)) hC hI kX10_count_cX10 0 rfl rfl 0 (by decide) kX10_count_0 rfl rfl dX10_count_61 ?_
        refine x_get (v := .int caps) hC hI kX10_count_cX0 1 rfl rfl 5 (by decide) kX10_count_5 rfl rfl dX10_count_64 ?_
        subst hQ
        exact x_iret (u := (seaOf, queue, snum)) hC hI hr hlk hw rfl dX10_count_67
      · replace hw := hw.2 c3
        by_cases c4 : a1 = (3 : Int32)
        · replace hw := hw.1 c4
          refine lv_tableIn (off := 67) (tgt := 68) hx hb dX10_count_1 (by rw [c4]; decide) (by rw [c4]; decide) (by rw [c4]; rfl) (by decide) ?_
          refine lv_aload_n hx hb dX10_count_68 rfl (lv_at hl 0 rfl) ?_
          refine x_get (v := .ref (q 1)) hC hI kX10_count_cX10 0 rfl rfl 0 (by decide) kX10_count_0 rfl rfl dX10_count_69 ?_
          refine x_callVi (rest := []) hC hI [1] (mX0_landNumber l D K (fun i => q (1 + i)) _ bits stops num unit strips caps draw hw) (cwV 0 hts gX10_count_X0_landNumber rfl rfl rfl (by decide +kernel) ⟨(Nat.le_of_ble_eq_true rfl), (Nat.le_of_ble_eq_true rfl)⟩) (by decide) rfl (fun _ => rfl) 1 0 rfl rfl rfl rfl hl.1 rfl (Nat.le_of_ble_eq_true rfl) dX10_count_72 ⟨(Nat.le_of_ble_eq_true rfl), (Nat.le_of_ble_eq_true rfl)⟩ (fun r5 u H locs hw hI => ?_)
          try dsimp only at hw
          have hI : wI s D A (fl (lX K q bits stops num unit strips caps draw oldest known ring im iold iknown iring hasIm letters tbits tlen tat fig shI shH shL shS seaOf queue snum cost heap wait off les gre abv blw needed ocut opole)) H locs := hI
          subst hQ
          exact x_iret (u := (seaOf, queue, snum)) hC hI hr hlk hw rfl dX10_count_75
        · replace hw := hw.2 c4
          by_cases c6 : a1 = (4 : Int32)
          · replace hw := hw.1 c6
            refine lv_tableIn (off := 75) (tgt := 76) hx hb dX10_count_1 (by rw [c6]; decide) (by rw [c6]; decide) (by rw [c6]; rfl) (by decide) ?_
            refine lv_aload_n hx hb dX10_count_76 rfl (lv_at hl 0 rfl) ?_
            refine x_get (v := .ref (q 59)) hC hI kX10_count_cX10 0 rfl rfl 7 (by decide) kX10_count_6 rfl rfl dX10_count_77 ?_
            refine lv_aload_n hx hb dX10_count_80 rfl (lv_at hl 0 rfl) ?_
            refine x_get (v := .ref (q 1)) hC hI kX10_count_cX10 0 rfl rfl 0 (by decide) kX10_count_0 rfl rfl dX10_count_81 ?_
            refine x_callVv (rest := []) hC hI [23, 1] (mX5_chart l D K (fun i => q (59 + i)) (fun i => q (1 + i)) _ seaOf queue snum bits stops num unit strips caps draw hw) (cwV 1 hts gX10_count_X5_chart rfl rfl rfl (by decide +kernel) ⟨(Nat.le_of_ble_eq_true rfl), (Nat.le_of_ble_eq_true rfl)⟩) (by decide) rfl (fun _ => rfl) 59 3 rfl rfl rfl rfl hl.1 rfl (Nat.le_of_ble_eq_true rfl) dX10_count_84 ⟨(Nat.le_of_ble_eq_true rfl), (Nat.le_of_ble_eq_true rfl)⟩ (fun u H locs hw hI => ?_)
            obtain ⟨seaOf_c7, queue_c8, snum_c9⟩ := u
            try dsimp only at hw
            have hI : wI s D A (fl (lX K q bits stops num unit strips caps draw oldest known ring im iold iknown iring hasIm letters tbits tlen tat fig shI shH shL shS seaOf_c7 queue_c8 snum_c9 cost heap wait off les gre abv blw needed ocut opole)) H locs := hI
            refine lv_aload_n hx hb dX10_count_87 rfl (lv_at hl 0 rfl) ?_
            refine x_get (v := .ref (q 59)) hC hI kX10_count_cX10 0 rfl rfl 7 (by decide) kX10_count_6 rfl rfl dX10_count_88 ?_
            refine x_get (v := .int snum_c9) hC hI kX10_count_cX5 59 rfl rfl 2 (by decide) kX10_count_7 rfl rfl dX10_count_91 ?_
            subst hQ
            exact x_iret (u := (seaOf_c7, queue_c8, snum_c9)) hC hI hr hlk hw rfl dX10_count_94
          · replace hw := hw.2 c6
            by_cases c10 : a1 = (5 : Int32)
            · replace hw := hw.1 c10
              refine lv_tableIn (off := 94) (tgt := 95) hx hb dX10_count_1 (by rw [c10]; decide) (by rw [c10]; decide) (by rw [c10]; rfl) (by decide) ?_
              refine lv_aload_n hx hb dX10_count_95 rfl (lv_at hl 0 rfl) ?_
              refine x_get (v := .ref (q 1)) hC hI kX10_count_cX10 0 rfl rfl 0 (by decide) kX10_count_0 rfl rfl dX10_count_96 ?_
              refine x_callVi (rest := []) hC hI [1] (mX0_landNumberOnStrips l D K (fun i => q (1 + i)) _ bits stops num unit strips caps draw hw) (cwV 0 hts gX10_count_X0_landNumberOnStrips rfl rfl rfl (by decide +kernel) ⟨(Nat.le_of_ble_eq_true rfl), (Nat.le_of_ble_eq_true rfl)⟩) (by decide) rfl (fun _ => rfl) 1 0 rfl rfl rfl rfl hl.1 rfl (Nat.le_of_ble_eq_true rfl) dX10_count_99 ⟨(Nat.le_of_ble_eq_true rfl), (Nat.le_of_ble_eq_true rfl)⟩ (fun r11 u H locs hw hI => ?_)
              try dsimp only at hw
              have hI : wI s D A (fl (lX K q bits stops num unit strips caps draw oldest known ring im iold iknown iring hasIm letters tbits tlen tat fig shI shH shL shS seaOf queue snum cost heap wait off les gre abv blw needed ocut opole)) H locs := hI
              subst hQ
              exact x_iret (u := (seaOf, queue, snum)) hC hI hr hlk hw rfl dX10_count_102
            · replace hw := hw.2 c10
              by_cases c12 : a1 = (6 : Int32)
              · replace hw := hw.1 c12
                refine lv_tableIn (off := 102) (tgt := 103) hx hb dX10_count_1 (by rw [c12]; decide) (by rw [c12]; decide) (by rw [c12]; rfl) (by decide) ?_
                refine lv_aload_n hx hb dX10_count_103 rfl (lv_at hl 0 rfl) ?_
                refine x_get (v := .ref (q 4)) hC hI kX10_count_cX10 0 rfl rfl 1 (by decide) kX10_count_9 rfl rfl dX10_count_104 ?_
                refine x_get (v := .int known) hC hI kX10_count_cX4 4 rfl rfl 2 (by decide) kX10_count_10 rfl rfl dX10_count_107 ?_
                subst hQ
                exact x_iret (u := (seaOf, queue, snum)) hC hI hr hlk hw rfl dX10_count_110
              · replace hw := hw.2 c12
                refine lv_tableOut (tgt := 111) hx hb dX10_count_1 (by have nc1 := lv_neT c1 (a := 0) rfl; have nc2 := lv_neT c2 (a := 1) rfl; have nc3 := lv_neT c3 (a := 2) rfl; have nc4 := lv_neT c4 (a := 3) rfl; have nc6 := lv_neT c6 (a := 4) rfl; have nc10 := lv_neT c10 (a := 5) rfl; have nc12 := lv_neT c12 (a := 6) rfl; omega) (by decide) ?_
                refine lv_iconst (v := (-1 : Int32)) hx hb dX10_count_111 (by decide) ?_
                subst hQ
                exact x_iret (u := (seaOf, queue, snum)) hC hI hr hlk hw rfl dX10_count_112
