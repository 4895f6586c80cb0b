def wX10_sea (a1 : Int32) (a2 : Int32) (bits : Nat → Int64) (seaOf : Nat → Int32) (queue : Nat → Int32) (post : Int32 → (Nat → Int32) → (Nat → Int32) → Int32 → Prop) : Prop := wX5_chart seaOf queue bits (fun (seaOf_c1 : Nat → Int32) (queue_c2 : Nat → Int32) (snum_c3 : Int32) => wX10_isIn a1 (0 : Int32) (snum_c3 - (1 : Int32)) (fun (r4 : Int32) => ((r4 = 0 → post (-1 : Int32) seaOf_c1 queue_c2 snum_c3) ∧ (¬ r4 = 0 → wX10_isIn a2 (0 : Int32) (2 : Int32) (fun (r6 : Int32) => ((r6 = 0 → post (-1 : Int32) seaOf_c1 queue_c2 snum_c3) ∧ (¬ r6 = 0 → ((a2 = (0 : Int32) → wX5_sizeOf a1 seaOf_c1 (fun (r9 : Int32) => post r9 seaOf_c1 queue_c2 snum_c3)) ∧ (¬ a2 = (0 : Int32) → ((a2 = (1 : Int32) → wX5_leastOf a1 seaOf_c1 (fun (r11 : Int32) => post r11 seaOf_c1 queue_c2 snum_c3)) ∧ (¬ a2 = (1 : Int32) → wX5_greatestOf a1 seaOf_c1 (fun (r12 : Int32) => post r12 seaOf_c1 queue_c2 snum_c3))))))))))))
def rmX10_sea : Room := { frames := 5, cells := 0, slots := 0, locals := 111 }
theorem kX10_sea_0 : Cond.fieldLink RX10 45 "GoreGlobe" "seas" "LGoreGlobe$Seas;" ∈ wsX10_sea := List.mem_cons_of_mem _ (List.mem_append_left _ (List.mem_append_left _ (List.mem_append_left _ (List.mem_append_left _ (List.mem_of_getElem? (i := 0) rfl)))))
theorem kX10_sea_cX10 : ∀ w ∈ wsX100, w ∈ wsX10_sea := fun _ h => List.mem_cons_of_mem _ (List.mem_append_left _ (List.mem_append_left _ (List.mem_append_right _ h)))
theorem kX10_sea_2 : Cond.fieldLink RX10 10 "GoreGlobe" "now" "LGoreGlobe$Globe;" ∈ wsX10_sea := List.mem_cons_of_mem _ (List.mem_append_left _ (List.mem_append_left _ (List.mem_append_left _ (List.mem_append_left _ (List.mem_of_getElem? (i := 1) rfl)))))
theorem kX10_sea_3 : Cond.fieldLink RX10 192 "GoreGlobe$Seas" "number" "I" ∈ wsX10_sea := List.mem_cons_of_mem _ (List.mem_append_left _ (List.mem_append_left _ (List.mem_append_left _ (List.mem_append_left _ (List.mem_of_getElem? (i := 2) rfl)))))
theorem kX10_sea_cX5 : ∀ w ∈ wsX50, w ∈ wsX10_sea := fun _ h => List.mem_cons_of_mem _ (List.mem_append_left _ (List.mem_append_right _ h))
set_option maxHeartbeats 4000000 in
set_option maxRecDepth 100000 in
theorem mX10_sea (l : Launch) (D : va_G) (K : Nat → ClassId) (q : Nat → Nat) (sz : Nat) (a1 : Int32) (a2 : Int32) (bits : Nat → Int64) (stops : Nat → Int32) (num : Int32) (unit : Int32) (strips : Int32) (caps : Int32) (draw : Int32) (oldest : Int32) (known : Int32) (ring : Nat → GS) (im : GS) (iold : Int32) (iknown : Int32) (iring : Nat → GS) (hasIm : Int32) (letters : Nat → Int32) (tbits : Nat → Int64) (tlen : Int32) (tat : Int32) (fig : Int32) (shI : Nat → Nat → Int64) (shH : Nat → Int32) (shL : Nat → Int32) (shS : Nat → Int32) (seaOf : Nat → Int32) (queue : Nat → Int32) (snum : Int32) (cost : Nat → Int32) (heap : Nat → Int64) (wait : Int32) (off : Int32) (les : Int32) (gre : Int32) (abv : Int64) (blw : Int64) (needed : Int32) (ocut : Int32) (opole : Int32)  {post : Int32 → (Nat → Int32) → (Nat → Int32) → Int32 → Prop} (hw : wX10_sea a1 a2 bits seaOf queue post) : Met l yX10_sea wsX10_sea rmX10_sea (va_Pc [.ref (q 0), .int a1, .int a2] (cP D K (fl (lX K q bits stops num unit strips caps draw oldest known ring im iold iknown iring hasIm letters tbits tlen tat fig shI shH shL shS seaOf queue snum cost heap wait off les gre abv blw needed ocut opole)) sz)) (va_Qi (fun (r : Int32) (u : (Nat → Int32) × (Nat → Int32) × Int32) => post r u.1 u.2.1 u.2.2) (fun u t => cQ D K (fl (lX K q bits stops num unit strips caps draw oldest known ring im iold iknown iring hasIm letters tbits tlen tat fig shI shH shL shS u.1 u.2.1 u.2.2 cost heap wait off les gre abv blw needed ocut opole)) (va_A (fl (lX K q bits stops num unit strips caps draw oldest known ring im iold iknown iring hasIm letters tbits tlen tat fig shI shH shL shS seaOf queue snum cost heap wait off les gre abv blw needed ocut opole)) sz) t) (va_A (fl (lX K q bits stops num unit strips caps draw oldest known ring im iold iknown iring hasIm letters tbits tlen tat fig shI shH shL shS seaOf queue snum cost heap wait off les gre abv blw needed ocut opole)) sz)) 0 0 (va_A (fl (lX K q bits stops num unit strips caps draw oldest known ring im iold iknown iring hasIm letters tbits tlen tat fig shI shH shL shS seaOf queue snum cost heap wait off les gre abv blw needed ocut opole)) sz) := by
  refine x_entry (cc := cX10_sea) (maxL := 3) (ret := (some .int)) (QA := fun A => va_Qi (fun (r : Int32) (u : (Nat → Int32) × (Nat → Int32) × Int32) => post r u.1 u.2.1 u.2.2) (fun u t => cQ D K (fl (lX K q bits stops num unit strips caps draw oldest known ring im iold iknown iring hasIm letters tbits tlen tat fig shI shH shL shS u.1 u.2.1 u.2.2 cost heap wait off les gre abv blw needed ocut opole)) A t) A) (plainFor_of_name (by decide)) rfl (Nat.le_of_ble_eq_true rfl) ?_
  intro p e s m args below meth c A ls H Q hQ hC hlk hr hnm hI hl
  obtain ⟨hx, hb, hml, hown, hts, hK, hA, hZ⟩ := id hC
  obtain ⟨locs, hlocs⟩ : ∃ y : List Loc, y = [] := ⟨_, rfl⟩
  rw [← hlocs] at hI ⊢
  clear hlocs
  replace hl : lv_has ls 3 [(0, .ref (q 0)), (1, .int a1), (2, .int a2)] := hl
  replace hw : wX5_chart seaOf queue bits (fun (seaOf_c1 : Nat → Int32) (queue_c2 : Nat → Int32) (snum_c3 : Int32) => wX10_isIn a1 (0 : Int32) (snum_c3 - (1 : Int32)) (fun (r4 : Int32) => ((r4 = 0 → post (-1 : Int32) seaOf_c1 queue_c2 snum_c3) ∧ (¬ r4 = 0 → wX10_isIn a2 (0 : Int32) (2 : Int32) (fun (r6 : Int32) => ((r6 = 0 → post (-1 : Int32) seaOf_c1 queue_c2 snum_c3) ∧ (¬ r6 = 0 → ((a2 = (0 : Int32) → wX5_sizeOf a1 seaOf_c1 (fun (r9 : Int32) => post r9 seaOf_c1 queue_c2 snum_c3)) ∧ (¬ a2 = (0 : Int32) → ((a2 = (1 : Int32) → wX5_leastOf a1 seaOf_c1 (fun (r11 : Int32) => post r11 seaOf_c1 queue_c2 snum_c3)) ∧ (¬ a2 = (1 : Int32) → wX5_greatestOf a1 seaOf_c1 (fun (r12 : Int32) => post r12 seaOf_c1 queue_c2 snum_c3)))))))))))) := hw
  refine lv_aload_n hx hb dX10_sea_0 rfl (lv_at hl 0 rfl) ?_
  refine x_get (v := .ref (q 59)) hC hI kX10_sea_cX10 0 rfl rfl 7 (by decide) kX10_sea_0 rfl rfl dX10_sea_1 ?_
  refine lv_aload_n hx hb dX10_sea_4 rfl (lv_at hl 0 rfl) ?_
  refine x_get (v := .ref (q 1)) hC hI kX10_sea_cX10 0 rfl rfl 0 (by decide) kX10_sea_2 rfl rfl dX10_sea_5 ?_
  refine x_callVv (rest := []) hC hI [23, 1] (mX5_chart l D K (fun i => q (59 + i)) (fun i => q (1 + i)) _ seaOf queue snum bits stops num unit strips caps draw hw) (cwV 1 hts gX10_sea_X5_chart rfl rfl rfl (by decide +kernel) ⟨(Nat.le_of_ble_eq_true rfl), (Nat.le_of_ble_eq_true rfl)⟩) (by decide) rfl (fun _ => rfl) 59 3 rfl rfl rfl rfl hl.1 rfl (Nat.le_of_ble_eq_true rfl) dX10_sea_8 ⟨(Nat.le_of_ble_eq_true rfl), (Nat.le_of_ble_eq_true rfl)⟩ (fun u H locs hw hI => ?_)
  obtain ⟨seaOf_c1, queue_c2, snum_c3⟩ := u
  try dsimp only at hw
  have hI : wI s D A (fl (lX K q bits stops num unit strips caps draw oldest known ring im iold iknown iring hasIm letters tbits tlen tat fig shI shH shL shS seaOf_c1 queue_c2 snum_c3 cost heap wait off les gre abv blw needed ocut opole)) H locs := hI
  refine lv_iload_n hx hb dX10_sea_11 rfl (lv_at hl 1 rfl) ?_
  refine lv_iconst (v := (0 : Int32)) hx hb dX10_sea_12 (by decide) ?_
  refine lv_aload_n hx hb dX10_sea_13 rfl (lv_at hl 0 rfl) ?_
  refine x_get (v := .ref (q 59)) hC hI kX10_sea_cX10 0 rfl rfl 7 (by decide) kX10_sea_0 rfl rfl dX10_sea_14 ?_
  refine x_get (v := .int snum_c3) hC hI kX10_sea_cX5 59 rfl rfl 2 (by decide) kX10_sea_3 rfl rfl dX10_sea_17 ?_
  refine lv_iconst (v := (1 : Int32)) hx hb dX10_sea_20 (by decide) ?_
  refine lv_isub hx hb dX10_sea_21 ?_
  refine x_callSi (rest := []) hC hI [] (mX10_isIn l D K  _ a1 (0 : Int32) (snum_c3 - (1 : Int32)) hw) (va_cwS 3 hts gX10_sea_X10_isIn rfl rfl rfl (by decide +kernel) ⟨(Nat.le_of_ble_eq_true rfl), (Nat.le_of_ble_eq_true rfl)⟩) (by decide) rfl (fun _ => rfl) rfl hl.1 rfl (Nat.le_of_ble_eq_true rfl) dX10_sea_22 ⟨(Nat.le_of_ble_eq_true rfl), (Nat.le_of_ble_eq_true rfl)⟩ (fun r4 u H locs hw hI => ?_)
  try dsimp only at hw
  have hI : wI s D A (fl (lX K q bits stops num unit strips caps draw oldest known ring im iold iknown iring hasIm letters tbits tlen tat fig shI shH shL shS seaOf_c1 queue_c2 snum_c3 cost heap wait off les gre abv blw needed ocut opole)) H locs := hI
  refine lv_if_eq (tgt := 37) hx hb dX10_sea_25 (by decide) (fun c5 => ?_) (fun c5 => ?_)
  · replace hw := hw.1 c5
    refine lv_iconst (v := (-1 : Int32)) hx hb dX10_sea_37 (by decide) ?_
    subst hQ
    exact x_iret (u := (seaOf_c1, queue_c2, snum_c3)) hC hI hr hlk hw rfl dX10_sea_38
  · replace hw := hw.2 c5
    refine lv_iload_n hx hb dX10_sea_28 rfl (lv_at hl 2 rfl) ?_
    refine lv_iconst (v := (0 : Int32)) hx hb dX10_sea_29 (by decide) ?_
    refine lv_iconst (v := (2 : Int32)) hx hb dX10_sea_30 (by decide) ?_
    refine x_callSi (rest := []) hC hI [] (mX10_isIn l D K  _ a2 (0 : Int32) (2 : Int32) hw) (va_cwS 3 hts gX10_sea_X10_isIn rfl rfl rfl (by decide +kernel) ⟨(Nat.le_of_ble_eq_true rfl), (Nat.le_of_ble_eq_true rfl)⟩) (by decide) rfl (fun _ => rfl) rfl hl.1 rfl (Nat.le_of_ble_eq_true rfl) dX10_sea_31 ⟨(Nat.le_of_ble_eq_true rfl), (Nat.le_of_ble_eq_true rfl)⟩ (fun r6 u H locs hw hI => ?_)
    try dsimp only at hw
    have hI : wI s D A (fl (lX K q bits stops num unit strips caps draw oldest known ring im iold iknown iring hasIm letters tbits tlen tat fig shI shH shL shS seaOf_c1 queue_c2 snum_c3 cost heap wait off les gre abv blw needed ocut opole)) H locs := hI
    refine lv_if_ne (tgt := 39) hx hb dX10_sea_34 (by decide) (fun c7 => ?_) (fun c7 => ?_)
    · replace hw := hw.2 c7
      refine lv_iload_n hx hb dX10_sea_39 rfl (lv_at hl 2 rfl) ?_
      by_cases c8 : a2 = (0 : Int32)
      · replace hw := hw.1 c8
        refine lv_lookup (off := 28) (tgt := 68) hx hb dX10_sea_40 (by decide) (by rw [c8]; rfl) (by decide) ?_
        refine lv_aload_n hx hb dX10_sea_68 rfl (lv_at hl 0 rfl) ?_
        refine x_get (v := .ref (q 59)) hC hI kX10_sea_cX10 0 rfl rfl 7 (by decide) kX10_sea_0 rfl rfl dX10_sea_69 ?_
        refine lv_iload_n hx hb dX10_sea_72 rfl (lv_at hl 1 rfl) ?_
        refine x_callVi (rest := []) hC hI [23] (mX5_sizeOf l D K (fun i => q (59 + i)) _ a1 seaOf_c1 queue_c2 snum_c3 hw) (cwV 1 hts gX10_sea_X5_sizeOf rfl rfl rfl (by decide +kernel) ⟨(Nat.le_of_ble_eq_true rfl), (Nat.le_of_ble_eq_true rfl)⟩) (by decide) rfl (fun _ => rfl) 59 3 rfl rfl rfl rfl hl.1 rfl (Nat.le_of_ble_eq_true rfl) dX10_sea_73 ⟨(Nat.le_of_ble_eq_true rfl), (Nat.le_of_ble_eq_true rfl)⟩ (fun r9 u H locs hw hI => ?_)
        try dsimp only at hw
        have hI : wI s D A (fl (lX K q bits stops num unit strips caps draw oldest known ring im iold iknown iring hasIm letters tbits tlen tat fig shI shH shL shS seaOf_c1 queue_c2 snum_c3 cost heap wait off les gre abv blw needed ocut opole)) H locs := hI
        subst hQ
        exact x_iret (u := (seaOf_c1, queue_c2, snum_c3)) hC hI hr hlk hw rfl dX10_sea_76
      · replace hw := hw.2 c8
        by_cases c10 : a2 = (1 : Int32)
        · replace hw := hw.1 c10
          refine lv_lookup (off := 37) (tgt := 77) hx hb dX10_sea_40 (by decide) (by rw [c10]; rfl) (by decide) ?_
          refine lv_aload_n hx hb dX10_sea_77 rfl (lv_at hl 0 rfl) ?_
          refine x_get (v := .ref (q 59)) hC hI kX10_sea_cX10 0 rfl rfl 7 (by decide) kX10_sea_0 rfl rfl dX10_sea_78 ?_
          refine lv_iload_n hx hb dX10_sea_81 rfl (lv_at hl 1 rfl) ?_
          refine x_callVi (rest := []) hC hI [23] (mX5_leastOf l D K (fun i => q (59 + i)) _ a1 seaOf_c1 queue_c2 snum_c3 hw) (cwV 1 hts gX10_sea_X5_leastOf rfl rfl rfl (by decide +kernel) ⟨(Nat.le_of_ble_eq_true rfl), (Nat.le_of_ble_eq_true rfl)⟩) (by decide) rfl (fun _ => rfl) 59 3 rfl rfl rfl rfl hl.1 rfl (Nat.le_of_ble_eq_true rfl) dX10_sea_82 ⟨(Nat.le_of_ble_eq_true rfl), (Nat.le_of_ble_eq_true rfl)⟩ (fun r11 u H locs hw hI => ?_)
          try dsimp only at hw
          have hI : wI s D A (fl (lX K q bits stops num unit strips caps draw oldest known ring im iold iknown iring hasIm letters tbits tlen tat fig shI shH shL shS seaOf_c1 queue_c2 snum_c3 cost heap wait off les gre abv blw needed ocut opole)) H locs := hI
          subst hQ
          exact x_iret (u := (seaOf_c1, queue_c2, snum_c3)) hC hI hr hlk hw rfl dX10_sea_85
        · replace hw := hw.2 c10
          refine lv_lookup (off := 46) (tgt := 86) hx hb dX10_sea_40 (by decide) (by show Op.lookupswitch.offset [(0, 28), (1, 37)] 46 _ = 46; rw [lv_osw (a := 0) c8 rfl, lv_osw (a := 1) c10 rfl]; rfl) (by decide) ?_
          refine lv_aload_n hx hb dX10_sea_86 rfl (lv_at hl 0 rfl) ?_
          refine x_get (v := .ref (q 59)) hC hI kX10_sea_cX10 0 rfl rfl 7 (by decide) kX10_sea_0 rfl rfl dX10_sea_87 ?_
          refine lv_iload_n hx hb dX10_sea_90 rfl (lv_at hl 1 rfl) ?_
          refine x_callVi (rest := []) hC hI [23] (mX5_greatestOf l D K (fun i => q (59 + i)) _ a1 seaOf_c1 queue_c2 snum_c3 hw) (cwV 1 hts gX10_sea_X5_greatestOf rfl rfl rfl (by decide +kernel) ⟨(Nat.le_of_ble_eq_true rfl), (Nat.le_of_ble_eq_true rfl)⟩) (by decide) rfl (fun _ => rfl) 59 3 rfl rfl rfl rfl hl.1 rfl (Nat.le_of_ble_eq_true rfl) dX10_sea_91 ⟨(Nat.le_of_ble_eq_true rfl), (Nat.le_of_ble_eq_true rfl)⟩ (fun r12 u H locs hw hI => ?_)
          try dsimp only at hw
          have hI : wI s D A (fl (lX K q bits stops num unit strips caps draw oldest known ring im iold iknown iring hasIm letters tbits tlen tat fig shI shH shL shS seaOf_c1 queue_c2 snum_c3 cost heap wait off les gre abv blw needed ocut opole)) H locs := hI
          subst hQ
          exact x_iret (u := (seaOf_c1, queue_c2, snum_c3)) hC hI hr hlk hw rfl dX10_sea_94
    · replace hw := hw.1 c7
      refine lv_iconst (v := (-1 : Int32)) hx hb dX10_sea_37 (by decide) ?_
      subst hQ
      exact x_iret (u := (seaOf_c1, queue_c2, snum_c3)) hC hI hr hlk hw rfl dX10_sea_38
