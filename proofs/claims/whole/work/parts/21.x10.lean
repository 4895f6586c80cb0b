def wX10_sea (a1 : Int32) (a2 : Int32) (bits : Nat → Int64) (seaOf : Nat → Int32) (queue : Nat → Int32) (post : Int32 → (Nat → Int32) → (Nat → Int32) → Int32 → Prop) : Prop := wX5_chart seaOf queue bits (fun (seaOf_1 : Nat → Int32) (queue_2 : Nat → Int32) (snum_3 : Int32) => wX10_isIn a1 (0 : Int32) (snum_3 - (1 : Int32)) (fun (r4 : Int32) => ((r4 = 0 → post (-1 : Int32) seaOf_1 queue_2 snum_3) ∧ (¬ r4 = 0 → wX10_isIn a2 (0 : Int32) (2 : Int32) (fun (r6 : Int32) => ((r6 = 0 → post (-1 : Int32) seaOf_1 queue_2 snum_3) ∧ (¬ r6 = 0 → ((a2 = (0 : Int32) → wX5_sizeOf a1 seaOf_1 (fun (r9 : Int32) => post r9 seaOf_1 queue_2 snum_3)) ∧ (¬ a2 = (0 : Int32) → ((a2 = (1 : Int32) → wX5_leastOf a1 seaOf_1 (fun (r11 : Int32) => post r11 seaOf_1 queue_2 snum_3)) ∧ (¬ a2 = (1 : Int32) → wX5_greatestOf a1 seaOf_1 (fun (r12 : Int32) => post r12 seaOf_1 queue_2 snum_3))))))))))))
def rmX10_sea : Room := { frames := 5, cells := 0, slots := 0, locals := 111 }
theorem kX10_sea_0 : Cond.fieldLink RX10 45 "GoreGlobe" "seas" "LGoreGlobe$Seas;" ∈ wsX10_sea := List.mem_cons_of_mem _ (List.mem_append_left _ (List.mem_append_left _ (List.mem_append_left _ (List.mem_append_left _ (List.mem_of_getElem? (i := 0) rfl)))))
theorem kX10_sea_cX10 : ∀ w ∈ wsX100, w ∈ wsX10_sea := fun _ h => List.mem_cons_of_mem _ (List.mem_append_left _ (List.mem_append_left _ (List.mem_append_right _ h)))
theorem kX10_sea_2 : Cond.fieldLink RX10 10 "GoreGlobe" "now" "LGoreGlobe$Globe;" ∈ wsX10_sea := List.mem_cons_of_mem _ (List.mem_append_left _ (List.mem_append_left _ (List.mem_append_left _ (List.mem_append_left _ (List.mem_of_getElem? (i := 1) rfl)))))
theorem kX10_sea_3 : Cond.fieldLink RX10 192 "GoreGlobe$Seas" "number" "I" ∈ wsX10_sea := List.mem_cons_of_mem _ (List.mem_append_left _ (List.mem_append_left _ (List.mem_append_left _ (List.mem_append_left _ (List.mem_of_getElem? (i := 2) rfl)))))
theorem kX10_sea_cX5 : ∀ w ∈ wsX50, w ∈ wsX10_sea := fun _ h => List.mem_cons_of_mem _ (List.mem_append_left _ (List.mem_append_right _ h))
set_option maxHeartbeats 4000000 in
set_option maxRecDepth 100000 in
theorem mX10_sea (l : Launch) (D : va_G) (K : Nat → ClassId) (q : Nat → Nat) (sz : Nat) (a1 : Int32) (a2 : Int32) (bits : Nat → Int64) (stops : Nat → Int32) (num : Int32) (unit : Int32) (strips : Int32) (caps : Int32) (draw : Int32) (oldest : Int32) (known : Int32) (ring : Nat → GS) (im : GS) (iold : Int32) (iknown : Int32) (iring : Nat → GS) (hasIm : Int32) (letters : Nat → Int32) (tbits : Nat → Int64) (tlen : Int32) (tat : Int32) (fig : Int32) (shI : Nat → Nat → Int64) (shH : Nat → Int32) (shL : Nat → Int32) (shS : Nat → Int32) (seaOf : Nat → Int32) (queue : Nat → Int32) (snum : Int32) (cost : Nat → Int32) (heap : Nat → Int64) (wait : Int32) (off : Int32) (les : Int32) (gre : Int32) (abv : Int64) (blw : Int64) (needed : Int32) (ocut : Int32) (opole : Int32)  {post : Int32 → (Nat → Int32) → (Nat → Int32) → Int32 → Prop} (hw : wX10_sea a1 a2 bits seaOf queue post) : Met l yX10_sea wsX10_sea rmX10_sea (va_Pc [.ref (q 0), .int a1, .int a2] (cP D K (wX K q bits stops num unit strips caps draw oldest known ring im iold iknown iring hasIm letters tbits tlen tat fig shI shH shL shS seaOf queue snum cost heap wait off les gre abv blw needed ocut opole) sz)) (va_Qi (fun (r : Int32) (u : (Nat → Int32) × (Nat → Int32) × Int32) => post r u.1 u.2.1 u.2.2) (fun u t => cQ D K (wX K q bits stops num unit strips caps draw oldest known ring im iold iknown iring hasIm letters tbits tlen tat fig shI shH shL shS u.1 u.2.1 u.2.2 cost heap wait off les gre abv blw needed ocut opole) (va_A (wX K q bits stops num unit strips caps draw oldest known ring im iold iknown iring hasIm letters tbits tlen tat fig shI shH shL shS seaOf queue snum cost heap wait off les gre abv blw needed ocut opole) sz) t) (va_A (wX K q bits stops num unit strips caps draw oldest known ring im iold iknown iring hasIm letters tbits tlen tat fig shI shH shL shS seaOf queue snum cost heap wait off les gre abv blw needed ocut opole) sz)) 0 0 (va_A (wX K q bits stops num unit strips caps draw oldest known ring im iold iknown iring hasIm letters tbits tlen tat fig shI shH shL shS seaOf queue snum cost heap wait off les gre abv blw needed ocut opole) sz) := by
  refine x_entry (cc := cX10_sea) (maxL := 3) (ret := (some .int)) (QA := fun A => va_Qi (fun (r : Int32) (u : (Nat → Int32) × (Nat → Int32) × Int32) => post r u.1 u.2.1 u.2.2) (fun u t => cQ D K (wX K q bits stops num unit strips caps draw oldest known ring im iold iknown iring hasIm letters tbits tlen tat fig shI shH shL shS u.1 u.2.1 u.2.2 cost heap wait off les gre abv blw needed ocut opole) A t) A) (plainFor_of_name (by decide)) rfl (Nat.le_of_ble_eq_true rfl) ?_
  intro p e s m args below meth c A ls H Q hQ hC hlk hr hnm hI hl
  obtain ⟨hx, hb, hml, hown, hts, hK, hA, hZ⟩ := id hC
  obtain ⟨locs, hlocs⟩ : ∃ y : List Loc, y = [] := ⟨_, rfl⟩
  rw [← hlocs] at hI ⊢
  clear hlocs
  replace hl : lv_has ls 3 [(0, .ref (q 0)), (1, .int a1), (2, .int a2)] := hl
  replace hw : wX5_chart seaOf queue bits (fun (seaOf_1 : Nat → Int32) (queue_2 : Nat → Int32) (snum_3 : Int32) => wX10_isIn a1 (0 : Int32) (snum_3 - (1 : Int32)) (fun (r4 : Int32) => ((r4 = 0 → post (-1 : Int32) seaOf_1 queue_2 snum_3) ∧ (¬ r4 = 0 → wX10_isIn a2 (0 : Int32) (2 : Int32) (fun (r6 : Int32) => ((r6 = 0 → post (-1 : Int32) seaOf_1 queue_2 snum_3) ∧ (¬ r6 = 0 → ((a2 = (0 : Int32) → wX5_sizeOf a1 seaOf_1 (fun (r9 : Int32) => post r9 seaOf_1 queue_2 snum_3)) ∧ (¬ a2 = (0 : Int32) → ((a2 = (1 : Int32) → wX5_leastOf a1 seaOf_1 (fun (r11 : Int32) => post r11 seaOf_1 queue_2 snum_3)) ∧ (¬ a2 = (1 : Int32) → wX5_greatestOf a1 seaOf_1 (fun (r12 : Int32) => post r12 seaOf_1 queue_2 snum_3)))))))))))) := hw
  refine lv_aload_n hx hb dX10_sea_0 rfl (lv_at hl 0 rfl) ?_
  refine x_get (v := .ref (q 59)) hC hI kX10_sea_cX10 0 rfl rfl 7 (by decide) kX10_sea_0 rfl rfl dX10_sea_1 ?_
  refine lv_aload_n hx hb dX10_sea_4 rfl (lv_at hl 0 rfl) ?_
  refine x_get (v := .ref (q 1)) hC hI kX10_sea_cX10 0 rfl rfl 0 (by decide) kX10_sea_2 rfl rfl dX10_sea_5 ?_
  refine x_callVv (rest := []) hC hI [59, 60, 61, 1, 2, 3] (mX5_chart l D K (fun i => q (59 + i)) (fun i => q (1 + i)) _ seaOf queue snum bits stops num unit strips caps draw hw) (cwV 1 hts gX10_sea_X5_chart rfl rfl rfl (by decide +kernel) ⟨(Nat.le_of_ble_eq_true rfl), (Nat.le_of_ble_eq_true rfl)⟩) rfl rfl (fun _ => rfl) 59 3 rfl rfl rfl rfl hl.1 rfl (Nat.le_of_ble_eq_true rfl) dX10_sea_8 ⟨(Nat.le_of_ble_eq_true rfl), (Nat.le_of_ble_eq_true rfl)⟩ (fun u H locs hw hI => ?_)
  obtain ⟨seaOf_1, queue_2, snum_3⟩ := u
  try dsimp only at hw
  have hI : wI s D A (wX K q bits stops num unit strips caps draw oldest known ring im iold iknown iring hasIm letters tbits tlen tat fig shI shH shL shS seaOf_1 queue_2 snum_3 cost heap wait off les gre abv blw needed ocut opole) H locs := hI
  refine lv_iload_n hx hb dX10_sea_11 rfl (lv_at hl 1 rfl) ?_
  refine lv_iconst (v := (0 : Int32)) hx hb dX10_sea_12 (by decide) ?_
  refine lv_aload_n hx hb dX10_sea_13 rfl (lv_at hl 0 rfl) ?_
  refine x_get (v := .ref (q 59)) hC hI kX10_sea_cX10 0 rfl rfl 7 (by decide) kX10_sea_0 rfl rfl dX10_sea_14 ?_
  refine x_get (v := .int snum_3) hC hI kX10_sea_cX5 59 rfl rfl 2 (by decide) kX10_sea_3 rfl rfl dX10_sea_17 ?_
  refine lv_iconst (v := (1 : Int32)) hx hb dX10_sea_20 (by decide) ?_
  refine lv_isub hx hb dX10_sea_21 ?_
  refine x_callSi (rest := []) hC hI [] (mX10_isIn l D K  _ a1 (0 : Int32) (snum_3 - (1 : Int32)) hw) (va_cwS 3 hts gX10_sea_X10_isIn rfl rfl rfl (by decide +kernel) ⟨(Nat.le_of_ble_eq_true rfl), (Nat.le_of_ble_eq_true rfl)⟩) rfl rfl (fun _ => rfl) rfl hl.1 rfl (Nat.le_of_ble_eq_true rfl) dX10_sea_22 ⟨(Nat.le_of_ble_eq_true rfl), (Nat.le_of_ble_eq_true rfl)⟩ (fun r4 u H locs hw hI => ?_)
  try dsimp only at hw
  have hI : wI s D A (wX K q bits stops num unit strips caps draw oldest known ring im iold iknown iring hasIm letters tbits tlen tat fig shI shH shL shS seaOf_1 queue_2 snum_3 cost heap wait off les gre abv blw needed ocut opole) H locs := hI
  refine lv_if_eq (tgt := 37) hx hb dX10_sea_25 (by decide) (fun c5 => ?_) (fun c5 => ?_)
  · replace hw := hw.1 c5
    refine lv_iconst (v := (-1 : Int32)) hx hb dX10_sea_37 (by decide) ?_
    subst hQ
    exact x_iret (u := (seaOf_1, queue_2, snum_3)) hC hI hr hlk hw rfl dX10_sea_38
  · replace hw := hw.2 c5
    refine lv_iload_n hx hb dX10_sea_28 rfl (lv_at hl 2 rfl) ?_
    refine lv_iconst (v := (0 : Int32)) hx hb dX10_sea_29 (by decide) ?_
    refine lv_iconst (v := (2 : Int32)) hx hb dX10_sea_30 (by decide) ?_
    refine x_callSi (rest := []) hC hI [] (mX10_isIn l D K  _ a2 (0 : Int32) (2 : Int32) hw) (va_cwS 3 hts gX10_sea_X10_isIn rfl rfl rfl (by decide +kernel) ⟨(Nat.le_of_ble_eq_true rfl), (Nat.le_of_ble_eq_true rfl)⟩) rfl rfl (fun _ => rfl) rfl hl.1 rfl (Nat.le_of_ble_eq_true rfl) dX10_sea_31 ⟨(Nat.le_of_ble_eq_true rfl), (Nat.le_of_ble_eq_true rfl)⟩ (fun r6 u H locs hw hI => ?_)
    try dsimp only at hw
    have hI : wI s D A (wX K q bits stops num unit strips caps draw oldest known ring im iold iknown iring hasIm letters tbits tlen tat fig shI shH shL shS seaOf_1 queue_2 snum_3 cost heap wait off les gre abv blw needed ocut opole) H locs := hI
    refine lv_if_ne (tgt := 39) hx hb dX10_sea_34 (by decide) (fun c7 => ?_) (fun c7 => ?_)
    · replace hw := hw.2 c7
      refine lv_iload_n hx hb dX10_sea_39 rfl (lv_at hl 2 rfl) ?_
      by_cases c8 : a2 = (0 : Int32)
      · replace hw := hw.1 c8
        refine lv_lookup (off := 28) (tgt := 68) hx hb dX10_sea_40 (by decide) (by rw [c8]; rfl) (by decide) ?_
        refine lv_aload_n hx hb dX10_sea_68 rfl (lv_at hl 0 rfl) ?_
        refine x_get (v := .ref (q 59)) hC hI kX10_sea_cX10 0 rfl rfl 7 (by decide) kX10_sea_0 rfl rfl dX10_sea_69 ?_
        refine lv_iload_n hx hb dX10_sea_72 rfl (lv_at hl 1 rfl) ?_
        refine x_callVi (rest := []) hC hI [59, 60, 61] (mX5_sizeOf l D K (fun i => q (59 + i)) _ a1 seaOf_1 queue_2 snum_3 hw) (cwV 1 hts gX10_sea_X5_sizeOf rfl rfl rfl (by decide +kernel) ⟨(Nat.le_of_ble_eq_true rfl), (Nat.le_of_ble_eq_true rfl)⟩) rfl rfl (fun _ => rfl) 59 3 rfl rfl rfl rfl hl.1 rfl (Nat.le_of_ble_eq_true rfl) dX10_sea_73 ⟨(Nat.le_of_ble_eq_true rfl), (Nat.le_of_ble_eq_true rfl)⟩ (fun r9 u H locs hw hI => ?_)
        try dsimp only at hw
        have hI : wI s D A (wX K q bits stops num unit strips caps draw oldest known ring im iold iknown iring hasIm letters tbits tlen tat fig shI shH shL shS seaOf_1 queue_2 snum_3 cost heap wait off les gre abv blw needed ocut opole) H locs := hI
        subst hQ
        exact x_iret (u := (seaOf_1, queue_2, snum_3)) hC hI hr hlk hw rfl dX10_sea_76
      · replace hw := hw.2 c8
        by_cases c10 : a2 = (1 : Int32)
        · replace hw := hw.1 c10
          refine lv_lookup (off := 37) (tgt := 77) hx hb dX10_sea_40 (by decide) (by rw [c10]; rfl) (by decide) ?_
          refine lv_aload_n hx hb dX10_sea_77 rfl (lv_at hl 0 rfl) ?_
          refine x_get (v := .ref (q 59)) hC hI kX10_sea_cX10 0 rfl rfl 7 (by decide) kX10_sea_0 rfl rfl dX10_sea_78 ?_
          refine lv_iload_n hx hb dX10_sea_81 rfl (lv_at hl 1 rfl) ?_
          refine x_callVi (rest := []) hC hI [59, 60, 61] (mX5_leastOf l D K (fun i => q (59 + i)) _ a1 seaOf_1 queue_2 snum_3 hw) (cwV 1 hts gX10_sea_X5_leastOf rfl rfl rfl (by decide +kernel) ⟨(Nat.le_of_ble_eq_true rfl), (Nat.le_of_ble_eq_true rfl)⟩) rfl rfl (fun _ => rfl) 59 3 rfl rfl rfl rfl hl.1 rfl (Nat.le_of_ble_eq_true rfl) dX10_sea_82 ⟨(Nat.le_of_ble_eq_true rfl), (Nat.le_of_ble_eq_true rfl)⟩ (fun r11 u H locs hw hI => ?_)
          try dsimp only at hw
          have hI : wI s D A (wX K q bits stops num unit strips caps draw oldest known ring im iold iknown iring hasIm letters tbits tlen tat fig shI shH shL shS seaOf_1 queue_2 snum_3 cost heap wait off les gre abv blw needed ocut opole) H locs := hI
          subst hQ
          exact x_iret (u := (seaOf_1, queue_2, snum_3)) hC hI hr hlk hw rfl dX10_sea_85
        · replace hw := hw.2 c10
          refine lv_lookup (off := 46) (tgt := 86) hx hb dX10_sea_40 (by decide) (by show Op.lookupswitch.offset [(0, 28), (1, 37)] 46 _ = 46; rw [lv_osw (a := 0) c8 rfl, lv_osw (a := 1) c10 rfl]; rfl) (by decide) ?_
          refine lv_aload_n hx hb dX10_sea_86 rfl (lv_at hl 0 rfl) ?_
          refine x_get (v := .ref (q 59)) hC hI kX10_sea_cX10 0 rfl rfl 7 (by decide) kX10_sea_0 rfl rfl dX10_sea_87 ?_
          refine lv_iload_n hx hb dX10_sea_90 rfl (lv_at hl 1 rfl) ?_
          refine x_callVi (rest := []) hC hI [59, 60, 61] (mX5_greatestOf l D K (fun i => q (59 + i)) _ a1 seaOf_1 queue_2 snum_3 hw) (cwV 1 hts gX10_sea_X5_greatestOf rfl rfl rfl (by decide +kernel) ⟨(Nat.le_of_ble_eq_true rfl), (Nat.le_of_ble_eq_true rfl)⟩) rfl rfl (fun _ => rfl) 59 3 rfl rfl rfl rfl hl.1 rfl (Nat.le_of_ble_eq_true rfl) dX10_sea_91 ⟨(Nat.le_of_ble_eq_true rfl), (Nat.le_of_ble_eq_true rfl)⟩ (fun r12 u H locs hw hI => ?_)
          try dsimp only at hw
          have hI : wI s D A (wX K q bits stops num unit strips caps draw oldest known ring im iold iknown iring hasIm letters tbits tlen tat fig shI shH shL shS seaOf_1 queue_2 snum_3 cost heap wait off les gre abv blw needed ocut opole) H locs := hI
          subst hQ
          exact x_iret (u := (seaOf_1, queue_2, snum_3)) hC hI hr hlk hw rfl dX10_sea_94
    · replace hw := hw.1 c7
      refine lv_iconst (v := (-1 : Int32)) hx hb dX10_sea_37 (by decide) ?_
      subst hQ
      exact x_iret (u := (seaOf_1, queue_2, snum_3)) hC hI hr hlk hw rfl dX10_sea_38

def wX10_stop (a1 : Int32) (stops : Nat → Int32) (num : Int32) (post : Int32 → Prop) : Prop := ((0 ≤ a1 → ((num ≤ a1 → post (-4 : Int32)) ∧ (¬ num ≤ a1 → vp_in a1 8 ∧ post (stops a1.toNatClampNeg)))) ∧ (¬ 0 ≤ a1 → post (-1 : Int32)))
def rmX10_stop : Room := { frames := 0, cells := 0, slots := 0, locals := 0 }
theorem kX10_stop_0 : Cond.fieldLink RX10 10 "GoreGlobe" "now" "LGoreGlobe$Globe;" ∈ wsX10_stop := List.mem_cons_of_mem _ (List.mem_append_left _ (List.mem_append_left _ (List.mem_of_getElem? (i := 0) rfl)))
theorem kX10_stop_cX10 : ∀ w ∈ wsX100, w ∈ wsX10_stop := fun _ h => List.mem_cons_of_mem _ (List.mem_append_left _ (List.mem_append_right _ h))
theorem kX10_stop_2 : Cond.fieldLink RX10 204 "GoreGlobe$Globe" "stopNumber" "I" ∈ wsX10_stop := List.mem_cons_of_mem _ (List.mem_append_left _ (List.mem_append_left _ (List.mem_of_getElem? (i := 1) rfl)))
theorem kX10_stop_cX0 : ∀ w ∈ wsX00, w ∈ wsX10_stop := fun _ h => List.mem_cons_of_mem _ (List.mem_append_right _ h)
theorem kX10_stop_4 : Cond.fieldLink RX10 207 "GoreGlobe$Globe" "stops" "[I" ∈ wsX10_stop := List.mem_cons_of_mem _ (List.mem_append_left _ (List.mem_append_left _ (List.mem_of_getElem? (i := 2) rfl)))
set_option maxHeartbeats 4000000 in
set_option maxRecDepth 100000 in
theorem mX10_stop (l : Launch) (D : va_G) (K : Nat → ClassId) (q : Nat → Nat) (sz : Nat) (a1 : Int32) (bits : Nat → Int64) (stops : Nat → Int32) (num : Int32) (unit : Int32) (strips : Int32) (caps : Int32) (draw : Int32) (oldest : Int32) (known : Int32) (ring : Nat → GS) (im : GS) (iold : Int32) (iknown : Int32) (iring : Nat → GS) (hasIm : Int32) (letters : Nat → Int32) (tbits : Nat → Int64) (tlen : Int32) (tat : Int32) (fig : Int32) (shI : Nat → Nat → Int64) (shH : Nat → Int32) (shL : Nat → Int32) (shS : Nat → Int32) (seaOf : Nat → Int32) (queue : Nat → Int32) (snum : Int32) (cost : Nat → Int32) (heap : Nat → Int64) (wait : Int32) (off : Int32) (les : Int32) (gre : Int32) (abv : Int64) (blw : Int64) (needed : Int32) (ocut : Int32) (opole : Int32)  {post : Int32 → Prop} (hw : wX10_stop a1 stops num post) : Met l yX10_stop wsX10_stop rmX10_stop (va_Pc [.ref (q 0), .int a1] (cP D K (wX K q bits stops num unit strips caps draw oldest known ring im iold iknown iring hasIm letters tbits tlen tat fig shI shH shL shS seaOf queue snum cost heap wait off les gre abv blw needed ocut opole) sz)) (va_Qi (fun (r : Int32) (u : Unit) => post r) (fun u t => cQ D K (wX K q bits stops num unit strips caps draw oldest known ring im iold iknown iring hasIm letters tbits tlen tat fig shI shH shL shS seaOf queue snum cost heap wait off les gre abv blw needed ocut opole) (va_A (wX K q bits stops num unit strips caps draw oldest known ring im iold iknown iring hasIm letters tbits tlen tat fig shI shH shL shS seaOf queue snum cost heap wait off les gre abv blw needed ocut opole) sz) t) (va_A (wX K q bits stops num unit strips caps draw oldest known ring im iold iknown iring hasIm letters tbits tlen tat fig shI shH shL shS seaOf queue snum cost heap wait off les gre abv blw needed ocut opole) sz)) 0 0 (va_A (wX K q bits stops num unit strips caps draw oldest known ring im iold iknown iring hasIm letters tbits tlen tat fig shI shH shL shS seaOf queue snum cost heap wait off les gre abv blw needed ocut opole) sz) := by
  refine x_entry (cc := cX10_stop) (maxL := 2) (ret := (some .int)) (QA := fun A => va_Qi (fun (r : Int32) (u : Unit) => post r) (fun u t => cQ D K (wX K q bits stops num unit strips caps draw oldest known ring im iold iknown iring hasIm letters tbits tlen tat fig shI shH shL shS seaOf queue snum cost heap wait off les gre abv blw needed ocut opole) A t) A) (plainFor_of_name (by decide)) rfl (Nat.le_of_ble_eq_true rfl) ?_
  intro p e s m args below meth c A ls H Q hQ hC hlk hr hnm hI hl
  obtain ⟨hx, hb, hml, hown, hts, hK, hA, hZ⟩ := id hC
  obtain ⟨locs, hlocs⟩ : ∃ y : List Loc, y = [] := ⟨_, rfl⟩
  rw [← hlocs] at hI ⊢
  clear hlocs
  replace hl : lv_has ls 2 [(0, .ref (q 0)), (1, .int a1)] := hl
  replace hw : ((0 ≤ a1 → ((num ≤ a1 → post (-4 : Int32)) ∧ (¬ num ≤ a1 → vp_in a1 8 ∧ post (stops a1.toNatClampNeg)))) ∧ (¬ 0 ≤ a1 → post (-1 : Int32))) := hw
  refine lv_iload_n hx hb dX10_stop_0 rfl (lv_at hl 1 rfl) ?_
  refine lv_if_ge (tgt := 6) hx hb dX10_stop_1 (by decide) (fun c1 => ?_) (fun c1 => ?_)
  · replace hw := hw.1 c1
    refine lv_iload_n hx hb dX10_stop_6 rfl (lv_at hl 1 rfl) ?_
    refine lv_aload_n hx hb dX10_stop_7 rfl (lv_at hl 0 rfl) ?_
    refine x_get (v := .ref (q 1)) hC hI kX10_stop_cX10 0 rfl rfl 0 (by decide) kX10_stop_0 rfl rfl dX10_stop_8 ?_
    refine x_get (v := .int num) hC hI kX10_stop_cX0 1 rfl rfl 2 (by decide) kX10_stop_2 rfl rfl dX10_stop_11 ?_
    refine lv_icmp_ge (tgt := 29) hx hb dX10_stop_14 (by decide) (fun c2 => ?_) (fun c2 => ?_)
    · replace hw := hw.1 c2
      refine lv_bipush (v := (-4 : Int32)) hx hb dX10_stop_29 (by decide) ?_
      subst hQ
      exact x_iret (u := ()) hC hI hr hlk hw rfl dX10_stop_31
    · replace hw := hw.2 c2
      refine lv_aload_n hx hb dX10_stop_17 rfl (lv_at hl 0 rfl) ?_
      refine x_get (v := .ref (q 1)) hC hI kX10_stop_cX10 0 rfl rfl 0 (by decide) kX10_stop_0 rfl rfl dX10_stop_18 ?_
      refine x_get (v := .ref (q 3)) hC hI kX10_stop_cX0 1 rfl rfl 1 (by decide) kX10_stop_4 rfl rfl dX10_stop_21 ?_
      refine lv_iload_n hx hb dX10_stop_24 rfl (lv_at hl 1 rfl) ?_
      obtain ⟨hc3, hw⟩ := hw
      refine x_iald (f := stops) hC hI 3 rfl hc3 dX10_stop_25 ?_
      refine lv_goto (tgt := 31) hx hb dX10_stop_26 (by decide) ?_
      subst hQ
      exact x_iret (u := ()) hC hI hr hlk hw rfl dX10_stop_31
  · replace hw := hw.2 c1
    refine lv_iconst (v := (-1 : Int32)) hx hb dX10_stop_4 (by decide) ?_
    subst hQ
    exact x_iret (u := ()) hC hI hr hlk hw rfl dX10_stop_5

def wX10_routeLength  (bits : Nat → Int64) (stops : Nat → Int32) (num : Int32) (unit : Int32) (cost : Nat → Int32) (heap : Nat → Int64) (wait : Int32) (post : Int32 → (Nat → Int32) → (Nat → Int64) → Int32 → Prop) : Prop := (∃ (I4 : Int32 → Int32 → (Nat → Int32) → (Nat → Int64) → Int32 → Prop) (mu4 : Int32 → Int32 → (Nat → Int32) → (Nat → Int64) → Int32 → Nat), I4 (0 : Int32) (1 : Int32) cost heap wait ∧ ∀ (l1_4 : Int32) (l2_4 : Int32) (cost_4 : Nat → Int32) (heap_4 : Nat → Int64) (wait_4 : Int32), I4 l1_4 l2_4 cost_4 heap_4 wait_4 → ((num ≤ l2_4 → post l1_4 cost_4 heap_4 wait_4) ∧ (¬ num ≤ l2_4 → vp_in (l2_4 - (1 : Int32)) 8 ∧ ∀ x3 : Int32, x3 = stops (l2_4 - (1 : Int32)).toNatClampNeg → vp_in l2_4 8 ∧ ∀ x5 : Int32, x5 = stops l2_4.toNatClampNeg → wX8_spread x3 x5 cost_4 heap_4 bits unit (fun (cost_6 : Nat → Int32) (heap_7 : Nat → Int64) (wait_8 : Int32) => vp_in x5 266 ∧ ∀ x10 : Int32, x10 = cost_6 x5.toNatClampNeg → ((x10 = (2147483647 : Int32) → post (-4 : Int32) cost_6 heap_7 wait_8) ∧ (¬ x10 = (2147483647 : Int32) → wX8_farOf x10 (fun (r12 : Int32) => ∀ x13 : Int32, x13 = l1_4 + r12 → ∀ x14 : Int32, x14 = l2_4 + 1 → (I4 x13 x14 cost_6 heap_7 wait_8 ∧ mu4 x13 x14 cost_6 heap_7 wait_8 < mu4 l1_4 l2_4 cost_4 heap_4 wait_4))))))))
def rmX10_routeLength : Room := { frames := 5, cells := 0, slots := 0, locals := 116 }
theorem kX10_routeLength_0 : Cond.fieldLink RX10 10 "GoreGlobe" "now" "LGoreGlobe$Globe;" ∈ wsX10_routeLength := List.mem_cons_of_mem _ (List.mem_append_left _ (List.mem_append_left _ (List.mem_append_left _ (List.mem_append_left _ (List.mem_of_getElem? (i := 0) rfl)))))
theorem kX10_routeLength_cX10 : ∀ w ∈ wsX100, w ∈ wsX10_routeLength := fun _ h => List.mem_cons_of_mem _ (List.mem_append_left _ (List.mem_append_left _ (List.mem_append_right _ h)))
theorem kX10_routeLength_2 : Cond.fieldLink RX10 204 "GoreGlobe$Globe" "stopNumber" "I" ∈ wsX10_routeLength := List.mem_cons_of_mem _ (List.mem_append_left _ (List.mem_append_left _ (List.mem_append_left _ (List.mem_append_left _ (List.mem_of_getElem? (i := 1) rfl)))))
theorem kX10_routeLength_cX0 : ∀ w ∈ wsX00, w ∈ wsX10_routeLength := fun _ h => List.mem_cons_of_mem _ (List.mem_append_left _ (List.mem_append_right _ h))
theorem kX10_routeLength_4 : Cond.fieldLink RX10 207 "GoreGlobe$Globe" "stops" "[I" ∈ wsX10_routeLength := List.mem_cons_of_mem _ (List.mem_append_left _ (List.mem_append_left _ (List.mem_append_left _ (List.mem_append_left _ (List.mem_of_getElem? (i := 2) rfl)))))
theorem kX10_routeLength_5 : Cond.fieldLink RX10 52 "GoreGlobe" "ways" "LGoreGlobe$Ways;" ∈ wsX10_routeLength := List.mem_cons_of_mem _ (List.mem_append_left _ (List.mem_append_left _ (List.mem_append_left _ (List.mem_append_left _ (List.mem_of_getElem? (i := 3) rfl)))))
theorem kX10_routeLength_6 : Cond.fieldLink RX10 178 "GoreGlobe$Ways" "cost" "[I" ∈ wsX10_routeLength := List.mem_cons_of_mem _ (List.mem_append_left _ (List.mem_append_left _ (List.mem_append_left _ (List.mem_append_left _ (List.mem_of_getElem? (i := 4) rfl)))))
theorem kX10_routeLength_cX8 : ∀ w ∈ wsX80, w ∈ wsX10_routeLength := fun _ h => List.mem_cons_of_mem _ (List.mem_append_right _ h)
theorem kX10_routeLength_8 : Cond.constant RX10 181 (2147483647) ∈ wsX10_routeLength := List.mem_cons_of_mem _ (List.mem_append_left _ (List.mem_append_left _ (List.mem_append_left _ (List.mem_append_left _ (List.mem_of_getElem? (i := 5) rfl)))))
set_option maxHeartbeats 4000000 in
set_option maxRecDepth 100000 in
theorem mX10_routeLength (l : Launch) (D : va_G) (K : Nat → ClassId) (q : Nat → Nat) (sz : Nat)  (bits : Nat → Int64) (stops : Nat → Int32) (num : Int32) (unit : Int32) (strips : Int32) (caps : Int32) (draw : Int32) (oldest : Int32) (known : Int32) (ring : Nat → GS) (im : GS) (iold : Int32) (iknown : Int32) (iring : Nat → GS) (hasIm : Int32) (letters : Nat → Int32) (tbits : Nat → Int64) (tlen : Int32) (tat : Int32) (fig : Int32) (shI : Nat → Nat → Int64) (shH : Nat → Int32) (shL : Nat → Int32) (shS : Nat → Int32) (seaOf : Nat → Int32) (queue : Nat → Int32) (snum : Int32) (cost : Nat → Int32) (heap : Nat → Int64) (wait : Int32) (off : Int32) (les : Int32) (gre : Int32) (abv : Int64) (blw : Int64) (needed : Int32) (ocut : Int32) (opole : Int32)  {post : Int32 → (Nat → Int32) → (Nat → Int64) → Int32 → Prop} (hw : wX10_routeLength  bits stops num unit cost heap wait post) : Met l yX10_routeLength wsX10_routeLength rmX10_routeLength (va_Pc [.ref (q 0)] (cP D K (wX K q bits stops num unit strips caps draw oldest known ring im iold iknown iring hasIm letters tbits tlen tat fig shI shH shL shS seaOf queue snum cost heap wait off les gre abv blw needed ocut opole) sz)) (va_Qi (fun (r : Int32) (u : (Nat → Int32) × (Nat → Int64) × Int32) => post r u.1 u.2.1 u.2.2) (fun u t => cQ D K (wX K q bits stops num unit strips caps draw oldest known ring im iold iknown iring hasIm letters tbits tlen tat fig shI shH shL shS seaOf queue snum u.1 u.2.1 u.2.2 off les gre abv blw needed ocut opole) (va_A (wX K q bits stops num unit strips caps draw oldest known ring im iold iknown iring hasIm letters tbits tlen tat fig shI shH shL shS seaOf queue snum cost heap wait off les gre abv blw needed ocut opole) sz) t) (va_A (wX K q bits stops num unit strips caps draw oldest known ring im iold iknown iring hasIm letters tbits tlen tat fig shI shH shL shS seaOf queue snum cost heap wait off les gre abv blw needed ocut opole) sz)) 0 0 (va_A (wX K q bits stops num unit strips caps draw oldest known ring im iold iknown iring hasIm letters tbits tlen tat fig shI shH shL shS seaOf queue snum cost heap wait off les gre abv blw needed ocut opole) sz) := by
  refine x_entry (cc := cX10_routeLength) (maxL := 6) (ret := (some .int)) (QA := fun A => va_Qi (fun (r : Int32) (u : (Nat → Int32) × (Nat → Int64) × Int32) => post r u.1 u.2.1 u.2.2) (fun u t => cQ D K (wX K q bits stops num unit strips caps draw oldest known ring im iold iknown iring hasIm letters tbits tlen tat fig shI shH shL shS seaOf queue snum u.1 u.2.1 u.2.2 off les gre abv blw needed ocut opole) A t) A) (plainFor_of_name (by decide)) rfl (Nat.le_of_ble_eq_true rfl) ?_
  intro p e s m args below meth c A ls H Q hQ hC hlk hr hnm hI hl
  obtain ⟨hx, hb, hml, hown, hts, hK, hA, hZ⟩ := id hC
  obtain ⟨locs, hlocs⟩ : ∃ y : List Loc, y = [] := ⟨_, rfl⟩
  rw [← hlocs] at hI ⊢
  clear hlocs
  replace hl : lv_has ls 6 [(0, .ref (q 0))] := hl
  replace hw : (∃ (I4 : Int32 → Int32 → (Nat → Int32) → (Nat → Int64) → Int32 → Prop) (mu4 : Int32 → Int32 → (Nat → Int32) → (Nat → Int64) → Int32 → Nat), I4 (0 : Int32) (1 : Int32) cost heap wait ∧ ∀ (l1_4 : Int32) (l2_4 : Int32) (cost_4 : Nat → Int32) (heap_4 : Nat → Int64) (wait_4 : Int32), I4 l1_4 l2_4 cost_4 heap_4 wait_4 → ((num ≤ l2_4 → post l1_4 cost_4 heap_4 wait_4) ∧ (¬ num ≤ l2_4 → vp_in (l2_4 - (1 : Int32)) 8 ∧ ∀ x3 : Int32, x3 = stops (l2_4 - (1 : Int32)).toNatClampNeg → vp_in l2_4 8 ∧ ∀ x5 : Int32, x5 = stops l2_4.toNatClampNeg → wX8_spread x3 x5 cost_4 heap_4 bits unit (fun (cost_6 : Nat → Int32) (heap_7 : Nat → Int64) (wait_8 : Int32) => vp_in x5 266 ∧ ∀ x10 : Int32, x10 = cost_6 x5.toNatClampNeg → ((x10 = (2147483647 : Int32) → post (-4 : Int32) cost_6 heap_7 wait_8) ∧ (¬ x10 = (2147483647 : Int32) → wX8_farOf x10 (fun (r12 : Int32) => ∀ x13 : Int32, x13 = l1_4 + r12 → ∀ x14 : Int32, x14 = l2_4 + 1 → (I4 x13 x14 cost_6 heap_7 wait_8 ∧ mu4 x13 x14 cost_6 heap_7 wait_8 < mu4 l1_4 l2_4 cost_4 heap_4 wait_4)))))))) := hw
  refine lv_iconst (v := (0 : Int32)) hx hb dX10_routeLength_0 (by decide) ?_
  refine lv_istore_n (lv' := [(1, .int (0 : Int32)), (0, .ref (q 0))]) hx hb dX10_routeLength_1 rfl hl (by decide) rfl (fun ls hl => ?_)
  refine lv_iconst (v := (1 : Int32)) hx hb dX10_routeLength_2 (by decide) ?_
  refine lv_istore_n (lv' := [(2, .int (1 : Int32)), (1, .int (0 : Int32)), (0, .ref (q 0))]) hx hb dX10_routeLength_3 rfl hl (by decide) rfl (fun ls hl => ?_)
  obtain ⟨I4, mu4, hw, hb4⟩ := hw
  have lp4 : ∀ (k : Nat) (l1_4 : Int32) (l2_4 : Int32) (cost_4 : Nat → Int32) (heap_4 : Nat → Int64) (wait_4 : Int32) (ls : Array Slot) (H : Heap) (locs : List Loc), mu4 l1_4 l2_4 cost_4 heap_4 wait_4 < k → I4 l1_4 l2_4 cost_4 heap_4 wait_4 → wI s D A (wX K q bits stops num unit strips caps draw oldest known ring im iold iknown iring hasIm letters tbits tlen tat fig shI shH shL shS seaOf queue snum cost_4 heap_4 wait_4 off les gre abv blw needed ocut opole) H locs → lv_has ls 6 [(0, .ref (q 0)), (1, .int l1_4), (2, .int l2_4)] → W p l e rmX10_routeLength s m args below meth c H locs 0 0 Q (F0 m 4 ls []) := by
    intro k
    induction k with
    | zero => intro l1_4 l2_4 cost_4 heap_4 wait_4 ls H locs hmu; exact absurd hmu (Nat.not_lt_zero _)
    | succ k ih4 =>
      intro l1_4 l2_4 cost_4 heap_4 wait_4 ls H locs hmu4 hw hI hl
      replace hw := hb4 l1_4 l2_4 cost_4 heap_4 wait_4 hw
      refine lv_iload_n hx hb dX10_routeLength_4 rfl (lv_at hl 2 rfl) ?_
      refine lv_aload_n hx hb dX10_routeLength_5 rfl (lv_at hl 0 rfl) ?_
      refine x_get (v := .ref (q 1)) hC hI kX10_routeLength_cX10 0 rfl rfl 0 (by decide) kX10_routeLength_0 rfl rfl dX10_routeLength_6 ?_
      refine x_get (v := .int num) hC hI kX10_routeLength_cX0 1 rfl rfl 2 (by decide) kX10_routeLength_2 rfl rfl dX10_routeLength_9 ?_
      refine lv_icmp_ge (tgt := 88) hx hb dX10_routeLength_12 (by decide) (fun c1 => ?_) (fun c1 => ?_)
      · replace hw := hw.1 c1
        refine lv_iload_n hx hb dX10_routeLength_88 rfl (lv_at hl 1 rfl) ?_
        subst hQ
        exact x_iret (u := (cost_4, heap_4, wait_4)) hC hI hr hlk hw rfl dX10_routeLength_89
      · replace hw := hw.2 c1
        refine lv_aload_n hx hb dX10_routeLength_15 rfl (lv_at hl 0 rfl) ?_
        refine x_get (v := .ref (q 1)) hC hI kX10_routeLength_cX10 0 rfl rfl 0 (by decide) kX10_routeLength_0 rfl rfl dX10_routeLength_16 ?_
        refine x_get (v := .ref (q 3)) hC hI kX10_routeLength_cX0 1 rfl rfl 1 (by decide) kX10_routeLength_4 rfl rfl dX10_routeLength_19 ?_
        refine lv_iload_n hx hb dX10_routeLength_22 rfl (lv_at hl 2 rfl) ?_
        refine lv_iconst (v := (1 : Int32)) hx hb dX10_routeLength_23 (by decide) ?_
        refine lv_isub hx hb dX10_routeLength_24 ?_
        obtain ⟨hc2, hw⟩ := hw
        refine x_iald (f := stops) hC hI 3 rfl hc2 dX10_routeLength_25 ?_
        refine lv_topi (fun x3 ex3 => ?_)
        replace hw := hw x3 ex3
        refine lv_istore_n (lv' := [(3, .int x3), (0, .ref (q 0)), (1, .int l1_4), (2, .int l2_4)]) hx hb dX10_routeLength_26 rfl hl (by decide) rfl (fun ls hl => ?_)
        refine lv_aload_n hx hb dX10_routeLength_27 rfl (lv_at hl 1 rfl) ?_
        refine x_get (v := .ref (q 1)) hC hI kX10_routeLength_cX10 0 rfl rfl 0 (by decide) kX10_routeLength_0 rfl rfl dX10_routeLength_28 ?_
        refine x_get (v := .ref (q 3)) hC hI kX10_routeLength_cX0 1 rfl rfl 1 (by decide) kX10_routeLength_4 rfl rfl dX10_routeLength_31 ?_
        refine lv_iload_n hx hb dX10_routeLength_34 rfl (lv_at hl 3 rfl) ?_
        obtain ⟨hc4, hw⟩ := hw
        refine x_iald (f := stops) hC hI 3 rfl hc4 dX10_routeLength_35 ?_
        refine lv_topi (fun x5 ex5 => ?_)
        replace hw := hw x5 ex5
        refine lv_istore (lv' := [(4, .int x5), (3, .int x3), (0, .ref (q 0)), (1, .int l1_4), (2, .int l2_4)]) hx hb dX10_routeLength_36 hl (by decide) rfl (fun ls hl => ?_)
        refine lv_aload_n hx hb dX10_routeLength_38 rfl (lv_at hl 2 rfl) ?_
        refine x_get (v := .ref (q 62)) hC hI kX10_routeLength_cX10 0 rfl rfl 8 (by decide) kX10_routeLength_5 rfl rfl dX10_routeLength_39 ?_
        refine lv_aload_n hx hb dX10_routeLength_42 rfl (lv_at hl 2 rfl) ?_
        refine x_get (v := .ref (q 1)) hC hI kX10_routeLength_cX10 0 rfl rfl 0 (by decide) kX10_routeLength_0 rfl rfl dX10_routeLength_43 ?_
        refine lv_iload_n hx hb dX10_routeLength_46 rfl (lv_at hl 1 rfl) ?_
        refine lv_iload hx hb dX10_routeLength_47 (lv_at hl 0 rfl) ?_
        refine x_callVv (rest := []) hC hI [62, 63, 64, 1, 2, 3] (mX8_spread l D K (fun i => q (62 + i)) (fun i => q (1 + i)) _ x3 x5 cost_4 heap_4 wait_4 bits stops num unit strips caps draw hw) (cwV 3 hts gX10_routeLength_X8_spread rfl rfl rfl (by decide +kernel) ⟨(Nat.le_of_ble_eq_true rfl), (Nat.le_of_ble_eq_true rfl)⟩) rfl rfl (fun _ => rfl) 62 6 rfl rfl rfl rfl hl.1 rfl (Nat.le_of_ble_eq_true rfl) dX10_routeLength_49 ⟨(Nat.le_of_ble_eq_true rfl), (Nat.le_of_ble_eq_true rfl)⟩ (fun u H locs hw hI => ?_)
        obtain ⟨cost_6, heap_7, wait_8⟩ := u
        try dsimp only at hw
        have hI : wI s D A (wX K q bits stops num unit strips caps draw oldest known ring im iold iknown iring hasIm letters tbits tlen tat fig shI shH shL shS seaOf queue snum cost_6 heap_7 wait_8 off les gre abv blw needed ocut opole) H locs := hI
        refine lv_aload_n hx hb dX10_routeLength_52 rfl (lv_at hl 2 rfl) ?_
        refine x_get (v := .ref (q 62)) hC hI kX10_routeLength_cX10 0 rfl rfl 8 (by decide) kX10_routeLength_5 rfl rfl dX10_routeLength_53 ?_
        refine x_get (v := .ref (q 63)) hC hI kX10_routeLength_cX8 62 rfl rfl 0 (by decide) kX10_routeLength_6 rfl rfl dX10_routeLength_56 ?_
        refine lv_iload hx hb dX10_routeLength_59 (lv_at hl 0 rfl) ?_
        obtain ⟨hc9, hw⟩ := hw
        refine x_iald (f := cost_6) hC hI 63 rfl hc9 dX10_routeLength_61 ?_
        refine lv_topi (fun x10 ex10 => ?_)
        replace hw := hw x10 ex10
        refine lv_istore (lv' := [(5, .int x10), (4, .int x5), (3, .int x3), (0, .ref (q 0)), (1, .int l1_4), (2, .int l2_4)]) hx hb dX10_routeLength_62 hl (by decide) rfl (fun ls hl => ?_)
        refine lv_iload hx hb dX10_routeLength_64 (lv_at hl 0 rfl) ?_
        refine lv_ldc (v := (2147483647 : Int32)) hx hb hown (hts _ kX10_routeLength_8) dX10_routeLength_66 ?_
        refine lv_icmp_ne (tgt := 74) hx hb dX10_routeLength_68 (by decide) (fun c11 => ?_) (fun c11 => ?_)
        · replace hw := hw.2 c11
          refine lv_iload_n hx hb dX10_routeLength_74 rfl (lv_at hl 4 rfl) ?_
          refine lv_iload hx hb dX10_routeLength_75 (lv_at hl 0 rfl) ?_
          refine x_callSi (rest := [.int l1_4]) hC hI [] (mX8_farOf l D K  _ x10 hw) (va_cwS 1 hts gX10_routeLength_X8_farOf rfl rfl rfl (by decide +kernel) ⟨(Nat.le_of_ble_eq_true rfl), (Nat.le_of_ble_eq_true rfl)⟩) rfl rfl (fun _ => rfl) rfl hl.1 rfl (Nat.le_of_ble_eq_true rfl) dX10_routeLength_77 ⟨(Nat.le_of_ble_eq_true rfl), (Nat.le_of_ble_eq_true rfl)⟩ (fun r12 u H locs hw hI => ?_)
          try dsimp only at hw
          have hI : wI s D A (wX K q bits stops num unit strips caps draw oldest known ring im iold iknown iring hasIm letters tbits tlen tat fig shI shH shL shS seaOf queue snum cost_6 heap_7 wait_8 off les gre abv blw needed ocut opole) H locs := hI
          refine lv_iadd hx hb dX10_routeLength_80 ?_
          refine lv_topi (fun x13 ex13 => ?_)
          replace hw := hw x13 ex13
          refine lv_istore_n (lv' := [(1, .int x13), (5, .int x10), (4, .int x5), (3, .int x3), (0, .ref (q 0)), (2, .int l2_4)]) hx hb dX10_routeLength_81 rfl hl (by decide) rfl (fun ls hl => ?_)
          obtain ⟨x14, ex14⟩ : ∃ y : Int32, y = l2_4 + 1 := ⟨_, rfl⟩
          replace hw := hw x14 ex14
          refine lv_iinc (v := x14) (lv' := [(2, .int x14), (1, .int x13), (5, .int x10), (4, .int x5), (3, .int x3), (0, .ref (q 0))]) hx hb dX10_routeLength_82 hl (k := 5) rfl (by rw [ex14]; rfl) (by decide) rfl (fun ls hl => ?_)
          refine lv_goto (tgt := 4) hx hb dX10_routeLength_85 (by decide) ?_
          exact ih4 x13 x14 cost_6 heap_7 wait_8 ls H locs (Nat.lt_of_lt_of_le hw.2 (Nat.le_of_lt_succ hmu4)) hw.1 hI (lv_sub hl [5, 1, 0] rfl)
        · replace hw := hw.1 c11
          refine lv_bipush (v := (-4 : Int32)) hx hb dX10_routeLength_71 (by decide) ?_
          subst hQ
          exact x_iret (u := (cost_6, heap_7, wait_8)) hC hI hr hlk hw rfl dX10_routeLength_73
  exact lp4 (mu4 (0 : Int32) (1 : Int32) cost heap wait + 1) (0 : Int32) (1 : Int32) cost heap wait ls H locs (Nat.lt_succ_self _) hw hI (lv_sub hl [2, 1, 0] rfl)

def wX10_route (a1 : Int32) (bits : Nat → Int64) (stops : Nat → Int32) (num : Int32) (unit : Int32) (cost : Nat → Int32) (heap : Nat → Int64) (wait : Int32) (post : Int32 → (Nat → Int32) → (Nat → Int64) → Int32 → Prop) : Prop := wX10_isIn a1 (0 : Int32) (1 : Int32) (fun (r1 : Int32) => ((r1 = 0 → post (-1 : Int32) cost heap wait) ∧ (¬ r1 = 0 → ((a1 = 0 → post num cost heap wait) ∧ (¬ a1 = 0 → wX10_routeLength bits stops num unit cost heap wait (fun (r7 : Int32) (cost_4 : Nat → Int32) (heap_5 : Nat → Int64) (wait_6 : Int32) => post r7 cost_4 heap_5 wait_6))))))
def rmX10_route : Room := { frames := 6, cells := 0, slots := 0, locals := 141 }
theorem kX10_route_0 : Cond.fieldLink RX10 10 "GoreGlobe" "now" "LGoreGlobe$Globe;" ∈ wsX10_route := List.mem_cons_of_mem _ (List.mem_append_left _ (List.mem_append_left _ (List.mem_append_left _ (List.mem_append_left _ (List.mem_of_getElem? (i := 0) rfl)))))
theorem kX10_route_cX10 : ∀ w ∈ wsX100, w ∈ wsX10_route := fun _ h => List.mem_cons_of_mem _ (List.mem_append_left _ (List.mem_append_left _ (List.mem_append_right _ h)))
theorem kX10_route_2 : Cond.fieldLink RX10 204 "GoreGlobe$Globe" "stopNumber" "I" ∈ wsX10_route := List.mem_cons_of_mem _ (List.mem_append_left _ (List.mem_append_left _ (List.mem_append_left _ (List.mem_append_left _ (List.mem_of_getElem? (i := 1) rfl)))))
theorem kX10_route_cX0 : ∀ w ∈ wsX00, w ∈ wsX10_route := fun _ h => List.mem_cons_of_mem _ (List.mem_append_left _ (List.mem_append_right _ h))
set_option maxHeartbeats 4000000 in
set_option maxRecDepth 100000 in
theorem mX10_route (l : Launch) (D : va_G) (K : Nat → ClassId) (q : Nat → Nat) (sz : Nat) (a1 : Int32) (bits : Nat → Int64) (stops : Nat → Int32) (num : Int32) (unit : Int32) (strips : Int32) (caps : Int32) (draw : Int32) (oldest : Int32) (known : Int32) (ring : Nat → GS) (im : GS) (iold : Int32) (iknown : Int32) (iring : Nat → GS) (hasIm : Int32) (letters : Nat → Int32) (tbits : Nat → Int64) (tlen : Int32) (tat : Int32) (fig : Int32) (shI : Nat → Nat → Int64) (shH : Nat → Int32) (shL : Nat → Int32) (shS : Nat → Int32) (seaOf : Nat → Int32) (queue : Nat → Int32) (snum : Int32) (cost : Nat → Int32) (heap : Nat → Int64) (wait : Int32) (off : Int32) (les : Int32) (gre : Int32) (abv : Int64) (blw : Int64) (needed : Int32) (ocut : Int32) (opole : Int32)  {post : Int32 → (Nat → Int32) → (Nat → Int64) → Int32 → Prop} (hw : wX10_route a1 bits stops num unit cost heap wait post) : Met l yX10_route wsX10_route rmX10_route (va_Pc [.ref (q 0), .int a1] (cP D K (wX K q bits stops num unit strips caps draw oldest known ring im iold iknown iring hasIm letters tbits tlen tat fig shI shH shL shS seaOf queue snum cost heap wait off les gre abv blw needed ocut opole) sz)) (va_Qi (fun (r : Int32) (u : (Nat → Int32) × (Nat → Int64) × Int32) => post r u.1 u.2.1 u.2.2) (fun u t => cQ D K (wX K q bits stops num unit strips caps draw oldest known ring im iold iknown iring hasIm letters tbits tlen tat fig shI shH shL shS seaOf queue snum u.1 u.2.1 u.2.2 off les gre abv blw needed ocut opole) (va_A (wX K q bits stops num unit strips caps draw oldest known ring im iold iknown iring hasIm letters tbits tlen tat fig shI shH shL shS seaOf queue snum cost heap wait off les gre abv blw needed ocut opole) sz) t) (va_A (wX K q bits stops num unit strips caps draw oldest known ring im iold iknown iring hasIm letters tbits tlen tat fig shI shH shL shS seaOf queue snum cost heap wait off les gre abv blw needed ocut opole) sz)) 0 0 (va_A (wX K q bits stops num unit strips caps draw oldest known ring im iold iknown iring hasIm letters tbits tlen tat fig shI shH shL shS seaOf queue snum cost heap wait off les gre abv blw needed ocut opole) sz) := by
  refine x_entry (cc := cX10_route) (maxL := 2) (ret := (some .int)) (QA := fun A => va_Qi (fun (r : Int32) (u : (Nat → Int32) × (Nat → Int64) × Int32) => post r u.1 u.2.1 u.2.2) (fun u t => cQ D K (wX K q bits stops num unit strips caps draw oldest known ring im iold iknown iring hasIm letters tbits tlen tat fig shI shH shL shS seaOf queue snum u.1 u.2.1 u.2.2 off les gre abv blw needed ocut opole) A t) A) (plainFor_of_name (by decide)) rfl (Nat.le_of_ble_eq_true rfl) ?_
  intro p e s m args below meth c A ls H Q hQ hC hlk hr hnm hI hl
  obtain ⟨hx, hb, hml, hown, hts, hK, hA, hZ⟩ := id hC
  obtain ⟨locs, hlocs⟩ : ∃ y : List Loc, y = [] := ⟨_, rfl⟩
  rw [← hlocs] at hI ⊢
  clear hlocs
  replace hl : lv_has ls 2 [(0, .ref (q 0)), (1, .int a1)] := hl
  replace hw : wX10_isIn a1 (0 : Int32) (1 : Int32) (fun (r1 : Int32) => ((r1 = 0 → post (-1 : Int32) cost heap wait) ∧ (¬ r1 = 0 → ((a1 = 0 → post num cost heap wait) ∧ (¬ a1 = 0 → wX10_routeLength bits stops num unit cost heap wait (fun (r7 : Int32) (cost_4 : Nat → Int32) (heap_5 : Nat → Int64) (wait_6 : Int32) => post r7 cost_4 heap_5 wait_6)))))) := hw
  refine lv_iload_n hx hb dX10_route_0 rfl (lv_at hl 1 rfl) ?_
  refine lv_iconst (v := (0 : Int32)) hx hb dX10_route_1 (by decide) ?_
  refine lv_iconst (v := (1 : Int32)) hx hb dX10_route_2 (by decide) ?_
  refine x_callSi (rest := []) hC hI [] (mX10_isIn l D K  _ a1 (0 : Int32) (1 : Int32) hw) (va_cwS 3 hts gX10_route_X10_isIn rfl rfl rfl (by decide +kernel) ⟨(Nat.le_of_ble_eq_true rfl), (Nat.le_of_ble_eq_true rfl)⟩) rfl rfl (fun _ => rfl) rfl hl.1 rfl (Nat.le_of_ble_eq_true rfl) dX10_route_3 ⟨(Nat.le_of_ble_eq_true rfl), (Nat.le_of_ble_eq_true rfl)⟩ (fun r1 u H locs hw hI => ?_)
  try dsimp only at hw
  have hI : wI s D A (wX K q bits stops num unit strips caps draw oldest known ring im iold iknown iring hasIm letters tbits tlen tat fig shI shH shL shS seaOf queue snum cost heap wait off les gre abv blw needed ocut opole) H locs := hI
  refine lv_if_ne (tgt := 11) hx hb dX10_route_6 (by decide) (fun c2 => ?_) (fun c2 => ?_)
  · replace hw := hw.2 c2
    refine lv_iload_n hx hb dX10_route_11 rfl (lv_at hl 1 rfl) ?_
    refine lv_if_ne (tgt := 25) hx hb dX10_route_12 (by decide) (fun c3 => ?_) (fun c3 => ?_)
    · replace hw := hw.2 c3
      refine lv_aload_n hx hb dX10_route_25 rfl (lv_at hl 0 rfl) ?_
      refine x_callVi (rest := []) hC hI [0, 1, 2, 3, 4, 5, 6, 7, 8, 9, 10, 11, 12, 13, 14, 15, 16, 17, 18, 19, 20, 21, 22, 23, 24, 25, 26, 27, 28, 29, 30, 31, 32, 33, 34, 35, 36, 37, 38, 39, 40, 41, 42, 43, 44, 45, 46, 47, 48, 49, 50, 51, 52, 53, 54, 55, 56, 57, 58, 59, 60, 61, 62, 63, 64, 65, 66] (mX10_routeLength l D K q _ bits stops num unit strips caps draw oldest known ring im iold iknown iring hasIm letters tbits tlen tat fig shI shH shL shS seaOf queue snum cost heap wait off les gre abv blw needed ocut opole hw) (cwV 0 hts gX10_route_X10_routeLength rfl rfl rfl (by decide +kernel) ⟨(Nat.le_of_ble_eq_true rfl), (Nat.le_of_ble_eq_true rfl)⟩) rfl rfl (fun _ => rfl) 0 8 rfl rfl rfl rfl hl.1 rfl (Nat.le_of_ble_eq_true rfl) dX10_route_26 ⟨(Nat.le_of_ble_eq_true rfl), (Nat.le_of_ble_eq_true rfl)⟩ (fun r7 u H locs hw hI => ?_)
      obtain ⟨cost_4, heap_5, wait_6⟩ := u
      try dsimp only at hw
      have hI : wI s D A (wX K q bits stops num unit strips caps draw oldest known ring im iold iknown iring hasIm letters tbits tlen tat fig shI shH shL shS seaOf queue snum cost_4 heap_5 wait_6 off les gre abv blw needed ocut opole) H locs := hI
      subst hQ
      exact x_iret (u := (cost_4, heap_5, wait_6)) hC hI hr hlk hw rfl dX10_route_29
    · replace hw := hw.1 c3
      refine lv_aload_n hx hb dX10_route_15 rfl (lv_at hl 0 rfl) ?_
      refine x_get (v := .ref (q 1)) hC hI kX10_route_cX10 0 rfl rfl 0 (by decide) kX10_route_0 rfl rfl dX10_route_16 ?_
      refine x_get (v := .int num) hC hI kX10_route_cX0 1 rfl rfl 2 (by decide) kX10_route_2 rfl rfl dX10_route_19 ?_
      refine lv_goto (tgt := 29) hx hb dX10_route_22 (by decide) ?_
      subst hQ
      exact x_iret (u := (cost, heap, wait)) hC hI hr hlk hw rfl dX10_route_29
  · replace hw := hw.1 c2
    refine lv_iconst (v := (-1 : Int32)) hx hb dX10_route_9 (by decide) ?_
    subst hQ
    exact x_iret (u := (cost, heap, wait)) hC hI hr hlk hw rfl dX10_route_10

def wX10_rolled (a1 : Int32) (a2 : Int32) (bits : Nat → Int64) (stops : Nat → Int32) (num : Int32) (unit : Int32) (cost : Nat → Int32) (heap : Nat → Int64) (wait : Int32) (post : Int32 → (Nat → Int32) → (Nat → Int64) → Int32 → Prop) : Prop := wX10_isIn a1 (1 : Int32) (10000 : Int32) (fun (r1 : Int32) => ((r1 = 0 → post (-1 : Int32) cost heap wait) ∧ (¬ r1 = 0 → wX10_isIn a2 (0 : Int32) (1 : Int32) (fun (r3 : Int32) => ((r3 = 0 → post (-1 : Int32) cost heap wait) ∧ (¬ r3 = 0 → wX10_routeLength bits stops num unit cost heap wait (fun (r8 : Int32) (cost_5 : Nat → Int32) (heap_6 : Nat → Int64) (wait_7 : Int32) => ((r8 = (-4 : Int32) → post (-4 : Int32) cost_5 heap_6 wait_7) ∧ (¬ r8 = (-4 : Int32) → ((a2 = 0 → ¬ a1 = 0 ∧ post (r8 / a1) cost_5 heap_6 wait_7) ∧ (¬ a2 = 0 → ¬ a1 = 0 ∧ post (r8 - r8 / a1 * a1) cost_5 heap_6 wait_7)))))))))))
def rmX10_rolled : Room := { frames := 6, cells := 0, slots := 0, locals := 141 }
set_option maxHeartbeats 4000000 in
set_option maxRecDepth 100000 in
theorem mX10_rolled (l : Launch) (D : va_G) (K : Nat → ClassId) (q : Nat → Nat) (sz : Nat) (a1 : Int32) (a2 : Int32) (bits : Nat → Int64) (stops : Nat → Int32) (num : Int32) (unit : Int32) (strips : Int32) (caps : Int32) (draw : Int32) (oldest : Int32) (known : Int32) (ring : Nat → GS) (im : GS) (iold : Int32) (iknown : Int32) (iring : Nat → GS) (hasIm : Int32) (letters : Nat → Int32) (tbits : Nat → Int64) (tlen : Int32) (tat : Int32) (fig : Int32) (shI : Nat → Nat → Int64) (shH : Nat → Int32) (shL : Nat → Int32) (shS : Nat → Int32) (seaOf : Nat → Int32) (queue : Nat → Int32) (snum : Int32) (cost : Nat → Int32) (heap : Nat → Int64) (wait : Int32) (off : Int32) (les : Int32) (gre : Int32) (abv : Int64) (blw : Int64) (needed : Int32) (ocut : Int32) (opole : Int32)  {post : Int32 → (Nat → Int32) → (Nat → Int64) → Int32 → Prop} (hw : wX10_rolled a1 a2 bits stops num unit cost heap wait post) : Met l yX10_rolled wsX10_rolled rmX10_rolled (va_Pc [.ref (q 0), .int a1, .int a2] (cP D K (wX K q bits stops num unit strips caps draw oldest known ring im iold iknown iring hasIm letters tbits tlen tat fig shI shH shL shS seaOf queue snum cost heap wait off les gre abv blw needed ocut opole) sz)) (va_Qi (fun (r : Int32) (u : (Nat → Int32) × (Nat → Int64) × Int32) => post r u.1 u.2.1 u.2.2) (fun u t => cQ D K (wX K q bits stops num unit strips caps draw oldest known ring im iold iknown iring hasIm letters tbits tlen tat fig shI shH shL shS seaOf queue snum u.1 u.2.1 u.2.2 off les gre abv blw needed ocut opole) (va_A (wX K q bits stops num unit strips caps draw oldest known ring im iold iknown iring hasIm letters tbits tlen tat fig shI shH shL shS seaOf queue snum cost heap wait off les gre abv blw needed ocut opole) sz) t) (va_A (wX K q bits stops num unit strips caps draw oldest known ring im iold iknown iring hasIm letters tbits tlen tat fig shI shH shL shS seaOf queue snum cost heap wait off les gre abv blw needed ocut opole) sz)) 0 0 (va_A (wX K q bits stops num unit strips caps draw oldest known ring im iold iknown iring hasIm letters tbits tlen tat fig shI shH shL shS seaOf queue snum cost heap wait off les gre abv blw needed ocut opole) sz) := by
  refine x_entry (cc := cX10_rolled) (maxL := 4) (ret := (some .int)) (QA := fun A => va_Qi (fun (r : Int32) (u : (Nat → Int32) × (Nat → Int64) × Int32) => post r u.1 u.2.1 u.2.2) (fun u t => cQ D K (wX K q bits stops num unit strips caps draw oldest known ring im iold iknown iring hasIm letters tbits tlen tat fig shI shH shL shS seaOf queue snum u.1 u.2.1 u.2.2 off les gre abv blw needed ocut opole) A t) A) (plainFor_of_name (by decide)) rfl (Nat.le_of_ble_eq_true rfl) ?_
  intro p e s m args below meth c A ls H Q hQ hC hlk hr hnm hI hl
  obtain ⟨hx, hb, hml, hown, hts, hK, hA, hZ⟩ := id hC
  obtain ⟨locs, hlocs⟩ : ∃ y : List Loc, y = [] := ⟨_, rfl⟩
  rw [← hlocs] at hI ⊢
  clear hlocs
  replace hl : lv_has ls 4 [(0, .ref (q 0)), (1, .int a1), (2, .int a2)] := hl
  replace hw : wX10_isIn a1 (1 : Int32) (10000 : Int32) (fun (r1 : Int32) => ((r1 = 0 → post (-1 : Int32) cost heap wait) ∧ (¬ r1 = 0 → wX10_isIn a2 (0 : Int32) (1 : Int32) (fun (r3 : Int32) => ((r3 = 0 → post (-1 : Int32) cost heap wait) ∧ (¬ r3 = 0 → wX10_routeLength bits stops num unit cost heap wait (fun (r8 : Int32) (cost_5 : Nat → Int32) (heap_6 : Nat → Int64) (wait_7 : Int32) => ((r8 = (-4 : Int32) → post (-4 : Int32) cost_5 heap_6 wait_7) ∧ (¬ r8 = (-4 : Int32) → ((a2 = 0 → ¬ a1 = 0 ∧ post (r8 / a1) cost_5 heap_6 wait_7) ∧ (¬ a2 = 0 → ¬ a1 = 0 ∧ post (r8 - r8 / a1 * a1) cost_5 heap_6 wait_7))))))))))) := hw
  refine lv_iload_n hx hb dX10_rolled_0 rfl (lv_at hl 1 rfl) ?_
  refine lv_iconst (v := (1 : Int32)) hx hb dX10_rolled_1 (by decide) ?_
  refine lv_sipush (v := (10000 : Int32)) hx hb dX10_rolled_2 (by decide) ?_
  refine x_callSi (rest := []) hC hI [] (mX10_isIn l D K  _ a1 (1 : Int32) (10000 : Int32) hw) (va_cwS 3 hts gX10_rolled_X10_isIn rfl rfl rfl (by decide +kernel) ⟨(Nat.le_of_ble_eq_true rfl), (Nat.le_of_ble_eq_true rfl)⟩) rfl rfl (fun _ => rfl) rfl hl.1 rfl (Nat.le_of_ble_eq_true rfl) dX10_rolled_5 ⟨(Nat.le_of_ble_eq_true rfl), (Nat.le_of_ble_eq_true rfl)⟩ (fun r1 u H locs hw hI => ?_)
  try dsimp only at hw
  have hI : wI s D A (wX K q bits stops num unit strips caps draw oldest known ring im iold iknown iring hasIm letters tbits tlen tat fig shI shH shL shS seaOf queue snum cost heap wait off les gre abv blw needed ocut opole) H locs := hI
  refine lv_if_eq (tgt := 20) hx hb dX10_rolled_8 (by decide) (fun c2 => ?_) (fun c2 => ?_)
  · replace hw := hw.1 c2
    refine lv_iconst (v := (-1 : Int32)) hx hb dX10_rolled_20 (by decide) ?_
    subst hQ
    exact x_iret (u := (cost, heap, wait)) hC hI hr hlk hw rfl dX10_rolled_21
  · replace hw := hw.2 c2
    refine lv_iload_n hx hb dX10_rolled_11 rfl (lv_at hl 2 rfl) ?_
    refine lv_iconst (v := (0 : Int32)) hx hb dX10_rolled_12 (by decide) ?_
    refine lv_iconst (v := (1 : Int32)) hx hb dX10_rolled_13 (by decide) ?_
    refine x_callSi (rest := []) hC hI [] (mX10_isIn l D K  _ a2 (0 : Int32) (1 : Int32) hw) (va_cwS 3 hts gX10_rolled_X10_isIn rfl rfl rfl (by decide +kernel) ⟨(Nat.le_of_ble_eq_true rfl), (Nat.le_of_ble_eq_true rfl)⟩) rfl rfl (fun _ => rfl) rfl hl.1 rfl (Nat.le_of_ble_eq_true rfl) dX10_rolled_14 ⟨(Nat.le_of_ble_eq_true rfl), (Nat.le_of_ble_eq_true rfl)⟩ (fun r3 u H locs hw hI => ?_)
    try dsimp only at hw
    have hI : wI s D A (wX K q bits stops num unit strips caps draw oldest known ring im iold iknown iring hasIm letters tbits tlen tat fig shI shH shL shS seaOf queue snum cost heap wait off les gre abv blw needed ocut opole) H locs := hI
    refine lv_if_ne (tgt := 22) hx hb dX10_rolled_17 (by decide) (fun c4 => ?_) (fun c4 => ?_)
    · replace hw := hw.2 c4
      refine lv_aload_n hx hb dX10_rolled_22 rfl (lv_at hl 0 rfl) ?_
      refine x_callVi (rest := []) hC hI [0, 1, 2, 3, 4, 5, 6, 7, 8, 9, 10, 11, 12, 13, 14, 15, 16, 17, 18, 19, 20, 21, 22, 23, 24, 25, 26, 27, 28, 29, 30, 31, 32, 33, 34, 35, 36, 37, 38, 39, 40, 41, 42, 43, 44, 45, 46, 47, 48, 49, 50, 51, 52, 53, 54, 55, 56, 57, 58, 59, 60, 61, 62, 63, 64, 65, 66] (mX10_routeLength l D K q _ bits stops num unit strips caps draw oldest known ring im iold iknown iring hasIm letters tbits tlen tat fig shI shH shL shS seaOf queue snum cost heap wait off les gre abv blw needed ocut opole hw) (cwV 0 hts gX10_rolled_X10_routeLength rfl rfl rfl (by decide +kernel) ⟨(Nat.le_of_ble_eq_true rfl), (Nat.le_of_ble_eq_true rfl)⟩) rfl rfl (fun _ => rfl) 0 8 rfl rfl rfl rfl hl.1 rfl (Nat.le_of_ble_eq_true rfl) dX10_rolled_23 ⟨(Nat.le_of_ble_eq_true rfl), (Nat.le_of_ble_eq_true rfl)⟩ (fun r8 u H locs hw hI => ?_)
      obtain ⟨cost_5, heap_6, wait_7⟩ := u
      try dsimp only at hw
      have hI : wI s D A (wX K q bits stops num unit strips caps draw oldest known ring im iold iknown iring hasIm letters tbits tlen tat fig shI shH shL shS seaOf queue snum cost_5 heap_6 wait_7 off les gre abv blw needed ocut opole) H locs := hI
      refine lv_istore_n (lv' := [(3, .int r8), (0, .ref (q 0)), (1, .int a1), (2, .int a2)]) hx hb dX10_rolled_26 rfl hl (by decide) rfl (fun ls hl => ?_)
      refine lv_iload_n hx hb dX10_rolled_27 rfl (lv_at hl 0 rfl) ?_
      refine lv_bipush (v := (-4 : Int32)) hx hb dX10_rolled_28 (by decide) ?_
      refine lv_icmp_ne (tgt := 36) hx hb dX10_rolled_30 (by decide) (fun c9 => ?_) (fun c9 => ?_)
      · replace hw := hw.2 c9
        refine lv_iload_n hx hb dX10_rolled_36 rfl (lv_at hl 3 rfl) ?_
        refine lv_if_ne (tgt := 46) hx hb dX10_rolled_37 (by decide) (fun c10 => ?_) (fun c10 => ?_)
        · replace hw := hw.2 c10
          refine lv_iload_n hx hb dX10_rolled_46 rfl (lv_at hl 0 rfl) ?_
          refine lv_iload_n hx hb dX10_rolled_47 rfl (lv_at hl 2 rfl) ?_
          obtain ⟨hc11, hw⟩ := hw
          refine lv_irem hx hb dX10_rolled_48 hc11 ?_
          subst hQ
          exact x_iret (u := (cost_5, heap_6, wait_7)) hC hI hr hlk hw rfl dX10_rolled_49
        · replace hw := hw.1 c10
          refine lv_iload_n hx hb dX10_rolled_40 rfl (lv_at hl 0 rfl) ?_
          refine lv_iload_n hx hb dX10_rolled_41 rfl (lv_at hl 2 rfl) ?_
          obtain ⟨hc12, hw⟩ := hw
          refine lv_idiv hx hb dX10_rolled_42 hc12 ?_
          refine lv_goto (tgt := 49) hx hb dX10_rolled_43 (by decide) ?_
          subst hQ
          exact x_iret (u := (cost_5, heap_6, wait_7)) hC hI hr hlk hw rfl dX10_rolled_49
      · replace hw := hw.1 c9
        refine lv_bipush (v := (-4 : Int32)) hx hb dX10_rolled_33 (by decide) ?_
        subst hQ
        exact x_iret (u := (cost_5, heap_6, wait_7)) hC hI hr hlk hw rfl dX10_rolled_35
    · replace hw := hw.1 c4
      refine lv_iconst (v := (-1 : Int32)) hx hb dX10_rolled_20 (by decide) ?_
      subst hQ
      exact x_iret (u := (cost, heap, wait)) hC hI hr hlk hw rfl dX10_rolled_21

def wX10_lost (a1 : Int32) (a2 : Int32) (bits : Nat → Int64) (strips : Int32) (caps : Int32) (abv : Int64) (blw : Int64) (needed : Int32) (ocut : Int32) (opole : Int32) (post : Int64 → Int64 → Int64 → Int32 → Int32 → Int32 → Prop) : Prop := wX10_isIn a1 (0 : Int32) (10 : Int32) (fun (r1 : Int32) => ((r1 = 0 → post (-1 : Int64) abv blw needed ocut opole) ∧ (¬ r1 = 0 → wX10_isIn a2 (0 : Int32) (1 : Int32) (fun (r3 : Int32) => ((r3 = 0 → post (-1 : Int64) abv blw needed ocut opole) ∧ (¬ r3 = 0 → wX2_reckon a1 bits strips caps (fun (abv_5 : Int64) (blw_6 : Int64) (needed_7 : Int32) (ocut_8 : Int32) (opole_9 : Int32) => ((a2 = 0 → post abv_5 abv_5 blw_6 needed_7 ocut_8 opole_9) ∧ (¬ a2 = 0 → post blw_6 abv_5 blw_6 needed_7 ocut_8 opole_9)))))))))
def rmX10_lost : Room := { frames := 4, cells := 0, slots := 0, locals := 98 }
theorem kX10_lost_0 : Cond.constantLong RX10 213 (-1) ∈ wsX10_lost := List.mem_cons_of_mem _ (List.mem_append_left _ (List.mem_append_left _ (List.mem_append_left _ (List.mem_append_left _ (List.mem_of_getElem? (i := 0) rfl)))))
theorem kX10_lost_1 : Cond.fieldLink RX10 66 "GoreGlobe" "odds" "LGoreGlobe$Odds;" ∈ wsX10_lost := List.mem_cons_of_mem _ (List.mem_append_left _ (List.mem_append_left _ (List.mem_append_left _ (List.mem_append_left _ (List.mem_of_getElem? (i := 1) rfl)))))
theorem kX10_lost_cX10 : ∀ w ∈ wsX100, w ∈ wsX10_lost := fun _ h => List.mem_cons_of_mem _ (List.mem_append_left _ (List.mem_append_left _ (List.mem_append_right _ h)))
theorem kX10_lost_3 : Cond.fieldLink RX10 10 "GoreGlobe" "now" "LGoreGlobe$Globe;" ∈ wsX10_lost := List.mem_cons_of_mem _ (List.mem_append_left _ (List.mem_append_left _ (List.mem_append_left _ (List.mem_append_left _ (List.mem_of_getElem? (i := 2) rfl)))))
theorem kX10_lost_4 : Cond.fieldLink RX10 223 "GoreGlobe$Odds" "below" "J" ∈ wsX10_lost := List.mem_cons_of_mem _ (List.mem_append_left _ (List.mem_append_left _ (List.mem_append_left _ (List.mem_append_left _ (List.mem_of_getElem? (i := 4) rfl)))))
theorem kX10_lost_cX2 : ∀ w ∈ wsX20, w ∈ wsX10_lost := fun _ h => List.mem_cons_of_mem _ (List.mem_append_left _ (List.mem_append_right _ h))
theorem kX10_lost_6 : Cond.fieldLink RX10 219 "GoreGlobe$Odds" "above" "J" ∈ wsX10_lost := List.mem_cons_of_mem _ (List.mem_append_left _ (List.mem_append_left _ (List.mem_append_left _ (List.mem_append_left _ (List.mem_of_getElem? (i := 3) rfl)))))
set_option maxHeartbeats 4000000 in
set_option maxRecDepth 100000 in
theorem mX10_lost (l : Launch) (D : va_G) (K : Nat → ClassId) (q : Nat → Nat) (sz : Nat) (a1 : Int32) (a2 : Int32) (bits : Nat → Int64) (stops : Nat → Int32) (num : Int32) (unit : Int32) (strips : Int32) (caps : Int32) (draw : Int32) (oldest : Int32) (known : Int32) (ring : Nat → GS) (im : GS) (iold : Int32) (iknown : Int32) (iring : Nat → GS) (hasIm : Int32) (letters : Nat → Int32) (tbits : Nat → Int64) (tlen : Int32) (tat : Int32) (fig : Int32) (shI : Nat → Nat → Int64) (shH : Nat → Int32) (shL : Nat → Int32) (shS : Nat → Int32) (seaOf : Nat → Int32) (queue : Nat → Int32) (snum : Int32) (cost : Nat → Int32) (heap : Nat → Int64) (wait : Int32) (off : Int32) (les : Int32) (gre : Int32) (abv : Int64) (blw : Int64) (needed : Int32) (ocut : Int32) (opole : Int32)  {post : Int64 → Int64 → Int64 → Int32 → Int32 → Int32 → Prop} (hw : wX10_lost a1 a2 bits strips caps abv blw needed ocut opole post) : Met l yX10_lost wsX10_lost rmX10_lost (va_Pc [.ref (q 0), .int a1, .int a2] (cP D K (wX K q bits stops num unit strips caps draw oldest known ring im iold iknown iring hasIm letters tbits tlen tat fig shI shH shL shS seaOf queue snum cost heap wait off les gre abv blw needed ocut opole) sz)) (va_Ql (fun (r : Int64) (u : Int64 × Int64 × Int32 × Int32 × Int32) => post r u.1 u.2.1 u.2.2.1 u.2.2.2.1 u.2.2.2.2) (fun u t => cQ D K (wX K q bits stops num unit strips caps draw oldest known ring im iold iknown iring hasIm letters tbits tlen tat fig shI shH shL shS seaOf queue snum cost heap wait off les gre u.1 u.2.1 u.2.2.1 u.2.2.2.1 u.2.2.2.2) (va_A (wX K q bits stops num unit strips caps draw oldest known ring im iold iknown iring hasIm letters tbits tlen tat fig shI shH shL shS seaOf queue snum cost heap wait off les gre abv blw needed ocut opole) sz) t) (va_A (wX K q bits stops num unit strips caps draw oldest known ring im iold iknown iring hasIm letters tbits tlen tat fig shI shH shL shS seaOf queue snum cost heap wait off les gre abv blw needed ocut opole) sz)) 0 0 (va_A (wX K q bits stops num unit strips caps draw oldest known ring im iold iknown iring hasIm letters tbits tlen tat fig shI shH shL shS seaOf queue snum cost heap wait off les gre abv blw needed ocut opole) sz) := by
  refine x_entry (cc := cX10_lost) (maxL := 3) (ret := (some .long)) (QA := fun A => va_Ql (fun (r : Int64) (u : Int64 × Int64 × Int32 × Int32 × Int32) => post r u.1 u.2.1 u.2.2.1 u.2.2.2.1 u.2.2.2.2) (fun u t => cQ D K (wX K q bits stops num unit strips caps draw oldest known ring im iold iknown iring hasIm letters tbits tlen tat fig shI shH shL shS seaOf queue snum cost heap wait off les gre u.1 u.2.1 u.2.2.1 u.2.2.2.1 u.2.2.2.2) A t) A) (plainFor_of_name (by decide)) rfl (Nat.le_of_ble_eq_true rfl) ?_
  intro p e s m args below meth c A ls H Q hQ hC hlk hr hnm hI hl
  obtain ⟨hx, hb, hml, hown, hts, hK, hA, hZ⟩ := id hC
  obtain ⟨locs, hlocs⟩ : ∃ y : List Loc, y = [] := ⟨_, rfl⟩
  rw [← hlocs] at hI ⊢
  clear hlocs
  replace hl : lv_has ls 3 [(0, .ref (q 0)), (1, .int a1), (2, .int a2)] := hl
  replace hw : wX10_isIn a1 (0 : Int32) (10 : Int32) (fun (r1 : Int32) => ((r1 = 0 → post (-1 : Int64) abv blw needed ocut opole) ∧ (¬ r1 = 0 → wX10_isIn a2 (0 : Int32) (1 : Int32) (fun (r3 : Int32) => ((r3 = 0 → post (-1 : Int64) abv blw needed ocut opole) ∧ (¬ r3 = 0 → wX2_reckon a1 bits strips caps (fun (abv_5 : Int64) (blw_6 : Int64) (needed_7 : Int32) (ocut_8 : Int32) (opole_9 : Int32) => ((a2 = 0 → post abv_5 abv_5 blw_6 needed_7 ocut_8 opole_9) ∧ (¬ a2 = 0 → post blw_6 abv_5 blw_6 needed_7 ocut_8 opole_9))))))))) := hw
  refine lv_iload_n hx hb dX10_lost_0 rfl (lv_at hl 1 rfl) ?_
  refine lv_iconst (v := (0 : Int32)) hx hb dX10_lost_1 (by decide) ?_
  refine lv_bipush (v := (10 : Int32)) hx hb dX10_lost_2 (by decide) ?_
  refine x_callSi (rest := []) hC hI [] (mX10_isIn l D K  _ a1 (0 : Int32) (10 : Int32) hw) (va_cwS 3 hts gX10_lost_X10_isIn rfl rfl rfl (by decide +kernel) ⟨(Nat.le_of_ble_eq_true rfl), (Nat.le_of_ble_eq_true rfl)⟩) rfl rfl (fun _ => rfl) rfl hl.1 rfl (Nat.le_of_ble_eq_true rfl) dX10_lost_4 ⟨(Nat.le_of_ble_eq_true rfl), (Nat.le_of_ble_eq_true rfl)⟩ (fun r1 u H locs hw hI => ?_)
  try dsimp only at hw
  have hI : wI s D A (wX K q bits stops num unit strips caps draw oldest known ring im iold iknown iring hasIm letters tbits tlen tat fig shI shH shL shS seaOf queue snum cost heap wait off les gre abv blw needed ocut opole) H locs := hI
  refine lv_if_eq (tgt := 19) hx hb dX10_lost_7 (by decide) (fun c2 => ?_) (fun c2 => ?_)
  · replace hw := hw.1 c2
    refine lv_ldc2 (v := (-1 : Int64)) hx hb hown (hts _ kX10_lost_0) dX10_lost_19 ?_
    subst hQ
    exact x_lret (u := (abv, blw, needed, ocut, opole)) hC hI hr hlk hw rfl dX10_lost_22
  · replace hw := hw.2 c2
    refine lv_iload_n hx hb dX10_lost_10 rfl (lv_at hl 2 rfl) ?_
    refine lv_iconst (v := (0 : Int32)) hx hb dX10_lost_11 (by decide) ?_
    refine lv_iconst (v := (1 : Int32)) hx hb dX10_lost_12 (by decide) ?_
    refine x_callSi (rest := []) hC hI [] (mX10_isIn l D K  _ a2 (0 : Int32) (1 : Int32) hw) (va_cwS 3 hts gX10_lost_X10_isIn rfl rfl rfl (by decide +kernel) ⟨(Nat.le_of_ble_eq_true rfl), (Nat.le_of_ble_eq_true rfl)⟩) rfl rfl (fun _ => rfl) rfl hl.1 rfl (Nat.le_of_ble_eq_true rfl) dX10_lost_13 ⟨(Nat.le_of_ble_eq_true rfl), (Nat.le_of_ble_eq_true rfl)⟩ (fun r3 u H locs hw hI => ?_)
    try dsimp only at hw
    have hI : wI s D A (wX K q bits stops num unit strips caps draw oldest known ring im iold iknown iring hasIm letters tbits tlen tat fig shI shH shL shS seaOf queue snum cost heap wait off les gre abv blw needed ocut opole) H locs := hI
    refine lv_if_ne (tgt := 23) hx hb dX10_lost_16 (by decide) (fun c4 => ?_) (fun c4 => ?_)
    · replace hw := hw.2 c4
      refine lv_aload_n hx hb dX10_lost_23 rfl (lv_at hl 0 rfl) ?_
      refine x_get (v := .ref (q 66)) hC hI kX10_lost_cX10 0 rfl rfl 10 (by decide) kX10_lost_1 rfl rfl dX10_lost_24 ?_
      refine lv_aload_n hx hb dX10_lost_27 rfl (lv_at hl 0 rfl) ?_
      refine x_get (v := .ref (q 1)) hC hI kX10_lost_cX10 0 rfl rfl 0 (by decide) kX10_lost_3 rfl rfl dX10_lost_28 ?_
      refine lv_iload_n hx hb dX10_lost_31 rfl (lv_at hl 1 rfl) ?_
      refine x_callVv (rest := []) hC hI [66, 1, 2, 3] (mX2_reckon l D K (fun i => q (66 + i)) (fun i => q (1 + i)) _ a1 abv blw needed ocut opole bits stops num unit strips caps draw hw) (cwV 2 hts gX10_lost_X2_reckon rfl rfl rfl (by decide +kernel) ⟨(Nat.le_of_ble_eq_true rfl), (Nat.le_of_ble_eq_true rfl)⟩) rfl rfl (fun _ => rfl) 66 1 rfl rfl rfl rfl hl.1 rfl (Nat.le_of_ble_eq_true rfl) dX10_lost_32 ⟨(Nat.le_of_ble_eq_true rfl), (Nat.le_of_ble_eq_true rfl)⟩ (fun u H locs hw hI => ?_)
      obtain ⟨abv_5, blw_6, needed_7, ocut_8, opole_9⟩ := u
      try dsimp only at hw
      have hI : wI s D A (wX K q bits stops num unit strips caps draw oldest known ring im iold iknown iring hasIm letters tbits tlen tat fig shI shH shL shS seaOf queue snum cost heap wait off les gre abv_5 blw_6 needed_7 ocut_8 opole_9) H locs := hI
      refine lv_iload_n hx hb dX10_lost_35 rfl (lv_at hl 2 rfl) ?_
      refine lv_if_ne (tgt := 49) hx hb dX10_lost_36 (by decide) (fun c10 => ?_) (fun c10 => ?_)
      · replace hw := hw.2 c10
        refine lv_aload_n hx hb dX10_lost_49 rfl (lv_at hl 0 rfl) ?_
        refine x_get (v := .ref (q 66)) hC hI kX10_lost_cX10 0 rfl rfl 10 (by decide) kX10_lost_1 rfl rfl dX10_lost_50 ?_
        refine x_get (v := .long blw_6) hC hI kX10_lost_cX2 66 rfl rfl 1 (by decide) kX10_lost_4 rfl rfl dX10_lost_53 ?_
        subst hQ
        exact x_lret (u := (abv_5, blw_6, needed_7, ocut_8, opole_9)) hC hI hr hlk hw rfl dX10_lost_56
      · replace hw := hw.1 c10
        refine lv_aload_n hx hb dX10_lost_39 rfl (lv_at hl 0 rfl) ?_
        refine x_get (v := .ref (q 66)) hC hI kX10_lost_cX10 0 rfl rfl 10 (by decide) kX10_lost_1 rfl rfl dX10_lost_40 ?_
        refine x_get (v := .long abv_5) hC hI kX10_lost_cX2 66 rfl rfl 0 (by decide) kX10_lost_6 rfl rfl dX10_lost_43 ?_
        refine lv_goto (tgt := 56) hx hb dX10_lost_46 (by decide) ?_
        subst hQ
        exact x_lret (u := (abv_5, blw_6, needed_7, ocut_8, opole_9)) hC hI hr hlk hw rfl dX10_lost_56
    · replace hw := hw.1 c4
      refine lv_ldc2 (v := (-1 : Int64)) hx hb hown (hts _ kX10_lost_0) dX10_lost_19 ?_
      subst hQ
      exact x_lret (u := (abv, blw, needed, ocut, opole)) hC hI hr hlk hw rfl dX10_lost_22

def wX10_count (a1 : Int32) (bits : Nat → Int64) (unit : Int32) (strips : Int32) (caps : Int32) (known : Int32) (seaOf : Nat → Int32) (queue : Nat → Int32) (snum : Int32) (post : Int32 → (Nat → Int32) → (Nat → Int32) → Int32 → Prop) : Prop := ((a1 = (0 : Int32) → post unit seaOf queue snum) ∧ (¬ a1 = (0 : Int32) → ((a1 = (1 : Int32) → post strips seaOf queue snum) ∧ (¬ a1 = (1 : Int32) → ((a1 = (2 : Int32) → post caps seaOf queue snum) ∧ (¬ a1 = (2 : Int32) → ((a1 = (3 : Int32) → wX0_landNumber bits (fun (r5 : Int32) => post r5 seaOf queue snum)) ∧ (¬ a1 = (3 : Int32) → ((a1 = (4 : Int32) → wX5_chart seaOf queue bits (fun (seaOf_7 : Nat → Int32) (queue_8 : Nat → Int32) (snum_9 : Int32) => post snum_9 seaOf_7 queue_8 snum_9)) ∧ (¬ a1 = (4 : Int32) → ((a1 = (5 : Int32) → wX0_landNumberOnStrips bits caps (fun (r11 : Int32) => post r11 seaOf queue snum)) ∧ (¬ a1 = (5 : Int32) → ((a1 = (6 : Int32) → post known seaOf queue snum) ∧ (¬ a1 = (6 : Int32) → post (-1 : Int32) seaOf queue snum))))))))))))))
def rmX10_count : Room := { frames := 5, cells := 0, slots := 0, locals := 111 }
theorem kX10_count_0 : Cond.fieldLink RX10 10 "GoreGlobe" "now" "LGoreGlobe$Globe;" ∈ wsX10_count := List.mem_cons_of_mem _ (List.mem_append_left _ (List.mem_append_left _ (List.mem_append_left _ (List.mem_append_left _ (List.mem_append_left _ (List.mem_of_getElem? (i := 0) rfl))))))
theorem kX10_count_cX10 : ∀ w ∈ wsX100, w ∈ wsX10_count := fun _ h => List.mem_cons_of_mem _ (List.mem_append_left _ (List.mem_append_left _ (List.mem_append_left _ (List.mem_append_right _ h))))
theorem kX10_count_2 : Cond.fieldLink RX10 111 "GoreGlobe$Globe" "unit" "I" ∈ wsX10_count := List.mem_cons_of_mem _ (List.mem_append_left _ (List.mem_append_left _ (List.mem_append_left _ (List.mem_append_left _ (List.mem_append_left _ (List.mem_of_getElem? (i := 1) rfl))))))
theorem kX10_count_cX0 : ∀ w ∈ wsX00, w ∈ wsX10_count := fun _ h => List.mem_cons_of_mem _ (List.mem_append_left _ (List.mem_append_left _ (List.mem_append_right _ h)))
theorem kX10_count_4 : Cond.fieldLink RX10 226 "GoreGlobe$Globe" "strips" "I" ∈ wsX10_count := List.mem_cons_of_mem _ (List.mem_append_left _ (List.mem_append_left _ (List.mem_append_left _ (List.mem_append_left _ (List.mem_append_left _ (List.mem_of_getElem? (i := 2) rfl))))))
theorem kX10_count_5 : Cond.fieldLink RX10 134 "GoreGlobe$Globe" "caps" "I" ∈ wsX10_count := List.mem_cons_of_mem _ (List.mem_append_left _ (List.mem_append_left _ (List.mem_append_left _ (List.mem_append_left _ (List.mem_append_left _ (List.mem_of_getElem? (i := 3) rfl))))))
theorem kX10_count_6 : Cond.fieldLink RX10 45 "GoreGlobe" "seas" "LGoreGlobe$Seas;" ∈ wsX10_count := List.mem_cons_of_mem _ (List.mem_append_left _ (List.mem_append_left _ (List.mem_append_left _ (List.mem_append_left _ (List.mem_append_left _ (List.mem_of_getElem? (i := 4) rfl))))))
theorem kX10_count_7 : Cond.fieldLink RX10 192 "GoreGlobe$Seas" "number" "I" ∈ wsX10_count := List.mem_cons_of_mem _ (List.mem_append_left _ (List.mem_append_left _ (List.mem_append_left _ (List.mem_append_left _ (List.mem_append_left _ (List.mem_of_getElem? (i := 5) rfl))))))
theorem kX10_count_cX5 : ∀ w ∈ wsX50, w ∈ wsX10_count := fun _ h => List.mem_cons_of_mem _ (List.mem_append_left _ (List.mem_append_right _ h))
theorem kX10_count_9 : Cond.fieldLink RX10 19 "GoreGlobe" "past" "LGoreGlobe$Past;" ∈ wsX10_count := List.mem_cons_of_mem _ (List.mem_append_left _ (List.mem_append_left _ (List.mem_append_left _ (List.mem_append_left _ (List.mem_append_left _ (List.mem_of_getElem? (i := 6) rfl))))))
theorem kX10_count_10 : Cond.fieldLink RX10 235 "GoreGlobe$Past" "known" "I" ∈ wsX10_count := List.mem_cons_of_mem _ (List.mem_append_left _ (List.mem_append_left _ (List.mem_append_left _ (List.mem_append_left _ (List.mem_append_left _ (List.mem_of_getElem? (i := 7) rfl))))))
theorem kX10_count_cX4 : ∀ w ∈ wsX40, w ∈ wsX10_count := fun _ h => List.mem_cons_of_mem _ (List.mem_append_right _ h)
set_option maxHeartbeats 4000000 in
set_option maxRecDepth 100000 in
theorem mX10_count (l : Launch) (D : va_G) (K : Nat → ClassId) (q : Nat → Nat) (sz : Nat) (a1 : Int32) (bits : Nat → Int64) (stops : Nat → Int32) (num : Int32) (unit : Int32) (strips : Int32) (caps : Int32) (draw : Int32) (oldest : Int32) (known : Int32) (ring : Nat → GS) (im : GS) (iold : Int32) (iknown : Int32) (iring : Nat → GS) (hasIm : Int32) (letters : Nat → Int32) (tbits : Nat → Int64) (tlen : Int32) (tat : Int32) (fig : Int32) (shI : Nat → Nat → Int64) (shH : Nat → Int32) (shL : Nat → Int32) (shS : Nat → Int32) (seaOf : Nat → Int32) (queue : Nat → Int32) (snum : Int32) (cost : Nat → Int32) (heap : Nat → Int64) (wait : Int32) (off : Int32) (les : Int32) (gre : Int32) (abv : Int64) (blw : Int64) (needed : Int32) (ocut : Int32) (opole : Int32)  {post : Int32 → (Nat → Int32) → (Nat → Int32) → Int32 → Prop} (hw : wX10_count a1 bits unit strips caps known seaOf queue snum post) : Met l yX10_count wsX10_count rmX10_count (va_Pc [.ref (q 0), .int a1] (cP D K (wX K q bits stops num unit strips caps draw oldest known ring im iold iknown iring hasIm letters tbits tlen tat fig shI shH shL shS seaOf queue snum cost heap wait off les gre abv blw needed ocut opole) sz)) (va_Qi (fun (r : Int32) (u : (Nat → Int32) × (Nat → Int32) × Int32) => post r u.1 u.2.1 u.2.2) (fun u t => cQ D K (wX K q bits stops num unit strips caps draw oldest known ring im iold iknown iring hasIm letters tbits tlen tat fig shI shH shL shS u.1 u.2.1 u.2.2 cost heap wait off les gre abv blw needed ocut opole) (va_A (wX K q bits stops num unit strips caps draw oldest known ring im iold iknown iring hasIm letters tbits tlen tat fig shI shH shL shS seaOf queue snum cost heap wait off les gre abv blw needed ocut opole) sz) t) (va_A (wX K q bits stops num unit strips caps draw oldest known ring im iold iknown iring hasIm letters tbits tlen tat fig shI shH shL shS seaOf queue snum cost heap wait off les gre abv blw needed ocut opole) sz)) 0 0 (va_A (wX K q bits stops num unit strips caps draw oldest known ring im iold iknown iring hasIm letters tbits tlen tat fig shI shH shL shS seaOf queue snum cost heap wait off les gre abv blw needed ocut opole) sz) := by
  refine x_entry (cc := cX10_count) (maxL := 2) (ret := (some .int)) (QA := fun A => va_Qi (fun (r : Int32) (u : (Nat → Int32) × (Nat → Int32) × Int32) => post r u.1 u.2.1 u.2.2) (fun u t => cQ D K (wX K q bits stops num unit strips caps draw oldest known ring im iold iknown iring hasIm letters tbits tlen tat fig shI shH shL shS u.1 u.2.1 u.2.2 cost heap wait off les gre abv blw needed ocut opole) A t) A) (plainFor_of_name (by decide)) rfl (Nat.le_of_ble_eq_true rfl) ?_
  intro p e s m args below meth c A ls H Q hQ hC hlk hr hnm hI hl
  obtain ⟨hx, hb, hml, hown, hts, hK, hA, hZ⟩ := id hC
  obtain ⟨locs, hlocs⟩ : ∃ y : List Loc, y = [] := ⟨_, rfl⟩
  rw [← hlocs] at hI ⊢
  clear hlocs
  replace hl : lv_has ls 2 [(0, .ref (q 0)), (1, .int a1)] := hl
  replace hw : ((a1 = (0 : Int32) → post unit seaOf queue snum) ∧ (¬ a1 = (0 : Int32) → ((a1 = (1 : Int32) → post strips seaOf queue snum) ∧ (¬ a1 = (1 : Int32) → ((a1 = (2 : Int32) → post caps seaOf queue snum) ∧ (¬ a1 = (2 : Int32) → ((a1 = (3 : Int32) → wX0_landNumber bits (fun (r5 : Int32) => post r5 seaOf queue snum)) ∧ (¬ a1 = (3 : Int32) → ((a1 = (4 : Int32) → wX5_chart seaOf queue bits (fun (seaOf_7 : Nat → Int32) (queue_8 : Nat → Int32) (snum_9 : Int32) => post snum_9 seaOf_7 queue_8 snum_9)) ∧ (¬ a1 = (4 : Int32) → ((a1 = (5 : Int32) → wX0_landNumberOnStrips bits caps (fun (r11 : Int32) => post r11 seaOf queue snum)) ∧ (¬ a1 = (5 : Int32) → ((a1 = (6 : Int32) → post known seaOf queue snum) ∧ (¬ a1 = (6 : Int32) → post (-1 : Int32) seaOf queue snum)))))))))))))) := hw
  refine lv_iload_n hx hb dX10_count_0 rfl (lv_at hl 1 rfl) ?_
  by_cases c1 : a1 = (0 : Int32)
  · replace hw := hw.1 c1
    refine lv_tableIn (off := 43) (tgt := 44) hx hb dX10_count_1 (by rw [c1]; decide) (by rw [c1]; decide) (by rw [c1]; rfl) (by decide) ?_
    refine lv_aload_n hx hb dX10_count_44 rfl (lv_at hl 0 rfl) ?_
    refine x_get (v := .ref (q 1)) hC hI kX10_count_cX10 0 rfl rfl 0 (by decide) kX10_count_0 rfl rfl dX10_count_45 ?_
    refine x_get (v := .int unit) hC hI kX10_count_cX0 1 rfl rfl 3 (by decide) kX10_count_2 rfl rfl dX10_count_48 ?_
    subst hQ
    exact x_iret (u := (seaOf, queue, snum)) hC hI hr hlk hw rfl dX10_count_51
  · replace hw := hw.2 c1
    by_cases c2 : a1 = (1 : Int32)
    · replace hw := hw.1 c2
      refine lv_tableIn (off := 51) (tgt := 52) hx hb dX10_count_1 (by rw [c2]; decide) (by rw [c2]; decide) (by rw [c2]; rfl) (by decide) ?_
      refine lv_aload_n hx hb dX10_count_52 rfl (lv_at hl 0 rfl) ?_
      refine x_get (v := .ref (q 1)) hC hI kX10_count_cX10 0 rfl rfl 0 (by decide) kX10_count_0 rfl rfl dX10_count_53 ?_
      refine x_get (v := .int strips) hC hI kX10_count_cX0 1 rfl rfl 4 (by decide) kX10_count_4 rfl rfl dX10_count_56 ?_
      subst hQ
      exact x_iret (u := (seaOf, queue, snum)) hC hI hr hlk hw rfl dX10_count_59
    · replace hw := hw.2 c2
      by_cases c3 : a1 = (2 : Int32)
      · replace hw := hw.1 c3
        refine lv_tableIn (off := 59) (tgt := 60) hx hb dX10_count_1 (by rw [c3]; decide) (by rw [c3]; decide) (by rw [c3]; rfl) (by decide) ?_
        refine lv_aload_n hx hb dX10_count_60 rfl (lv_at hl 0 rfl) ?_
        refine x_get (v := .ref (q 1)) hC hI kX10_count_cX10 0 rfl rfl 0 (by decide) kX10_count_0 rfl rfl dX10_count_61 ?_
        refine x_get (v := .int caps) hC hI kX10_count_cX0 1 rfl rfl 5 (by decide) kX10_count_5 rfl rfl dX10_count_64 ?_
        subst hQ
        exact x_iret (u := (seaOf, queue, snum)) hC hI hr hlk hw rfl dX10_count_67
      · replace hw := hw.2 c3
        by_cases c4 : a1 = (3 : Int32)
        · replace hw := hw.1 c4
          refine lv_tableIn (off := 67) (tgt := 68) hx hb dX10_count_1 (by rw [c4]; decide) (by rw [c4]; decide) (by rw [c4]; rfl) (by decide) ?_
          refine lv_aload_n hx hb dX10_count_68 rfl (lv_at hl 0 rfl) ?_
          refine x_get (v := .ref (q 1)) hC hI kX10_count_cX10 0 rfl rfl 0 (by decide) kX10_count_0 rfl rfl dX10_count_69 ?_
          refine x_callVi (rest := []) hC hI [1, 2, 3] (mX0_landNumber l D K (fun i => q (1 + i)) _ bits stops num unit strips caps draw hw) (cwV 0 hts gX10_count_X0_landNumber rfl rfl rfl (by decide +kernel) ⟨(Nat.le_of_ble_eq_true rfl), (Nat.le_of_ble_eq_true rfl)⟩) rfl rfl (fun _ => rfl) 1 0 rfl rfl rfl rfl hl.1 rfl (Nat.le_of_ble_eq_true rfl) dX10_count_72 ⟨(Nat.le_of_ble_eq_true rfl), (Nat.le_of_ble_eq_true rfl)⟩ (fun r5 u H locs hw hI => ?_)
          try dsimp only at hw
          have hI : wI s D A (wX K q bits stops num unit strips caps draw oldest known ring im iold iknown iring hasIm letters tbits tlen tat fig shI shH shL shS seaOf queue snum cost heap wait off les gre abv blw needed ocut opole) H locs := hI
          subst hQ
          exact x_iret (u := (seaOf, queue, snum)) hC hI hr hlk hw rfl dX10_count_75
        · replace hw := hw.2 c4
          by_cases c6 : a1 = (4 : Int32)
          · replace hw := hw.1 c6
            refine lv_tableIn (off := 75) (tgt := 76) hx hb dX10_count_1 (by rw [c6]; decide) (by rw [c6]; decide) (by rw [c6]; rfl) (by decide) ?_
            refine lv_aload_n hx hb dX10_count_76 rfl (lv_at hl 0 rfl) ?_
            refine x_get (v := .ref (q 59)) hC hI kX10_count_cX10 0 rfl rfl 7 (by decide) kX10_count_6 rfl rfl dX10_count_77 ?_
            refine lv_aload_n hx hb dX10_count_80 rfl (lv_at hl 0 rfl) ?_
            refine x_get (v := .ref (q 1)) hC hI kX10_count_cX10 0 rfl rfl 0 (by decide) kX10_count_0 rfl rfl dX10_count_81 ?_
            refine x_callVv (rest := []) hC hI [59, 60, 61, 1, 2, 3] (mX5_chart l D K (fun i => q (59 + i)) (fun i => q (1 + i)) _ seaOf queue snum bits stops num unit strips caps draw hw) (cwV 1 hts gX10_count_X5_chart rfl rfl rfl (by decide +kernel) ⟨(Nat.le_of_ble_eq_true rfl), (Nat.le_of_ble_eq_true rfl)⟩) rfl rfl (fun _ => rfl) 59 3 rfl rfl rfl rfl hl.1 rfl (Nat.le_of_ble_eq_true rfl) dX10_count_84 ⟨(Nat.le_of_ble_eq_true rfl), (Nat.le_of_ble_eq_true rfl)⟩ (fun u H locs hw hI => ?_)
            obtain ⟨seaOf_7, queue_8, snum_9⟩ := u
            try dsimp only at hw
            have hI : wI s D A (wX K q bits stops num unit strips caps draw oldest known ring im iold iknown iring hasIm letters tbits tlen tat fig shI shH shL shS seaOf_7 queue_8 snum_9 cost heap wait off les gre abv blw needed ocut opole) H locs := hI
            refine lv_aload_n hx hb dX10_count_87 rfl (lv_at hl 0 rfl) ?_
            refine x_get (v := .ref (q 59)) hC hI kX10_count_cX10 0 rfl rfl 7 (by decide) kX10_count_6 rfl rfl dX10_count_88 ?_
            refine x_get (v := .int snum_9) hC hI kX10_count_cX5 59 rfl rfl 2 (by decide) kX10_count_7 rfl rfl dX10_count_91 ?_
            subst hQ
            exact x_iret (u := (seaOf_7, queue_8, snum_9)) hC hI hr hlk hw rfl dX10_count_94
          · replace hw := hw.2 c6
            by_cases c10 : a1 = (5 : Int32)
            · replace hw := hw.1 c10
              refine lv_tableIn (off := 94) (tgt := 95) hx hb dX10_count_1 (by rw [c10]; decide) (by rw [c10]; decide) (by rw [c10]; rfl) (by decide) ?_
              refine lv_aload_n hx hb dX10_count_95 rfl (lv_at hl 0 rfl) ?_
              refine x_get (v := .ref (q 1)) hC hI kX10_count_cX10 0 rfl rfl 0 (by decide) kX10_count_0 rfl rfl dX10_count_96 ?_
              refine x_callVi (rest := []) hC hI [1, 2, 3] (mX0_landNumberOnStrips l D K (fun i => q (1 + i)) _ bits stops num unit strips caps draw hw) (cwV 0 hts gX10_count_X0_landNumberOnStrips rfl rfl rfl (by decide +kernel) ⟨(Nat.le_of_ble_eq_true rfl), (Nat.le_of_ble_eq_true rfl)⟩) rfl rfl (fun _ => rfl) 1 0 rfl rfl rfl rfl hl.1 rfl (Nat.le_of_ble_eq_true rfl) dX10_count_99 ⟨(Nat.le_of_ble_eq_true rfl), (Nat.le_of_ble_eq_true rfl)⟩ (fun r11 u H locs hw hI => ?_)
              try dsimp only at hw
              have hI : wI s D A (wX K q bits stops num unit strips caps draw oldest known ring im iold iknown iring hasIm letters tbits tlen tat fig shI shH shL shS seaOf queue snum cost heap wait off les gre abv blw needed ocut opole) H locs := hI
              subst hQ
              exact x_iret (u := (seaOf, queue, snum)) hC hI hr hlk hw rfl dX10_count_102
            · replace hw := hw.2 c10
              by_cases c12 : a1 = (6 : Int32)
              · replace hw := hw.1 c12
                refine lv_tableIn (off := 102) (tgt := 103) hx hb dX10_count_1 (by rw [c12]; decide) (by rw [c12]; decide) (by rw [c12]; rfl) (by decide) ?_
                refine lv_aload_n hx hb dX10_count_103 rfl (lv_at hl 0 rfl) ?_
                refine x_get (v := .ref (q 4)) hC hI kX10_count_cX10 0 rfl rfl 1 (by decide) kX10_count_9 rfl rfl dX10_count_104 ?_
                refine x_get (v := .int known) hC hI kX10_count_cX4 4 rfl rfl 2 (by decide) kX10_count_10 rfl rfl dX10_count_107 ?_
                subst hQ
                exact x_iret (u := (seaOf, queue, snum)) hC hI hr hlk hw rfl dX10_count_110
              · replace hw := hw.2 c12
                refine lv_tableOut (tgt := 111) hx hb dX10_count_1 (by have nc1 := lv_neT c1 (a := 0) rfl; have nc2 := lv_neT c2 (a := 1) rfl; have nc3 := lv_neT c3 (a := 2) rfl; have nc4 := lv_neT c4 (a := 3) rfl; have nc6 := lv_neT c6 (a := 4) rfl; have nc10 := lv_neT c10 (a := 5) rfl; have nc12 := lv_neT c12 (a := 6) rfl; omega) (by decide) ?_
                refine lv_iconst (v := (-1 : Int32)) hx hb dX10_count_111 (by decide) ?_
                subst hQ
                exact x_iret (u := (seaOf, queue, snum)) hC hI hr hlk hw rfl dX10_count_112

def wX10_land (a1 : Int32) (a2 : Int32) (bits : Nat → Int64) (stops : Nat → Int32) (num : Int32) (unit : Int32) (strips : Int32) (caps : Int32) (draw : Int32) (oldest : Int32) (known : Int32) (ring : Nat → GS) (post : Int32 → (Nat → Int64) → Int32 → Int32 → (Nat → GS) → Prop) : Prop := wX1_isNumber a1 (fun (r1 : Int32) => ((r1 = 0 → post (-1 : Int32) bits oldest known ring) ∧ (¬ r1 = 0 → wX10_isIn a2 (0 : Int32) (1 : Int32) (fun (r3 : Int32) => ((r3 = 0 → post (-1 : Int32) bits oldest known ring) ∧ (¬ r3 = 0 → wX0_isLand a1 bits (fun (r5 : Int32) => ∃ J36 : Int32 → Prop, (∀ (t_36 : Int32), J36 t_36 → ((r5 = t_36 → post (-2 : Int32) bits oldest known ring) ∧ (¬ r5 = t_36 → wX4_keep oldest known ring bits stops num unit strips caps draw (fun (oldest_7 : Int32) (known_8 : Int32) (ring_9 : Nat → GS) => wX0_turnOver a1 bits (fun (bits_10 : Nat → Int64) => wX0_landNumber bits_10 (fun (r11 : Int32) => post r11 bits_10 oldest_7 known_8 ring_9)))))) ∧ ((a2 = (1 : Int32) → J36 (1 : Int32)) ∧ (¬ a2 = (1 : Int32) → J36 (0 : Int32))))))))))
def rmX10_land : Room := { frames := 3, cells := 0, slots := 0, locals := 82 }
theorem kX10_land_0 : Cond.fieldLink RX10 10 "GoreGlobe" "now" "LGoreGlobe$Globe;" ∈ wsX10_land := List.mem_cons_of_mem _ (List.mem_append_left _ (List.mem_append_left _ (List.mem_append_left _ (List.mem_append_left _ (List.mem_of_getElem? (i := 0) rfl)))))
theorem kX10_land_cX10 : ∀ w ∈ wsX100, w ∈ wsX10_land := fun _ h => List.mem_cons_of_mem _ (List.mem_append_left _ (List.mem_append_left _ (List.mem_append_right _ h)))
theorem kX10_land_2 : Cond.fieldLink RX10 19 "GoreGlobe" "past" "LGoreGlobe$Past;" ∈ wsX10_land := List.mem_cons_of_mem _ (List.mem_append_left _ (List.mem_append_left _ (List.mem_append_left _ (List.mem_append_left _ (List.mem_of_getElem? (i := 1) rfl)))))
set_option maxHeartbeats 4000000 in
set_option maxRecDepth 100000 in
theorem mX10_land (l : Launch) (D : va_G) (K : Nat → ClassId) (q : Nat → Nat) (sz : Nat) (a1 : Int32) (a2 : Int32) (bits : Nat → Int64) (stops : Nat → Int32) (num : Int32) (unit : Int32) (strips : Int32) (caps : Int32) (draw : Int32) (oldest : Int32) (known : Int32) (ring : Nat → GS) (im : GS) (iold : Int32) (iknown : Int32) (iring : Nat → GS) (hasIm : Int32) (letters : Nat → Int32) (tbits : Nat → Int64) (tlen : Int32) (tat : Int32) (fig : Int32) (shI : Nat → Nat → Int64) (shH : Nat → Int32) (shL : Nat → Int32) (shS : Nat → Int32) (seaOf : Nat → Int32) (queue : Nat → Int32) (snum : Int32) (cost : Nat → Int32) (heap : Nat → Int64) (wait : Int32) (off : Int32) (les : Int32) (gre : Int32) (abv : Int64) (blw : Int64) (needed : Int32) (ocut : Int32) (opole : Int32)  {post : Int32 → (Nat → Int64) → Int32 → Int32 → (Nat → GS) → Prop} (hw : wX10_land a1 a2 bits stops num unit strips caps draw oldest known ring post) : Met l yX10_land wsX10_land rmX10_land (va_Pc [.ref (q 0), .int a1, .int a2] (cP D K (wX K q bits stops num unit strips caps draw oldest known ring im iold iknown iring hasIm letters tbits tlen tat fig shI shH shL shS seaOf queue snum cost heap wait off les gre abv blw needed ocut opole) sz)) (va_Qi (fun (r : Int32) (u : (Nat → Int64) × Int32 × Int32 × (Nat → GS)) => post r u.1 u.2.1 u.2.2.1 u.2.2.2) (fun u t => cQ D K (wX K q u.1 stops num unit strips caps draw u.2.1 u.2.2.1 u.2.2.2 im iold iknown iring hasIm letters tbits tlen tat fig shI shH shL shS seaOf queue snum cost heap wait off les gre abv blw needed ocut opole) (va_A (wX K q bits stops num unit strips caps draw oldest known ring im iold iknown iring hasIm letters tbits tlen tat fig shI shH shL shS seaOf queue snum cost heap wait off les gre abv blw needed ocut opole) sz) t) (va_A (wX K q bits stops num unit strips caps draw oldest known ring im iold iknown iring hasIm letters tbits tlen tat fig shI shH shL shS seaOf queue snum cost heap wait off les gre abv blw needed ocut opole) sz)) 0 0 (va_A (wX K q bits stops num unit strips caps draw oldest known ring im iold iknown iring hasIm letters tbits tlen tat fig shI shH shL shS seaOf queue snum cost heap wait off les gre abv blw needed ocut opole) sz) := by
  refine x_entry (cc := cX10_land) (maxL := 3) (ret := (some .int)) (QA := fun A => va_Qi (fun (r : Int32) (u : (Nat → Int64) × Int32 × Int32 × (Nat → GS)) => post r u.1 u.2.1 u.2.2.1 u.2.2.2) (fun u t => cQ D K (wX K q u.1 stops num unit strips caps draw u.2.1 u.2.2.1 u.2.2.2 im iold iknown iring hasIm letters tbits tlen tat fig shI shH shL shS seaOf queue snum cost heap wait off les gre abv blw needed ocut opole) A t) A) (plainFor_of_name (by decide)) rfl (Nat.le_of_ble_eq_true rfl) ?_
  intro p e s m args below meth c A ls H Q hQ hC hlk hr hnm hI hl
  obtain ⟨hx, hb, hml, hown, hts, hK, hA, hZ⟩ := id hC
  obtain ⟨locs, hlocs⟩ : ∃ y : List Loc, y = [] := ⟨_, rfl⟩
  rw [← hlocs] at hI ⊢
  clear hlocs
  replace hl : lv_has ls 3 [(0, .ref (q 0)), (1, .int a1), (2, .int a2)] := hl
  replace hw : wX1_isNumber a1 (fun (r1 : Int32) => ((r1 = 0 → post (-1 : Int32) bits oldest known ring) ∧ (¬ r1 = 0 → wX10_isIn a2 (0 : Int32) (1 : Int32) (fun (r3 : Int32) => ((r3 = 0 → post (-1 : Int32) bits oldest known ring) ∧ (¬ r3 = 0 → wX0_isLand a1 bits (fun (r5 : Int32) => ∃ J36 : Int32 → Prop, (∀ (t_36 : Int32), J36 t_36 → ((r5 = t_36 → post (-2 : Int32) bits oldest known ring) ∧ (¬ r5 = t_36 → wX4_keep oldest known ring bits stops num unit strips caps draw (fun (oldest_7 : Int32) (known_8 : Int32) (ring_9 : Nat → GS) => wX0_turnOver a1 bits (fun (bits_10 : Nat → Int64) => wX0_landNumber bits_10 (fun (r11 : Int32) => post r11 bits_10 oldest_7 known_8 ring_9)))))) ∧ ((a2 = (1 : Int32) → J36 (1 : Int32)) ∧ (¬ a2 = (1 : Int32) → J36 (0 : Int32)))))))))) := hw
  refine lv_iload_n hx hb dX10_land_0 rfl (lv_at hl 1 rfl) ?_
  refine x_callSi (rest := []) hC hI [] (mX1_isNumber l D K  _ a1 hw) (va_cwS 1 hts gX10_land_X1_isNumber rfl rfl rfl (by decide +kernel) ⟨(Nat.le_of_ble_eq_true rfl), (Nat.le_of_ble_eq_true rfl)⟩) rfl rfl (fun _ => rfl) rfl hl.1 rfl (Nat.le_of_ble_eq_true rfl) dX10_land_1 ⟨(Nat.le_of_ble_eq_true rfl), (Nat.le_of_ble_eq_true rfl)⟩ (fun r1 u H locs hw hI => ?_)
  try dsimp only at hw
  have hI : wI s D A (wX K q bits stops num unit strips caps draw oldest known ring im iold iknown iring hasIm letters tbits tlen tat fig shI shH shL shS seaOf queue snum cost heap wait off les gre abv blw needed ocut opole) H locs := hI
  refine lv_if_eq (tgt := 16) hx hb dX10_land_4 (by decide) (fun c2 => ?_) (fun c2 => ?_)
  · replace hw := hw.1 c2
    refine lv_iconst (v := (-1 : Int32)) hx hb dX10_land_16 (by decide) ?_
    subst hQ
    exact x_iret (u := (bits, oldest, known, ring)) hC hI hr hlk hw rfl dX10_land_17
  · replace hw := hw.2 c2
    refine lv_iload_n hx hb dX10_land_7 rfl (lv_at hl 2 rfl) ?_
    refine lv_iconst (v := (0 : Int32)) hx hb dX10_land_8 (by decide) ?_
    refine lv_iconst (v := (1 : Int32)) hx hb dX10_land_9 (by decide) ?_
    refine x_callSi (rest := []) hC hI [] (mX10_isIn l D K  _ a2 (0 : Int32) (1 : Int32) hw) (va_cwS 3 hts gX10_land_X10_isIn rfl rfl rfl (by decide +kernel) ⟨(Nat.le_of_ble_eq_true rfl), (Nat.le_of_ble_eq_true rfl)⟩) rfl rfl (fun _ => rfl) rfl hl.1 rfl (Nat.le_of_ble_eq_true rfl) dX10_land_10 ⟨(Nat.le_of_ble_eq_true rfl), (Nat.le_of_ble_eq_true rfl)⟩ (fun r3 u H locs hw hI => ?_)
    try dsimp only at hw
    have hI : wI s D A (wX K q bits stops num unit strips caps draw oldest known ring im iold iknown iring hasIm letters tbits tlen tat fig shI shH shL shS seaOf queue snum cost heap wait off les gre abv blw needed ocut opole) H locs := hI
    refine lv_if_ne (tgt := 18) hx hb dX10_land_13 (by decide) (fun c4 => ?_) (fun c4 => ?_)
    · replace hw := hw.2 c4
      refine lv_aload_n hx hb dX10_land_18 rfl (lv_at hl 0 rfl) ?_
      refine x_get (v := .ref (q 1)) hC hI kX10_land_cX10 0 rfl rfl 0 (by decide) kX10_land_0 rfl rfl dX10_land_19 ?_
      refine lv_iload_n hx hb dX10_land_22 rfl (lv_at hl 1 rfl) ?_
      refine x_callVi (rest := []) hC hI [1, 2, 3] (mX0_isLand l D K (fun i => q (1 + i)) _ a1 bits stops num unit strips caps draw hw) (cwV 1 hts gX10_land_X0_isLand rfl rfl rfl (by decide +kernel) ⟨(Nat.le_of_ble_eq_true rfl), (Nat.le_of_ble_eq_true rfl)⟩) rfl rfl (fun _ => rfl) 1 0 rfl rfl rfl rfl hl.1 rfl (Nat.le_of_ble_eq_true rfl) dX10_land_23 ⟨(Nat.le_of_ble_eq_true rfl), (Nat.le_of_ble_eq_true rfl)⟩ (fun r5 u H locs hw hI => ?_)
      try dsimp only at hw
      have hI : wI s D A (wX K q bits stops num unit strips caps draw oldest known ring im iold iknown iring hasIm letters tbits tlen tat fig shI shH shL shS seaOf queue snum cost heap wait off les gre abv blw needed ocut opole) H locs := hI
      refine lv_iload_n hx hb dX10_land_26 rfl (lv_at hl 2 rfl) ?_
      refine lv_iconst (v := (1 : Int32)) hx hb dX10_land_27 (by decide) ?_
      obtain ⟨J36, hJ36, hw⟩ := hw
      have jn36 : ∀ (t_36 : Int32) (ls : Array Slot) (H : Heap) (locs : List Loc), J36 t_36 → wI s D A (wX K q bits stops num unit strips caps draw oldest known ring im iold iknown iring hasIm letters tbits tlen tat fig shI shH shL shS seaOf queue snum cost heap wait off les gre abv blw needed ocut opole) H locs → lv_has ls 3 [(0, .ref (q 0)), (1, .int a1)] → W p l e rmX10_land s m args below meth c H locs 0 0 Q (F0 m 36 ls [.int t_36, .int r5]) := by
        intro t_36 ls H locs hw hI hl
        replace hw := hJ36 t_36 hw
        refine lv_icmp_ne (tgt := 42) hx hb dX10_land_36 (by decide) (fun c6 => ?_) (fun c6 => ?_)
        · replace hw := hw.2 c6
          refine lv_aload_n hx hb dX10_land_42 rfl (lv_at hl 0 rfl) ?_
          refine x_get (v := .ref (q 4)) hC hI kX10_land_cX10 0 rfl rfl 1 (by decide) kX10_land_2 rfl rfl dX10_land_43 ?_
          refine lv_aload_n hx hb dX10_land_46 rfl (lv_at hl 0 rfl) ?_
          refine x_get (v := .ref (q 1)) hC hI kX10_land_cX10 0 rfl rfl 0 (by decide) kX10_land_0 rfl rfl dX10_land_47 ?_
          refine x_callVv (rest := []) hC hI [4, 5, 6, 7, 8, 9, 10, 11, 12, 13, 14, 15, 16, 17, 18, 19, 20, 21, 22, 23, 1, 2, 3] (mX4_keep l D K (fun i => q (4 + i)) (fun i => q (1 + i)) _ oldest known ring bits stops num unit strips caps draw hw) (cwV 1 hts gX10_land_X4_keep rfl rfl rfl (by decide +kernel) ⟨(Nat.le_of_ble_eq_true rfl), (Nat.le_of_ble_eq_true rfl)⟩) rfl rfl (fun _ => rfl) 4 2 rfl rfl rfl rfl hl.1 rfl (Nat.le_of_ble_eq_true rfl) dX10_land_50 ⟨(Nat.le_of_ble_eq_true rfl), (Nat.le_of_ble_eq_true rfl)⟩ (fun u H locs hw hI => ?_)
          obtain ⟨oldest_7, known_8, ring_9⟩ := u
          try dsimp only at hw
          have hI : wI s D A (wX K q bits stops num unit strips caps draw oldest_7 known_8 ring_9 im iold iknown iring hasIm letters tbits tlen tat fig shI shH shL shS seaOf queue snum cost heap wait off les gre abv blw needed ocut opole) H locs := hI
          refine lv_aload_n hx hb dX10_land_53 rfl (lv_at hl 0 rfl) ?_
          refine x_get (v := .ref (q 1)) hC hI kX10_land_cX10 0 rfl rfl 0 (by decide) kX10_land_0 rfl rfl dX10_land_54 ?_
          refine lv_iload_n hx hb dX10_land_57 rfl (lv_at hl 1 rfl) ?_
          refine x_callVv (rest := []) hC hI [1, 2, 3] (mX0_turnOver l D K (fun i => q (1 + i)) _ a1 bits stops num unit strips caps draw hw) (cwV 1 hts gX10_land_X0_turnOver rfl rfl rfl (by decide +kernel) ⟨(Nat.le_of_ble_eq_true rfl), (Nat.le_of_ble_eq_true rfl)⟩) rfl rfl (fun _ => rfl) 1 0 rfl rfl rfl rfl hl.1 rfl (Nat.le_of_ble_eq_true rfl) dX10_land_58 ⟨(Nat.le_of_ble_eq_true rfl), (Nat.le_of_ble_eq_true rfl)⟩ (fun bits_10 H locs hw hI => ?_)
          have hI : wI s D A (wX K q bits_10 stops num unit strips caps draw oldest_7 known_8 ring_9 im iold iknown iring hasIm letters tbits tlen tat fig shI shH shL shS seaOf queue snum cost heap wait off les gre abv blw needed ocut opole) H locs := hI
          refine lv_aload_n hx hb dX10_land_61 rfl (lv_at hl 0 rfl) ?_
          refine x_get (v := .ref (q 1)) hC hI kX10_land_cX10 0 rfl rfl 0 (by decide) kX10_land_0 rfl rfl dX10_land_62 ?_
          refine x_callVi (rest := []) hC hI [1, 2, 3] (mX0_landNumber l D K (fun i => q (1 + i)) _ bits_10 stops num unit strips caps draw hw) (cwV 0 hts gX10_land_X0_landNumber rfl rfl rfl (by decide +kernel) ⟨(Nat.le_of_ble_eq_true rfl), (Nat.le_of_ble_eq_true rfl)⟩) rfl rfl (fun _ => rfl) 1 0 rfl rfl rfl rfl hl.1 rfl (Nat.le_of_ble_eq_true rfl) dX10_land_65 ⟨(Nat.le_of_ble_eq_true rfl), (Nat.le_of_ble_eq_true rfl)⟩ (fun r11 u H locs hw hI => ?_)
          try dsimp only at hw
          have hI : wI s D A (wX K q bits_10 stops num unit strips caps draw oldest_7 known_8 ring_9 im iold iknown iring hasIm letters tbits tlen tat fig shI shH shL shS seaOf queue snum cost heap wait off les gre abv blw needed ocut opole) H locs := hI
          subst hQ
          exact x_iret (u := (bits_10, oldest_7, known_8, ring_9)) hC hI hr hlk hw rfl dX10_land_68
        · replace hw := hw.1 c6
          refine lv_bipush (v := (-2 : Int32)) hx hb dX10_land_39 (by decide) ?_
          subst hQ
          exact x_iret (u := (bits, oldest, known, ring)) hC hI hr hlk hw rfl dX10_land_41
      refine lv_icmp_ne (tgt := 35) hx hb dX10_land_28 (by decide) (fun c12 => ?_) (fun c12 => ?_)
      · replace hw := hw.2 c12
        refine lv_iconst (v := (0 : Int32)) hx hb dX10_land_35 (by decide) ?_
        exact jn36 (0 : Int32) ls H locs hw hI (lv_sub hl [0, 1] rfl)
      · replace hw := hw.1 c12
        refine lv_iconst (v := (1 : Int32)) hx hb dX10_land_31 (by decide) ?_
        refine lv_goto (tgt := 36) hx hb dX10_land_32 (by decide) ?_
        exact jn36 (1 : Int32) ls H locs hw hI (lv_sub hl [0, 1] rfl)
    · replace hw := hw.1 c4
      refine lv_iconst (v := (-1 : Int32)) hx hb dX10_land_16 (by decide) ?_
      subst hQ
      exact x_iret (u := (bits, oldest, known, ring)) hC hI hr hlk hw rfl dX10_land_17

def wX10_isStripNumber (a0 : Int32)  (post : Int32 → Prop) : Prop := (∃ (I9 : Int32 → Prop) (mu9 : Int32 → Nat), I9 (0 : Int32) ∧ ∀ (l3_9 : Int32), I9 l3_9 → (((6 : Int32) ≤ l3_9 → post (0 : Int32)) ∧ (¬ (6 : Int32) ≤ l3_9 → vp_in l3_9 6 ∧ ∀ x4 : Int32, x4 = stripsF l3_9.toNatClampNeg → ((x4 = a0 → post (1 : Int32)) ∧ (¬ x4 = a0 → ∀ x6 : Int32, x6 = l3_9 + 1 → (I9 x6 ∧ mu9 x6 < mu9 l3_9))))))
def rmX10_isStripNumber : Room := { frames := 0, cells := 0, slots := 0, locals := 0 }
theorem kX10_isStripNumber_0 : Cond.fieldLink RX10 306 "GoreGlobe" "STRIP_NUMBERS" "[I" ∈ wsX10_isStripNumber := List.mem_cons_of_mem _ (List.mem_of_getElem? (i := 0) rfl)
set_option maxHeartbeats 4000000 in
set_option maxRecDepth 100000 in
theorem mX10_isStripNumber (l : Launch) (D : va_G) (K : Nat → ClassId)  (sz : Nat) (a0 : Int32)   {post : Int32 → Prop} (hw : wX10_isStripNumber a0  post) : Met l yX10_isStripNumber wsX10_isStripNumber rmX10_isStripNumber (va_Pc [.int a0] (cP D K ([]) sz)) (va_Qi (fun (r : Int32) (u : Unit) => post r) (fun u t => cQ D K ([]) (va_A ([]) sz) t) (va_A ([]) sz)) 0 0 (va_A ([]) sz) := by
  refine x_entry (cc := cX10_isStripNumber) (maxL := 5) (ret := (some .boolean)) (QA := fun A => va_Qi (fun (r : Int32) (u : Unit) => post r) (fun u t => cQ D K ([]) A t) A) (plainFor_of_name (by decide)) rfl (Nat.le_of_ble_eq_true rfl) ?_
  intro p e s m args below meth c A ls H Q hQ hC hlk hr hnm hI hl
  obtain ⟨hx, hb, hml, hown, hts, hK, hA, hZ⟩ := id hC
  obtain ⟨locs, hlocs⟩ : ∃ y : List Loc, y = [] := ⟨_, rfl⟩
  rw [← hlocs] at hI ⊢
  clear hlocs
  replace hl : lv_has ls 5 [(0, .int a0)] := hl
  replace hw : (∃ (I9 : Int32 → Prop) (mu9 : Int32 → Nat), I9 (0 : Int32) ∧ ∀ (l3_9 : Int32), I9 l3_9 → (((6 : Int32) ≤ l3_9 → post (0 : Int32)) ∧ (¬ (6 : Int32) ≤ l3_9 → vp_in l3_9 6 ∧ ∀ x4 : Int32, x4 = stripsF l3_9.toNatClampNeg → ((x4 = a0 → post (1 : Int32)) ∧ (¬ x4 = a0 → ∀ x6 : Int32, x6 = l3_9 + 1 → (I9 x6 ∧ mu9 x6 < mu9 l3_9)))))) := hw
  refine x_gets hC hI hZ.2 kX10_isStripNumber_0 dX10_isStripNumber_0 (fun t1 ht1 => ?_)
  refine lv_astore_n (lv' := [(1, .ref t1), (0, .int a0)]) hx hb dX10_isStripNumber_3 rfl hl (by decide) rfl (fun ls hl => ?_)
  refine lv_aload_n hx hb dX10_isStripNumber_4 rfl (lv_at hl 0 rfl) ?_
  refine x_tlen (v := (6 : Int32)) hC hI ht1 rfl dX10_isStripNumber_5 ?_
  refine lv_istore_n (lv' := [(2, .int (6 : Int32)), (1, .ref t1), (0, .int a0)]) hx hb dX10_isStripNumber_6 rfl hl (by decide) rfl (fun ls hl => ?_)
  refine lv_iconst (v := (0 : Int32)) hx hb dX10_isStripNumber_7 (by decide) ?_
  refine lv_istore_n (lv' := [(3, .int (0 : Int32)), (2, .int (6 : Int32)), (1, .ref t1), (0, .int a0)]) hx hb dX10_isStripNumber_8 rfl hl (by decide) rfl (fun ls hl => ?_)
  obtain ⟨I9, mu9, hw, hb9⟩ := hw
  have lp9 : ∀ (k : Nat) (l3_9 : Int32) (ls : Array Slot) (H : Heap) (locs : List Loc), mu9 l3_9 < k → I9 l3_9 → wI s D A ([]) H locs → lv_has ls 5 [(0, .int a0), (1, .ref t1), (2, .int (6 : Int32)), (3, .int l3_9)] → W p l e rmX10_isStripNumber s m args below meth c H locs 0 0 Q (F0 m 9 ls []) := by
    intro k
    induction k with
    | zero => intro l3_9 ls H locs hmu; exact absurd hmu (Nat.not_lt_zero _)
    | succ k ih9 =>
      intro l3_9 ls H locs hmu9 hw hI hl
      replace hw := hb9 l3_9 hw
      refine lv_iload_n hx hb dX10_isStripNumber_9 rfl (lv_at hl 3 rfl) ?_
      refine lv_iload_n hx hb dX10_isStripNumber_10 rfl (lv_at hl 2 rfl) ?_
      refine lv_icmp_ge (tgt := 33) hx hb dX10_isStripNumber_11 (by decide) (fun c2 => ?_) (fun c2 => ?_)
      · replace hw := hw.1 c2
        refine lv_iconst (v := (0 : Int32)) hx hb dX10_isStripNumber_33 (by decide) ?_
        subst hQ
        exact x_zret (u := ()) hC hI hr hlk hw rfl (Or.inl rfl) dX10_isStripNumber_34
      · replace hw := hw.2 c2
        refine lv_aload_n hx hb dX10_isStripNumber_14 rfl (lv_at hl 1 rfl) ?_
        refine lv_iload_n hx hb dX10_isStripNumber_15 rfl (lv_at hl 3 rfl) ?_
        obtain ⟨hc3, hw⟩ := hw
        refine x_ti hC hI ht1 hc3 dX10_isStripNumber_16 ?_
        refine lv_topi (fun x4 ex4 => ?_)
        replace hw := hw x4 ex4
        refine lv_istore (lv' := [(4, .int x4), (0, .int a0), (1, .ref t1), (2, .int (6 : Int32)), (3, .int l3_9)]) hx hb dX10_isStripNumber_17 hl (by decide) rfl (fun ls hl => ?_)
        refine lv_iload hx hb dX10_isStripNumber_19 (lv_at hl 0 rfl) ?_
        refine lv_iload_n hx hb dX10_isStripNumber_21 rfl (lv_at hl 1 rfl) ?_
        refine lv_icmp_ne (tgt := 27) hx hb dX10_isStripNumber_22 (by decide) (fun c5 => ?_) (fun c5 => ?_)
        · replace hw := hw.2 c5
          obtain ⟨x6, ex6⟩ : ∃ y : Int32, y = l3_9 + 1 := ⟨_, rfl⟩
          replace hw := hw x6 ex6
          refine lv_iinc (v := x6) (lv' := [(3, .int x6), (4, .int x4), (0, .int a0), (1, .ref t1), (2, .int (6 : Int32))]) hx hb dX10_isStripNumber_27 hl (k := 4) rfl (by rw [ex6]; rfl) (by decide) rfl (fun ls hl => ?_)
          refine lv_goto (tgt := 9) hx hb dX10_isStripNumber_30 (by decide) ?_
          exact ih9 x6 ls H locs (Nat.lt_of_lt_of_le hw.2 (Nat.le_of_lt_succ hmu9)) hw.1 hI (lv_sub hl [2, 3, 4, 0] rfl)
        · replace hw := hw.1 c5
          refine lv_iconst (v := (1 : Int32)) hx hb dX10_isStripNumber_25 (by decide) ?_
          subst hQ
          exact x_zret (u := ()) hC hI hr hlk hw rfl (Or.inr rfl) dX10_isStripNumber_26
  exact lp9 (mu9 (0 : Int32) + 1) (0 : Int32) ls H locs (Nat.lt_succ_self _) hw hI (lv_sub hl [3, 2, 1, 0] rfl)

def wX10_mayBeTold (a0 : Int32) (a1 : Int32)  (post : Int32 → Prop) : Prop := ((a0 = (0 : Int32) → wX10_isIn a1 (10 : Int32) (200 : Int32) (fun (r2 : Int32) => (r2 = 0 ∨ r2 = 1) ∧ post r2)) ∧ (¬ a0 = (0 : Int32) → ((a0 = (1 : Int32) → wX10_isStripNumber a1 (fun (r5 : Int32) => (r5 = 0 ∨ r5 = 1) ∧ post r5)) ∧ (¬ a0 = (1 : Int32) → ((a0 = (2 : Int32) → wX10_isIn a1 (0 : Int32) (3 : Int32) (fun (r8 : Int32) => (r8 = 0 ∨ r8 = 1) ∧ post r8)) ∧ (¬ a0 = (2 : Int32) → post (0 : Int32)))))))
def rmX10_mayBeTold : Room := { frames := 1, cells := 0, slots := 0, locals := 24 }
set_option maxHeartbeats 4000000 in
set_option maxRecDepth 100000 in
theorem mX10_mayBeTold (l : Launch) (D : va_G) (K : Nat → ClassId)  (sz : Nat) (a0 : Int32) (a1 : Int32)   {post : Int32 → Prop} (hw : wX10_mayBeTold a0 a1  post) : Met l yX10_mayBeTold wsX10_mayBeTold rmX10_mayBeTold (va_Pc [.int a0, .int a1] (cP D K ([]) sz)) (va_Qi (fun (r : Int32) (u : Unit) => post r) (fun u t => cQ D K ([]) (va_A ([]) sz) t) (va_A ([]) sz)) 0 0 (va_A ([]) sz) := by
  refine x_entry (cc := cX10_mayBeTold) (maxL := 2) (ret := (some .boolean)) (QA := fun A => va_Qi (fun (r : Int32) (u : Unit) => post r) (fun u t => cQ D K ([]) A t) A) (plainFor_of_name (by decide)) rfl (Nat.le_of_ble_eq_true rfl) ?_
  intro p e s m args below meth c A ls H Q hQ hC hlk hr hnm hI hl
  obtain ⟨hx, hb, hml, hown, hts, hK, hA, hZ⟩ := id hC
  obtain ⟨locs, hlocs⟩ : ∃ y : List Loc, y = [] := ⟨_, rfl⟩
  rw [← hlocs] at hI ⊢
  clear hlocs
  replace hl : lv_has ls 2 [(0, .int a0), (1, .int a1)] := hl
  replace hw : ((a0 = (0 : Int32) → wX10_isIn a1 (10 : Int32) (200 : Int32) (fun (r2 : Int32) => (r2 = 0 ∨ r2 = 1) ∧ post r2)) ∧ (¬ a0 = (0 : Int32) → ((a0 = (1 : Int32) → wX10_isStripNumber a1 (fun (r5 : Int32) => (r5 = 0 ∨ r5 = 1) ∧ post r5)) ∧ (¬ a0 = (1 : Int32) → ((a0 = (2 : Int32) → wX10_isIn a1 (0 : Int32) (3 : Int32) (fun (r8 : Int32) => (r8 = 0 ∨ r8 = 1) ∧ post r8)) ∧ (¬ a0 = (2 : Int32) → post (0 : Int32))))))) := hw
  refine lv_iload_n hx hb dX10_mayBeTold_0 rfl (lv_at hl 0 rfl) ?_
  by_cases c1 : a0 = (0 : Int32)
  · replace hw := hw.1 c1
    refine lv_tableIn (off := 27) (tgt := 28) hx hb dX10_mayBeTold_1 (by rw [c1]; decide) (by rw [c1]; decide) (by rw [c1]; rfl) (by decide) ?_
    refine lv_iload_n hx hb dX10_mayBeTold_28 rfl (lv_at hl 1 rfl) ?_
    refine lv_bipush (v := (10 : Int32)) hx hb dX10_mayBeTold_29 (by decide) ?_
    refine lv_sipush (v := (200 : Int32)) hx hb dX10_mayBeTold_31 (by decide) ?_
    refine x_callSi (rest := []) hC hI [] (mX10_isIn l D K  _ a1 (10 : Int32) (200 : Int32) hw) (va_cwS 3 hts gX10_mayBeTold_X10_isIn rfl rfl rfl (by decide +kernel) ⟨(Nat.le_of_ble_eq_true rfl), (Nat.le_of_ble_eq_true rfl)⟩) rfl rfl (fun _ => rfl) rfl hl.1 rfl (Nat.le_of_ble_eq_true rfl) dX10_mayBeTold_34 ⟨(Nat.le_of_ble_eq_true rfl), (Nat.le_of_ble_eq_true rfl)⟩ (fun r2 u H locs hw hI => ?_)
    try dsimp only at hw
    have hI : wI s D A ([]) H locs := hI
    obtain ⟨hc3, hw⟩ := hw
    subst hQ
    exact x_zret (u := ()) hC hI hr hlk hw rfl hc3 dX10_mayBeTold_37
  · replace hw := hw.2 c1
    by_cases c4 : a0 = (1 : Int32)
    · replace hw := hw.1 c4
      refine lv_tableIn (off := 37) (tgt := 38) hx hb dX10_mayBeTold_1 (by rw [c4]; decide) (by rw [c4]; decide) (by rw [c4]; rfl) (by decide) ?_
      refine lv_iload_n hx hb dX10_mayBeTold_38 rfl (lv_at hl 1 rfl) ?_
      refine x_callSi (rest := []) hC hI [] (mX10_isStripNumber l D K  _ a1 hw) (va_cwS 1 hts gX10_mayBeTold_X10_isStripNumber rfl rfl rfl (by decide +kernel) ⟨(Nat.le_of_ble_eq_true rfl), (Nat.le_of_ble_eq_true rfl)⟩) rfl rfl (fun _ => rfl) rfl hl.1 rfl (Nat.le_of_ble_eq_true rfl) dX10_mayBeTold_39 ⟨(Nat.le_of_ble_eq_true rfl), (Nat.le_of_ble_eq_true rfl)⟩ (fun r5 u H locs hw hI => ?_)
      try dsimp only at hw
      have hI : wI s D A ([]) H locs := hI
      obtain ⟨hc6, hw⟩ := hw
      subst hQ
      exact x_zret (u := ()) hC hI hr hlk hw rfl hc6 dX10_mayBeTold_42
    · replace hw := hw.2 c4
      by_cases c7 : a0 = (2 : Int32)
      · replace hw := hw.1 c7
        refine lv_tableIn (off := 42) (tgt := 43) hx hb dX10_mayBeTold_1 (by rw [c7]; decide) (by rw [c7]; decide) (by rw [c7]; rfl) (by decide) ?_
        refine lv_iload_n hx hb dX10_mayBeTold_43 rfl (lv_at hl 1 rfl) ?_
        refine lv_iconst (v := (0 : Int32)) hx hb dX10_mayBeTold_44 (by decide) ?_
        refine lv_iconst (v := (3 : Int32)) hx hb dX10_mayBeTold_45 (by decide) ?_
        refine x_callSi (rest := []) hC hI [] (mX10_isIn l D K  _ a1 (0 : Int32) (3 : Int32) hw) (va_cwS 3 hts gX10_mayBeTold_X10_isIn rfl rfl rfl (by decide +kernel) ⟨(Nat.le_of_ble_eq_true rfl), (Nat.le_of_ble_eq_true rfl)⟩) rfl rfl (fun _ => rfl) rfl hl.1 rfl (Nat.le_of_ble_eq_true rfl) dX10_mayBeTold_46 ⟨(Nat.le_of_ble_eq_true rfl), (Nat.le_of_ble_eq_true rfl)⟩ (fun r8 u H locs hw hI => ?_)
        try dsimp only at hw
        have hI : wI s D A ([]) H locs := hI
        obtain ⟨hc9, hw⟩ := hw
        subst hQ
        exact x_zret (u := ()) hC hI hr hlk hw rfl hc9 dX10_mayBeTold_49
      · replace hw := hw.2 c7
        refine lv_tableOut (tgt := 50) hx hb dX10_mayBeTold_1 (by have nc1 := lv_neT c1 (a := 0) rfl; have nc4 := lv_neT c4 (a := 1) rfl; have nc7 := lv_neT c7 (a := 2) rfl; omega) (by decide) ?_
        refine lv_iconst (v := (0 : Int32)) hx hb dX10_mayBeTold_50 (by decide) ?_
        subst hQ
        exact x_zret (u := ()) hC hI hr hlk hw rfl (Or.inl rfl) dX10_mayBeTold_51
