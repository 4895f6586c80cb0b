def wX10_way (a1 : Int32) (a2 : Int32) (a3 : Int32) (bits : Nat → Int64) (unit : Int32) (cost : Nat → Int32) (heap : Nat → Int64) (wait : Int32) (post : Int32 → (Nat → Int32) → (Nat → Int64) → Int32 → Prop) : Prop := wX1_isNumber a1 (fun (r1 : Int32) => ((r1 = 0 → post (-1 : Int32) cost heap wait) ∧ (¬ r1 = 0 → wX1_isNumber a2 (fun (r3 : Int32) => ((r3 = 0 → post (-1 : Int32) cost heap wait) ∧ (¬ r3 = 0 → wX10_isIn a3 (0 : Int32) (2 : Int32) (fun (r5 : Int32) => ((r5 = 0 → post (-1 : Int32) cost heap wait) ∧ (¬ r5 = 0 → wX8_spread a2 a1 cost heap bits unit (fun (cost_c7 : Nat → Int32) (heap_c8 : Nat → Int64) (wait_c9 : Int32) => vp_in a1 266 ∧ ∀ x11 : Int32, x11 = cost_c7 a1.toNatClampNeg → ((x11 = (2147483647 : Int32) → post (-4 : Int32) cost_c7 heap_c8 wait_c9) ∧ (¬ x11 = (2147483647 : Int32) → ((a3 = (0 : Int32) → wX8_farOf x11 (fun (r14 : Int32) => post r14 cost_c7 heap_c8 wait_c9)) ∧ (¬ a3 = (0 : Int32) → ((a3 = (1 : Int32) → wX8_stepsOf x11 (fun (r16 : Int32) => post r16 cost_c7 heap_c8 wait_c9)) ∧ (¬ a3 = (1 : Int32) → wX8_leastFirstStep a1 cost_c7 unit (fun (r17 : Int32) => post r17 cost_c7 heap_c8 wait_c9)))))))))))))))))
def rmX10_way : Room := { frames := 5, cells := 0, slots := 0, locals := 116 }
theorem kX10_way_0 : Cond.fieldLink RX10 52 "GoreGlobe" "ways" "LGoreGlobe$Ways;" ∈ wsX10_way := List.mem_cons_of_mem _ (List.mem_append_left _ (List.mem_append_left _ (List.mem_append_left _ (List.mem_append_left _ (List.mem_of_getElem? (i := 0) rfl)))))
theorem kX10_way_cX10 : ∀ w ∈ wsX100, w ∈ wsX10_way := fun _ h => List.mem_cons_of_mem _ (List.mem_append_left _ (List.mem_append_left _ (List.mem_append_right _ h)))
theorem kX10_way_2 : Cond.fieldLink RX10 10 "GoreGlobe" "now" "LGoreGlobe$Globe;" ∈ wsX10_way := List.mem_cons_of_mem _ (List.mem_append_left _ (List.mem_append_left _ (List.mem_append_left _ (List.mem_append_left _ (List.mem_of_getElem? (i := 1) rfl)))))
theorem kX10_way_3 : Cond.fieldLink RX10 178 "GoreGlobe$Ways" "cost" "[I" ∈ wsX10_way := List.mem_cons_of_mem _ (List.mem_append_left _ (List.mem_append_left _ (List.mem_append_left _ (List.mem_append_left _ (List.mem_of_getElem? (i := 2) rfl)))))
theorem kX10_way_cX8 : ∀ w ∈ wsX80, w ∈ wsX10_way := fun _ h => List.mem_cons_of_mem _ (List.mem_append_left _ (List.mem_append_right _ h))
theorem kX10_way_5 : Cond.constant RX10 181 (2147483647) ∈ wsX10_way := List.mem_cons_of_mem _ (List.mem_append_left _ (List.mem_append_left _ (List.mem_append_left _ (List.mem_append_left _ (List.mem_of_getElem? (i := 3) rfl)))))
set_option maxHeartbeats 4000000 in
set_option maxRecDepth 100000 in
theorem mX10_way (l : Launch) (D : va_G) (K : Nat → ClassId) (q : Nat → Nat) (sz : Nat) (a1 : Int32) (a2 : Int32) (a3 : Int32) (bits : Nat → Int64) (stops : Nat → Int32) (num : Int32) (unit : Int32) (strips : Int32) (caps : Int32) (draw : Int32) (oldest : Int32) (known : Int32) (ring : Nat → GS) (im : GS) (iold : Int32) (iknown : Int32) (iring : Nat → GS) (hasIm : Int32) (letters : Nat → Int32) (tbits : Nat → Int64) (tlen : Int32) (tat : Int32) (fig : Int32) (shI : Nat → Nat → Int64) (shH : Nat → Int32) (shL : Nat → Int32) (shS : Nat → Int32) (seaOf : Nat → Int32) (queue : Nat → Int32) (snum : Int32) (cost : Nat → Int32) (heap : Nat → Int64) (wait : Int32) (off : Int32) (les : Int32) (gre : Int32) (abv : Int64) (blw : Int64) (needed : Int32) (ocut : Int32) (opole : Int32)  {post : Int32 → (Nat → Int32) → (Nat → Int64) → Int32 → Prop} (hw : wX10_way a1 a2 a3 bits unit cost heap wait post) : Met l yX10_way wsX10_way rmX10_way (va_Pc [.ref (q 0), .int a1, .int a2, .int a3] (cP D K (fl (lX K q bits stops num unit strips caps draw oldest known ring im iold iknown iring hasIm letters tbits tlen tat fig shI shH shL shS seaOf queue snum cost heap wait off les gre abv blw needed ocut opole)) sz)) (va_Qi (fun (r : Int32) (u : (Nat → Int32) × (Nat → Int64) × Int32) => post r u.1 u.2.1 u.2.2) (fun u t => cQ D K (fl (lX K q bits stops num unit strips caps draw oldest known ring im iold iknown iring hasIm letters tbits tlen tat fig shI shH shL shS seaOf queue snum u.1 u.2.1 u.2.2 off les gre abv blw needed ocut opole)) (va_A (fl (lX K q bits stops num unit strips caps draw oldest known ring im iold iknown iring hasIm letters tbits tlen tat fig shI shH shL shS seaOf queue snum cost heap wait off les gre abv blw needed ocut opole)) sz) t) (va_A (fl (lX K q bits stops num unit strips caps draw oldest known ring im iold iknown iring hasIm letters tbits tlen tat fig shI shH shL shS seaOf queue snum cost heap wait off les gre abv blw needed ocut opole)) sz)) 0 0 (va_A (fl (lX K q bits stops num unit strips caps draw oldest known ring im iold iknown iring hasIm letters tbits tlen tat fig shI shH shL shS seaOf queue snum cost heap wait off les gre abv blw needed ocut opole)) sz) := by
  refine x_entry (cc := cX10_way) (maxL := 5) (ret := (some .int)) (QA := fun A => va_Qi (fun (r : Int32) (u : (Nat → Int32) × (Nat → Int64) × Int32) => post r u.1 u.2.1 u.2.2) (fun u t => cQ D K (fl (lX K q bits stops num unit strips caps draw oldest known ring im iold iknown iring hasIm letters tbits tlen tat fig shI shH shL shS seaOf queue snum u.1 u.2.1 u.2.2 off les gre abv blw needed ocut opole)) A t) A) (plainFor_of_name (by decide)) rfl (Nat.le_of_ble_eq_true rfl) ?_
  intro p e s m args below meth c A ls H Q hQ hC hlk hr hnm hI hl
  obtain ⟨hx, hb, hml, hown, hts, hK, hA, hZ⟩ := id hC
  obtain ⟨locs, hlocs⟩ : ∃ y : List Loc, y = [] := ⟨_, rfl⟩
  rw [← hlocs] at hI ⊢
  clear hlocs
  replace hl : lv_has ls 5 [(0, .ref (q 0)), (1, .int a1), (2, .int a2), (3, .int a3)] := hl
  replace hw : wX1_isNumber a1 (fun (r1 : Int32) => ((r1 = 0 → post (-1 : Int32) cost heap wait) ∧ (¬ r1 = 0 → wX1_isNumber a2 (fun (r3 : Int32) => ((r3 = 0 → post (-1 : Int32) cost heap wait) ∧ (¬ r3 = 0 → wX10_isIn a3 (0 : Int32) (2 : Int32) (fun (r5 : Int32) => ((r5 = 0 → post (-1 : Int32) cost heap wait) ∧ (¬ r5 = 0 → wX8_spread a2 a1 cost heap bits unit (fun (cost_c7 : Nat → Int32) (heap_c8 : Nat → Int64) (wait_c9 : Int32) => vp_in a1 266 ∧ ∀ x11 : Int32, x11 = cost_c7 a1.toNatClampNeg → ((x11 = (2147483647 : Int32) → post (-4 : Int32) cost_c7 heap_c8 wait_c9) ∧ (¬ x11 = (2147483647 : Int32) → ((a3 = (0 : Int32) → wX8_farOf x11 (fun (r14 : Int32) => post r14 cost_c7 heap_c8 wait_c9)) ∧ (¬ a3 = (0 : Int32) → ((a3 = (1 : Int32) → wX8_stepsOf x11 (fun (r16 : Int32) => post r16 cost_c7 heap_c8 wait_c9)) ∧ (¬ a3 = (1 : Int32) → wX8_leastFirstStep a1 cost_c7 unit (fun (r17 : Int32) => post r17 cost_c7 heap_c8 wait_c9))))))))))))))))) := hw
  refine lv_iload_n hx hb dX10_way_0 rfl (lv_at hl 1 rfl) ?_
  refine x_callSi (rest := []) hC hI [] (mX1_isNumber l D K  _ a1 hw) (va_cwS 1 hts gX10_way_X1_isNumber rfl rfl rfl (by decide +kernel) ⟨(Nat.le_of_ble_eq_true rfl), (Nat.le_of_ble_eq_true rfl)⟩) (by decide) rfl (fun _ => rfl) rfl hl.1 rfl (Nat.le_of_ble_eq_true rfl) dX10_way_1 ⟨(Nat.le_of_ble_eq_true rfl), (Nat.le_of_ble_eq_true rfl)⟩ (fun r1 u H locs hw hI => ?_)
  try dsimp only at hw
  have hI : wI s D A (fl (lX K q bits stops num unit strips caps draw oldest known ring im iold iknown iring hasIm letters tbits tlen tat fig shI shH shL shS seaOf queue snum cost heap wait off les gre abv blw needed ocut opole)) H locs := hI
  refine lv_if_eq (tgt := 23) hx hb dX10_way_4 (by decide) (fun c2 => ?_) (fun c2 => ?_)
  · replace hw := hw.1 c2
    refine lv_iconst (v := (-1 : Int32)) hx hb dX10_way_23 (by decide) ?_
    subst hQ
    exact x_iret (u := (cost, heap, wait)) hC hI hr hlk hw rfl dX10_way_24
  · replace hw := hw.2 c2
    refine lv_iload_n hx hb dX10_way_7 rfl (lv_at hl 2 rfl) ?_
    refine x_callSi (rest := []) hC hI [] (mX1_isNumber l D K  _ a2 hw) (va_cwS 1 hts gX10_way_X1_isNumber rfl rfl rfl (by decide +kernel) ⟨(Nat.le_of_ble_eq_true rfl), (Nat.le_of_ble_eq_true rfl)⟩) (by decide) rfl (fun _ => rfl) rfl hl.1 rfl (Nat.le_of_ble_eq_true rfl) dX10_way_8 ⟨(Nat.le_of_ble_eq_true rfl), (Nat.le_of_ble_eq_true rfl)⟩ (fun r3 u H locs hw hI => ?_)
    try dsimp only at hw
    have hI : wI s D A (fl (lX K q bits stops num unit strips caps draw oldest known ring im iold iknown iring hasIm letters tbits tlen tat fig shI shH shL shS seaOf queue snum cost heap wait off les gre abv blw needed ocut opole)) H locs := hI
    refine lv_if_eq (tgt := 23) hx hb dX10_way_11 (by decide) (fun c4 => ?_) (fun c4 => ?_)
    · replace hw := hw.1 c4
      refine lv_iconst (v := (-1 : Int32)) hx hb dX10_way_23 (by decide) ?_
      subst hQ
      exact x_iret (u := (cost, heap, wait)) hC hI hr hlk hw rfl dX10_way_24
    · replace hw := hw.2 c4
      refine lv_iload_n hx hb dX10_way_14 rfl (lv_at hl 3 rfl) ?_
      refine lv_iconst (v := (0 : Int32)) hx hb dX10_way_15 (by decide) ?_
      refine lv_iconst (v := (2 : Int32)) hx hb dX10_way_16 (by decide) ?_
      refine x_callSi (rest := []) hC hI [] (mX10_isIn l D K  _ a3 (0 : Int32) (2 : Int32) hw) (va_cwS 3 hts gX10_way_X10_isIn rfl rfl rfl (by decide +kernel) ⟨(Nat.le_of_ble_eq_true rfl), (Nat.le_of_ble_eq_true rfl)⟩) (by decide) rfl (fun _ => rfl) rfl hl.1 rfl (Nat.le_of_ble_eq_true rfl) dX10_way_17 ⟨(Nat.le_of_ble_eq_true rfl), (Nat.le_of_ble_eq_true rfl)⟩ (fun r5 u H locs hw hI => ?_)
      try dsimp only at hw
      have hI : wI s D A (fl (lX K q bits stops num unit strips caps draw oldest known ring im iold iknown iring hasIm letters tbits tlen tat fig shI shH shL shS seaOf queue snum cost heap wait off les gre abv blw needed ocut opole)) H locs := hI
      refine lv_if_ne (tgt := 25) hx hb dX10_way_20 (by decide) (fun c6 => ?_) (fun c6 => ?_)
      · replace hw := hw.2 c6
        refine lv_aload_n hx hb dX10_way_25 rfl (lv_at hl 0 rfl) ?_
        refine x_get (v := .ref (q 62)) hC hI kX10_way_cX10 0 rfl rfl 8 (by decide) kX10_way_0 rfl rfl dX10_way_26 ?_
        refine lv_aload_n hx hb dX10_way_29 rfl (lv_at hl 0 rfl) ?_
        refine x_get (v := .ref (q 1)) hC hI kX10_way_cX10 0 rfl rfl 0 (by decide) kX10_way_2 rfl rfl dX10_way_30 ?_
        refine lv_iload_n hx hb dX10_way_33 rfl (lv_at hl 2 rfl) ?_
        refine lv_iload_n hx hb dX10_way_34 rfl (lv_at hl 1 rfl) ?_
        refine x_callVv (rest := []) hC hI [24, 1] (mX8_spread l D K (fun i => q (62 + i)) (fun i => q (1 + i)) _ a2 a1 cost heap wait bits stops num unit strips caps draw hw) (cwV 3 hts gX10_way_X8_spread rfl rfl rfl (by decide +kernel) ⟨(Nat.le_of_ble_eq_true rfl), (Nat.le_of_ble_eq_true rfl)⟩) (by decide) rfl (fun _ => rfl) 62 6 rfl rfl rfl rfl hl.1 rfl (Nat.le_of_ble_eq_true rfl) dX10_way_35 ⟨(Nat.le_of_ble_eq_true rfl), (Nat.le_of_ble_eq_true rfl)⟩ (fun u H locs hw hI => ?_)
        obtain ⟨cost_c7, heap_c8, wait_c9⟩ := u
        try dsimp only at hw
        have hI : wI s D A (fl (lX K q bits stops num unit strips caps draw oldest known ring im iold iknown iring hasIm letters tbits tlen tat fig shI shH shL shS seaOf queue snum cost_c7 heap_c8 wait_c9 off les gre abv blw needed ocut opole)) H locs := hI
        refine lv_aload_n hx hb dX10_way_38 rfl (lv_at hl 0 rfl) ?_
        refine x_get (v := .ref (q 62)) hC hI kX10_way_cX10 0 rfl rfl 8 (by decide) kX10_way_0 rfl rfl dX10_way_39 ?_
        refine x_get (v := .ref (q 63)) hC hI kX10_way_cX8 62 rfl rfl 0 (by decide) kX10_way_3 rfl rfl dX10_way_42 ?_
        refine lv_iload_n hx hb dX10_way_45 rfl (lv_at hl 1 rfl) ?_
        obtain ⟨hc10, hw⟩ := hw
        refine x_iald (f := cost_c7) hC hI 63 rfl hc10 dX10_way_46 ?_
        refine lv_topi (fun x11 ex11 => ?_)
        replace hw := hw x11 ex11
        refine lv_istore (lv' := [(4, .int x11), (0, .ref (q 0)), (1, .int a1), (2, .int a2), (3, .int a3)]) hx hb dX10_way_47 hl (by decide) rfl (fun ls hl => ?_)
        refine lv_iload hx hb dX10_way_49 (lv_at hl 0 rfl) ?_
        refine lv_ldc (v := (2147483647 : Int32)) hx hb hown (hts _ kX10_way_5) dX10_way_51 ?_
        refine lv_icmp_ne (tgt := 59) hx hb dX10_way_53 (by decide) (fun c12 => ?_) (fun c12 => ?_)
        · replace hw := hw.2 c12
          refine lv_iload_n hx hb dX10_way_59 rfl (lv_at hl 4 rfl) ?_
          by_cases c13 : a3 = (0 : Int32)
          · replace hw := hw.1 c13
            refine lv_lookup (off := 28) (tgt := 88) hx hb dX10_way_60 (by decide) (by rw [c13]; rfl) (by decide) ?_
            refine lv_iload hx hb dX10_way_88 (lv_at hl 0 rfl) ?_
            refine x_callSi (rest := []) hC hI [] (mX8_farOf l D K  _ x11 hw) (va_cwS 1 hts gX10_way_X8_farOf rfl rfl rfl (by decide +kernel) ⟨(Nat.le_of_ble_eq_true rfl), (Nat.le_of_ble_eq_true rfl)⟩) (by decide) rfl (fun _ => rfl) rfl hl.1 rfl (Nat.le_of_ble_eq_true rfl) dX10_way_90 ⟨(Nat.le_of_ble_eq_true rfl), (Nat.le_of_ble_eq_true rfl)⟩ (fun r14 u H locs hw hI => ?_)
            try dsimp only at hw
            have hI : wI s D A (fl (lX K q bits stops num unit strips caps draw oldest known ring im iold iknown iring hasIm letters tbits tlen tat fig shI shH shL shS seaOf queue snum cost_c7 heap_c8 wait_c9 off les gre abv blw needed ocut opole)) H locs := hI
            subst hQ
            exact x_iret (u := (cost_c7, heap_c8, wait_c9)) hC hI hr hlk hw rfl dX10_way_93
          · replace hw := hw.2 c13
            by_cases c15 : a3 = (1 : Int32)
            · replace hw := hw.1 c15
              refine lv_lookup (off := 34) (tgt := 94) hx hb dX10_way_60 (by decide) (by rw [c15]; rfl) (by decide) ?_
              refine lv_iload hx hb dX10_way_94 (lv_at hl 0 rfl) ?_
              refine x_callSi (rest := []) hC hI [] (mX8_stepsOf l D K  _ x11 hw) (va_cwS 1 hts gX10_way_X8_stepsOf rfl rfl rfl (by decide +kernel) ⟨(Nat.le_of_ble_eq_true rfl), (Nat.le_of_ble_eq_true rfl)⟩) (by decide) rfl (fun _ => rfl) rfl hl.1 rfl (Nat.le_of_ble_eq_true rfl) dX10_way_96 ⟨(Nat.le_of_ble_eq_true rfl), (Nat.le_of_ble_eq_true rfl)⟩ (fun r16 u H locs hw hI => ?_)
              try dsimp only at hw
              have hI : wI s D A (fl (lX K q bits stops num unit strips caps draw oldest known ring im iold iknown iring hasIm letters tbits tlen tat fig shI shH shL shS seaOf queue snum cost_c7 heap_c8 wait_c9 off les gre abv blw needed ocut opole)) H locs := hI
              subst hQ
              exact x_iret (u := (cost_c7, heap_c8, wait_c9)) hC hI hr hlk hw rfl dX10_way_99
            · replace hw := hw.2 c15
              refine lv_lookup (off := 40) (tgt := 100) hx hb dX10_way_60 (by decide) (by show Op.lookupswitch.offset [(0, 28), (1, 34)] 40 _ = 40; rw [lv_osw (a := 0) c13 rfl, lv_osw (a := 1) c15 rfl]; rfl) (by decide) ?_
              refine lv_aload_n hx hb dX10_way_100 rfl (lv_at hl 1 rfl) ?_
              refine x_get (v := .ref (q 62)) hC hI kX10_way_cX10 0 rfl rfl 8 (by decide) kX10_way_0 rfl rfl dX10_way_101 ?_
              refine lv_aload_n hx hb dX10_way_104 rfl (lv_at hl 1 rfl) ?_
              refine x_get (v := .ref (q 1)) hC hI kX10_way_cX10 0 rfl rfl 0 (by decide) kX10_way_2 rfl rfl dX10_way_105 ?_
              refine lv_iload_n hx hb dX10_way_108 rfl (lv_at hl 2 rfl) ?_
              refine x_callVi (rest := []) hC hI [24, 1] (mX8_leastFirstStep l D K (fun i => q (62 + i)) (fun i => q (1 + i)) _ a1 cost_c7 heap_c8 wait_c9 bits stops num unit strips caps draw hw) (cwV 2 hts gX10_way_X8_leastFirstStep rfl rfl rfl (by decide +kernel) ⟨(Nat.le_of_ble_eq_true rfl), (Nat.le_of_ble_eq_true rfl)⟩) (by decide) rfl (fun _ => rfl) 62 6 rfl rfl rfl rfl hl.1 rfl (Nat.le_of_ble_eq_true rfl) dX10_way_109 ⟨(Nat.le_of_ble_eq_true rfl), (Nat.le_of_ble_eq_true rfl)⟩ (fun r17 u H locs hw hI => ?_)
              try dsimp only at hw
              have hI : wI s D A (fl (lX K q bits stops num unit strips caps draw oldest known ring im iold iknown iring hasIm letters tbits tlen tat fig shI shH shL shS seaOf queue snum cost_c7 heap_c8 wait_c9 off les gre abv blw needed ocut opole)) H locs := hI
              subst hQ
              exact x_iret (u := (cost_c7, heap_c8, wait_c9)) hC hI hr hlk hw rfl dX10_way_112
        · replace hw := hw.1 c12
          refine lv_bipush (v := (-4 : Int32)) hx hb dX10_way_56 (by decide) ?_
          subst hQ
          exact x_iret (u := (cost_c7, heap_c8, wait_c9)) hC hI hr hlk hw rfl dX10_way_58
      · replace hw := hw.1 c6
        refine lv_iconst (v := (-1 : Int32)) hx hb dX10_way_23 (by decide) ?_
        subst hQ
        exact x_iret (u := (cost, heap, wait)) hC hI hr hlk hw rfl dX10_way_24
