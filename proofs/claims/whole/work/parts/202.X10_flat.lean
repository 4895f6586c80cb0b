def wX10_flat (a1 : Int32) (a2 : Int32) (a3 : Int32) (unit : Int32) (strips : Int32) (caps : Int32) (post : Int32 → Prop) : Prop := wX1_isPlace a1 a2 (fun (r1 : Int32) => ((r1 = 0 → post (-1 : Int32)) ∧ (¬ r1 = 0 → wX10_isIn a3 (0 : Int32) (4 : Int32) (fun (r3 : Int32) => ((r3 = 0 → post (-1 : Int32)) ∧ (¬ r3 = 0 → wX1_numberOf a1 a2 (fun (r5 : Int32) => wX1_stepOf r5 (fun (r6 : Int32) => ∃ J53 : Int32 → Prop, (∀ (t_53 : Int32), J53 t_53 → ((t_53 = 0 → post (-4 : Int32)) ∧ (¬ t_53 = 0 → ((a3 = (0 : Int32) → wX0_width strips (fun (r9 : Int32) => wX3_stripX unit r9 a1 r6 (fun (r10 : Int32) => post r10))) ∧ (¬ a3 = (0 : Int32) → ((a3 = (1 : Int32) → wX3_stripY unit a1 (fun (r12 : Int32) => post r12)) ∧ (¬ a3 = (1 : Int32) → ((a3 = (2 : Int32) → wX3_twinX a1 r6 unit strips (fun (r14 : Int32) => post r14)) ∧ (¬ a3 = (2 : Int32) → ((a3 = (3 : Int32) → wX3_capX a1 r6 unit caps (fun (r16 : Int32) => post r16)) ∧ (¬ a3 = (3 : Int32) → wX3_capY a1 r6 unit caps (fun (r17 : Int32) => post r17)))))))))))) ∧ (((2 : Int32) < a3 → wX0_isOnCap a1 caps (fun (r19 : Int32) => J53 r19)) ∧ (¬ (2 : Int32) < a3 → wX0_isOnStrips a1 caps (fun (r20 : Int32) => J53 r20)))))))))))
def rmX10_flat : Room := { frames := 3, cells := 0, slots := 0, locals := 68 }
theorem kX10_flat_0 : Cond.fieldLink RX10 10 "GoreGlobe" "now" "LGoreGlobe$Globe;" ∈ wsX10_flat := List.mem_cons_of_mem _ (List.mem_append_left _ (List.mem_append_left _ (List.mem_append_left _ (List.mem_of_getElem? (i := 0) rfl))))
theorem kX10_flat_cX10 : ∀ w ∈ wsX100, w ∈ wsX10_flat := fun _ h => List.mem_cons_of_mem _ (List.mem_append_left _ (List.mem_append_right _ h))
theorem kX10_flat_2 : Cond.fieldLink RX10 111 "GoreGlobe$Globe" "unit" "I" ∈ wsX10_flat := List.mem_cons_of_mem _ (List.mem_append_left _ (List.mem_append_left _ (List.mem_append_left _ (List.mem_of_getElem? (i := 1) rfl))))
theorem kX10_flat_cX0 : ∀ w ∈ wsX00, w ∈ wsX10_flat := fun _ h => List.mem_cons_of_mem _ (List.mem_append_right _ h)
set_option maxHeartbeats 4000000 in
set_option maxRecDepth 100000 in
theorem mX10_flat (l : Launch) (D : va_G) (K : Nat → ClassId) (q : Nat → Nat) (sz : Nat) (a1 : Int32) (a2 : Int32) (a3 : Int32) (bits : Nat → Int64) (stops : Nat → Int32) (num : Int32) (unit : Int32) (strips : Int32) (caps : Int32) (draw : Int32) (oldest : Int32) (known : Int32) (ring : Nat → GS) (im : GS) (iold : Int32) (iknown : Int32) (iring : Nat → GS) (hasIm : Int32) (letters : Nat → Int32) (tbits : Nat → Int64) (tlen : Int32) (tat : Int32) (fig : Int32) (shI : Nat → Nat → Int64) (shH : Nat → Int32) (shL : Nat → Int32) (shS : Nat → Int32) (seaOf : Nat → Int32) (queue : Nat → Int32) (snum : Int32) (cost : Nat → Int32) (heap : Nat → Int64) (wait : Int32) (off : Int32) (les : Int32) (gre : Int32) (abv : Int64) (blw : Int64) (needed : Int32) (ocut : Int32) (opole : Int32)  {post : Int32 → Prop} (hw : wX10_flat a1 a2 a3 unit strips caps post) : Met l yX10_flat wsX10_flat rmX10_flat (va_Pc [.ref (q 0), .int a1, .int a2, .int a3] (cP D K (fl (lX K q bits stops num unit strips caps draw oldest known ring im iold iknown iring hasIm letters tbits tlen tat fig shI shH shL shS seaOf queue snum cost heap wait off les gre abv blw needed ocut opole)) sz)) (va_Qi (fun (r : Int32) (u : Unit) => post r) (fun u t => cQ D K (fl (lX K q bits stops num unit strips caps draw oldest known ring im iold iknown iring hasIm letters tbits tlen tat fig shI shH shL shS seaOf queue snum cost heap wait off les gre abv blw needed ocut opole)) (va_A (fl (lX K q bits stops num unit strips caps draw oldest known ring im iold iknown iring hasIm letters tbits tlen tat fig shI shH shL shS seaOf queue snum cost heap wait off les gre abv blw needed ocut opole)) sz) t) (va_A (fl (lX K q bits stops num unit strips caps draw oldest known ring im iold iknown iring hasIm letters tbits tlen tat fig shI shH shL shS seaOf queue snum cost heap wait off les gre abv blw needed ocut opole)) sz)) 0 0 (va_A (fl (lX K q bits stops num unit strips caps draw oldest known ring im iold iknown iring hasIm letters tbits tlen tat fig shI shH shL shS seaOf queue snum cost heap wait off les gre abv blw needed ocut opole)) sz) := by
  refine x_entry (cc := cX10_flat) (maxL := 6) (ret := (some .int)) (QA := fun A => va_Qi (fun (r : Int32) (u : Unit) => post r) (fun u t => cQ D K (fl (lX K q bits stops num unit strips caps draw oldest known ring im iold iknown iring hasIm letters tbits tlen tat fig shI shH shL shS seaOf queue snum cost heap wait off les gre abv blw needed ocut opole)) A t) A) (plainFor_of_name (by decide)) rfl (Nat.le_of_ble_eq_true rfl) ?_
  intro p e s m args below meth c A ls H Q hQ hC hlk hr hnm hI hl
  obtain ⟨hx, hb, hml, hown, hts, hK, hA, hZ⟩ := id hC
  obtain ⟨locs, hlocs⟩ : ∃ y : List Loc, y = [] := ⟨_, rfl⟩
  rw [← hlocs] at hI ⊢
  clear hlocs
  replace hl : lv_has ls 6 [(0, .ref (q 0)), (1, .int a1), (2, .int a2), (3, .int a3)] := hl
  replace hw : wX1_isPlace a1 a2 (fun (r1 : Int32) => ((r1 = 0 → post (-1 : Int32)) ∧ (¬ r1 = 0 → wX10_isIn a3 (0 : Int32) (4 : Int32) (fun (r3 : Int32) => ((r3 = 0 → post (-1 : Int32)) ∧ (¬ r3 = 0 → wX1_numberOf a1 a2 (fun (r5 : Int32) => wX1_stepOf r5 (fun (r6 : Int32) => ∃ J53 : Int32 → Prop, (∀ (t_53 : Int32), J53 t_53 → ((t_53 = 0 → post (-4 : Int32)) ∧ (¬ t_53 = 0 → ((a3 = (0 : Int32) → wX0_width strips (fun (r9 : Int32) => wX3_stripX unit r9 a1 r6 (fun (r10 : Int32) => post r10))) ∧ (¬ a3 = (0 : Int32) → ((a3 = (1 : Int32) → wX3_stripY unit a1 (fun (r12 : Int32) => post r12)) ∧ (¬ a3 = (1 : Int32) → ((a3 = (2 : Int32) → wX3_twinX a1 r6 unit strips (fun (r14 : Int32) => post r14)) ∧ (¬ a3 = (2 : Int32) → ((a3 = (3 : Int32) → wX3_capX a1 r6 unit caps (fun (r16 : Int32) => post r16)) ∧ (¬ a3 = (3 : Int32) → wX3_capY a1 r6 unit caps (fun (r17 : Int32) => post r17)))))))))))) ∧ (((2 : Int32) < a3 → wX0_isOnCap a1 caps (fun (r19 : Int32) => J53 r19)) ∧ (¬ (2 : Int32) < a3 → wX0_isOnStrips a1 caps (fun (r20 : Int32) => J53 r20))))))))))) := hw
  refine lv_iload_n hx hb dX10_flat_0 rfl (lv_at hl 1 rfl) ?_
  refine lv_iload_n hx hb dX10_flat_1 rfl (lv_at hl 2 rfl) ?_
  refine x_callSi (rest := []) hC hI [] (mX1_isPlace l D K  _ a1 a2 hw) (va_cwS 2 hts gX10_flat_X1_isPlace rfl rfl rfl (by decide +kernel) ⟨(Nat.le_of_ble_eq_true rfl), (Nat.le_of_ble_eq_true rfl)⟩) (by decide) rfl (fun _ => rfl) rfl hl.1 rfl (Nat.le_of_ble_eq_true rfl) dX10_flat_2 ⟨(Nat.le_of_ble_eq_true rfl), (Nat.le_of_ble_eq_true rfl)⟩ (fun r1 u H locs hw hI => ?_)
  try dsimp only at hw
  have hI : wI s D A (fl (lX K q bits stops num unit strips caps draw oldest known ring im iold iknown iring hasIm letters tbits tlen tat fig shI shH shL shS seaOf queue snum cost heap wait off les gre abv blw needed ocut opole)) H locs := hI
  refine lv_if_eq (tgt := 17) hx hb dX10_flat_5 (by decide) (fun c2 => ?_) (fun c2 => ?_)
  · replace hw := hw.1 c2
    refine lv_iconst (v := (-1 : Int32)) hx hb dX10_flat_17 (by decide) ?_
    subst hQ
    exact x_iret (u := ()) hC hI hr hlk hw rfl dX10_flat_18
  · replace hw := hw.2 c2
    refine lv_iload_n hx hb dX10_flat_8 rfl (lv_at hl 3 rfl) ?_
    refine lv_iconst (v := (0 : Int32)) hx hb dX10_flat_9 (by decide) ?_
    refine lv_iconst (v := (4 : Int32)) hx hb dX10_flat_10 (by decide) ?_
    refine x_callSi (rest := []) hC hI [] (mX10_isIn l D K  _ a3 (0 : Int32) (4 : Int32) hw) (va_cwS 3 hts gX10_flat_X10_isIn rfl rfl rfl (by decide +kernel) ⟨(Nat.le_of_ble_eq_true rfl), (Nat.le_of_ble_eq_true rfl)⟩) (by decide) rfl (fun _ => rfl) rfl hl.1 rfl (Nat.le_of_ble_eq_true rfl) dX10_flat_11 ⟨(Nat.le_of_ble_eq_true rfl), (Nat.le_of_ble_eq_true rfl)⟩ (fun r3 u H locs hw hI => ?_)
    try dsimp only at hw
    have hI : wI s D A (fl (lX K q bits stops num unit strips caps draw oldest known ring im iold iknown iring hasIm letters tbits tlen tat fig shI shH shL shS seaOf queue snum cost heap wait off les gre abv blw needed ocut opole)) H locs := hI
    refine lv_if_ne (tgt := 19) hx hb dX10_flat_14 (by decide) (fun c4 => ?_) (fun c4 => ?_)
    · replace hw := hw.2 c4
      refine lv_iload_n hx hb dX10_flat_19 rfl (lv_at hl 1 rfl) ?_
      refine lv_iload_n hx hb dX10_flat_20 rfl (lv_at hl 2 rfl) ?_
      refine x_callSi (rest := []) hC hI [] (mX1_numberOf l D K  _ a1 a2 hw) (va_cwS 2 hts gX10_flat_X1_numberOf rfl rfl rfl (by decide +kernel) ⟨(Nat.le_of_ble_eq_true rfl), (Nat.le_of_ble_eq_true rfl)⟩) (by decide) rfl (fun _ => rfl) rfl hl.1 rfl (Nat.le_of_ble_eq_true rfl) dX10_flat_21 ⟨(Nat.le_of_ble_eq_true rfl), (Nat.le_of_ble_eq_true rfl)⟩ (fun r5 u H locs hw hI => ?_)
      try dsimp only at hw
      have hI : wI s D A (fl (lX K q bits stops num unit strips caps draw oldest known ring im iold iknown iring hasIm letters tbits tlen tat fig shI shH shL shS seaOf queue snum cost heap wait off les gre abv blw needed ocut opole)) H locs := hI
      refine x_callSi (rest := []) hC hI [] (mX1_stepOf l D K  _ r5 hw) (va_cwS 1 hts gX10_flat_X1_stepOf rfl rfl rfl (by decide +kernel) ⟨(Nat.le_of_ble_eq_true rfl), (Nat.le_of_ble_eq_true rfl)⟩) (by decide) rfl (fun _ => rfl) rfl hl.1 rfl (Nat.le_of_ble_eq_true rfl) dX10_flat_24 ⟨(Nat.le_of_ble_eq_true rfl), (Nat.le_of_ble_eq_true rfl)⟩ (fun r6 u H locs hw hI => ?_)
      try dsimp only at hw
      have hI : wI s D A (fl (lX K q bits stops num unit strips caps draw oldest known ring im iold iknown iring hasIm letters tbits tlen tat fig shI shH shL shS seaOf queue snum cost heap wait off les gre abv blw needed ocut opole)) H locs := hI
      refine lv_istore (lv' := [(4, .int r6), (0, .ref (q 0)), (1, .int a1), (2, .int a2), (3, .int a3)]) hx hb dX10_flat_27 hl (by decide) rfl (fun ls hl => ?_)
      refine lv_iload_n hx hb dX10_flat_29 rfl (lv_at hl 4 rfl) ?_
      refine lv_iconst (v := (2 : Int32)) hx hb dX10_flat_30 (by decide) ?_
      obtain ⟨J53, hJ53, hw⟩ := hw
      have jn53 : ∀ (t_53 : Int32) (ls : Array Slot) (H : Heap) (locs : List Loc), J53 t_53 → wI s D A (fl (lX K q bits stops num unit strips caps draw oldest known ring im iold iknown iring hasIm letters tbits tlen tat fig shI shH shL shS seaOf queue snum cost heap wait off les gre abv blw needed ocut opole)) H locs → lv_has ls 6 [(0, .ref (q 0)), (1, .int a1), (3, .int a3), (4, .int r6)] → W p l e rmX10_flat s m args below meth c H locs 0 0 Q (F0 m 53 ls [.int t_53]) := by
        intro t_53 ls H locs hw hI hl
        replace hw := hJ53 t_53 hw
        refine lv_istore (lv' := [(5, .int t_53), (0, .ref (q 0)), (1, .int a1), (3, .int a3), (4, .int r6)]) hx hb dX10_flat_53 hl (by decide) rfl (fun ls hl => ?_)
        refine lv_iload hx hb dX10_flat_55 (lv_at hl 0 rfl) ?_
        refine lv_if_ne (tgt := 63) hx hb dX10_flat_57 (by decide) (fun c7 => ?_) (fun c7 => ?_)
        · replace hw := hw.2 c7
          refine lv_iload_n hx hb dX10_flat_63 rfl (lv_at hl 3 rfl) ?_
          by_cases c8 : a3 = (0 : Int32)
          · replace hw := hw.1 c8
            refine lv_tableIn (off := 32) (tgt := 96) hx hb dX10_flat_64 (by rw [c8]; decide) (by rw [c8]; decide) (by rw [c8]; rfl) (by decide) ?_
            refine lv_aload_n hx hb dX10_flat_96 rfl (lv_at hl 1 rfl) ?_
            refine x_get (v := .ref (q 1)) hC hI kX10_flat_cX10 0 rfl rfl 0 (by decide) kX10_flat_0 rfl rfl dX10_flat_97 ?_
            refine x_get (v := .int unit) hC hI kX10_flat_cX0 1 rfl rfl 3 (by decide) kX10_flat_2 rfl rfl dX10_flat_100 ?_
            refine lv_aload_n hx hb dX10_flat_103 rfl (lv_at hl 1 rfl) ?_
            refine x_get (v := .ref (q 1)) hC hI kX10_flat_cX10 0 rfl rfl 0 (by decide) kX10_flat_0 rfl rfl dX10_flat_104 ?_
            refine x_callVi (rest := [.int unit]) hC hI [1] (mX0_width l D K (fun i => q (1 + i)) _ bits stops num unit strips caps draw hw) (cwV 0 hts gX10_flat_X0_width rfl rfl rfl (by decide +kernel) ⟨(Nat.le_of_ble_eq_true rfl), (Nat.le_of_ble_eq_true rfl)⟩) (by decide) rfl (fun _ => rfl) 1 0 rfl rfl rfl rfl hl.1 rfl (Nat.le_of_ble_eq_true rfl) dX10_flat_107 ⟨(Nat.le_of_ble_eq_true rfl), (Nat.le_of_ble_eq_true rfl)⟩ (fun r9 u H locs hw hI => ?_)
            try dsimp only at hw
            have hI : wI s D A (fl (lX K q bits stops num unit strips caps draw oldest known ring im iold iknown iring hasIm letters tbits tlen tat fig shI shH shL shS seaOf queue snum cost heap wait off les gre abv blw needed ocut opole)) H locs := hI
            refine lv_iload_n hx hb dX10_flat_110 rfl (lv_at hl 2 rfl) ?_
            refine lv_iload hx hb dX10_flat_111 (lv_at hl 4 rfl) ?_
            refine x_callSi (rest := []) hC hI [] (mX3_stripX l D K  _ unit r9 a1 r6 hw) (va_cwS 4 hts gX10_flat_X3_stripX rfl rfl rfl (by decide +kernel) ⟨(Nat.le_of_ble_eq_true rfl), (Nat.le_of_ble_eq_true rfl)⟩) (by decide) rfl (fun _ => rfl) rfl hl.1 rfl (Nat.le_of_ble_eq_true rfl) dX10_flat_113 ⟨(Nat.le_of_ble_eq_true rfl), (Nat.le_of_ble_eq_true rfl)⟩ (fun r10 u H locs hw hI => ?_)
            try dsimp only at hw
            have hI : wI s D A (fl (lX K q bits stops num unit strips caps draw oldest known ring im iold iknown iring hasIm letters tbits tlen tat fig shI shH shL shS seaOf queue snum cost heap wait off les gre abv blw needed ocut opole)) H locs := hI
            subst hQ
            exact x_iret (u := ()) hC hI hr hlk hw rfl dX10_flat_116
          · replace hw := hw.2 c8
            by_cases c11 : a3 = (1 : Int32)
            · replace hw := hw.1 c11
              refine lv_tableIn (off := 53) (tgt := 117) hx hb dX10_flat_64 (by rw [c11]; decide) (by rw [c11]; decide) (by rw [c11]; rfl) (by decide) ?_
              refine lv_aload_n hx hb dX10_flat_117 rfl (lv_at hl 1 rfl) ?_
              refine x_get (v := .ref (q 1)) hC hI kX10_flat_cX10 0 rfl rfl 0 (by decide) kX10_flat_0 rfl rfl dX10_flat_118 ?_
              refine x_get (v := .int unit) hC hI kX10_flat_cX0 1 rfl rfl 3 (by decide) kX10_flat_2 rfl rfl dX10_flat_121 ?_
              refine lv_iload_n hx hb dX10_flat_124 rfl (lv_at hl 2 rfl) ?_
              refine x_callSi (rest := []) hC hI [] (mX3_stripY l D K  _ unit a1 hw) (va_cwS 2 hts gX10_flat_X3_stripY rfl rfl rfl (by decide +kernel) ⟨(Nat.le_of_ble_eq_true rfl), (Nat.le_of_ble_eq_true rfl)⟩) (by decide) rfl (fun _ => rfl) rfl hl.1 rfl (Nat.le_of_ble_eq_true rfl) dX10_flat_125 ⟨(Nat.le_of_ble_eq_true rfl), (Nat.le_of_ble_eq_true rfl)⟩ (fun r12 u H locs hw hI => ?_)
              try dsimp only at hw
              have hI : wI s D A (fl (lX K q bits stops num unit strips caps draw oldest known ring im iold iknown iring hasIm letters tbits tlen tat fig shI shH shL shS seaOf queue snum cost heap wait off les gre abv blw needed ocut opole)) H locs := hI
              subst hQ
              exact x_iret (u := ()) hC hI hr hlk hw rfl dX10_flat_128
            · replace hw := hw.2 c11
              by_cases c13 : a3 = (2 : Int32)
              · replace hw := hw.1 c13
                refine lv_tableIn (off := 65) (tgt := 129) hx hb dX10_flat_64 (by rw [c13]; decide) (by rw [c13]; decide) (by rw [c13]; rfl) (by decide) ?_
                refine lv_aload_n hx hb dX10_flat_129 rfl (lv_at hl 1 rfl) ?_
                refine x_get (v := .ref (q 1)) hC hI kX10_flat_cX10 0 rfl rfl 0 (by decide) kX10_flat_0 rfl rfl dX10_flat_130 ?_
                refine lv_iload_n hx hb dX10_flat_133 rfl (lv_at hl 2 rfl) ?_
                refine lv_iload hx hb dX10_flat_134 (lv_at hl 4 rfl) ?_
                refine x_callSi (rest := []) hC hI [1] (mX3_twinX l D K (fun i => q (1 + i)) _ a1 r6 bits stops num unit strips caps draw hw) (va_cwS 3 hts gX10_flat_X3_twinX rfl rfl rfl (by decide +kernel) ⟨(Nat.le_of_ble_eq_true rfl), (Nat.le_of_ble_eq_true rfl)⟩) (by decide) rfl (fun _ => rfl) rfl hl.1 rfl (Nat.le_of_ble_eq_true rfl) dX10_flat_136 ⟨(Nat.le_of_ble_eq_true rfl), (Nat.le_of_ble_eq_true rfl)⟩ (fun r14 u H locs hw hI => ?_)
                try dsimp only at hw
                have hI : wI s D A (fl (lX K q bits stops num unit strips caps draw oldest known ring im iold iknown iring hasIm letters tbits tlen tat fig shI shH shL shS seaOf queue snum cost heap wait off les gre abv blw needed ocut opole)) H locs := hI
                subst hQ
                exact x_iret (u := ()) hC hI hr hlk hw rfl dX10_flat_139
              · replace hw := hw.2 c13
                by_cases c15 : a3 = (3 : Int32)
                · replace hw := hw.1 c15
                  refine lv_tableIn (off := 76) (tgt := 140) hx hb dX10_flat_64 (by rw [c15]; decide) (by rw [c15]; decide) (by rw [c15]; rfl) (by decide) ?_
                  refine lv_aload_n hx hb dX10_flat_140 rfl (lv_at hl 1 rfl) ?_
                  refine x_get (v := .ref (q 1)) hC hI kX10_flat_cX10 0 rfl rfl 0 (by decide) kX10_flat_0 rfl rfl dX10_flat_141 ?_
                  refine lv_iload_n hx hb dX10_flat_144 rfl (lv_at hl 2 rfl) ?_
                  refine lv_iload hx hb dX10_flat_145 (lv_at hl 4 rfl) ?_
                  refine x_callSi (rest := []) hC hI [1] (mX3_capX l D K (fun i => q (1 + i)) _ a1 r6 bits stops num unit strips caps draw hw) (va_cwS 3 hts gX10_flat_X3_capX rfl rfl rfl (by decide +kernel) ⟨(Nat.le_of_ble_eq_true rfl), (Nat.le_of_ble_eq_true rfl)⟩) (by decide) rfl (fun _ => rfl) rfl hl.1 rfl (Nat.le_of_ble_eq_true rfl) dX10_flat_147 ⟨(Nat.le_of_ble_eq_true rfl), (Nat.le_of_ble_eq_true rfl)⟩ (fun r16 u H locs hw hI => ?_)
                  try dsimp only at hw
                  have hI : wI s D A (fl (lX K q bits stops num unit strips caps draw oldest known ring im iold iknown iring hasIm letters tbits tlen tat fig shI shH shL shS seaOf queue snum cost heap wait off les gre abv blw needed ocut opole)) H locs := hI
                  subst hQ
                  exact x_iret (u := ()) hC hI hr hlk hw rfl dX10_flat_150
                · replace hw := hw.2 c15
                  refine lv_tableOut (tgt := 151) hx hb dX10_flat_64 (by have nc8 := lv_neT c8 (a := 0) rfl; have nc11 := lv_neT c11 (a := 1) rfl; have nc13 := lv_neT c13 (a := 2) rfl; have nc15 := lv_neT c15 (a := 3) rfl; omega) (by decide) ?_
                  refine lv_aload_n hx hb dX10_flat_151 rfl (lv_at hl 1 rfl) ?_
                  refine x_get (v := .ref (q 1)) hC hI kX10_flat_cX10 0 rfl rfl 0 (by decide) kX10_flat_0 rfl rfl dX10_flat_152 ?_
                  refine lv_iload_n hx hb dX10_flat_155 rfl (lv_at hl 2 rfl) ?_
                  refine lv_iload hx hb dX10_flat_156 (lv_at hl 4 rfl) ?_
                  refine x_callSi (rest := []) hC hI [1] (mX3_capY l D K (fun i => q (1 + i)) _ a1 r6 bits stops num unit strips caps draw hw) (va_cwS 3 hts gX10_flat_X3_capY rfl rfl rfl (by decide +kernel) ⟨(Nat.le_of_ble_eq_true rfl), (Nat.le_of_ble_eq_true rfl)⟩) (by decide) rfl (fun _ => rfl) rfl hl.1 rfl (Nat.le_of_ble_eq_true rfl) dX10_flat_158 ⟨(Nat.le_of_ble_eq_true rfl), (Nat.le_of_ble_eq_true rfl)⟩ (fun r17 u H locs hw hI => ?_)
                  try dsimp only at hw
                  have hI : wI s D A (fl (lX K q bits stops num unit strips caps draw oldest known ring im iold iknown iring hasIm letters tbits tlen tat fig shI shH shL shS seaOf queue snum cost heap wait off les gre abv blw needed ocut opole)) H locs := hI
                  subst hQ
                  exact x_iret (u := ()) hC hI hr hlk hw rfl dX10_flat_161
        · replace hw := hw.1 c7
          refine lv_bipush (v := (-4 : Int32)) hx hb dX10_flat_60 (by decide) ?_
          subst hQ
          exact x_iret (u := ()) hC hI hr hlk hw rfl dX10_flat_62
      refine lv_icmp_gt (tgt := 45) hx hb dX10_flat_31 (by decide) (fun c18 => ?_) (fun c18 => ?_)
      · replace hw := hw.1 c18
        refine lv_aload_n hx hb dX10_flat_45 rfl (lv_at hl 1 rfl) ?_
        refine x_get (v := .ref (q 1)) hC hI kX10_flat_cX10 0 rfl rfl 0 (by decide) kX10_flat_0 rfl rfl dX10_flat_46 ?_
        refine lv_iload_n hx hb dX10_flat_49 rfl (lv_at hl 2 rfl) ?_
        refine x_callVi (rest := []) hC hI [1] (mX0_isOnCap l D K (fun i => q (1 + i)) _ a1 bits stops num unit strips caps draw hw) (cwV 1 hts gX10_flat_X0_isOnCap rfl rfl rfl (by decide +kernel) ⟨(Nat.le_of_ble_eq_true rfl), (Nat.le_of_ble_eq_true rfl)⟩) (by decide) rfl (fun _ => rfl) 1 0 rfl rfl rfl rfl hl.1 rfl (Nat.le_of_ble_eq_true rfl) dX10_flat_50 ⟨(Nat.le_of_ble_eq_true rfl), (Nat.le_of_ble_eq_true rfl)⟩ (fun r19 u H locs hw hI => ?_)
        try dsimp only at hw
        have hI : wI s D A (fl (lX K q bits stops num unit strips caps draw oldest known ring im iold iknown iring hasIm letters tbits tlen tat fig shI shH shL shS seaOf queue snum cost heap wait off les gre abv blw needed ocut opole)) H locs := hI
        exact jn53 r19 ls H locs hw hI (lv_sub hl [1, 2, 4, 0] rfl)
      · replace hw := hw.2 c18
        refine lv_aload_n hx hb dX10_flat_34 rfl (lv_at hl 1 rfl) ?_
        refine x_get (v := .ref (q 1)) hC hI kX10_flat_cX10 0 rfl rfl 0 (by decide) kX10_flat_0 rfl rfl dX10_flat_35 ?_
        refine lv_iload_n hx hb dX10_flat_38 rfl (lv_at hl 2 rfl) ?_
        refine x_callVi (rest := []) hC hI [1] (mX0_isOnStrips l D K (fun i => q (1 + i)) _ a1 bits stops num unit strips caps draw hw) (cwV 1 hts gX10_flat_X0_isOnStrips rfl rfl rfl (by decide +kernel) ⟨(Nat.le_of_ble_eq_true rfl), (Nat.le_of_ble_eq_true rfl)⟩) (by decide) rfl (fun _ => rfl) 1 0 rfl rfl rfl rfl hl.1 rfl (Nat.le_of_ble_eq_true rfl) dX10_flat_39 ⟨(Nat.le_of_ble_eq_true rfl), (Nat.le_of_ble_eq_true rfl)⟩ (fun r20 u H locs hw hI => ?_)
        try dsimp only at hw
        have hI : wI s D A (fl (lX K q bits stops num unit strips caps draw oldest known ring im iold iknown iring hasIm letters tbits tlen tat fig shI shH shL shS seaOf queue snum cost heap wait off les gre abv blw needed ocut opole)) H locs := hI
        refine lv_goto (tgt := 53) hx hb dX10_flat_42 (by decide) ?_
        exact jn53 r20 ls H locs hw hI (lv_sub hl [1, 2, 4, 0] rfl)
    · replace hw := hw.1 c4
      refine lv_iconst (v := (-1 : Int32)) hx hb dX10_flat_17 (by decide) ?_
      subst hQ
      exact x_iret (u := ()) hC hI hr hlk hw rfl dX10_flat_18
