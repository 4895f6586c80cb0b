def wX10_pair (a1 : Int32) (a2 : Int32) (a3 : Int32) (unit : Int32) (strips : Int32) (caps : Int32) (post : Int32 → Prop) : Prop := wX1_isNumber a1 (fun (r1 : Int32) => ((r1 = 0 → post (-1 : Int32)) ∧ (¬ r1 = 0 → wX1_isNumber a2 (fun (r3 : Int32) => ((r3 = 0 → post (-1 : Int32)) ∧ (¬ r3 = 0 → wX10_isIn a3 (0 : Int32) (1 : Int32) (fun (r5 : Int32) => ((r5 = 0 → post (-1 : Int32)) ∧ (¬ r5 = 0 → wX1_areNeighbours a1 a2 (fun (r7 : Int32) => ((r7 = 0 → post (-2 : Int32)) ∧ (¬ r7 = 0 → ((a3 = 0 → wX1_rowOf a1 (fun (r13 : Int32) => wX1_rowOf a2 (fun (r14 : Int32) => wX0_far r13 r14 unit (fun (r15 : Int32) => post r15)))) ∧ (¬ a3 = 0 → wX0_areOnStrips a1 a2 caps (fun (r10 : Int32) => ((r10 = 0 → post (-4 : Int32)) ∧ (¬ r10 = 0 → wX3_straight a1 a2 unit strips (fun (r12 : Int32) => post r12))))))))))))))))))
def rmX10_pair : Room := { frames := 4, cells := 0, slots := 0, locals := 84 }
theorem kX10_pair_0 : Cond.fieldLink RX10 10 "GoreGlobe" "now" "LGoreGlobe$Globe;" ∈ wsX10_pair := List.mem_cons_of_mem _ (List.mem_append_left _ (List.mem_append_left _ (List.mem_append_left _ (List.mem_of_getElem? (i := 0) rfl))))
theorem kX10_pair_cX10 : ∀ w ∈ wsX100, w ∈ wsX10_pair := fun _ h => List.mem_cons_of_mem _ (List.mem_append_left _ (List.mem_append_right _ h))
set_option maxHeartbeats 4000000 in
set_option maxRecDepth 100000 in
theorem mX10_pair (l : Launch) (D : va_G) (K : Nat → ClassId) (q : Nat → Nat) (sz : Nat) (a1 : Int32) (a2 : Int32) (a3 : Int32) (bits : Nat → Int64) (stops : Nat → Int32) (num : Int32) (unit : Int32) (strips : Int32) (caps : Int32) (draw : Int32) (oldest : Int32) (known : Int32) (ring : Nat → GS) (im : GS) (iold : Int32) (iknown : Int32) (iring : Nat → GS) (hasIm : Int32) (letters : Nat → Int32) (tbits : Nat → Int64) (tlen : Int32) (tat : Int32) (fig : Int32) (shI : Nat → Nat → Int64) (shH : Nat → Int32) (shL : Nat → Int32) (shS : Nat → Int32) (seaOf : Nat → Int32) (queue : Nat → Int32) (snum : Int32) (cost : Nat → Int32) (heap : Nat → Int64) (wait : Int32) (off : Int32) (les : Int32) (gre : Int32) (abv : Int64) (blw : Int64) (needed : Int32) (ocut : Int32) (opole : Int32)  {post : Int32 → Prop} (hw : wX10_pair a1 a2 a3 unit strips caps post) : Met l yX10_pair wsX10_pair rmX10_pair (va_Pc [.ref (q 0), .int a1, .int a2, .int a3] (cP D K (fl (lX K q bits stops num unit strips caps draw oldest known ring im iold iknown iring hasIm letters tbits tlen tat fig shI shH shL shS seaOf queue snum cost heap wait off les gre abv blw needed ocut opole)) sz)) (va_Qi (fun (r : Int32) (u : Unit) => post r) (fun u t => cQ D K (fl (lX K q bits stops num unit strips caps draw oldest known ring im iold iknown iring hasIm letters tbits tlen tat fig shI shH shL shS seaOf queue snum cost heap wait off les gre abv blw needed ocut opole)) (va_A (fl (lX K q bits stops num unit strips caps draw oldest known ring im iold iknown iring hasIm letters tbits tlen tat fig shI shH shL shS seaOf queue snum cost heap wait off les gre abv blw needed ocut opole)) sz) t) (va_A (fl (lX K q bits stops num unit strips caps draw oldest known ring im iold iknown iring hasIm letters tbits tlen tat fig shI shH shL shS seaOf queue snum cost heap wait off les gre abv blw needed ocut opole)) sz)) 0 0 (va_A (fl (lX K q bits stops num unit strips caps draw oldest known ring im iold iknown iring hasIm letters tbits tlen tat fig shI shH shL shS seaOf queue snum cost heap wait off les gre abv blw needed ocut opole)) sz) := by
  refine x_entry (cc := cX10_pair) (maxL := 4) (ret := (some .int)) (QA := fun A => va_Qi (fun (r : Int32) (u : Unit) => post r) (fun u t => cQ D K (fl (lX K q bits stops num unit strips caps draw oldest known ring im iold iknown iring hasIm letters tbits tlen tat fig shI shH shL shS seaOf queue snum cost heap wait off les gre abv blw needed ocut opole)) A t) A) (plainFor_of_name (by decide)) rfl (Nat.le_of_ble_eq_true rfl) ?_
  intro p e s m args below meth c A ls H Q hQ hC hlk hr hnm hI hl
  obtain ⟨hx, hb, hml, hown, hts, hK, hA, hZ⟩ := id hC
  obtain ⟨locs, hlocs⟩ : ∃ y : List Loc, y = [] := ⟨_, rfl⟩
  rw [← hlocs] at hI ⊢
  clear hlocs
  replace hl : lv_has ls 4 [(0, .ref (q 0)), (1, .int a1), (2, .int a2), (3, .int a3)] := hl
  replace hw : wX1_isNumber a1 (fun (r1 : Int32) => ((r1 = 0 → post (-1 : Int32)) ∧ (¬ r1 = 0 → wX1_isNumber a2 (fun (r3 : Int32) => ((r3 = 0 → post (-1 : Int32)) ∧ (¬ r3 = 0 → wX10_isIn a3 (0 : Int32) (1 : Int32) (fun (r5 : Int32) => ((r5 = 0 → post (-1 : Int32)) ∧ (¬ r5 = 0 → wX1_areNeighbours a1 a2 (fun (r7 : Int32) => ((r7 = 0 → post (-2 : Int32)) ∧ (¬ r7 = 0 → ((a3 = 0 → wX1_rowOf a1 (fun (r13 : Int32) => wX1_rowOf a2 (fun (r14 : Int32) => wX0_far r13 r14 unit (fun (r15 : Int32) => post r15)))) ∧ (¬ a3 = 0 → wX0_areOnStrips a1 a2 caps (fun (r10 : Int32) => ((r10 = 0 → post (-4 : Int32)) ∧ (¬ r10 = 0 → wX3_straight a1 a2 unit strips (fun (r12 : Int32) => post r12)))))))))))))))))) := hw
  refine lv_iload_n hx hb dX10_pair_0 rfl (lv_at hl 1 rfl) ?_
  refine x_callSi (rest := []) hC hI [] (mX1_isNumber l D K  _ a1 hw) (va_cwS 1 hts gX10_pair_X1_isNumber rfl rfl rfl (by decide +kernel) ⟨(Nat.le_of_ble_eq_true rfl), (Nat.le_of_ble_eq_true rfl)⟩) (by decide) rfl (fun _ => rfl) rfl hl.1 rfl (Nat.le_of_ble_eq_true rfl) dX10_pair_1 ⟨(Nat.le_of_ble_eq_true rfl), (Nat.le_of_ble_eq_true rfl)⟩ (fun r1 u H locs hw hI => ?_)
  try dsimp only at hw
  have hI : wI s D A (fl (lX K q bits stops num unit strips caps draw oldest known ring im iold iknown iring hasIm letters tbits tlen tat fig shI shH shL shS seaOf queue snum cost heap wait off les gre abv blw needed ocut opole)) H locs := hI
  refine lv_if_eq (tgt := 23) hx hb dX10_pair_4 (by decide) (fun c2 => ?_) (fun c2 => ?_)
  · replace hw := hw.1 c2
    refine lv_iconst (v := (-1 : Int32)) hx hb dX10_pair_23 (by decide) ?_
    subst hQ
    exact x_iret (u := ()) hC hI hr hlk hw rfl dX10_pair_24
  · replace hw := hw.2 c2
    refine lv_iload_n hx hb dX10_pair_7 rfl (lv_at hl 2 rfl) ?_
    refine x_callSi (rest := []) hC hI [] (mX1_isNumber l D K  _ a2 hw) (va_cwS 1 hts gX10_pair_X1_isNumber rfl rfl rfl (by decide +kernel) ⟨(Nat.le_of_ble_eq_true rfl), (Nat.le_of_ble_eq_true rfl)⟩) (by decide) rfl (fun _ => rfl) rfl hl.1 rfl (Nat.le_of_ble_eq_true rfl) dX10_pair_8 ⟨(Nat.le_of_ble_eq_true rfl), (Nat.le_of_ble_eq_true rfl)⟩ (fun r3 u H locs hw hI => ?_)
    try dsimp only at hw
    have hI : wI s D A (fl (lX K q bits stops num unit strips caps draw oldest known ring im iold iknown iring hasIm letters tbits tlen tat fig shI shH shL shS seaOf queue snum cost heap wait off les gre abv blw needed ocut opole)) H locs := hI
    refine lv_if_eq (tgt := 23) hx hb dX10_pair_11 (by decide) (fun c4 => ?_) (fun c4 => ?_)
    · replace hw := hw.1 c4
      refine lv_iconst (v := (-1 : Int32)) hx hb dX10_pair_23 (by decide) ?_
      subst hQ
      exact x_iret (u := ()) hC hI hr hlk hw rfl dX10_pair_24
    · replace hw := hw.2 c4
      refine lv_iload_n hx hb dX10_pair_14 rfl (lv_at hl 3 rfl) ?_
      refine lv_iconst (v := (0 : Int32)) hx hb dX10_pair_15 (by decide) ?_
      refine lv_iconst (v := (1 : Int32)) hx hb dX10_pair_16 (by decide) ?_
      refine x_callSi (rest := []) hC hI [] (mX10_isIn l D K  _ a3 (0 : Int32) (1 : Int32) hw) (va_cwS 3 hts gX10_pair_X10_isIn rfl rfl rfl (by decide +kernel) ⟨(Nat.le_of_ble_eq_true rfl), (Nat.le_of_ble_eq_true rfl)⟩) (by decide) rfl (fun _ => rfl) rfl hl.1 rfl (Nat.le_of_ble_eq_true rfl) dX10_pair_17 ⟨(Nat.le_of_ble_eq_true rfl), (Nat.le_of_ble_eq_true rfl)⟩ (fun r5 u H locs hw hI => ?_)
      try dsimp only at hw
      have hI : wI s D A (fl (lX K q bits stops num unit strips caps draw oldest known ring im iold iknown iring hasIm letters tbits tlen tat fig shI shH shL shS seaOf queue snum cost heap wait off les gre abv blw needed ocut opole)) H locs := hI
      refine lv_if_ne (tgt := 25) hx hb dX10_pair_20 (by decide) (fun c6 => ?_) (fun c6 => ?_)
      · replace hw := hw.2 c6
        refine lv_iload_n hx hb dX10_pair_25 rfl (lv_at hl 1 rfl) ?_
        refine lv_iload_n hx hb dX10_pair_26 rfl (lv_at hl 2 rfl) ?_
        refine x_callSi (rest := []) hC hI [] (mX1_areNeighbours l D K  _ a1 a2 hw) (va_cwS 2 hts gX10_pair_X1_areNeighbours rfl rfl rfl (by decide +kernel) ⟨(Nat.le_of_ble_eq_true rfl), (Nat.le_of_ble_eq_true rfl)⟩) (by decide) rfl (fun _ => rfl) rfl hl.1 rfl (Nat.le_of_ble_eq_true rfl) dX10_pair_27 ⟨(Nat.le_of_ble_eq_true rfl), (Nat.le_of_ble_eq_true rfl)⟩ (fun r7 u H locs hw hI => ?_)
        try dsimp only at hw
        have hI : wI s D A (fl (lX K q bits stops num unit strips caps draw oldest known ring im iold iknown iring hasIm letters tbits tlen tat fig shI shH shL shS seaOf queue snum cost heap wait off les gre abv blw needed ocut opole)) H locs := hI
        refine lv_if_ne (tgt := 36) hx hb dX10_pair_30 (by decide) (fun c8 => ?_) (fun c8 => ?_)
        · replace hw := hw.2 c8
          refine lv_iload_n hx hb dX10_pair_36 rfl (lv_at hl 3 rfl) ?_
          refine lv_if_ne (tgt := 56) hx hb dX10_pair_37 (by decide) (fun c9 => ?_) (fun c9 => ?_)
          · replace hw := hw.2 c9
            refine lv_aload_n hx hb dX10_pair_56 rfl (lv_at hl 0 rfl) ?_
            refine x_get (v := .ref (q 1)) hC hI kX10_pair_cX10 0 rfl rfl 0 (by decide) kX10_pair_0 rfl rfl dX10_pair_57 ?_
            refine lv_iload_n hx hb dX10_pair_60 rfl (lv_at hl 1 rfl) ?_
            refine lv_iload_n hx hb dX10_pair_61 rfl (lv_at hl 2 rfl) ?_
            refine x_callVi (rest := []) hC hI [1] (mX0_areOnStrips l D K (fun i => q (1 + i)) _ a1 a2 bits stops num unit strips caps draw hw) (cwV 2 hts gX10_pair_X0_areOnStrips rfl rfl rfl (by decide +kernel) ⟨(Nat.le_of_ble_eq_true rfl), (Nat.le_of_ble_eq_true rfl)⟩) (by decide) rfl (fun _ => rfl) 1 0 rfl rfl rfl rfl hl.1 rfl (Nat.le_of_ble_eq_true rfl) dX10_pair_62 ⟨(Nat.le_of_ble_eq_true rfl), (Nat.le_of_ble_eq_true rfl)⟩ (fun r10 u H locs hw hI => ?_)
            try dsimp only at hw
            have hI : wI s D A (fl (lX K q bits stops num unit strips caps draw oldest known ring im iold iknown iring hasIm letters tbits tlen tat fig shI shH shL shS seaOf queue snum cost heap wait off les gre abv blw needed ocut opole)) H locs := hI
            refine lv_if_eq (tgt := 80) hx hb dX10_pair_65 (by decide) (fun c11 => ?_) (fun c11 => ?_)
            · replace hw := hw.1 c11
              refine lv_bipush (v := (-4 : Int32)) hx hb dX10_pair_80 (by decide) ?_
              subst hQ
              exact x_iret (u := ()) hC hI hr hlk hw rfl dX10_pair_82
            · replace hw := hw.2 c11
              refine lv_aload_n hx hb dX10_pair_68 rfl (lv_at hl 0 rfl) ?_
              refine x_get (v := .ref (q 1)) hC hI kX10_pair_cX10 0 rfl rfl 0 (by decide) kX10_pair_0 rfl rfl dX10_pair_69 ?_
              refine lv_iload_n hx hb dX10_pair_72 rfl (lv_at hl 1 rfl) ?_
              refine lv_iload_n hx hb dX10_pair_73 rfl (lv_at hl 2 rfl) ?_
              refine x_callSi (rest := []) hC hI [1] (mX3_straight l D K (fun i => q (1 + i)) _ a1 a2 bits stops num unit strips caps draw hw) (va_cwS 3 hts gX10_pair_X3_straight rfl rfl rfl (by decide +kernel) ⟨(Nat.le_of_ble_eq_true rfl), (Nat.le_of_ble_eq_true rfl)⟩) (by decide) rfl (fun _ => rfl) rfl hl.1 rfl (Nat.le_of_ble_eq_true rfl) dX10_pair_74 ⟨(Nat.le_of_ble_eq_true rfl), (Nat.le_of_ble_eq_true rfl)⟩ (fun r12 u H locs hw hI => ?_)
              try dsimp only at hw
              have hI : wI s D A (fl (lX K q bits stops num unit strips caps draw oldest known ring im iold iknown iring hasIm letters tbits tlen tat fig shI shH shL shS seaOf queue snum cost heap wait off les gre abv blw needed ocut opole)) H locs := hI
              refine lv_goto (tgt := 82) hx hb dX10_pair_77 (by decide) ?_
              subst hQ
              exact x_iret (u := ()) hC hI hr hlk hw rfl dX10_pair_82
          · replace hw := hw.1 c9
            refine lv_aload_n hx hb dX10_pair_40 rfl (lv_at hl 0 rfl) ?_
            refine x_get (v := .ref (q 1)) hC hI kX10_pair_cX10 0 rfl rfl 0 (by decide) kX10_pair_0 rfl rfl dX10_pair_41 ?_
            refine lv_iload_n hx hb dX10_pair_44 rfl (lv_at hl 1 rfl) ?_
            refine x_callSi (rest := [.ref (q 1)]) hC hI [] (mX1_rowOf l D K  _ a1 hw) (va_cwS 1 hts gX10_pair_X1_rowOf rfl rfl rfl (by decide +kernel) ⟨(Nat.le_of_ble_eq_true rfl), (Nat.le_of_ble_eq_true rfl)⟩) (by decide) rfl (fun _ => rfl) rfl hl.1 rfl (Nat.le_of_ble_eq_true rfl) dX10_pair_45 ⟨(Nat.le_of_ble_eq_true rfl), (Nat.le_of_ble_eq_true rfl)⟩ (fun r13 u H locs hw hI => ?_)
            try dsimp only at hw
            have hI : wI s D A (fl (lX K q bits stops num unit strips caps draw oldest known ring im iold iknown iring hasIm letters tbits tlen tat fig shI shH shL shS seaOf queue snum cost heap wait off les gre abv blw needed ocut opole)) H locs := hI
            refine lv_iload_n hx hb dX10_pair_48 rfl (lv_at hl 2 rfl) ?_
            refine x_callSi (rest := [.int r13, .ref (q 1)]) hC hI [] (mX1_rowOf l D K  _ a2 hw) (va_cwS 1 hts gX10_pair_X1_rowOf rfl rfl rfl (by decide +kernel) ⟨(Nat.le_of_ble_eq_true rfl), (Nat.le_of_ble_eq_true rfl)⟩) (by decide) rfl (fun _ => rfl) rfl hl.1 rfl (Nat.le_of_ble_eq_true rfl) dX10_pair_49 ⟨(Nat.le_of_ble_eq_true rfl), (Nat.le_of_ble_eq_true rfl)⟩ (fun r14 u H locs hw hI => ?_)
            try dsimp only at hw
            have hI : wI s D A (fl (lX K q bits stops num unit strips caps draw oldest known ring im iold iknown iring hasIm letters tbits tlen tat fig shI shH shL shS seaOf queue snum cost heap wait off les gre abv blw needed ocut opole)) H locs := hI
            refine x_callVi (rest := []) hC hI [1] (mX0_far l D K (fun i => q (1 + i)) _ r13 r14 bits stops num unit strips caps draw hw) (cwV 2 hts gX10_pair_X0_far rfl rfl rfl (by decide +kernel) ⟨(Nat.le_of_ble_eq_true rfl), (Nat.le_of_ble_eq_true rfl)⟩) (by decide) rfl (fun _ => rfl) 1 0 rfl rfl rfl rfl hl.1 rfl (Nat.le_of_ble_eq_true rfl) dX10_pair_52 ⟨(Nat.le_of_ble_eq_true rfl), (Nat.le_of_ble_eq_true rfl)⟩ (fun r15 u H locs hw hI => ?_)
            try dsimp only at hw
            have hI : wI s D A (fl (lX K q bits stops num unit strips caps draw oldest known ring im iold iknown iring hasIm letters tbits tlen tat fig shI shH shL shS seaOf queue snum cost heap wait off les gre abv blw needed ocut opole)) H locs := hI
            subst hQ
            exact x_iret (u := ()) hC hI hr hlk hw rfl dX10_pair_55
        · replace hw := hw.1 c8
          refine lv_bipush (v := (-2 : Int32)) hx hb dX10_pair_33 (by decide) ?_
          subst hQ
          exact x_iret (u := ()) hC hI hr hlk hw rfl dX10_pair_35
      · replace hw := hw.1 c6
        refine lv_iconst (v := (-1 : Int32)) hx hb dX10_pair_23 (by decide) ?_
        subst hQ
        exact x_iret (u := ()) hC hI hr hlk hw rfl dX10_pair_24
