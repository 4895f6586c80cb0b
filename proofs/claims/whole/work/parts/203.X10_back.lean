def wX10_back (a1 : Int32) (a2 : Int32) (a3 : Int32) (unit : Int32) (strips : Int32) (caps : Int32) (post : Int32 → Prop) : Prop := wX10_isIn a1 (0 : Int32) (2 : Int32) (fun (r1 : Int32) => ((r1 = 0 → post (-1 : Int32)) ∧ (¬ r1 = 0 → ∀ x3 : Int32, x3 = ((4 : Int32) * unit) * caps → ∃ J49 : Int32 → Prop, (∀ (t_49 : Int32), J49 t_49 → ∃ J70 : Int32 → Prop, (∀ (t_70 : Int32), J70 t_70 → wX10_isIn a2 (0 : Int32) t_49 (fun (r4 : Int32) => ((r4 = 0 → post (-1 : Int32)) ∧ (¬ r4 = 0 → wX10_isIn a3 (0 : Int32) t_70 (fun (r6 : Int32) => ((r6 = 0 → post (-1 : Int32)) ∧ (¬ r6 = 0 → ((a1 = 0 → wX3_foundOnStrips a2 a3 unit strips caps (fun (r12 : Int32) => post r12)) ∧ (¬ a1 = 0 → ((caps = 0 → post (-4 : Int32)) ∧ (¬ caps = 0 → ∃ J137 : Int32 → Prop, (∀ (t_137 : Int32), J137 t_137 → wX3_foundOnCap t_137 a2 a3 unit caps (fun (r10 : Int32) => post r10)) ∧ ((a1 = (1 : Int32) → J137 (1 : Int32)) ∧ (¬ a1 = (1 : Int32) → J137 (0 : Int32)))))))))))))) ∧ ((a1 = 0 → J70 ((24 : Int32) * unit)) ∧ (¬ a1 = 0 → J70 x3))) ∧ ((a1 = 0 → J49 ((48 : Int32) * unit)) ∧ (¬ a1 = 0 → J49 x3)))))
def rmX10_back : Room := { frames := 4, cells := 0, slots := 0, locals := 100 }
theorem kX10_back_0 : Cond.fieldLink RX10 10 "GoreGlobe" "now" "LGoreGlobe$Globe;" ∈ wsX10_back := List.mem_cons_of_mem _ (List.mem_append_left _ (List.mem_append_left _ (List.mem_append_left _ (List.mem_of_getElem? (i := 0) rfl))))
theorem kX10_back_cX10 : ∀ w ∈ wsX100, w ∈ wsX10_back := fun _ h => List.mem_cons_of_mem _ (List.mem_append_left _ (List.mem_append_right _ h))
theorem kX10_back_2 : Cond.fieldLink RX10 111 "GoreGlobe$Globe" "unit" "I" ∈ wsX10_back := List.mem_cons_of_mem _ (List.mem_append_left _ (List.mem_append_left _ (List.mem_append_left _ (List.mem_of_getElem? (i := 1) rfl))))
theorem kX10_back_cX0 : ∀ w ∈ wsX00, w ∈ wsX10_back := fun _ h => List.mem_cons_of_mem _ (List.mem_append_right _ h)
theorem kX10_back_4 : Cond.fieldLink RX10 134 "GoreGlobe$Globe" "caps" "I" ∈ wsX10_back := List.mem_cons_of_mem _ (List.mem_append_left _ (List.mem_append_left _ (List.mem_append_left _ (List.mem_of_getElem? (i := 2) rfl))))
set_option maxHeartbeats 4000000 in
set_option maxRecDepth 100000 in
theorem mX10_back (l : Launch) (D : va_G) (K : Nat → ClassId) (q : Nat → Nat) (sz : Nat) (a1 : Int32) (a2 : Int32) (a3 : Int32) (bits : Nat → Int64) (stops : Nat → Int32) (num : Int32) (unit : Int32) (strips : Int32) (caps : Int32) (draw : Int32) (oldest : Int32) (known : Int32) (ring : Nat → GS) (im : GS) (iold : Int32) (iknown : Int32) (iring : Nat → GS) (hasIm : Int32) (letters : Nat → Int32) (tbits : Nat → Int64) (tlen : Int32) (tat : Int32) (fig : Int32) (shI : Nat → Nat → Int64) (shH : Nat → Int32) (shL : Nat → Int32) (shS : Nat → Int32) (seaOf : Nat → Int32) (queue : Nat → Int32) (snum : Int32) (cost : Nat → Int32) (heap : Nat → Int64) (wait : Int32) (off : Int32) (les : Int32) (gre : Int32) (abv : Int64) (blw : Int64) (needed : Int32) (ocut : Int32) (opole : Int32)  {post : Int32 → Prop} (hw : wX10_back a1 a2 a3 unit strips caps post) : Met l yX10_back wsX10_back rmX10_back (va_Pc [.ref (q 0), .int a1, .int a2, .int a3] (cP D K (fl (lX K q bits stops num unit strips caps draw oldest known ring im iold iknown iring hasIm letters tbits tlen tat fig shI shH shL shS seaOf queue snum cost heap wait off les gre abv blw needed ocut opole)) sz)) (va_Qi (fun (r : Int32) (u : Unit) => post r) (fun u t => cQ D K (fl (lX K q bits stops num unit strips caps draw oldest known ring im iold iknown iring hasIm letters tbits tlen tat fig shI shH shL shS seaOf queue snum cost heap wait off les gre abv blw needed ocut opole)) (va_A (fl (lX K q bits stops num unit strips caps draw oldest known ring im iold iknown iring hasIm letters tbits tlen tat fig shI shH shL shS seaOf queue snum cost heap wait off les gre abv blw needed ocut opole)) sz) t) (va_A (fl (lX K q bits stops num unit strips caps draw oldest known ring im iold iknown iring hasIm letters tbits tlen tat fig shI shH shL shS seaOf queue snum cost heap wait off les gre abv blw needed ocut opole)) sz)) 0 0 (va_A (fl (lX K q bits stops num unit strips caps draw oldest known ring im iold iknown iring hasIm letters tbits tlen tat fig shI shH shL shS seaOf queue snum cost heap wait off les gre abv blw needed ocut opole)) sz) := by
  refine x_entry (cc := cX10_back) (maxL := 7) (ret := (some .int)) (QA := fun A => va_Qi (fun (r : Int32) (u : Unit) => post r) (fun u t => cQ D K (fl (lX K q bits stops num unit strips caps draw oldest known ring im iold iknown iring hasIm letters tbits tlen tat fig shI shH shL shS seaOf queue snum cost heap wait off les gre abv blw needed ocut opole)) A t) A) (plainFor_of_name (by decide)) rfl (Nat.le_of_ble_eq_true rfl) ?_
  intro p e s m args below meth c A ls H Q hQ hC hlk hr hnm hI hl
  obtain ⟨hx, hb, hml, hown, hts, hK, hA, hZ⟩ := id hC
  obtain ⟨locs, hlocs⟩ : ∃ y : List Loc, y = [] := ⟨_, rfl⟩
  rw [← hlocs] at hI ⊢
  clear hlocs
  replace hl : lv_has ls 7 [(0, .ref (q 0)), (1, .int a1), (2, .int a2), (3, .int a3)] := hl
  replace hw : wX10_isIn a1 (0 : Int32) (2 : Int32) (fun (r1 : Int32) => ((r1 = 0 → post (-1 : Int32)) ∧ (¬ r1 = 0 → ∀ x3 : Int32, x3 = ((4 : Int32) * unit) * caps → ∃ J49 : Int32 → Prop, (∀ (t_49 : Int32), J49 t_49 → ∃ J70 : Int32 → Prop, (∀ (t_70 : Int32), J70 t_70 → wX10_isIn a2 (0 : Int32) t_49 (fun (r4 : Int32) => ((r4 = 0 → post (-1 : Int32)) ∧ (¬ r4 = 0 → wX10_isIn a3 (0 : Int32) t_70 (fun (r6 : Int32) => ((r6 = 0 → post (-1 : Int32)) ∧ (¬ r6 = 0 → ((a1 = 0 → wX3_foundOnStrips a2 a3 unit strips caps (fun (r12 : Int32) => post r12)) ∧ (¬ a1 = 0 → ((caps = 0 → post (-4 : Int32)) ∧ (¬ caps = 0 → ∃ J137 : Int32 → Prop, (∀ (t_137 : Int32), J137 t_137 → wX3_foundOnCap t_137 a2 a3 unit caps (fun (r10 : Int32) => post r10)) ∧ ((a1 = (1 : Int32) → J137 (1 : Int32)) ∧ (¬ a1 = (1 : Int32) → J137 (0 : Int32)))))))))))))) ∧ ((a1 = 0 → J70 ((24 : Int32) * unit)) ∧ (¬ a1 = 0 → J70 x3))) ∧ ((a1 = 0 → J49 ((48 : Int32) * unit)) ∧ (¬ a1 = 0 → J49 x3))))) := hw
  refine lv_iload_n hx hb dX10_back_0 rfl (lv_at hl 1 rfl) ?_
  refine lv_iconst (v := (0 : Int32)) hx hb dX10_back_1 (by decide) ?_
  refine lv_iconst (v := (2 : Int32)) hx hb dX10_back_2 (by decide) ?_
  refine x_callSi (rest := []) hC hI [] (mX10_isIn l D K  _ a1 (0 : Int32) (2 : Int32) hw) (va_cwS 3 hts gX10_back_X10_isIn rfl rfl rfl (by decide +kernel) ⟨(Nat.le_of_ble_eq_true rfl), (Nat.le_of_ble_eq_true rfl)⟩) (by decide) rfl (fun _ => rfl) rfl hl.1 rfl (Nat.le_of_ble_eq_true rfl) dX10_back_3 ⟨(Nat.le_of_ble_eq_true rfl), (Nat.le_of_ble_eq_true rfl)⟩ (fun r1 u H locs hw hI => ?_)
  try dsimp only at hw
  have hI : wI s D A (fl (lX K q bits stops num unit strips caps draw oldest known ring im iold iknown iring hasIm letters tbits tlen tat fig shI shH shL shS seaOf queue snum cost heap wait off les gre abv blw needed ocut opole)) H locs := hI
  refine lv_if_ne (tgt := 11) hx hb dX10_back_6 (by decide) (fun c2 => ?_) (fun c2 => ?_)
  · replace hw := hw.2 c2
    refine lv_iconst (v := (4 : Int32)) hx hb dX10_back_11 (by decide) ?_
    refine lv_aload_n hx hb dX10_back_12 rfl (lv_at hl 0 rfl) ?_
    refine x_get (v := .ref (q 1)) hC hI kX10_back_cX10 0 rfl rfl 0 (by decide) kX10_back_0 rfl rfl dX10_back_13 ?_
    refine x_get (v := .int unit) hC hI kX10_back_cX0 1 rfl rfl 3 (by decide) kX10_back_2 rfl rfl dX10_back_16 ?_
    refine lv_imul hx hb dX10_back_19 ?_
    refine lv_aload_n hx hb dX10_back_20 rfl (lv_at hl 0 rfl) ?_
    refine x_get (v := .ref (q 1)) hC hI kX10_back_cX10 0 rfl rfl 0 (by decide) kX10_back_0 rfl rfl dX10_back_21 ?_
    refine x_get (v := .int caps) hC hI kX10_back_cX0 1 rfl rfl 5 (by decide) kX10_back_4 rfl rfl dX10_back_24 ?_
    refine lv_imul hx hb dX10_back_27 ?_
    refine lv_topi (fun x3 ex3 => ?_)
    replace hw := hw x3 ex3
    refine lv_istore (lv' := [(4, .int x3), (0, .ref (q 0)), (1, .int a1), (2, .int a2), (3, .int a3)]) hx hb dX10_back_28 hl (by decide) rfl (fun ls hl => ?_)
    refine lv_iload_n hx hb dX10_back_30 rfl (lv_at hl 2 rfl) ?_
    obtain ⟨J49, hJ49, hw⟩ := hw
    have jn49 : ∀ (t_49 : Int32) (ls : Array Slot) (H : Heap) (locs : List Loc), J49 t_49 → wI s D A (fl (lX K q bits stops num unit strips caps draw oldest known ring im iold iknown iring hasIm letters tbits tlen tat fig shI shH shL shS seaOf queue snum cost heap wait off les gre abv blw needed ocut opole)) H locs → lv_has ls 7 [(0, .ref (q 0)), (1, .int a1), (2, .int a2), (3, .int a3), (4, .int x3)] → W p l e rmX10_back s m args below meth c H locs 0 0 Q (F0 m 49 ls [.int t_49]) := by
      intro t_49 ls H locs hw hI hl
      replace hw := hJ49 t_49 hw
      refine lv_istore (lv' := [(5, .int t_49), (0, .ref (q 0)), (1, .int a1), (2, .int a2), (3, .int a3), (4, .int x3)]) hx hb dX10_back_49 hl (by decide) rfl (fun ls hl => ?_)
      refine lv_iload_n hx hb dX10_back_51 rfl (lv_at hl 2 rfl) ?_
      obtain ⟨J70, hJ70, hw⟩ := hw
      have jn70 : ∀ (t_70 : Int32) (ls : Array Slot) (H : Heap) (locs : List Loc), J70 t_70 → wI s D A (fl (lX K q bits stops num unit strips caps draw oldest known ring im iold iknown iring hasIm letters tbits tlen tat fig shI shH shL shS seaOf queue snum cost heap wait off les gre abv blw needed ocut opole)) H locs → lv_has ls 7 [(0, .ref (q 0)), (1, .int a1), (2, .int a2), (3, .int a3), (5, .int t_49)] → W p l e rmX10_back s m args below meth c H locs 0 0 Q (F0 m 70 ls [.int t_70]) := by
        intro t_70 ls H locs hw hI hl
        replace hw := hJ70 t_70 hw
        refine lv_istore (lv' := [(6, .int t_70), (0, .ref (q 0)), (1, .int a1), (2, .int a2), (3, .int a3), (5, .int t_49)]) hx hb dX10_back_70 hl (by decide) rfl (fun ls hl => ?_)
        refine lv_iload_n hx hb dX10_back_72 rfl (lv_at hl 3 rfl) ?_
        refine lv_iconst (v := (0 : Int32)) hx hb dX10_back_73 (by decide) ?_
        refine lv_iload hx hb dX10_back_74 (lv_at hl 5 rfl) ?_
        refine x_callSi (rest := []) hC hI [] (mX10_isIn l D K  _ a2 (0 : Int32) t_49 hw) (va_cwS 3 hts gX10_back_X10_isIn rfl rfl rfl (by decide +kernel) ⟨(Nat.le_of_ble_eq_true rfl), (Nat.le_of_ble_eq_true rfl)⟩) (by decide) rfl (fun _ => rfl) rfl hl.1 rfl (Nat.le_of_ble_eq_true rfl) dX10_back_76 ⟨(Nat.le_of_ble_eq_true rfl), (Nat.le_of_ble_eq_true rfl)⟩ (fun r4 u H locs hw hI => ?_)
        try dsimp only at hw
        have hI : wI s D A (fl (lX K q bits stops num unit strips caps draw oldest known ring im iold iknown iring hasIm letters tbits tlen tat fig shI shH shL shS seaOf queue snum cost heap wait off les gre abv blw needed ocut opole)) H locs := hI
        refine lv_if_eq (tgt := 92) hx hb dX10_back_79 (by decide) (fun c5 => ?_) (fun c5 => ?_)
        · replace hw := hw.1 c5
          refine lv_iconst (v := (-1 : Int32)) hx hb dX10_back_92 (by decide) ?_
          subst hQ
          exact x_iret (u := ()) hC hI hr hlk hw rfl dX10_back_93
        · replace hw := hw.2 c5
          refine lv_iload_n hx hb dX10_back_82 rfl (lv_at hl 4 rfl) ?_
          refine lv_iconst (v := (0 : Int32)) hx hb dX10_back_83 (by decide) ?_
          refine lv_iload hx hb dX10_back_84 (lv_at hl 0 rfl) ?_
          refine x_callSi (rest := []) hC hI [] (mX10_isIn l D K  _ a3 (0 : Int32) t_70 hw) (va_cwS 3 hts gX10_back_X10_isIn rfl rfl rfl (by decide +kernel) ⟨(Nat.le_of_ble_eq_true rfl), (Nat.le_of_ble_eq_true rfl)⟩) (by decide) rfl (fun _ => rfl) rfl hl.1 rfl (Nat.le_of_ble_eq_true rfl) dX10_back_86 ⟨(Nat.le_of_ble_eq_true rfl), (Nat.le_of_ble_eq_true rfl)⟩ (fun r6 u H locs hw hI => ?_)
          try dsimp only at hw
          have hI : wI s D A (fl (lX K q bits stops num unit strips caps draw oldest known ring im iold iknown iring hasIm letters tbits tlen tat fig shI shH shL shS seaOf queue snum cost heap wait off les gre abv blw needed ocut opole)) H locs := hI
          refine lv_if_ne (tgt := 94) hx hb dX10_back_89 (by decide) (fun c7 => ?_) (fun c7 => ?_)
          · replace hw := hw.2 c7
            refine lv_iload_n hx hb dX10_back_94 rfl (lv_at hl 2 rfl) ?_
            refine lv_if_ne (tgt := 108) hx hb dX10_back_95 (by decide) (fun c8 => ?_) (fun c8 => ?_)
            · replace hw := hw.2 c8
              refine lv_aload_n hx hb dX10_back_108 rfl (lv_at hl 1 rfl) ?_
              refine x_get (v := .ref (q 1)) hC hI kX10_back_cX10 0 rfl rfl 0 (by decide) kX10_back_0 rfl rfl dX10_back_109 ?_
              refine x_get (v := .int caps) hC hI kX10_back_cX0 1 rfl rfl 5 (by decide) kX10_back_4 rfl rfl dX10_back_112 ?_
              refine lv_if_ne (tgt := 123) hx hb dX10_back_115 (by decide) (fun c9 => ?_) (fun c9 => ?_)
              · replace hw := hw.2 c9
                refine lv_aload_n hx hb dX10_back_123 rfl (lv_at hl 1 rfl) ?_
                refine x_get (v := .ref (q 1)) hC hI kX10_back_cX10 0 rfl rfl 0 (by decide) kX10_back_0 rfl rfl dX10_back_124 ?_
                refine lv_iload_n hx hb dX10_back_127 rfl (lv_at hl 2 rfl) ?_
                refine lv_iconst (v := (1 : Int32)) hx hb dX10_back_128 (by decide) ?_
                obtain ⟨J137, hJ137, hw⟩ := hw
                have jn137 : ∀ (t_137 : Int32) (ls : Array Slot) (H : Heap) (locs : List Loc), J137 t_137 → wI s D A (fl (lX K q bits stops num unit strips caps draw oldest known ring im iold iknown iring hasIm letters tbits tlen tat fig shI shH shL shS seaOf queue snum cost heap wait off les gre abv blw needed ocut opole)) H locs → lv_has ls 7 [(2, .int a2), (3, .int a3)] → W p l e rmX10_back s m args below meth c H locs 0 0 Q (F0 m 137 ls [.int t_137, .ref (q 1)]) := by
                  intro t_137 ls H locs hw hI hl
                  replace hw := hJ137 t_137 hw
                  refine lv_iload_n hx hb dX10_back_137 rfl (lv_at hl 0 rfl) ?_
                  refine lv_iload_n hx hb dX10_back_138 rfl (lv_at hl 1 rfl) ?_
                  refine x_callSi (rest := []) hC hI [1] (mX3_foundOnCap l D K (fun i => q (1 + i)) _ t_137 a2 a3 bits stops num unit strips caps draw hw) (va_cwS 4 hts gX10_back_X3_foundOnCap rfl rfl rfl (by decide +kernel) ⟨(Nat.le_of_ble_eq_true rfl), (Nat.le_of_ble_eq_true rfl)⟩) (by decide) rfl (fun _ => rfl) rfl hl.1 rfl (Nat.le_of_ble_eq_true rfl) dX10_back_139 ⟨(Nat.le_of_ble_eq_true rfl), (Nat.le_of_ble_eq_true rfl)⟩ (fun r10 u H locs hw hI => ?_)
                  try dsimp only at hw
                  have hI : wI s D A (fl (lX K q bits stops num unit strips caps draw oldest known ring im iold iknown iring hasIm letters tbits tlen tat fig shI shH shL shS seaOf queue snum cost heap wait off les gre abv blw needed ocut opole)) H locs := hI
                  subst hQ
                  exact x_iret (u := ()) hC hI hr hlk hw rfl dX10_back_142
                refine lv_icmp_ne (tgt := 136) hx hb dX10_back_129 (by decide) (fun c11 => ?_) (fun c11 => ?_)
                · replace hw := hw.2 c11
                  refine lv_iconst (v := (0 : Int32)) hx hb dX10_back_136 (by decide) ?_
                  exact jn137 (0 : Int32) ls H locs hw hI (lv_sub hl [3, 4] rfl)
                · replace hw := hw.1 c11
                  refine lv_iconst (v := (1 : Int32)) hx hb dX10_back_132 (by decide) ?_
                  refine lv_goto (tgt := 137) hx hb dX10_back_133 (by decide) ?_
                  exact jn137 (1 : Int32) ls H locs hw hI (lv_sub hl [3, 4] rfl)
              · replace hw := hw.1 c9
                refine lv_bipush (v := (-4 : Int32)) hx hb dX10_back_118 (by decide) ?_
                refine lv_goto (tgt := 142) hx hb dX10_back_120 (by decide) ?_
                subst hQ
                exact x_iret (u := ()) hC hI hr hlk hw rfl dX10_back_142
            · replace hw := hw.1 c8
              refine lv_aload_n hx hb dX10_back_98 rfl (lv_at hl 1 rfl) ?_
              refine x_get (v := .ref (q 1)) hC hI kX10_back_cX10 0 rfl rfl 0 (by decide) kX10_back_0 rfl rfl dX10_back_99 ?_
              refine lv_iload_n hx hb dX10_back_102 rfl (lv_at hl 3 rfl) ?_
              refine lv_iload_n hx hb dX10_back_103 rfl (lv_at hl 4 rfl) ?_
              refine x_callSi (rest := []) hC hI [1] (mX3_foundOnStrips l D K (fun i => q (1 + i)) _ a2 a3 bits stops num unit strips caps draw hw) (va_cwS 3 hts gX10_back_X3_foundOnStrips rfl rfl rfl (by decide +kernel) ⟨(Nat.le_of_ble_eq_true rfl), (Nat.le_of_ble_eq_true rfl)⟩) (by decide) rfl (fun _ => rfl) rfl hl.1 rfl (Nat.le_of_ble_eq_true rfl) dX10_back_104 ⟨(Nat.le_of_ble_eq_true rfl), (Nat.le_of_ble_eq_true rfl)⟩ (fun r12 u H locs hw hI => ?_)
              try dsimp only at hw
              have hI : wI s D A (fl (lX K q bits stops num unit strips caps draw oldest known ring im iold iknown iring hasIm letters tbits tlen tat fig shI shH shL shS seaOf queue snum cost heap wait off les gre abv blw needed ocut opole)) H locs := hI
              subst hQ
              exact x_iret (u := ()) hC hI hr hlk hw rfl dX10_back_107
          · replace hw := hw.1 c7
            refine lv_iconst (v := (-1 : Int32)) hx hb dX10_back_92 (by decide) ?_
            subst hQ
            exact x_iret (u := ()) hC hI hr hlk hw rfl dX10_back_93
      refine lv_if_ne (tgt := 68) hx hb dX10_back_52 (by decide) (fun c13 => ?_) (fun c13 => ?_)
      · replace hw := hw.2 c13
        refine lv_iload hx hb dX10_back_68 (lv_at hl 5 rfl) ?_
        exact jn70 x3 ls H locs hw hI (lv_sub hl [1, 2, 3, 4, 0] rfl)
      · replace hw := hw.1 c13
        refine lv_bipush (v := (24 : Int32)) hx hb dX10_back_55 (by decide) ?_
        refine lv_aload_n hx hb dX10_back_57 rfl (lv_at hl 1 rfl) ?_
        refine x_get (v := .ref (q 1)) hC hI kX10_back_cX10 0 rfl rfl 0 (by decide) kX10_back_0 rfl rfl dX10_back_58 ?_
        refine x_get (v := .int unit) hC hI kX10_back_cX0 1 rfl rfl 3 (by decide) kX10_back_2 rfl rfl dX10_back_61 ?_
        refine lv_imul hx hb dX10_back_64 ?_
        refine lv_goto (tgt := 70) hx hb dX10_back_65 (by decide) ?_
        exact jn70 ((24 : Int32) * unit) ls H locs hw hI (lv_sub hl [1, 2, 3, 4, 0] rfl)
    refine lv_if_ne (tgt := 47) hx hb dX10_back_31 (by decide) (fun c14 => ?_) (fun c14 => ?_)
    · replace hw := hw.2 c14
      refine lv_iload hx hb dX10_back_47 (lv_at hl 0 rfl) ?_
      exact jn49 x3 ls H locs hw hI (lv_sub hl [1, 2, 3, 4, 0] rfl)
    · replace hw := hw.1 c14
      refine lv_bipush (v := (48 : Int32)) hx hb dX10_back_34 (by decide) ?_
      refine lv_aload_n hx hb dX10_back_36 rfl (lv_at hl 1 rfl) ?_
      refine x_get (v := .ref (q 1)) hC hI kX10_back_cX10 0 rfl rfl 0 (by decide) kX10_back_0 rfl rfl dX10_back_37 ?_
      refine x_get (v := .int unit) hC hI kX10_back_cX0 1 rfl rfl 3 (by decide) kX10_back_2 rfl rfl dX10_back_40 ?_
      refine lv_imul hx hb dX10_back_43 ?_
      refine lv_goto (tgt := 49) hx hb dX10_back_44 (by decide) ?_
      exact jn49 ((48 : Int32) * unit) ls H locs hw hI (lv_sub hl [1, 2, 3, 4, 0] rfl)
  · replace hw := hw.1 c2
    refine lv_iconst (v := (-1 : Int32)) hx hb dX10_back_9 (by decide) ?_
    subst hQ
    exact x_iret (u := ()) hC hI hr hlk hw rfl dX10_back_10
