def wX10_worst (a1 : Int32) (unit : Int32) (strips : Int32) (caps : Int32) (off : Int32) (les : Int32) (gre : Int32) (post : Int32 → Int32 → Int32 → Int32 → Prop) : Prop := wX10_isIn a1 (0 : Int32) (2 : Int32) (fun (r1 : Int32) => ((r1 = 0 → post (-1 : Int32) off les gre) ∧ (¬ r1 = 0 → wX9_seek les gre unit strips caps (fun (off_c3 : Int32) (les_c4 : Int32) (gre_c5 : Int32) => ((a1 = 0 → post off_c3 off_c3 les_c4 gre_c5) ∧ (¬ a1 = 0 → ((a1 = (1 : Int32) → post les_c4 off_c3 les_c4 gre_c5) ∧ (¬ a1 = (1 : Int32) → post gre_c5 off_c3 les_c4 gre_c5))))))))
def rmX10_worst : Room := { frames := 5, cells := 0, slots := 0, locals := 123 }
theorem kX10_worst_0 : Cond.fieldLink RX10 59 "GoreGlobe" "worstPair" "LGoreGlobe$WorstPair;" ∈ wsX10_worst := List.mem_cons_of_mem _ (List.mem_append_left _ (List.mem_append_left _ (List.mem_append_left _ (List.mem_append_left _ (List.mem_of_getElem? (i := 0) rfl)))))
theorem kX10_worst_cX10 : ∀ w ∈ wsX100, w ∈ wsX10_worst := fun _ h => List.mem_cons_of_mem _ (List.mem_append_left _ (List.mem_append_left _ (List.mem_append_right _ h)))
theorem kX10_worst_2 : Cond.fieldLink RX10 10 "GoreGlobe" "now" "LGoreGlobe$Globe;" ∈ wsX10_worst := List.mem_cons_of_mem _ (List.mem_append_left _ (List.mem_append_left _ (List.mem_append_left _ (List.mem_append_left _ (List.mem_of_getElem? (i := 1) rfl)))))
theorem kX10_worst_3 : Cond.fieldLink RX10 171 "GoreGlobe$WorstPair" "greater" "I" ∈ wsX10_worst := List.mem_cons_of_mem _ (List.mem_append_left _ (List.mem_append_left _ (List.mem_append_left _ (List.mem_append_left _ (List.mem_of_getElem? (i := 4) rfl)))))
theorem kX10_worst_cX9 : ∀ w ∈ wsX90, w ∈ wsX10_worst := fun _ h => List.mem_cons_of_mem _ (List.mem_append_left _ (List.mem_append_right _ h))
theorem kX10_worst_5 : Cond.fieldLink RX10 168 "GoreGlobe$WorstPair" "lesser" "I" ∈ wsX10_worst := List.mem_cons_of_mem _ (List.mem_append_left _ (List.mem_append_left _ (List.mem_append_left _ (List.mem_append_left _ (List.mem_of_getElem? (i := 3) rfl)))))
theorem kX10_worst_6 : Cond.fieldLink RX10 165 "GoreGlobe$WorstPair" "off" "I" ∈ wsX10_worst := List.mem_cons_of_mem _ (List.mem_append_left _ (List.mem_append_left _ (List.mem_append_left _ (List.mem_append_left _ (List.mem_of_getElem? (i := 2) rfl)))))
set_option maxHeartbeats 4000000 in
set_option maxRecDepth 100000 in
theorem mX10_worst (l : Launch) (D : va_G) (K : Nat → ClassId) (q : Nat → Nat) (sz : Nat) (a1 : Int32) (bits : Nat → Int64) (stops : Nat → Int32) (num : Int32) (unit : Int32) (strips : Int32) (caps : Int32) (draw : Int32) (oldest : Int32) (known : Int32) (ring : Nat → GS) (im : GS) (iold : Int32) (iknown : Int32) (iring : Nat → GS) (hasIm : Int32) (letters : Nat → Int32) (tbits : Nat → Int64) (tlen : Int32) (tat : Int32) (fig : Int32) (shI : Nat → Nat → Int64) (shH : Nat → Int32) (shL : Nat → Int32) (shS : Nat → Int32) (seaOf : Nat → Int32) (queue : Nat → Int32) (snum : Int32) (cost : Nat → Int32) (heap : Nat → Int64) (wait : Int32) (off : Int32) (les : Int32) (gre : Int32) (abv : Int64) (blw : Int64) (needed : Int32) (ocut : Int32) (opole : Int32)  {post : Int32 → Int32 → Int32 → Int32 → Prop} (hw : wX10_worst a1 unit strips caps off les gre post) : Met l yX10_worst wsX10_worst rmX10_worst (va_Pc [.ref (q 0), .int a1] (cP D K (fl (lX K q bits stops num unit strips caps draw oldest known ring im iold iknown iring hasIm letters tbits tlen tat fig shI shH shL shS seaOf queue snum cost heap wait off les gre abv blw needed ocut opole)) sz)) (va_Qi (fun (r : Int32) (u : Int32 × Int32 × Int32) => post r u.1 u.2.1 u.2.2) (fun u t => cQ D K (fl (lX K q bits stops num unit strips caps draw oldest known ring im iold iknown iring hasIm letters tbits tlen tat fig shI shH shL shS seaOf queue snum cost heap wait u.1 u.2.1 u.2.2 abv blw needed ocut opole)) (va_A (fl (lX K q bits stops num unit strips caps draw oldest known ring im iold iknown iring hasIm letters tbits tlen tat fig shI shH shL shS seaOf queue snum cost heap wait off les gre abv blw needed ocut opole)) sz) t) (va_A (fl (lX K q bits stops num unit strips caps draw oldest known ring im iold iknown iring hasIm letters tbits tlen tat fig shI shH shL shS seaOf queue snum cost heap wait off les gre abv blw needed ocut opole)) sz)) 0 0 (va_A (fl (lX K q bits stops num unit strips caps draw oldest known ring im iold iknown iring hasIm letters tbits tlen tat fig shI shH shL shS seaOf queue snum cost heap wait off les gre abv blw needed ocut opole)) sz) := by
  refine x_entry (cc := cX10_worst) (maxL := 2) (ret := (some .int)) (QA := fun A => va_Qi (fun (r : Int32) (u : Int32 × Int32 × Int32) => post r u.1 u.2.1 u.2.2) (fun u t => cQ D K (fl (lX K q bits stops num unit strips caps draw oldest known ring im iold iknown iring hasIm letters tbits tlen tat fig shI shH shL shS seaOf queue snum cost heap wait u.1 u.2.1 u.2.2 abv blw needed ocut opole)) A t) A) (plainFor_of_name (by decide)) rfl (Nat.le_of_ble_eq_true rfl) ?_
  intro p e s m args below meth c A ls H Q hQ hC hlk hr hnm hI hl
  obtain ⟨hx, hb, hml, hown, hts, hK, hA, hZ⟩ := id hC
  obtain ⟨locs, hlocs⟩ : ∃ y : List Loc, y = [] := ⟨_, rfl⟩
  rw [← hlocs] at hI ⊢
  clear hlocs
  replace hl : lv_has ls 2 [(0, .ref (q 0)), (1, .int a1)] := hl
  replace hw : wX10_isIn a1 (0 : Int32) (2 : Int32) (fun (r1 : Int32) => ((r1 = 0 → post (-1 : Int32) off les gre) ∧ (¬ r1 = 0 → wX9_seek les gre unit strips caps (fun (off_c3 : Int32) (les_c4 : Int32) (gre_c5 : Int32) => ((a1 = 0 → post off_c3 off_c3 les_c4 gre_c5) ∧ (¬ a1 = 0 → ((a1 = (1 : Int32) → post les_c4 off_c3 les_c4 gre_c5) ∧ (¬ a1 = (1 : Int32) → post gre_c5 off_c3 les_c4 gre_c5)))))))) := hw
  refine lv_iload_n hx hb dX10_worst_0 rfl (lv_at hl 1 rfl) ?_
  refine lv_iconst (v := (0 : Int32)) hx hb dX10_worst_1 (by decide) ?_
  refine lv_iconst (v := (2 : Int32)) hx hb dX10_worst_2 (by decide) ?_
  refine x_callSi (rest := []) hC hI [] (mX10_isIn l D K  _ a1 (0 : Int32) (2 : Int32) hw) (va_cwS 3 hts gX10_worst_X10_isIn rfl rfl rfl (by decide +kernel) ⟨(Nat.le_of_ble_eq_true rfl), (Nat.le_of_ble_eq_true rfl)⟩) (by decide) rfl (fun _ => rfl) rfl hl.1 rfl (Nat.le_of_ble_eq_true rfl) dX10_worst_3 ⟨(Nat.le_of_ble_eq_true rfl), (Nat.le_of_ble_eq_true rfl)⟩ (fun r1 u H locs hw hI => ?_)
  try dsimp only at hw
  have hI : wI s D A (fl (lX K q bits stops num unit strips caps draw oldest known ring im iold iknown iring hasIm letters tbits tlen tat fig shI shH shL shS seaOf queue snum cost heap wait off les gre abv blw needed ocut opole)) H locs := hI
  refine lv_if_ne (tgt := 11) hx hb dX10_worst_6 (by decide) (fun c2 => ?_) (fun c2 => ?_)
  · replace hw := hw.2 c2
    refine lv_aload_n hx hb dX10_worst_11 rfl (lv_at hl 0 rfl) ?_
    refine x_get (v := .ref (q 65)) hC hI kX10_worst_cX10 0 rfl rfl 9 (by decide) kX10_worst_0 rfl rfl dX10_worst_12 ?_
    refine lv_aload_n hx hb dX10_worst_15 rfl (lv_at hl 0 rfl) ?_
    refine x_get (v := .ref (q 1)) hC hI kX10_worst_cX10 0 rfl rfl 0 (by decide) kX10_worst_2 rfl rfl dX10_worst_16 ?_
    refine x_callVv (rest := []) hC hI [25, 1] (mX9_seek l D K (fun i => q (65 + i)) (fun i => q (1 + i)) _ off les gre bits stops num unit strips caps draw hw) (cwV 1 hts gX10_worst_X9_seek rfl rfl rfl (by decide +kernel) ⟨(Nat.le_of_ble_eq_true rfl), (Nat.le_of_ble_eq_true rfl)⟩) (by decide) rfl (fun _ => rfl) 65 7 rfl rfl rfl rfl hl.1 rfl (Nat.le_of_ble_eq_true rfl) dX10_worst_19 ⟨(Nat.le_of_ble_eq_true rfl), (Nat.le_of_ble_eq_true rfl)⟩ (fun u H locs hw hI => ?_)
    obtain ⟨off_c3, les_c4, gre_c5⟩ := u
    try dsimp only at hw
    have hI : wI s D A (fl (lX K q bits stops num unit strips caps draw oldest known ring im iold iknown iring hasIm letters tbits tlen tat fig shI shH shL shS seaOf queue snum cost heap wait off_c3 les_c4 gre_c5 abv blw needed ocut opole)) H locs := hI
    refine lv_iload_n hx hb dX10_worst_22 rfl (lv_at hl 1 rfl) ?_
    refine lv_if_ne (tgt := 34) hx hb dX10_worst_23 (by decide) (fun c6 => ?_) (fun c6 => ?_)
    · replace hw := hw.2 c6
      refine lv_iload_n hx hb dX10_worst_34 rfl (lv_at hl 1 rfl) ?_
      refine lv_iconst (v := (1 : Int32)) hx hb dX10_worst_35 (by decide) ?_
      refine lv_icmp_ne (tgt := 49) hx hb dX10_worst_36 (by decide) (fun c7 => ?_) (fun c7 => ?_)
      · replace hw := hw.2 c7
        refine lv_aload_n hx hb dX10_worst_49 rfl (lv_at hl 0 rfl) ?_
        refine x_get (v := .ref (q 65)) hC hI kX10_worst_cX10 0 rfl rfl 9 (by decide) kX10_worst_0 rfl rfl dX10_worst_50 ?_
        refine x_get (v := .int gre_c5) hC hI kX10_worst_cX9 65 rfl rfl 2 (by decide) kX10_worst_3 rfl rfl dX10_worst_53 ?_
        subst hQ
        exact x_iret (u := (off_c3, les_c4, gre_c5)) hC hI hr hlk hw rfl dX10_worst_56
      · replace hw := hw.1 c7
        refine lv_aload_n hx hb dX10_worst_39 rfl (lv_at hl 0 rfl) ?_
        refine x_get (v := .ref (q 65)) hC hI kX10_worst_cX10 0 rfl rfl 9 (by decide) kX10_worst_0 rfl rfl dX10_worst_40 ?_
        refine x_get (v := .int les_c4) hC hI kX10_worst_cX9 65 rfl rfl 1 (by decide) kX10_worst_5 rfl rfl dX10_worst_43 ?_
        refine lv_goto (tgt := 56) hx hb dX10_worst_46 (by decide) ?_
        subst hQ
        exact x_iret (u := (off_c3, les_c4, gre_c5)) hC hI hr hlk hw rfl dX10_worst_56
    · replace hw := hw.1 c6
      refine lv_aload_n hx hb dX10_worst_26 rfl (lv_at hl 0 rfl) ?_
      refine x_get (v := .ref (q 65)) hC hI kX10_worst_cX10 0 rfl rfl 9 (by decide) kX10_worst_0 rfl rfl dX10_worst_27 ?_
      refine x_get (v := .int off_c3) hC hI kX10_worst_cX9 65 rfl rfl 0 (by decide) kX10_worst_6 rfl rfl dX10_worst_30 ?_
      subst hQ
      exact x_iret (u := (off_c3, les_c4, gre_c5)) hC hI hr hlk hw rfl dX10_worst_33
  · replace hw := hw.1 c2
    refine lv_iconst (v := (-1 : Int32)) hx hb dX10_worst_9 (by decide) ?_
    subst hQ
    exact x_iret (u := (off, les, gre)) hC hI hr hlk hw rfl dX10_worst_10
