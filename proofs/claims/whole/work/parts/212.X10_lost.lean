def wX10_lost (a1 : Int32) (a2 : Int32) (bits : Nat → Int64) (strips : Int32) (caps : Int32) (abv : Int64) (blw : Int64) (needed : Int32) (ocut : Int32) (opole : Int32) (post : Int64 → Int64 → Int64 → Int32 → Int32 → Int32 → Prop) : Prop := wX10_isIn a1 (0 : Int32) (10 : Int32) (fun (r1 : Int32) => ((r1 = 0 → post (-1 : Int64) abv blw needed ocut opole) ∧ (¬ r1 = 0 → wX10_isIn a2 (0 : Int32) (1 : Int32) (fun (r3 : Int32) => ((r3 = 0 → post (-1 : Int64) abv blw needed ocut opole) ∧ (¬ r3 = 0 → wX2_reckon a1 bits strips caps (fun (abv_c5 : Int64) (blw_c6 : Int64) (needed_c7 : Int32) (ocut_c8 : Int32) (opole_c9 : Int32) => ((a2 = 0 → post abv_c5 abv_c5 blw_c6 needed_c7 ocut_c8 opole_c9) ∧ (¬ a2 = 0 → post blw_c6 abv_c5 blw_c6 needed_c7 ocut_c8 opole_c9)))))))))
def rmX10_lost : Room := { frames := 4, cells := 0, slots := 0, locals := 98 }
theorem kX10_lost_0 : Cond.constantLong RX10 213 (-1) ∈ wsX10_lost := List.mem_cons_of_mem _ (List.mem_append_left _ (List.mem_append_left _ (List.mem_append_left _ (List.mem_append_left _ (List.mem_of_getElem? (i := 0) rfl)))))
theorem kX10_lost_1 : Cond.fieldLink RX10 66 "GoreGlobe" "odds" "LGoreGlobe$Odds;" ∈ wsX10_lost := List.mem_cons_of_mem _ (List.mem_append_left _ (List.mem_append_left _ (List.mem_append_left _ (List.mem_append_left _ (List.mem_of_getElem? (i := 1) rfl)))))
theorem kX10_lost_cX10 : ∀ w ∈ wsX100, w ∈ wsX10_lost := fun _ h => List.mem_cons_of_mem _ (List.mem_append_left _ (List.mem_append_left _ (List.mem_append_right _ h)))
theorem kX10_lost_3 : Cond.fieldLink RX10 10 "GoreGlobe" "now" "LGoreGlobe$Globe;" ∈ wsX10_lost := List.mem_cons_of_mem _ (List.mem_append_left _ (List.mem_append_left _ (List.mem_append_left _ (List.mem_append_left _ (List.mem_of_getElem? (i := 2) rfl)))))
theorem kX10_lost_4 : Cond.fieldLink RX10 223 "GoreGlobe$Odds" "below" "J" ∈ wsX10_lost := List.mem_cons_of_mem _ (List.mem_append_left _ (List.mem_append_left _ (List.mem_append_left _ (List.mem_append_left _ (List.mem_of_getElem? (i := 4) rfl)))))
theorem kX10_lost_cX2 : ∀ w ∈ wsX20, w ∈ wsX10_lost := fun _ h => List.mem_cons_of_mem _ (List.mem_append_left _ (List.mem_append_right _ h))
theorem kX10_lost_6 : Cond.fieldLink RX10 219 "GoreGlobe$Odds" "above" "J" ∈ wsX10_lost := List.mem_cons_of_mem _ (List.mem_append_left _ (List.mem_append_left _ (List.mem_append_left _ (List.mem_append_left _ (List.mem_of_getElem? (i := 3) rfl)))))
set_option maxHeartbeats 4000000 in
set_option maxRecDepth 100000 in
theorem mX10_lost (l : Launch) (D : va_G) (K : Nat → ClassId) (q : Nat → Nat) (sz : Nat) (a1 : Int32) (a2 : Int32) (bits : Nat → Int64) (stops : Nat → Int32) (num : Int32) (unit : Int32) (strips : Int32) (caps : Int32) (draw : Int32) (oldest : Int32) (known : Int32) (ring : Nat → GS) (im : GS) (iold : Int32) (iknown : Int32) (iring : Nat → GS) (hasIm : Int32) (letters : Nat → Int32) (tbits : Nat → Int64) (tlen : Int32) (tat : Int32) (fig : Int32) (shI : Nat → Nat → Int64) (shH : Nat → Int32) (shL : Nat → Int32) (shS : Nat → Int32) (seaOf : Nat → Int32) (queue : Nat → Int32) (snum : Int32) (cost : Nat → Int32) (heap : Nat → Int64) (wait : Int32) (off : Int32) (les : Int32) (gre : Int32) (abv : Int64) (blw : Int64) (needed : Int32) (ocut : Int32) (opole : Int32)  {post : Int64 → Int64 → Int64 → Int32 → Int32 → Int32 → Prop} (hw : wX10_lost a1 a2 bits strips caps abv blw needed ocut opole post) : Met l yX10_lost wsX10_lost rmX10_lost (va_Pc [.ref (q 0), .int a1, .int a2] (cP D K (fl (lX K q bits stops num unit strips caps draw oldest known ring im iold iknown iring hasIm letters tbits tlen tat fig shI shH shL shS seaOf queue snum cost heap wait off les gre abv blw needed ocut opole)) sz)) (va_Ql (fun (r : Int64) (u : Int64 × Int64 × Int32 × Int32 × Int32) => post r u.1 u.2.1 u.2.2.1 u.2.2.2.1 u.2.2.2.2) (fun u t => cQ D K (fl (lX K q bits stops num unit strips caps draw oldest known ring im iold iknown iring hasIm letters tbits tlen tat fig shI shH shL shS seaOf queue snum cost heap wait off les gre u.1 u.2.1 u.2.2.1 u.2.2.2.1 u.2.2.2.2)) (va_A (fl (lX K q bits stops num unit strips caps draw oldest known ring im iold iknown iring hasIm letters tbits tlen tat fig shI shH shL shS seaOf queue snum cost heap wait off les gre abv blw needed ocut opole)) sz) t) (va_A (fl (lX K q bits stops num unit strips caps draw oldest known ring im iold iknown iring hasIm letters tbits tlen tat fig shI shH shL shS seaOf queue snum cost heap wait off les gre abv blw needed ocut opole)) sz)) 0 0 (va_A (fl (lX K q bits stops num unit strips caps draw oldest known ring im iold iknown iring hasIm letters tbits tlen tat fig shI shH shL shS seaOf queue snum cost heap wait off les gre abv blw needed ocut opole)) sz) := by
  refine x_entry (cc := cX10_lost) (maxL := 3) (ret := (some .long)) (QA := fun A => va_Ql (fun (r : Int64) (u : Int64 × Int64 × Int32 × Int32 × Int32) => post r u.1 u.2.1 u.2.2.1 u.2.2.2.1 u.2.2.2.2) (fun u t => cQ D K (fl (lX K q bits stops num unit strips caps draw oldest known ring im iold iknown iring hasIm letters tbits tlen tat fig shI shH shL shS seaOf queue snum cost heap wait off les gre u.1 u.2.1 u.2.2.1 u.2.2.2.1 u.2.2.2.2)) A t) A) (plainFor_of_name (by decide)) rfl (Nat.le_of_ble_eq_true rfl) ?_
  intro p e s m args below meth c A ls H Q hQ hC hlk hr hnm hI hl
  obtain ⟨hx, hb, hml, hown, hts, hK, hA, hZ⟩ := id hC
  obtain ⟨locs, hlocs⟩ : ∃ y : List Loc, y = [] := ⟨_, rfl⟩
  rw [← hlocs] at hI ⊢
  clear hlocs
  replace hl : lv_has ls 3 [(0, .ref (q 0)), (1, .int a1), (2, .int a2)] := hl
  replace hw : wX10_isIn a1 (0 : Int32) (10 : Int32) (fun (r1 : Int32) => ((r1 = 0 → post (-1 : Int64) abv blw needed ocut opole) ∧ (¬ r1 = 0 → wX10_isIn a2 (0 : Int32) (1 : Int32) (fun (r3 : Int32) => ((r3 = 0 → post (-1 : Int64) abv blw needed ocut opole) ∧ (¬ r3 = 0 → wX2_reckon a1 bits strips caps (fun (abv_c5 : Int64) (blw_c6 : Int64) (needed_c7 : Int32) (ocut_c8 : Int32) (opole_c9 : Int32) => ((a2 = 0 → post abv_c5 abv_c5 blw_c6 needed_c7 ocut_c8 opole_c9) ∧ (¬ a2 = 0 → post blw_c6 abv_c5 blw_c6 needed_c7 ocut_c8 opole_c9))))))))) := hw
  refine lv_iload_n hx hb dX10_lost_0 rfl (lv_at hl 1 rfl) ?_
  refine lv_iconst (v := (0 : Int32)) hx hb dX10_lost_1 (by decide) ?_
  refine lv_bipush (v := (10 : Int32)) hx hb dX10_lost_2 (by decide) ?_
  refine x_callSi (rest := []) hC hI [] (mX10_isIn l D K  _ a1 (0 : Int32) (10 : Int32) hw) (va_cwS 3 hts gX10_lost_X10_isIn rfl rfl rfl (by decide +kernel) ⟨(Nat.le_of_ble_eq_true rfl), (Nat.le_of_ble_eq_true rfl)⟩) (by decide) rfl (fun _ => rfl) rfl hl.1 rfl (Nat.le_of_ble_eq_true rfl) dX10_lost_4 ⟨(Nat.le_of_ble_eq_true rfl), (Nat.le_of_ble_eq_true rfl)⟩ (fun r1 u H locs hw hI => ?_)
  try dsimp only at hw
  have hI : wI s D A (fl (lX K q bits stops num unit strips caps draw oldest known ring im iold iknown iring hasIm letters tbits tlen tat fig shI shH shL shS seaOf queue snum cost heap wait off les gre abv blw needed ocut opole)) H locs := hI
  refine lv_if_eq (tgt := 19) hx hb dX10_lost_7 (by decide) (fun c2 => ?_) (fun c2 => ?_)
  · replace hw := hw.1 c2
    refine lv_ldc2 (v := (-1 : Int64)) hx hb hown (hts _ kX10_lost_0) dX10_lost_19 ?_
    subst hQ
    exact x_lret (u := (abv, blw, needed, ocut, opole)) hC hI hr hlk hw rfl dX10_lost_22
  · replace hw := hw.2 c2
    refine lv_iload_n hx hb dX10_lost_10 rfl (lv_at hl 2 rfl) ?_
    refine lv_iconst (v := (0 : Int32)) hx hb dX10_lost_11 (by decide) ?_
    refine lv_iconst (v := (1 : Int32)) hx hb dX10_lost_12 (by decide) ?_
    refine x_callSi (rest := []) hC hI [] (mX10_isIn l D K  _ a2 (0 : Int32) (1 : Int32) hw) (va_cwS 3 hts gX10_lost_X10_isIn rfl rfl rfl (by decide +kernel) ⟨(Nat.le_of_ble_eq_true rfl), (Nat.le_of_ble_eq_true rfl)⟩) (by decide) rfl (fun _ => rfl) rfl hl.1 rfl (Nat.le_of_ble_eq_true rfl) dX10_lost_13 ⟨(Nat.le_of_ble_eq_true rfl), (Nat.le_of_ble_eq_true rfl)⟩ (fun r3 u H locs hw hI => ?_)
    try dsimp only at hw
    have hI : wI s D A (fl (lX K q bits stops num unit strips caps draw oldest known ring im iold iknown iring hasIm letters tbits tlen tat fig shI shH shL shS seaOf queue snum cost heap wait off les gre abv blw needed ocut opole)) H locs := hI
    refine lv_if_ne (tgt := 23) hx hb dX10_lost_16 (by decide) (fun c4 => ?_) (fun c4 => ?_)
    · replace hw := hw.2 c4
      refine lv_aload_n hx hb dX10_lost_23 rfl (lv_at hl 0 rfl) ?_
      refine x_get (v := .ref (q 66)) hC hI kX10_lost_cX10 0 rfl rfl 10 (by decide) kX10_lost_1 rfl rfl dX10_lost_24 ?_
      refine lv_aload_n hx hb dX10_lost_27 rfl (lv_at hl 0 rfl) ?_
      refine x_get (v := .ref (q 1)) hC hI kX10_lost_cX10 0 rfl rfl 0 (by decide) kX10_lost_3 rfl rfl dX10_lost_28 ?_
      refine lv_iload_n hx hb dX10_lost_31 rfl (lv_at hl 1 rfl) ?_
      refine x_callVv (rest := []) hC hI [26, 1] (mX2_reckon l D K (fun i => q (66 + i)) (fun i => q (1 + i)) _ a1 abv blw needed ocut opole bits stops num unit strips caps draw hw) (cwV 2 hts gX10_lost_X2_reckon rfl rfl rfl (by decide +kernel) ⟨(Nat.le_of_ble_eq_true rfl), (Nat.le_of_ble_eq_true rfl)⟩) (by decide) rfl (fun _ => rfl) 66 1 rfl rfl rfl rfl hl.1 rfl (Nat.le_of_ble_eq_true rfl) dX10_lost_32 ⟨(Nat.le_of_ble_eq_true rfl), (Nat.le_of_ble_eq_true rfl)⟩ (fun u H locs hw hI => ?_)
      obtain ⟨abv_c5, blw_c6, needed_c7, ocut_c8, opole_c9⟩ := u
      try dsimp only at hw
      have hI : wI s D A (fl (lX K q bits stops num unit strips caps draw oldest known ring im iold iknown iring hasIm letters tbits tlen tat fig shI shH shL shS seaOf queue snum cost heap wait off les gre abv_c5 blw_c6 needed_c7 ocut_c8 opole_c9)) H locs := hI
      refine lv_iload_n hx hb dX10_lost_35 rfl (lv_at hl 2 rfl) ?_
      refine lv_if_ne (tgt := 49) hx hb dX10_lost_36 (by decide) (fun c10 => ?_) (fun c10 => ?_)
      · replace hw := hw.2 c10
        refine lv_aload_n hx hb dX10_lost_49 rfl (lv_at hl 0 rfl) ?_
        refine x_get (v := .ref (q 66)) hC hI kX10_lost_cX10 0 rfl rfl 10 (by decide) kX10_lost_1 rfl rfl dX10_lost_50 ?_
        refine x_get (v := .long blw_c6) hC hI kX10_lost_cX2 66 rfl rfl 1 (by decide) kX10_lost_4 rfl rfl dX10_lost_53 ?_
        subst hQ
        exact x_lret (u := (abv_c5, blw_c6, needed_c7, ocut_c8, opole_c9)) hC hI hr hlk hw rfl dX10_lost_56
      · replace hw := hw.1 c10
        refine lv_aload_n hx hb dX10_lost_39 rfl (lv_at hl 0 rfl) ?_
        refine x_get (v := .ref (q 66)) hC hI kX10_lost_cX10 0 rfl rfl 10 (by decide) kX10_lost_1 rfl rfl dX10_lost_40 ?_
        refine x_get (v := .long abv_c5) hC hI kX10_lost_cX2 66 rfl rfl 0 (by decide) kX10_lost_6 rfl rfl dX10_lost_43 ?_
        refine lv_goto (tgt := 56) hx hb dX10_lost_46 (by decide) ?_
        subst hQ
        exact x_lret (u := (abv_c5, blw_c6, needed_c7, ocut_c8, opole_c9)) hC hI hr hlk hw rfl dX10_lost_56
    · replace hw := hw.1 c4
      refine lv_ldc2 (v := (-1 : Int64)) hx hb hown (hts _ kX10_lost_0) dX10_lost_19 ?_
      subst hQ
      exact x_lret (u := (abv, blw, needed, ocut, opole)) hC hI hr hlk hw rfl dX10_lost_22
