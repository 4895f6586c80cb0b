def wX11_count (a1 : Int32) (st : Nat → Int32) (acts : Int32) (seaFirst : Nat → Int32) (post : Int32 → (Nat → Int32) → Prop) : Prop := ((a1 = (0 : Int32) → post (st 266) seaFirst) ∧ (¬ a1 = (0 : Int32) → ((a1 = (1 : Int32) → post (st 267) seaFirst) ∧ (¬ a1 = (1 : Int32) → ((a1 = (2 : Int32) → post (st 268) seaFirst) ∧ (¬ a1 = (2 : Int32) → ((a1 = (3 : Int32) → wX11_landMany st (fun (r5 : Int32) => post r5 seaFirst)) ∧ (¬ a1 = (3 : Int32) → ((a1 = (4 : Int32) → wX11_seas st seaFirst (fun (r8 : Int32) (seaFirst_c7 : Nat → Int32) => post r8 seaFirst_c7)) ∧ (¬ a1 = (4 : Int32) → ((a1 = (5 : Int32) → wX11_landOnStrips st (fun (r10 : Int32) => post r10 seaFirst)) ∧ (¬ a1 = (5 : Int32) → ((a1 = (6 : Int32) → post acts seaFirst) ∧ (¬ a1 = (6 : Int32) → post (-1 : Int32) seaFirst))))))))))))))
def rmX11_count : Room := { frames := 5, cells := 0, slots := 0, locals := 107 }
theorem kX11_count_0 : Cond.fieldLink RX11 7 "GoreGlobeModel" "st" "[I" ∈ wsX11_count := List.mem_cons_of_mem _ (List.mem_append_left _ (List.mem_append_left _ (List.mem_of_getElem? (i := 0) rfl)))
theorem kX11_count_cX11 : ∀ w ∈ wsX110, w ∈ wsX11_count := fun _ h => List.mem_cons_of_mem _ (List.mem_append_right _ h)
theorem kX11_count_2 : Cond.fieldLink RX11 230 "GoreGlobeModel" "acts" "I" ∈ wsX11_count := List.mem_cons_of_mem _ (List.mem_append_left _ (List.mem_append_left _ (List.mem_of_getElem? (i := 1) rfl)))
set_option maxHeartbeats 4000000 in
set_option maxRecDepth 100000 in
theorem mX11_count (l : Launch) (D : va_G) (K : Nat → ClassId) (h : Nat → Nat) (sz : Nat) (a1 : Int32) (st : Nat → Int32) (past : Nat → Int32) (acts : Int32) (image : Nat → Int32) (ipast : Nat → Int32) (iacts : Int32) (tape : Nat → Int32) (tmany : Int32) (laneOf : Nat → Int32) (sizeOf : Nat → Int32) (items : Nat → Int64) (seaFirst : Nat → Int32) (worstOf : Nat → Int32) (farTo : Nat → Int32) (stepsTo : Nat → Int32) (needs : Nat → Int32) (nmany : Int32) (mat : Int32) (told : Nat → Int32)  {post : Int32 → (Nat → Int32) → Prop} (hw : wX11_count a1 st acts seaFirst post) : Met l yX11_count wsX11_count rmX11_count (va_Pc [.ref (h 0), .int a1] (cP D K (fl [wMo K h st past acts image ipast iacts tape tmany laneOf sizeOf items seaFirst worstOf farTo stepsTo needs nmany mat told]) sz)) (va_Qi (fun (r : Int32) (u : (Nat → Int32)) => post r u) (fun u t => cQ D K (fl [wMo K h st past acts image ipast iacts tape tmany laneOf sizeOf items u worstOf farTo stepsTo needs nmany mat told]) (va_A (fl [wMo K h st past acts image ipast iacts tape tmany laneOf sizeOf items seaFirst worstOf farTo stepsTo needs nmany mat told]) sz) t) (va_A (fl [wMo K h st past acts image ipast iacts tape tmany laneOf sizeOf items seaFirst worstOf farTo stepsTo needs nmany mat told]) sz)) 0 0 (va_A (fl [wMo K h st past acts image ipast iacts tape tmany laneOf sizeOf items seaFirst worstOf farTo stepsTo needs nmany mat told]) sz) := by
  refine x_entry (cc := cX11_count) (maxL := 2) (ret := (some .int)) (QA := fun A => va_Qi (fun (r : Int32) (u : (Nat → Int32)) => post r u) (fun u t => cQ D K (fl [wMo K h st past acts image ipast iacts tape tmany laneOf sizeOf items u worstOf farTo stepsTo needs nmany mat told]) A t) A) (plainFor_of_name (by decide)) rfl (Nat.le_of_ble_eq_true rfl) ?_
  intro p e s m args below meth c A ls H Q hQ hC hlk hr hnm hI hl
  obtain ⟨hx, hb, hml, hown, hts, hK, hA, hZ⟩ := id hC
  obtain ⟨locs, hlocs⟩ : ∃ y : List Loc, y = [] := ⟨_, rfl⟩
  rw [← hlocs] at hI ⊢
  clear hlocs
  replace hl : lv_has ls 2 [(0, .ref (h 0)), (1, .int a1)] := hl
  replace hw : ((a1 = (0 : Int32) → post (st 266) seaFirst) ∧ (¬ a1 = (0 : Int32) → ((a1 = (1 : Int32) → post (st 267) seaFirst) ∧ (¬ a1 = (1 : Int32) → ((a1 = (2 : Int32) → post (st 268) seaFirst) ∧ (¬ a1 = (2 : Int32) → ((a1 = (3 : Int32) → wX11_landMany st (fun (r5 : Int32) => post r5 seaFirst)) ∧ (¬ a1 = (3 : Int32) → ((a1 = (4 : Int32) → wX11_seas st seaFirst (fun (r8 : Int32) (seaFirst_c7 : Nat → Int32) => post r8 seaFirst_c7)) ∧ (¬ a1 = (4 : Int32) → ((a1 = (5 : Int32) → wX11_landOnStrips st (fun (r10 : Int32) => post r10 seaFirst)) ∧ (¬ a1 = (5 : Int32) → ((a1 = (6 : Int32) → post acts seaFirst) ∧ (¬ a1 = (6 : Int32) → post (-1 : Int32) seaFirst)))))))))))))) := hw
  refine lv_iload_n hx hb dX11_count_0 rfl (lv_at hl 1 rfl) ?_
  by_cases c1 : a1 = (0 : Int32)
  · replace hw := hw.1 c1
    refine lv_tableIn (off := 43) (tgt := 44) hx hb dX11_count_1 (by rw [c1]; decide) (by rw [c1]; decide) (by rw [c1]; rfl) (by decide) ?_
    refine lv_aload_n hx hb dX11_count_44 rfl (lv_at hl 0 rfl) ?_
    refine x_get (v := .ref (h 1)) hC hI kX11_count_cX11 0 rfl rfl 0 (by decide) kX11_count_0 rfl rfl dX11_count_45 ?_
    refine lv_sipush (v := (266 : Int32)) hx hb dX11_count_48 (by decide) ?_
    refine x_iald (f := st) hC hI 1 rfl (by unfold vp_in; decide) dX11_count_51 ?_
    subst hQ
    exact x_iret (u := seaFirst) hC hI hr hlk hw rfl dX11_count_52
  · replace hw := hw.2 c1
    by_cases c2 : a1 = (1 : Int32)
    · replace hw := hw.1 c2
      refine lv_tableIn (off := 52) (tgt := 53) hx hb dX11_count_1 (by rw [c2]; decide) (by rw [c2]; decide) (by rw [c2]; rfl) (by decide) ?_
      refine lv_aload_n hx hb dX11_count_53 rfl (lv_at hl 0 rfl) ?_
      refine x_get (v := .ref (h 1)) hC hI kX11_count_cX11 0 rfl rfl 0 (by decide) kX11_count_0 rfl rfl dX11_count_54 ?_
      refine lv_sipush (v := (267 : Int32)) hx hb dX11_count_57 (by decide) ?_
      refine x_iald (f := st) hC hI 1 rfl (by unfold vp_in; decide) dX11_count_60 ?_
      subst hQ
      exact x_iret (u := seaFirst) hC hI hr hlk hw rfl dX11_count_61
    · replace hw := hw.2 c2
      by_cases c3 : a1 = (2 : Int32)
      · replace hw := hw.1 c3
        refine lv_tableIn (off := 61) (tgt := 62) hx hb dX11_count_1 (by rw [c3]; decide) (by rw [c3]; decide) (by rw [c3]; rfl) (by decide) ?_
        refine lv_aload_n hx hb dX11_count_62 rfl (lv_at hl 0 rfl) ?_
        refine x_get (v := .ref (h 1)) hC hI kX11_count_cX11 0 rfl rfl 0 (by decide) kX11_count_0 rfl rfl dX11_count_63 ?_
        refine lv_sipush (v := (268 : Int32)) hx hb dX11_count_66 (by decide) ?_
        refine x_iald (f := st) hC hI 1 rfl (by unfold vp_in; decide) dX11_count_69 ?_
        subst hQ
        exact x_iret (u := seaFirst) hC hI hr hlk hw rfl dX11_count_70
      · replace hw := hw.2 c3
        by_cases c4 : a1 = (3 : Int32)
        · replace hw := hw.1 c4
          refine lv_tableIn (off := 70) (tgt := 71) hx hb dX11_count_1 (by rw [c4]; decide) (by rw [c4]; decide) (by rw [c4]; rfl) (by decide) ?_
          refine lv_aload_n hx hb dX11_count_71 rfl (lv_at hl 0 rfl) ?_
          refine x_callWi (rest := []) hC hI (mX11_landMany l D K h _ st past acts image ipast iacts tape tmany laneOf sizeOf items seaFirst worstOf farTo stepsTo needs nmany mat told hw) (cwV 0 hts gX11_count_X11_landMany rfl rfl rfl (by decide +kernel) ⟨(Nat.le_of_ble_eq_true rfl), (Nat.le_of_ble_eq_true rfl)⟩) (fun _ => rfl) 0 9 rfl rfl rfl rfl hl.1 rfl (Nat.le_of_ble_eq_true rfl) dX11_count_72 ⟨(Nat.le_of_ble_eq_true rfl), (Nat.le_of_ble_eq_true rfl)⟩ (fun r5 u H locs hw hI => ?_)
          try dsimp only at hw
          have hI : wI s D A (fl [wMo K h st past acts image ipast iacts tape tmany laneOf sizeOf items seaFirst worstOf farTo stepsTo needs nmany mat told]) H locs := hI
          subst hQ
          exact x_iret (u := seaFirst) hC hI hr hlk hw rfl dX11_count_75
        · replace hw := hw.2 c4
          by_cases c6 : a1 = (4 : Int32)
          · replace hw := hw.1 c6
            refine lv_tableIn (off := 75) (tgt := 76) hx hb dX11_count_1 (by rw [c6]; decide) (by rw [c6]; decide) (by rw [c6]; rfl) (by decide) ?_
            refine lv_aload_n hx hb dX11_count_76 rfl (lv_at hl 0 rfl) ?_
            refine x_callWi (rest := []) hC hI (mX11_seas l D K h _ st past acts image ipast iacts tape tmany laneOf sizeOf items seaFirst worstOf farTo stepsTo needs nmany mat told hw) (cwV 0 hts gX11_count_X11_seas rfl rfl rfl (by decide +kernel) ⟨(Nat.le_of_ble_eq_true rfl), (Nat.le_of_ble_eq_true rfl)⟩) (fun _ => rfl) 0 9 rfl rfl rfl rfl hl.1 rfl (Nat.le_of_ble_eq_true rfl) dX11_count_77 ⟨(Nat.le_of_ble_eq_true rfl), (Nat.le_of_ble_eq_true rfl)⟩ (fun r8 seaFirst_c7 H locs hw hI => ?_)
            have hI : wI s D A (fl [wMo K h st past acts image ipast iacts tape tmany laneOf sizeOf items seaFirst_c7 worstOf farTo stepsTo needs nmany mat told]) H locs := hI
            subst hQ
            exact x_iret (u := seaFirst_c7) hC hI hr hlk hw rfl dX11_count_80
          · replace hw := hw.2 c6
            by_cases c9 : a1 = (5 : Int32)
            · replace hw := hw.1 c9
              refine lv_tableIn (off := 80) (tgt := 81) hx hb dX11_count_1 (by rw [c9]; decide) (by rw [c9]; decide) (by rw [c9]; rfl) (by decide) ?_
              refine lv_aload_n hx hb dX11_count_81 rfl (lv_at hl 0 rfl) ?_
              refine x_callWi (rest := []) hC hI (mX11_landOnStrips l D K h _ st past acts image ipast iacts tape tmany laneOf sizeOf items seaFirst worstOf farTo stepsTo needs nmany mat told hw) (cwV 0 hts gX11_count_X11_landOnStrips rfl rfl rfl (by decide +kernel) ⟨(Nat.le_of_ble_eq_true rfl), (Nat.le_of_ble_eq_true rfl)⟩) (fun _ => rfl) 0 9 rfl rfl rfl rfl hl.1 rfl (Nat.le_of_ble_eq_true rfl) dX11_count_82 ⟨(Nat.le_of_ble_eq_true rfl), (Nat.le_of_ble_eq_true rfl)⟩ (fun r10 u H locs hw hI => ?_)
              try dsimp only at hw
              have hI : wI s D A (fl [wMo K h st past acts image ipast iacts tape tmany laneOf sizeOf items seaFirst worstOf farTo stepsTo needs nmany mat told]) H locs := hI
              subst hQ
              exact x_iret (u := seaFirst) hC hI hr hlk hw rfl dX11_count_85
            · replace hw := hw.2 c9
              by_cases c11 : a1 = (6 : Int32)
              · replace hw := hw.1 c11
                refine lv_tableIn (off := 85) (tgt := 86) hx hb dX11_count_1 (by rw [c11]; decide) (by rw [c11]; decide) (by rw [c11]; rfl) (by decide) ?_
                refine lv_aload_n hx hb dX11_count_86 rfl (lv_at hl 0 rfl) ?_
                refine x_get (v := .int acts) hC hI kX11_count_cX11 0 rfl rfl 2 (by decide) kX11_count_2 rfl rfl dX11_count_87 ?_
                subst hQ
                exact x_iret (u := seaFirst) hC hI hr hlk hw rfl dX11_count_90
              · replace hw := hw.2 c11
                refine lv_tableOut (tgt := 91) hx hb dX11_count_1 (by have nc1 := lv_neT c1 (a := 0) rfl; have nc2 := lv_neT c2 (a := 1) rfl; have nc3 := lv_neT c3 (a := 2) rfl; have nc4 := lv_neT c4 (a := 3) rfl; have nc6 := lv_neT c6 (a := 4) rfl; have nc9 := lv_neT c9 (a := 5) rfl; have nc11 := lv_neT c11 (a := 6) rfl; omega) (by decide) ?_
                refine lv_iconst (v := (-1 : Int32)) hx hb dX11_count_91 (by decide) ?_
                subst hQ
                exact x_iret (u := seaFirst) hC hI hr hlk hw rfl dX11_count_92

def wX11_notes  (st : Nat → Int32) (past : Nat → Int32) (acts : Int32) (post : (Nat → Int32) → Int32 → Prop) : Prop := ∃ J37 : (Nat → Int32) → Int32 → Prop, (∀ (past_37 : Nat → Int32) (acts_37 : Int32), J37 past_37 acts_37 → wX11_bring (0 : Int32) ((279 : Int32) * acts_37) (279 : Int32) st past_37 279 1674 (fun (arr_c1 : Nat → Int32) => ∀ x2 : Int32, x2 = acts_37 + (1 : Int32) → post arr_c1 x2)) ∧ ((acts = (6 : Int32) → wX11_bringS (279 : Int32) (0 : Int32) (1395 : Int32) past 1674 (fun (arr_c4 : Nat → Int32) => ∀ x5 : Int32, x5 = acts - (1 : Int32) → J37 arr_c4 x5)) ∧ (¬ acts = (6 : Int32) → J37 past acts))
def rmX11_notes : Room := { frames := 1, cells := 0, slots := 0, locals := 25 }
theorem kX11_notes_0 : Cond.fieldLink RX11 230 "GoreGlobeModel" "acts" "I" ∈ wsX11_notes := List.mem_cons_of_mem _ (List.mem_append_left _ (List.mem_of_getElem? (i := 0) rfl))
theorem kX11_notes_cX11 : ∀ w ∈ wsX110, w ∈ wsX11_notes := fun _ h => List.mem_cons_of_mem _ (List.mem_append_right _ h)
theorem kX11_notes_2 : Cond.fieldLink RX11 7 "GoreGlobeModel" "st" "[I" ∈ wsX11_notes := List.mem_cons_of_mem _ (List.mem_append_left _ (List.mem_of_getElem? (i := 2) rfl))
theorem kX11_notes_3 : Cond.fieldLink RX11 13 "GoreGlobeModel" "past" "[I" ∈ wsX11_notes := List.mem_cons_of_mem _ (List.mem_append_left _ (List.mem_of_getElem? (i := 1) rfl))
set_option maxHeartbeats 4000000 in
set_option maxRecDepth 100000 in
theorem mX11_notes (l : Launch) (D : va_G) (K : Nat → ClassId) (h : Nat → Nat) (sz : Nat)  (st : Nat → Int32) (past : Nat → Int32) (acts : Int32) (image : Nat → Int32) (ipast : Nat → Int32) (iacts : Int32) (tape : Nat → Int32) (tmany : Int32) (laneOf : Nat → Int32) (sizeOf : Nat → Int32) (items : Nat → Int64) (seaFirst : Nat → Int32) (worstOf : Nat → Int32) (farTo : Nat → Int32) (stepsTo : Nat → Int32) (needs : Nat → Int32) (nmany : Int32) (mat : Int32) (told : Nat → Int32)  {post : (Nat → Int32) → Int32 → Prop} (hw : wX11_notes  st past acts post) : Met l yX11_notes wsX11_notes rmX11_notes (va_Pc [.ref (h 0)] (cP D K (fl [wMo K h st past acts image ipast iacts tape tmany laneOf sizeOf items seaFirst worstOf farTo stepsTo needs nmany mat told]) sz)) (va_Qv (fun (u : (Nat → Int32) × Int32) => post u.1 u.2) (fun u t => cQ D K (fl [wMo K h st u.1 u.2 image ipast iacts tape tmany laneOf sizeOf items seaFirst worstOf farTo stepsTo needs nmany mat told]) (va_A (fl [wMo K h st past acts image ipast iacts tape tmany laneOf sizeOf items seaFirst worstOf farTo stepsTo needs nmany mat told]) sz) t) (va_A (fl [wMo K h st past acts image ipast iacts tape tmany laneOf sizeOf items seaFirst worstOf farTo stepsTo needs nmany mat told]) sz)) 0 0 (va_A (fl [wMo K h st past acts image ipast iacts tape tmany laneOf sizeOf items seaFirst worstOf farTo stepsTo needs nmany mat told]) sz) := by
  refine x_entry (cc := cX11_notes) (maxL := 1) (ret := none) (QA := fun A => va_Qv (fun (u : (Nat → Int32) × Int32) => post u.1 u.2) (fun u t => cQ D K (fl [wMo K h st u.1 u.2 image ipast iacts tape tmany laneOf sizeOf items seaFirst worstOf farTo stepsTo needs nmany mat told]) A t) A) (plainFor_of_name (by decide)) rfl (Nat.le_of_ble_eq_true rfl) ?_
  intro p e s m args below meth c A ls H Q hQ hC hlk hr hnm hI hl
  obtain ⟨hx, hb, hml, hown, hts, hK, hA, hZ⟩ := id hC
  obtain ⟨locs, hlocs⟩ : ∃ y : List Loc, y = [] := ⟨_, rfl⟩
  rw [← hlocs] at hI ⊢
  clear hlocs
  replace hl : lv_has ls 1 [(0, .ref (h 0))] := hl
  replace hw : ∃ J37 : (Nat → Int32) → Int32 → Prop, (∀ (past_37 : Nat → Int32) (acts_37 : Int32), J37 past_37 acts_37 → wX11_bring (0 : Int32) ((279 : Int32) * acts_37) (279 : Int32) st past_37 279 1674 (fun (arr_c1 : Nat → Int32) => ∀ x2 : Int32, x2 = acts_37 + (1 : Int32) → post arr_c1 x2)) ∧ ((acts = (6 : Int32) → wX11_bringS (279 : Int32) (0 : Int32) (1395 : Int32) past 1674 (fun (arr_c4 : Nat → Int32) => ∀ x5 : Int32, x5 = acts - (1 : Int32) → J37 arr_c4 x5)) ∧ (¬ acts = (6 : Int32) → J37 past acts)) := hw
  refine lv_aload_n hx hb dX11_notes_0 rfl (lv_at hl 0 rfl) ?_
  refine x_get (v := .int acts) hC hI kX11_notes_cX11 0 rfl rfl 2 (by decide) kX11_notes_0 rfl rfl dX11_notes_1 ?_
  refine lv_bipush (v := (6 : Int32)) hx hb dX11_notes_4 (by decide) ?_
  obtain ⟨J37, hJ37, hw⟩ := hw
  have jn37 : ∀ (past_37 : Nat → Int32) (acts_37 : Int32) (ls : Array Slot) (H : Heap) (locs : List Loc), J37 past_37 acts_37 → wI s D A (fl [wMo K h st past_37 acts_37 image ipast iacts tape tmany laneOf sizeOf items seaFirst worstOf farTo stepsTo needs nmany mat told]) H locs → lv_has ls 1 [(0, .ref (h 0))] → W p l e rmX11_notes s m args below meth c H locs 0 0 Q (F0 m 37 ls []) := by
    intro past_37 acts_37 ls H locs hw hI hl
    replace hw := hJ37 past_37 acts_37 hw
    refine lv_aload_n hx hb dX11_notes_37 rfl (lv_at hl 0 rfl) ?_
    refine x_get (v := .ref (h 1)) hC hI kX11_notes_cX11 0 rfl rfl 0 (by decide) kX11_notes_2 rfl rfl dX11_notes_38 ?_
    refine lv_iconst (v := (0 : Int32)) hx hb dX11_notes_41 (by decide) ?_
    refine lv_aload_n hx hb dX11_notes_42 rfl (lv_at hl 0 rfl) ?_
    refine x_get (v := .ref (h 2)) hC hI kX11_notes_cX11 0 rfl rfl 1 (by decide) kX11_notes_3 rfl rfl dX11_notes_43 ?_
    refine lv_sipush (v := (279 : Int32)) hx hb dX11_notes_46 (by decide) ?_
    refine lv_aload_n hx hb dX11_notes_49 rfl (lv_at hl 0 rfl) ?_
    refine x_get (v := .int acts_37) hC hI kX11_notes_cX11 0 rfl rfl 2 (by decide) kX11_notes_0 rfl rfl dX11_notes_50 ?_
    refine lv_imul hx hb dX11_notes_53 ?_
    refine lv_sipush (v := (279 : Int32)) hx hb dX11_notes_54 (by decide) ?_
    refine x_callSv (L := List.map (fun c => [c]) (fl [wMo K h st past_37 acts_37 image ipast iacts tape tmany laneOf sizeOf items seaFirst worstOf farTo stepsTo needs nmany mat told])) (rest := []) hC (by rw [fl_single]; exact hI) [1, 2] (mX11_bring l D K (fun _ => (h 1)) (fun _ => (h 2)) _ (0 : Int32) ((279 : Int32) * acts_37) (279 : Int32) st past_37 279 1674 hw) (va_cwS 5 hts gX11_notes_X11_bring rfl rfl rfl (by decide +kernel) ⟨(Nat.le_of_ble_eq_true rfl), (Nat.le_of_ble_eq_true rfl)⟩) (by decide) rfl (fun _ => rfl) rfl hl.1 rfl (Nat.le_of_ble_eq_true rfl) dX11_notes_57 ⟨(Nat.le_of_ble_eq_true rfl), (Nat.le_of_ble_eq_true rfl)⟩ (fun arr_c1 H locs hw hI => ?_)
    have hI : wI s D A (fl [wMo K h st arr_c1 acts_37 image ipast iacts tape tmany laneOf sizeOf items seaFirst worstOf farTo stepsTo needs nmany mat told]) H locs := hI
    refine lv_aload_n hx hb dX11_notes_60 rfl (lv_at hl 0 rfl) ?_
    refine lv_dup hx hb dX11_notes_61 rfl ?_
    refine x_get (v := .int acts_37) hC hI kX11_notes_cX11 0 rfl rfl 2 (by decide) kX11_notes_0 rfl rfl dX11_notes_62 ?_
    refine lv_iconst (v := (1 : Int32)) hx hb dX11_notes_65 (by decide) ?_
    refine lv_iadd hx hb dX11_notes_66 ?_
    refine lv_topi (fun x2 ex2 => ?_)
    replace hw := hw x2 ex2
    refine x_put (v := .int x2) hC hI kX11_notes_cX11 tyX11 tyX11_ok nmX11 0 rfl rfl 2 (by decide) kX11_notes_0 rfl rfl rfl rfl (Nat.le_of_ble_eq_true rfl) dX11_notes_67 (fun H locs hI => ?_)
    have hI : wI s D A (fl [wMo K h st arr_c1 x2 image ipast iacts tape tmany laneOf sizeOf items seaFirst worstOf farTo stepsTo needs nmany mat told]) H locs := hI
    subst hQ
    exact x_vret (u := (arr_c1, x2)) hC hI hr hlk hw rfl dX11_notes_70
  refine lv_icmp_ne (tgt := 37) hx hb dX11_notes_6 (by decide) (fun c3 => ?_) (fun c3 => ?_)
  · replace hw := hw.2 c3
    exact jn37 past acts ls H locs hw hI (lv_sub hl [0] rfl)
  · replace hw := hw.1 c3
    refine lv_aload_n hx hb dX11_notes_9 rfl (lv_at hl 0 rfl) ?_
    refine x_get (v := .ref (h 2)) hC hI kX11_notes_cX11 0 rfl rfl 1 (by decide) kX11_notes_3 rfl rfl dX11_notes_10 ?_
    refine lv_sipush (v := (279 : Int32)) hx hb dX11_notes_13 (by decide) ?_
    refine lv_aload_n hx hb dX11_notes_16 rfl (lv_at hl 0 rfl) ?_
    refine x_get (v := .ref (h 2)) hC hI kX11_notes_cX11 0 rfl rfl 1 (by decide) kX11_notes_3 rfl rfl dX11_notes_17 ?_
    refine lv_iconst (v := (0 : Int32)) hx hb dX11_notes_20 (by decide) ?_
    refine lv_sipush (v := (1395 : Int32)) hx hb dX11_notes_21 (by decide) ?_
    refine x_callSv (L := List.map (fun c => [c]) (fl [wMo K h st past acts image ipast iacts tape tmany laneOf sizeOf items seaFirst worstOf farTo stepsTo needs nmany mat told])) (rest := []) hC (by rw [fl_single]; exact hI) [2] (mX11_bringS l D K (fun _ => (h 2)) _ (279 : Int32) (0 : Int32) (1395 : Int32) past 1674 hw) (va_cwS 5 hts gX11_notes_X11_bring rfl rfl rfl (by decide +kernel) ⟨(Nat.le_of_ble_eq_true rfl), (Nat.le_of_ble_eq_true rfl)⟩) (by decide) rfl (fun _ => rfl) rfl hl.1 rfl (Nat.le_of_ble_eq_true rfl) dX11_notes_24 ⟨(Nat.le_of_ble_eq_true rfl), (Nat.le_of_ble_eq_true rfl)⟩ (fun arr_c4 H locs hw hI => ?_)
    have hI : wI s D A (fl [wMo K h st arr_c4 acts image ipast iacts tape tmany laneOf sizeOf items seaFirst worstOf farTo stepsTo needs nmany mat told]) H locs := hI
    refine lv_aload_n hx hb dX11_notes_27 rfl (lv_at hl 0 rfl) ?_
    refine lv_dup hx hb dX11_notes_28 rfl ?_
    refine x_get (v := .int acts) hC hI kX11_notes_cX11 0 rfl rfl 2 (by decide) kX11_notes_0 rfl rfl dX11_notes_29 ?_
    refine lv_iconst (v := (1 : Int32)) hx hb dX11_notes_32 (by decide) ?_
    refine lv_isub hx hb dX11_notes_33 ?_
    refine lv_topi (fun x5 ex5 => ?_)
    replace hw := hw x5 ex5
    refine x_put (v := .int x5) hC hI kX11_notes_cX11 tyX11 tyX11_ok nmX11 0 rfl rfl 2 (by decide) kX11_notes_0 rfl rfl rfl rfl (Nat.le_of_ble_eq_true rfl) dX11_notes_34 (fun H locs hI => ?_)
    have hI : wI s D A (fl [wMo K h st arr_c4 x5 image ipast iacts tape tmany laneOf sizeOf items seaFirst worstOf farTo stepsTo needs nmany mat told]) H locs := hI
    exact jn37 arr_c4 x5 ls H locs hw hI (lv_sub hl [0] rfl)

def wX11_land (a1 : Int32) (a2 : Int32) (st : Nat → Int32) (past : Nat → Int32) (acts : Int32) (post : Int32 → (Nat → Int32) → (Nat → Int32) → Int32 → Prop) : Prop := wX11_isNumber a1 (fun (r1 : Int32) => ((r1 = 0 → post (-1 : Int32) st past acts) ∧ (¬ r1 = 0 → wX11_in a2 (0 : Int32) (1 : Int32) (fun (r3 : Int32) => ((r3 = 0 → post (-1 : Int32) st past acts) ∧ (¬ r3 = 0 → vp_in a1 279 ∧ (((st a1.toNatClampNeg) = a2 → post (-2 : Int32) st past acts) ∧ (¬ (st a1.toNatClampNeg) = a2 → wX11_notes st past acts (fun (past_c7 : Nat → Int32) (acts_c8 : Int32) => vp_in a1 279 ∧ wX11_landMany (upd st a1.toNatClampNeg a2) (fun (r10 : Int32) => post r10 (upd st a1.toNatClampNeg a2) past_c7 acts_c8))))))))))
def rmX11_land : Room := { frames := 2, cells := 0, slots := 0, locals := 45 }
theorem kX11_land_0 : Cond.fieldLink RX11 7 "GoreGlobeModel" "st" "[I" ∈ wsX11_land := List.mem_cons_of_mem _ (List.mem_append_left _ (List.mem_of_getElem? (i := 0) rfl))
theorem kX11_land_cX11 : ∀ w ∈ wsX110, w ∈ wsX11_land := fun _ h => List.mem_cons_of_mem _ (List.mem_append_right _ h)
set_option maxHeartbeats 4000000 in
set_option maxRecDepth 100000 in
theorem mX11_land (l : Launch) (D : va_G) (K : Nat → ClassId) (h : Nat → Nat) (sz : Nat) (a1 : Int32) (a2 : Int32) (st : Nat → Int32) (past : Nat → Int32) (acts : Int32) (image : Nat → Int32) (ipast : Nat → Int32) (iacts : Int32) (tape : Nat → Int32) (tmany : Int32) (laneOf : Nat → Int32) (sizeOf : Nat → Int32) (items : Nat → Int64) (seaFirst : Nat → Int32) (worstOf : Nat → Int32) (farTo : Nat → Int32) (stepsTo : Nat → Int32) (needs : Nat → Int32) (nmany : Int32) (mat : Int32) (told : Nat → Int32)  {post : Int32 → (Nat → Int32) → (Nat → Int32) → Int32 → Prop} (hw : wX11_land a1 a2 st past acts post) : Met l yX11_land wsX11_land rmX11_land (va_Pc [.ref (h 0), .int a1, .int a2] (cP D K (fl [wMo K h st past acts image ipast iacts tape tmany laneOf sizeOf items seaFirst worstOf farTo stepsTo needs nmany mat told]) sz)) (va_Qi (fun (r : Int32) (u : (Nat → Int32) × (Nat → Int32) × Int32) => post r u.1 u.2.1 u.2.2) (fun u t => cQ D K (fl [wMo K h u.1 u.2.1 u.2.2 image ipast iacts tape tmany laneOf sizeOf items seaFirst worstOf farTo stepsTo needs nmany mat told]) (va_A (fl [wMo K h st past acts image ipast iacts tape tmany laneOf sizeOf items seaFirst worstOf farTo stepsTo needs nmany mat told]) sz) t) (va_A (fl [wMo K h st past acts image ipast iacts tape tmany laneOf sizeOf items seaFirst worstOf farTo stepsTo needs nmany mat told]) sz)) 0 0 (va_A (fl [wMo K h st past acts image ipast iacts tape tmany laneOf sizeOf items seaFirst worstOf farTo stepsTo needs nmany mat told]) sz) := by
  refine x_entry (cc := cX11_land) (maxL := 3) (ret := (some .int)) (QA := fun A => va_Qi (fun (r : Int32) (u : (Nat → Int32) × (Nat → Int32) × Int32) => post r u.1 u.2.1 u.2.2) (fun u t => cQ D K (fl [wMo K h u.1 u.2.1 u.2.2 image ipast iacts tape tmany laneOf sizeOf items seaFirst worstOf farTo stepsTo needs nmany mat told]) A t) A) (plainFor_of_name (by decide)) rfl (Nat.le_of_ble_eq_true rfl) ?_
  intro p e s m args below meth c A ls H Q hQ hC hlk hr hnm hI hl
  obtain ⟨hx, hb, hml, hown, hts, hK, hA, hZ⟩ := id hC
  obtain ⟨locs, hlocs⟩ : ∃ y : List Loc, y = [] := ⟨_, rfl⟩
  rw [← hlocs] at hI ⊢
  clear hlocs
  replace hl : lv_has ls 3 [(0, .ref (h 0)), (1, .int a1), (2, .int a2)] := hl
  replace hw : wX11_isNumber a1 (fun (r1 : Int32) => ((r1 = 0 → post (-1 : Int32) st past acts) ∧ (¬ r1 = 0 → wX11_in a2 (0 : Int32) (1 : Int32) (fun (r3 : Int32) => ((r3 = 0 → post (-1 : Int32) st past acts) ∧ (¬ r3 = 0 → vp_in a1 279 ∧ (((st a1.toNatClampNeg) = a2 → post (-2 : Int32) st past acts) ∧ (¬ (st a1.toNatClampNeg) = a2 → wX11_notes st past acts (fun (past_c7 : Nat → Int32) (acts_c8 : Int32) => vp_in a1 279 ∧ wX11_landMany (upd st a1.toNatClampNeg a2) (fun (r10 : Int32) => post r10 (upd st a1.toNatClampNeg a2) past_c7 acts_c8)))))))))) := hw
  refine lv_iload_n hx hb dX11_land_0 rfl (lv_at hl 1 rfl) ?_
  refine x_callSi (rest := []) hC hI [] (mX11_isNumber l D K  _ a1 hw) (va_cwS 1 hts gX11_land_X11_isNumber rfl rfl rfl (by decide +kernel) ⟨(Nat.le_of_ble_eq_true rfl), (Nat.le_of_ble_eq_true rfl)⟩) (by decide) rfl (fun _ => rfl) rfl hl.1 rfl (Nat.le_of_ble_eq_true rfl) dX11_land_1 ⟨(Nat.le_of_ble_eq_true rfl), (Nat.le_of_ble_eq_true rfl)⟩ (fun r1 u H locs hw hI => ?_)
  try dsimp only at hw
  have hI : wI s D A (fl [wMo K h st past acts image ipast iacts tape tmany laneOf sizeOf items seaFirst worstOf farTo stepsTo needs nmany mat told]) H locs := hI
  refine lv_if_eq (tgt := 16) hx hb dX11_land_4 (by decide) (fun c2 => ?_) (fun c2 => ?_)
  · replace hw := hw.1 c2
    refine lv_iconst (v := (-1 : Int32)) hx hb dX11_land_16 (by decide) ?_
    subst hQ
    exact x_iret (u := (st, past, acts)) hC hI hr hlk hw rfl dX11_land_17
  · replace hw := hw.2 c2
    refine lv_iload_n hx hb dX11_land_7 rfl (lv_at hl 2 rfl) ?_
    refine lv_iconst (v := (0 : Int32)) hx hb dX11_land_8 (by decide) ?_
    refine lv_iconst (v := (1 : Int32)) hx hb dX11_land_9 (by decide) ?_
    refine x_callSi (rest := []) hC hI [] (mX11_in l D K  _ a2 (0 : Int32) (1 : Int32) hw) (va_cwS 3 hts gX11_land_X11_in rfl rfl rfl (by decide +kernel) ⟨(Nat.le_of_ble_eq_true rfl), (Nat.le_of_ble_eq_true rfl)⟩) (by decide) rfl (fun _ => rfl) rfl hl.1 rfl (Nat.le_of_ble_eq_true rfl) dX11_land_10 ⟨(Nat.le_of_ble_eq_true rfl), (Nat.le_of_ble_eq_true rfl)⟩ (fun r3 u H locs hw hI => ?_)
    try dsimp only at hw
    have hI : wI s D A (fl [wMo K h st past acts image ipast iacts tape tmany laneOf sizeOf items seaFirst worstOf farTo stepsTo needs nmany mat told]) H locs := hI
    refine lv_if_ne (tgt := 18) hx hb dX11_land_13 (by decide) (fun c4 => ?_) (fun c4 => ?_)
    · replace hw := hw.2 c4
      refine lv_aload_n hx hb dX11_land_18 rfl (lv_at hl 0 rfl) ?_
      refine x_get (v := .ref (h 1)) hC hI kX11_land_cX11 0 rfl rfl 0 (by decide) kX11_land_0 rfl rfl dX11_land_19 ?_
      refine lv_iload_n hx hb dX11_land_22 rfl (lv_at hl 1 rfl) ?_
      obtain ⟨hc5, hw⟩ := hw
      refine x_iald (f := st) hC hI 1 rfl hc5 dX11_land_23 ?_
      refine lv_iload_n hx hb dX11_land_24 rfl (lv_at hl 2 rfl) ?_
      refine lv_icmp_ne (tgt := 31) hx hb dX11_land_25 (by decide) (fun c6 => ?_) (fun c6 => ?_)
      · replace hw := hw.2 c6
        refine lv_aload_n hx hb dX11_land_31 rfl (lv_at hl 0 rfl) ?_
        refine x_callWv (rest := []) hC hI (mX11_notes l D K h _ st past acts image ipast iacts tape tmany laneOf sizeOf items seaFirst worstOf farTo stepsTo needs nmany mat told hw) (cwV 0 hts gX11_land_X11_notes rfl rfl rfl (by decide +kernel) ⟨(Nat.le_of_ble_eq_true rfl), (Nat.le_of_ble_eq_true rfl)⟩) (fun _ => rfl) 0 9 rfl rfl rfl rfl hl.1 rfl (Nat.le_of_ble_eq_true rfl) dX11_land_32 ⟨(Nat.le_of_ble_eq_true rfl), (Nat.le_of_ble_eq_true rfl)⟩ (fun u H locs hw hI => ?_)
        obtain ⟨past_c7, acts_c8⟩ := u
        try dsimp only at hw
        have hI : wI s D A (fl [wMo K h st past_c7 acts_c8 image ipast iacts tape tmany laneOf sizeOf items seaFirst worstOf farTo stepsTo needs nmany mat told]) H locs := hI
        refine lv_aload_n hx hb dX11_land_35 rfl (lv_at hl 0 rfl) ?_
        refine x_get (v := .ref (h 1)) hC hI kX11_land_cX11 0 rfl rfl 0 (by decide) kX11_land_0 rfl rfl dX11_land_36 ?_
        refine lv_iload_n hx hb dX11_land_39 rfl (lv_at hl 1 rfl) ?_
        refine lv_iload_n hx hb dX11_land_40 rfl (lv_at hl 2 rfl) ?_
        obtain ⟨hc9, hw⟩ := hw
        refine x_iast (f := st) hC hI 1 rfl hc9 dX11_land_41 (fun H locs hI => ?_)
        have hI : wI s D A (fl [wMo K h (upd st a1.toNatClampNeg a2) past_c7 acts_c8 image ipast iacts tape tmany laneOf sizeOf items seaFirst worstOf farTo stepsTo needs nmany mat told]) H locs := hI
        refine lv_aload_n hx hb dX11_land_42 rfl (lv_at hl 0 rfl) ?_
        refine x_callWi (rest := []) hC hI (mX11_landMany l D K h _ (upd st a1.toNatClampNeg a2) past_c7 acts_c8 image ipast iacts tape tmany laneOf sizeOf items seaFirst worstOf farTo stepsTo needs nmany mat told hw) (cwV 0 hts gX11_land_X11_landMany rfl rfl rfl (by decide +kernel) ⟨(Nat.le_of_ble_eq_true rfl), (Nat.le_of_ble_eq_true rfl)⟩) (fun _ => rfl) 0 9 rfl rfl rfl rfl hl.1 rfl (Nat.le_of_ble_eq_true rfl) dX11_land_43 ⟨(Nat.le_of_ble_eq_true rfl), (Nat.le_of_ble_eq_true rfl)⟩ (fun r10 u H locs hw hI => ?_)
        try dsimp only at hw
        have hI : wI s D A (fl [wMo K h (upd st a1.toNatClampNeg a2) past_c7 acts_c8 image ipast iacts tape tmany laneOf sizeOf items seaFirst worstOf farTo stepsTo needs nmany mat told]) H locs := hI
        subst hQ
        exact x_iret (u := ((upd st a1.toNatClampNeg a2), past_c7, acts_c8)) hC hI hr hlk hw rfl dX11_land_46
      · replace hw := hw.1 c6
        refine lv_bipush (v := (-2 : Int32)) hx hb dX11_land_28 (by decide) ?_
        subst hQ
        exact x_iret (u := (st, past, acts)) hC hI hr hlk hw rfl dX11_land_30
    · replace hw := hw.1 c4
      refine lv_iconst (v := (-1 : Int32)) hx hb dX11_land_16 (by decide) ?_
      subst hQ
      exact x_iret (u := (st, past, acts)) hC hI hr hlk hw rfl dX11_land_17

def wX11_cutsOf (a0 : Int32)  (post : Int32 → Prop) : Prop := (((3 : Int32) ≤ a0 → ((a0 = (3 : Int32) → post (6 : Int32)) ∧ (¬ a0 = (3 : Int32) → ((a0 = (4 : Int32) → post (8 : Int32)) ∧ (¬ a0 = (4 : Int32) → post (12 : Int32)))))) ∧ (¬ (3 : Int32) ≤ a0 → post (a0 + (2 : Int32))))
def rmX11_cutsOf : Room := { frames := 0, cells := 0, slots := 0, locals := 0 }
set_option maxHeartbeats 4000000 in
set_option maxRecDepth 100000 in
theorem mX11_cutsOf (l : Launch) (D : va_G) (K : Nat → ClassId)  (sz : Nat) (a0 : Int32)   {post : Int32 → Prop} (hw : wX11_cutsOf a0  post) : Met l yX11_cutsOf wsX11_cutsOf rmX11_cutsOf (va_Pc [.int a0] (cP D K (fl []) sz)) (va_Qi (fun (r : Int32) (u : Unit) => post r) (fun u t => cQ D K (fl []) (va_A (fl []) sz) t) (va_A (fl []) sz)) 0 0 (va_A (fl []) sz) := by
  refine x_entry (cc := cX11_cutsOf) (maxL := 1) (ret := (some .int)) (QA := fun A => va_Qi (fun (r : Int32) (u : Unit) => post r) (fun u t => cQ D K (fl []) A t) A) (plainFor_of_name (by decide)) rfl (Nat.le_of_ble_eq_true rfl) ?_
  intro p e s m args below meth c A ls H Q hQ hC hlk hr hnm hI hl
  obtain ⟨hx, hb, hml, hown, hts, hK, hA, hZ⟩ := id hC
  obtain ⟨locs, hlocs⟩ : ∃ y : List Loc, y = [] := ⟨_, rfl⟩
  rw [← hlocs] at hI ⊢
  clear hlocs
  replace hl : lv_has ls 1 [(0, .int a0)] := hl
  replace hw : (((3 : Int32) ≤ a0 → ((a0 = (3 : Int32) → post (6 : Int32)) ∧ (¬ a0 = (3 : Int32) → ((a0 = (4 : Int32) → post (8 : Int32)) ∧ (¬ a0 = (4 : Int32) → post (12 : Int32)))))) ∧ (¬ (3 : Int32) ≤ a0 → post (a0 + (2 : Int32)))) := hw
  refine lv_iload_n hx hb dX11_cutsOf_0 rfl (lv_at hl 0 rfl) ?_
  refine lv_iconst (v := (3 : Int32)) hx hb dX11_cutsOf_1 (by decide) ?_
  refine lv_icmp_ge (tgt := 11) hx hb dX11_cutsOf_2 (by decide) (fun c1 => ?_) (fun c1 => ?_)
  · replace hw := hw.1 c1
    refine lv_iload_n hx hb dX11_cutsOf_11 rfl (lv_at hl 0 rfl) ?_
    refine lv_iconst (v := (3 : Int32)) hx hb dX11_cutsOf_12 (by decide) ?_
    refine lv_icmp_ne (tgt := 21) hx hb dX11_cutsOf_13 (by decide) (fun c2 => ?_) (fun c2 => ?_)
    · replace hw := hw.2 c2
      refine lv_iload_n hx hb dX11_cutsOf_21 rfl (lv_at hl 0 rfl) ?_
      refine lv_iconst (v := (4 : Int32)) hx hb dX11_cutsOf_22 (by decide) ?_
      refine lv_icmp_ne (tgt := 31) hx hb dX11_cutsOf_23 (by decide) (fun c3 => ?_) (fun c3 => ?_)
      · replace hw := hw.2 c3
        refine lv_bipush (v := (12 : Int32)) hx hb dX11_cutsOf_31 (by decide) ?_
        subst hQ
        exact x_iret (u := ()) hC hI hr hlk hw rfl dX11_cutsOf_33
      · replace hw := hw.1 c3
        refine lv_bipush (v := (8 : Int32)) hx hb dX11_cutsOf_26 (by decide) ?_
        refine lv_goto (tgt := 33) hx hb dX11_cutsOf_28 (by decide) ?_
        subst hQ
        exact x_iret (u := ()) hC hI hr hlk hw rfl dX11_cutsOf_33
    · replace hw := hw.1 c2
      refine lv_bipush (v := (6 : Int32)) hx hb dX11_cutsOf_16 (by decide) ?_
      refine lv_goto (tgt := 33) hx hb dX11_cutsOf_18 (by decide) ?_
      subst hQ
      exact x_iret (u := ()) hC hI hr hlk hw rfl dX11_cutsOf_33
  · replace hw := hw.2 c1
    refine lv_iload_n hx hb dX11_cutsOf_5 rfl (lv_at hl 0 rfl) ?_
    refine lv_iconst (v := (2 : Int32)) hx hb dX11_cutsOf_6 (by decide) ?_
    refine lv_iadd hx hb dX11_cutsOf_7 ?_
    refine lv_goto (tgt := 33) hx hb dX11_cutsOf_8 (by decide) ?_
    subst hQ
    exact x_iret (u := ()) hC hI hr hlk hw rfl dX11_cutsOf_33

def wX11_isCutNumber (a0 : Int32)  (post : Int32 → Prop) : Prop := (∃ (I4 : Int32 → Int32 → Prop) (mu4 : Int32 → Int32 → Nat), I4 (0 : Int32) (0 : Int32) ∧ ∀ (l1_4 : Int32) (l2_4 : Int32), I4 l1_4 l2_4 → (((6 : Int32) ≤ l2_4 → (l1_4 = 0 ∨ l1_4 = 1) ∧ post l1_4) ∧ (¬ (6 : Int32) ≤ l2_4 → ((l1_4 = 0 → wX11_cutsOf l2_4 (fun (r5 : Int32) => ((r5 = a0 → ∀ x8 : Int32, x8 = l2_4 + 1 → (I4 (1 : Int32) x8 ∧ mu4 (1 : Int32) x8 < mu4 l1_4 l2_4)) ∧ (¬ r5 = a0 → ∀ x7 : Int32, x7 = l2_4 + 1 → (I4 (0 : Int32) x7 ∧ mu4 (0 : Int32) x7 < mu4 l1_4 l2_4))))) ∧ (¬ l1_4 = 0 → ∀ x4 : Int32, x4 = l2_4 + 1 → (I4 (1 : Int32) x4 ∧ mu4 (1 : Int32) x4 < mu4 l1_4 l2_4))))))
def rmX11_isCutNumber : Room := { frames := 1, cells := 0, slots := 0, locals := 20 }
set_option maxHeartbeats 4000000 in
set_option maxRecDepth 100000 in
theorem mX11_isCutNumber (l : Launch) (D : va_G) (K : Nat → ClassId)  (sz : Nat) (a0 : Int32)   {post : Int32 → Prop} (hw : wX11_isCutNumber a0  post) : Met l yX11_isCutNumber wsX11_isCutNumber rmX11_isCutNumber (va_Pc [.int a0] (cP D K (fl []) sz)) (va_Qi (fun (r : Int32) (u : Unit) => post r) (fun u t => cQ D K (fl []) (va_A (fl []) sz) t) (va_A (fl []) sz)) 0 0 (va_A (fl []) sz) := by
  refine x_entry (cc := cX11_isCutNumber) (maxL := 3) (ret := (some .boolean)) (QA := fun A => va_Qi (fun (r : Int32) (u : Unit) => post r) (fun u t => cQ D K (fl []) A t) A) (plainFor_of_name (by decide)) rfl (Nat.le_of_ble_eq_true rfl) ?_
  intro p e s m args below meth c A ls H Q hQ hC hlk hr hnm hI hl
  obtain ⟨hx, hb, hml, hown, hts, hK, hA, hZ⟩ := id hC
  obtain ⟨locs, hlocs⟩ : ∃ y : List Loc, y = [] := ⟨_, rfl⟩
  rw [← hlocs] at hI ⊢
  clear hlocs
  replace hl : lv_has ls 3 [(0, .int a0)] := hl
  replace hw : (∃ (I4 : Int32 → Int32 → Prop) (mu4 : Int32 → Int32 → Nat), I4 (0 : Int32) (0 : Int32) ∧ ∀ (l1_4 : Int32) (l2_4 : Int32), I4 l1_4 l2_4 → (((6 : Int32) ≤ l2_4 → (l1_4 = 0 ∨ l1_4 = 1) ∧ post l1_4) ∧ (¬ (6 : Int32) ≤ l2_4 → ((l1_4 = 0 → wX11_cutsOf l2_4 (fun (r5 : Int32) => ((r5 = a0 → ∀ x8 : Int32, x8 = l2_4 + 1 → (I4 (1 : Int32) x8 ∧ mu4 (1 : Int32) x8 < mu4 l1_4 l2_4)) ∧ (¬ r5 = a0 → ∀ x7 : Int32, x7 = l2_4 + 1 → (I4 (0 : Int32) x7 ∧ mu4 (0 : Int32) x7 < mu4 l1_4 l2_4))))) ∧ (¬ l1_4 = 0 → ∀ x4 : Int32, x4 = l2_4 + 1 → (I4 (1 : Int32) x4 ∧ mu4 (1 : Int32) x4 < mu4 l1_4 l2_4)))))) := hw
  refine lv_iconst (v := (0 : Int32)) hx hb dX11_isCutNumber_0 (by decide) ?_
  refine lv_istore_n (lv' := [(1, .int (0 : Int32)), (0, .int a0)]) hx hb dX11_isCutNumber_1 rfl hl (by decide) rfl (fun ls hl => ?_)
  refine lv_iconst (v := (0 : Int32)) hx hb dX11_isCutNumber_2 (by decide) ?_
  refine lv_istore_n (lv' := [(2, .int (0 : Int32)), (1, .int (0 : Int32)), (0, .int a0)]) hx hb dX11_isCutNumber_3 rfl hl (by decide) rfl (fun ls hl => ?_)
  obtain ⟨I4, mu4, hw, hb4⟩ := hw
  have lp4 : ∀ (k : Nat) (l1_4 : Int32) (l2_4 : Int32) (ls : Array Slot) (H : Heap) (locs : List Loc), mu4 l1_4 l2_4 < k → I4 l1_4 l2_4 → wI s D A (fl []) H locs → lv_has ls 3 [(0, .int a0), (1, .int l1_4), (2, .int l2_4)] → W p l e rmX11_isCutNumber s m args below meth c H locs 0 0 Q (F0 m 4 ls []) := by
    intro k
    induction k with
    | zero => intro l1_4 l2_4 ls H locs hmu; exact absurd hmu (Nat.not_lt_zero _)
    | succ k ih4 =>
      intro l1_4 l2_4 ls H locs hmu4 hw hI hl
      replace hw := hb4 l1_4 l2_4 hw
      refine lv_iload_n hx hb dX11_isCutNumber_4 rfl (lv_at hl 2 rfl) ?_
      refine lv_bipush (v := (6 : Int32)) hx hb dX11_isCutNumber_5 (by decide) ?_
      refine lv_icmp_ge (tgt := 34) hx hb dX11_isCutNumber_7 (by decide) (fun c1 => ?_) (fun c1 => ?_)
      · replace hw := hw.1 c1
        refine lv_iload_n hx hb dX11_isCutNumber_34 rfl (lv_at hl 1 rfl) ?_
        obtain ⟨hc2, hw⟩ := hw
        subst hQ
        exact x_zret (u := ()) hC hI hr hlk hw rfl hc2 dX11_isCutNumber_35
      · replace hw := hw.2 c1
        refine lv_iload_n hx hb dX11_isCutNumber_10 rfl (lv_at hl 1 rfl) ?_
        refine lv_if_ne (tgt := 22) hx hb dX11_isCutNumber_11 (by decide) (fun c3 => ?_) (fun c3 => ?_)
        · replace hw := hw.2 c3
          refine lv_iconst (v := (1 : Int32)) hx hb dX11_isCutNumber_22 (by decide) ?_
          refine lv_goto (tgt := 27) hx hb dX11_isCutNumber_23 (by decide) ?_
          refine lv_istore_n (lv' := [(1, .int (1 : Int32)), (0, .int a0), (2, .int l2_4)]) hx hb dX11_isCutNumber_27 rfl hl (by decide) rfl (fun ls hl => ?_)
          obtain ⟨x4, ex4⟩ : ∃ y : Int32, y = l2_4 + 1 := ⟨_, rfl⟩
          replace hw := hw x4 ex4
          refine lv_iinc (v := x4) (lv' := [(2, .int x4), (1, .int (1 : Int32)), (0, .int a0)]) hx hb dX11_isCutNumber_28 hl (k := 2) rfl (by rw [ex4]; rfl) (by decide) rfl (fun ls hl => ?_)
          refine lv_goto (tgt := 4) hx hb dX11_isCutNumber_31 (by decide) ?_
          exact ih4 (1 : Int32) x4 ls H locs (Nat.lt_of_lt_of_le hw.2 (Nat.le_of_lt_succ hmu4)) hw.1 hI (lv_sub hl [2, 1, 0] rfl)
        · replace hw := hw.1 c3
          refine lv_iload_n hx hb dX11_isCutNumber_14 rfl (lv_at hl 2 rfl) ?_
          refine x_callSi (rest := []) hC hI [] (mX11_cutsOf l D K  _ l2_4 hw) (va_cwS 1 hts gX11_isCutNumber_X11_cutsOf rfl rfl rfl (by decide +kernel) ⟨(Nat.le_of_ble_eq_true rfl), (Nat.le_of_ble_eq_true rfl)⟩) (by decide) rfl (fun _ => rfl) rfl hl.1 rfl (Nat.le_of_ble_eq_true rfl) dX11_isCutNumber_15 ⟨(Nat.le_of_ble_eq_true rfl), (Nat.le_of_ble_eq_true rfl)⟩ (fun r5 u H locs hw hI => ?_)
          try dsimp only at hw
          have hI : wI s D A (fl []) H locs := hI
          refine lv_iload_n hx hb dX11_isCutNumber_18 rfl (lv_at hl 0 rfl) ?_
          refine lv_icmp_ne (tgt := 26) hx hb dX11_isCutNumber_19 (by decide) (fun c6 => ?_) (fun c6 => ?_)
          · replace hw := hw.2 c6
            refine lv_iconst (v := (0 : Int32)) hx hb dX11_isCutNumber_26 (by decide) ?_
            refine lv_istore_n (lv' := [(1, .int (0 : Int32)), (0, .int a0), (2, .int l2_4)]) hx hb dX11_isCutNumber_27 rfl hl (by decide) rfl (fun ls hl => ?_)
            obtain ⟨x7, ex7⟩ : ∃ y : Int32, y = l2_4 + 1 := ⟨_, rfl⟩
            replace hw := hw x7 ex7
            refine lv_iinc (v := x7) (lv' := [(2, .int x7), (1, .int (0 : Int32)), (0, .int a0)]) hx hb dX11_isCutNumber_28 hl (k := 2) rfl (by rw [ex7]; rfl) (by decide) rfl (fun ls hl => ?_)
            refine lv_goto (tgt := 4) hx hb dX11_isCutNumber_31 (by decide) ?_
            exact ih4 (0 : Int32) x7 ls H locs (Nat.lt_of_lt_of_le hw.2 (Nat.le_of_lt_succ hmu4)) hw.1 hI (lv_sub hl [2, 1, 0] rfl)
          · replace hw := hw.1 c6
            refine lv_iconst (v := (1 : Int32)) hx hb dX11_isCutNumber_22 (by decide) ?_
            refine lv_goto (tgt := 27) hx hb dX11_isCutNumber_23 (by decide) ?_
            refine lv_istore_n (lv' := [(1, .int (1 : Int32)), (0, .int a0), (2, .int l2_4)]) hx hb dX11_isCutNumber_27 rfl hl (by decide) rfl (fun ls hl => ?_)
            obtain ⟨x8, ex8⟩ : ∃ y : Int32, y = l2_4 + 1 := ⟨_, rfl⟩
            replace hw := hw x8 ex8
            refine lv_iinc (v := x8) (lv' := [(2, .int x8), (1, .int (1 : Int32)), (0, .int a0)]) hx hb dX11_isCutNumber_28 hl (k := 2) rfl (by rw [ex8]; rfl) (by decide) rfl (fun ls hl => ?_)
            refine lv_goto (tgt := 4) hx hb dX11_isCutNumber_31 (by decide) ?_
            exact ih4 (1 : Int32) x8 ls H locs (Nat.lt_of_lt_of_le hw.2 (Nat.le_of_lt_succ hmu4)) hw.1 hI (lv_sub hl [2, 1, 0] rfl)
  exact lp4 (mu4 (0 : Int32) (0 : Int32) + 1) (0 : Int32) (0 : Int32) ls H locs (Nat.lt_succ_self _) hw hI (lv_sub hl [2, 1, 0] rfl)

def wX11_isTold (a0 : Int32) (a1 : Int32)  (post : Int32 → Prop) : Prop := ((a0 = (0 : Int32) → wX11_in a1 (10 : Int32) (200 : Int32) (fun (r2 : Int32) => (r2 = 0 ∨ r2 = 1) ∧ post r2)) ∧ (¬ a0 = (0 : Int32) → ((a0 = (1 : Int32) → wX11_isCutNumber a1 (fun (r5 : Int32) => (r5 = 0 ∨ r5 = 1) ∧ post r5)) ∧ (¬ a0 = (1 : Int32) → ((a0 = (2 : Int32) → wX11_in a1 (0 : Int32) (3 : Int32) (fun (r8 : Int32) => (r8 = 0 ∨ r8 = 1) ∧ post r8)) ∧ (¬ a0 = (2 : Int32) → post (0 : Int32)))))))
def rmX11_isTold : Room := { frames := 2, cells := 0, slots := 0, locals := 42 }
set_option maxHeartbeats 4000000 in
set_option maxRecDepth 100000 in
theorem mX11_isTold (l : Launch) (D : va_G) (K : Nat → ClassId)  (sz : Nat) (a0 : Int32) (a1 : Int32)   {post : Int32 → Prop} (hw : wX11_isTold a0 a1  post) : Met l yX11_isTold wsX11_isTold rmX11_isTold (va_Pc [.int a0, .int a1] (cP D K (fl []) sz)) (va_Qi (fun (r : Int32) (u : Unit) => post r) (fun u t => cQ D K (fl []) (va_A (fl []) sz) t) (va_A (fl []) sz)) 0 0 (va_A (fl []) sz) := by
  refine x_entry (cc := cX11_isTold) (maxL := 2) (ret := (some .boolean)) (QA := fun A => va_Qi (fun (r : Int32) (u : Unit) => post r) (fun u t => cQ D K (fl []) A t) A) (plainFor_of_name (by decide)) rfl (Nat.le_of_ble_eq_true rfl) ?_
  intro p e s m args below meth c A ls H Q hQ hC hlk hr hnm hI hl
  obtain ⟨hx, hb, hml, hown, hts, hK, hA, hZ⟩ := id hC
  obtain ⟨locs, hlocs⟩ : ∃ y : List Loc, y = [] := ⟨_, rfl⟩
  rw [← hlocs] at hI ⊢
  clear hlocs
  replace hl : lv_has ls 2 [(0, .int a0), (1, .int a1)] := hl
  replace hw : ((a0 = (0 : Int32) → wX11_in a1 (10 : Int32) (200 : Int32) (fun (r2 : Int32) => (r2 = 0 ∨ r2 = 1) ∧ post r2)) ∧ (¬ a0 = (0 : Int32) → ((a0 = (1 : Int32) → wX11_isCutNumber a1 (fun (r5 : Int32) => (r5 = 0 ∨ r5 = 1) ∧ post r5)) ∧ (¬ a0 = (1 : Int32) → ((a0 = (2 : Int32) → wX11_in a1 (0 : Int32) (3 : Int32) (fun (r8 : Int32) => (r8 = 0 ∨ r8 = 1) ∧ post r8)) ∧ (¬ a0 = (2 : Int32) → post (0 : Int32))))))) := hw
  refine lv_iload_n hx hb dX11_isTold_0 rfl (lv_at hl 0 rfl) ?_
  by_cases c1 : a0 = (0 : Int32)
  · replace hw := hw.1 c1
    refine lv_tableIn (off := 27) (tgt := 28) hx hb dX11_isTold_1 (by rw [c1]; decide) (by rw [c1]; decide) (by rw [c1]; rfl) (by decide) ?_
    refine lv_iload_n hx hb dX11_isTold_28 rfl (lv_at hl 1 rfl) ?_
    refine lv_bipush (v := (10 : Int32)) hx hb dX11_isTold_29 (by decide) ?_
    refine lv_sipush (v := (200 : Int32)) hx hb dX11_isTold_31 (by decide) ?_
    refine x_callSi (rest := []) hC hI [] (mX11_in l D K  _ a1 (10 : Int32) (200 : Int32) hw) (va_cwS 3 hts gX11_isTold_X11_in rfl rfl rfl (by decide +kernel) ⟨(Nat.le_of_ble_eq_true rfl), (Nat.le_of_ble_eq_true rfl)⟩) (by decide) rfl (fun _ => rfl) rfl hl.1 rfl (Nat.le_of_ble_eq_true rfl) dX11_isTold_34 ⟨(Nat.le_of_ble_eq_true rfl), (Nat.le_of_ble_eq_true rfl)⟩ (fun r2 u H locs hw hI => ?_)
    try dsimp only at hw
    have hI : wI s D A (fl []) H locs := hI
    obtain ⟨hc3, hw⟩ := hw
    subst hQ
    exact x_zret (u := ()) hC hI hr hlk hw rfl hc3 dX11_isTold_37
  · replace hw := hw.2 c1
    by_cases c4 : a0 = (1 : Int32)
    · replace hw := hw.1 c4
      refine lv_tableIn (off := 37) (tgt := 38) hx hb dX11_isTold_1 (by rw [c4]; decide) (by rw [c4]; decide) (by rw [c4]; rfl) (by decide) ?_
      refine lv_iload_n hx hb dX11_isTold_38 rfl (lv_at hl 1 rfl) ?_
      refine x_callSi (rest := []) hC hI [] (mX11_isCutNumber l D K  _ a1 hw) (va_cwS 1 hts gX11_isTold_X11_isCutNumber rfl rfl rfl (by decide +kernel) ⟨(Nat.le_of_ble_eq_true rfl), (Nat.le_of_ble_eq_true rfl)⟩) (by decide) rfl (fun _ => rfl) rfl hl.1 rfl (Nat.le_of_ble_eq_true rfl) dX11_isTold_39 ⟨(Nat.le_of_ble_eq_true rfl), (Nat.le_of_ble_eq_true rfl)⟩ (fun r5 u H locs hw hI => ?_)
      try dsimp only at hw
      have hI : wI s D A (fl []) H locs := hI
      obtain ⟨hc6, hw⟩ := hw
      subst hQ
      exact x_zret (u := ()) hC hI hr hlk hw rfl hc6 dX11_isTold_42
    · replace hw := hw.2 c4
      by_cases c7 : a0 = (2 : Int32)
      · replace hw := hw.1 c7
        refine lv_tableIn (off := 42) (tgt := 43) hx hb dX11_isTold_1 (by rw [c7]; decide) (by rw [c7]; decide) (by rw [c7]; rfl) (by decide) ?_
        refine lv_iload_n hx hb dX11_isTold_43 rfl (lv_at hl 1 rfl) ?_
        refine lv_iconst (v := (0 : Int32)) hx hb dX11_isTold_44 (by decide) ?_
        refine lv_iconst (v := (3 : Int32)) hx hb dX11_isTold_45 (by decide) ?_
        refine x_callSi (rest := []) hC hI [] (mX11_in l D K  _ a1 (0 : Int32) (3 : Int32) hw) (va_cwS 3 hts gX11_isTold_X11_in rfl rfl rfl (by decide +kernel) ⟨(Nat.le_of_ble_eq_true rfl), (Nat.le_of_ble_eq_true rfl)⟩) (by decide) rfl (fun _ => rfl) rfl hl.1 rfl (Nat.le_of_ble_eq_true rfl) dX11_isTold_46 ⟨(Nat.le_of_ble_eq_true rfl), (Nat.le_of_ble_eq_true rfl)⟩ (fun r8 u H locs hw hI => ?_)
        try dsimp only at hw
        have hI : wI s D A (fl []) H locs := hI
        obtain ⟨hc9, hw⟩ := hw
        subst hQ
        exact x_zret (u := ()) hC hI hr hlk hw rfl hc9 dX11_isTold_49
      · replace hw := hw.2 c7
        refine lv_tableOut (tgt := 50) hx hb dX11_isTold_1 (by have nc1 := lv_neT c1 (a := 0) rfl; have nc4 := lv_neT c4 (a := 1) rfl; have nc7 := lv_neT c7 (a := 2) rfl; omega) (by decide) ?_
        refine lv_iconst (v := (0 : Int32)) hx hb dX11_isTold_50 (by decide) ?_
        subst hQ
        exact x_zret (u := ()) hC hI hr hlk hw rfl (Or.inl rfl) dX11_isTold_51

def wX11_tell (a1 : Int32) (a2 : Int32) (st : Nat → Int32) (past : Nat → Int32) (acts : Int32) (post : Int32 → (Nat → Int32) → (Nat → Int32) → Int32 → Prop) : Prop := wX11_isTold a1 a2 (fun (r1 : Int32) => ((r1 = 0 → post (-1 : Int32) st past acts) ∧ (¬ r1 = 0 → vp_in ((266 : Int32) + a1) 279 ∧ ∀ x4 : Int32, x4 = st ((266 : Int32) + a1).toNatClampNeg → ((x4 = a2 → post (-2 : Int32) st past acts) ∧ (¬ x4 = a2 → wX11_notes st past acts (fun (past_c6 : Nat → Int32) (acts_c7 : Int32) => vp_in ((266 : Int32) + a1) 279 ∧ post x4 (upd st ((266 : Int32) + a1).toNatClampNeg a2) past_c6 acts_c7))))))
def rmX11_tell : Room := { frames := 3, cells := 0, slots := 0, locals := 63 }
theorem kX11_tell_0 : Cond.fieldLink RX11 7 "GoreGlobeModel" "st" "[I" ∈ wsX11_tell := List.mem_cons_of_mem _ (List.mem_append_left _ (List.mem_of_getElem? (i := 0) rfl))
theorem kX11_tell_cX11 : ∀ w ∈ wsX110, w ∈ wsX11_tell := fun _ h => List.mem_cons_of_mem _ (List.mem_append_right _ h)
set_option maxHeartbeats 4000000 in
set_option maxRecDepth 100000 in
theorem mX11_tell (l : Launch) (D : va_G) (K : Nat → ClassId) (h : Nat → Nat) (sz : Nat) (a1 : Int32) (a2 : Int32) (st : Nat → Int32) (past : Nat → Int32) (acts : Int32) (image : Nat → Int32) (ipast : Nat → Int32) (iacts : Int32) (tape : Nat → Int32) (tmany : Int32) (laneOf : Nat → Int32) (sizeOf : Nat → Int32) (items : Nat → Int64) (seaFirst : Nat → Int32) (worstOf : Nat → Int32) (farTo : Nat → Int32) (stepsTo : Nat → Int32) (needs : Nat → Int32) (nmany : Int32) (mat : Int32) (told : Nat → Int32)  {post : Int32 → (Nat → Int32) → (Nat → Int32) → Int32 → Prop} (hw : wX11_tell a1 a2 st past acts post) : Met l yX11_tell wsX11_tell rmX11_tell (va_Pc [.ref (h 0), .int a1, .int a2] (cP D K (fl [wMo K h st past acts image ipast iacts tape tmany laneOf sizeOf items seaFirst worstOf farTo stepsTo needs nmany mat told]) sz)) (va_Qi (fun (r : Int32) (u : (Nat → Int32) × (Nat → Int32) × Int32) => post r u.1 u.2.1 u.2.2) (fun u t => cQ D K (fl [wMo K h u.1 u.2.1 u.2.2 image ipast iacts tape tmany laneOf sizeOf items seaFirst worstOf farTo stepsTo needs nmany mat told]) (va_A (fl [wMo K h st past acts image ipast iacts tape tmany laneOf sizeOf items seaFirst worstOf farTo stepsTo needs nmany mat told]) sz) t) (va_A (fl [wMo K h st past acts image ipast iacts tape tmany laneOf sizeOf items seaFirst worstOf farTo stepsTo needs nmany mat told]) sz)) 0 0 (va_A (fl [wMo K h st past acts image ipast iacts tape tmany laneOf sizeOf items seaFirst worstOf farTo stepsTo needs nmany mat told]) sz) := by
  refine x_entry (cc := cX11_tell) (maxL := 4) (ret := (some .int)) (QA := fun A => va_Qi (fun (r : Int32) (u : (Nat → Int32) × (Nat → Int32) × Int32) => post r u.1 u.2.1 u.2.2) (fun u t => cQ D K (fl [wMo K h u.1 u.2.1 u.2.2 image ipast iacts tape tmany laneOf sizeOf items seaFirst worstOf farTo stepsTo needs nmany mat told]) A t) A) (plainFor_of_name (by decide)) rfl (Nat.le_of_ble_eq_true rfl) ?_
  intro p e s m args below meth c A ls H Q hQ hC hlk hr hnm hI hl
  obtain ⟨hx, hb, hml, hown, hts, hK, hA, hZ⟩ := id hC
  obtain ⟨locs, hlocs⟩ : ∃ y : List Loc, y = [] := ⟨_, rfl⟩
  rw [← hlocs] at hI ⊢
  clear hlocs
  replace hl : lv_has ls 4 [(0, .ref (h 0)), (1, .int a1), (2, .int a2)] := hl
  replace hw : wX11_isTold a1 a2 (fun (r1 : Int32) => ((r1 = 0 → post (-1 : Int32) st past acts) ∧ (¬ r1 = 0 → vp_in ((266 : Int32) + a1) 279 ∧ ∀ x4 : Int32, x4 = st ((266 : Int32) + a1).toNatClampNeg → ((x4 = a2 → post (-2 : Int32) st past acts) ∧ (¬ x4 = a2 → wX11_notes st past acts (fun (past_c6 : Nat → Int32) (acts_c7 : Int32) => vp_in ((266 : Int32) + a1) 279 ∧ post x4 (upd st ((266 : Int32) + a1).toNatClampNeg a2) past_c6 acts_c7)))))) := hw
  refine lv_iload_n hx hb dX11_tell_0 rfl (lv_at hl 1 rfl) ?_
  refine lv_iload_n hx hb dX11_tell_1 rfl (lv_at hl 2 rfl) ?_
  refine x_callSi (rest := []) hC hI [] (mX11_isTold l D K  _ a1 a2 hw) (va_cwS 2 hts gX11_tell_X11_isTold rfl rfl rfl (by decide +kernel) ⟨(Nat.le_of_ble_eq_true rfl), (Nat.le_of_ble_eq_true rfl)⟩) (by decide) rfl (fun _ => rfl) rfl hl.1 rfl (Nat.le_of_ble_eq_true rfl) dX11_tell_2 ⟨(Nat.le_of_ble_eq_true rfl), (Nat.le_of_ble_eq_true rfl)⟩ (fun r1 u H locs hw hI => ?_)
  try dsimp only at hw
  have hI : wI s D A (fl [wMo K h st past acts image ipast iacts tape tmany laneOf sizeOf items seaFirst worstOf farTo stepsTo needs nmany mat told]) H locs := hI
  refine lv_if_ne (tgt := 10) hx hb dX11_tell_5 (by decide) (fun c2 => ?_) (fun c2 => ?_)
  · replace hw := hw.2 c2
    refine lv_aload_n hx hb dX11_tell_10 rfl (lv_at hl 0 rfl) ?_
    refine x_get (v := .ref (h 1)) hC hI kX11_tell_cX11 0 rfl rfl 0 (by decide) kX11_tell_0 rfl rfl dX11_tell_11 ?_
    refine lv_sipush (v := (266 : Int32)) hx hb dX11_tell_14 (by decide) ?_
    refine lv_iload_n hx hb dX11_tell_17 rfl (lv_at hl 1 rfl) ?_
    refine lv_iadd hx hb dX11_tell_18 ?_
    obtain ⟨hc3, hw⟩ := hw
    refine x_iald (f := st) hC hI 1 rfl hc3 dX11_tell_19 ?_
    refine lv_topi (fun x4 ex4 => ?_)
    replace hw := hw x4 ex4
    refine lv_istore_n (lv' := [(3, .int x4), (0, .ref (h 0)), (1, .int a1), (2, .int a2)]) hx hb dX11_tell_20 rfl hl (by decide) rfl (fun ls hl => ?_)
    refine lv_iload_n hx hb dX11_tell_21 rfl (lv_at hl 0 rfl) ?_
    refine lv_iload_n hx hb dX11_tell_22 rfl (lv_at hl 3 rfl) ?_
    refine lv_icmp_ne (tgt := 29) hx hb dX11_tell_23 (by decide) (fun c5 => ?_) (fun c5 => ?_)
    · replace hw := hw.2 c5
      refine lv_aload_n hx hb dX11_tell_29 rfl (lv_at hl 1 rfl) ?_
      refine x_callWv (rest := []) hC hI (mX11_notes l D K h _ st past acts image ipast iacts tape tmany laneOf sizeOf items seaFirst worstOf farTo stepsTo needs nmany mat told hw) (cwV 0 hts gX11_tell_X11_notes rfl rfl rfl (by decide +kernel) ⟨(Nat.le_of_ble_eq_true rfl), (Nat.le_of_ble_eq_true rfl)⟩) (fun _ => rfl) 0 9 rfl rfl rfl rfl hl.1 rfl (Nat.le_of_ble_eq_true rfl) dX11_tell_30 ⟨(Nat.le_of_ble_eq_true rfl), (Nat.le_of_ble_eq_true rfl)⟩ (fun u H locs hw hI => ?_)
      obtain ⟨past_c6, acts_c7⟩ := u
      try dsimp only at hw
      have hI : wI s D A (fl [wMo K h st past_c6 acts_c7 image ipast iacts tape tmany laneOf sizeOf items seaFirst worstOf farTo stepsTo needs nmany mat told]) H locs := hI
      refine lv_aload_n hx hb dX11_tell_33 rfl (lv_at hl 1 rfl) ?_
      refine x_get (v := .ref (h 1)) hC hI kX11_tell_cX11 0 rfl rfl 0 (by decide) kX11_tell_0 rfl rfl dX11_tell_34 ?_
      refine lv_sipush (v := (266 : Int32)) hx hb dX11_tell_37 (by decide) ?_
      refine lv_iload_n hx hb dX11_tell_40 rfl (lv_at hl 2 rfl) ?_
      refine lv_iadd hx hb dX11_tell_41 ?_
      refine lv_iload_n hx hb dX11_tell_42 rfl (lv_at hl 3 rfl) ?_
      obtain ⟨hc8, hw⟩ := hw
      refine x_iast (f := st) hC hI 1 rfl hc8 dX11_tell_43 (fun H locs hI => ?_)
      have hI : wI s D A (fl [wMo K h (upd st ((266 : Int32) + a1).toNatClampNeg a2) past_c6 acts_c7 image ipast iacts tape tmany laneOf sizeOf items seaFirst worstOf farTo stepsTo needs nmany mat told]) H locs := hI
      refine lv_iload_n hx hb dX11_tell_44 rfl (lv_at hl 0 rfl) ?_
      subst hQ
      exact x_iret (u := ((upd st ((266 : Int32) + a1).toNatClampNeg a2), past_c6, acts_c7)) hC hI hr hlk hw rfl dX11_tell_45
    · replace hw := hw.1 c5
      refine lv_bipush (v := (-2 : Int32)) hx hb dX11_tell_26 (by decide) ?_
      subst hQ
      exact x_iret (u := (st, past, acts)) hC hI hr hlk hw rfl dX11_tell_28
  · replace hw := hw.1 c2
    refine lv_iconst (v := (-1 : Int32)) hx hb dX11_tell_8 (by decide) ?_
    subst hQ
    exact x_iret (u := (st, past, acts)) hC hI hr hlk hw rfl dX11_tell_9

def wX11_add (a1 : Int32) (st : Nat → Int32) (past : Nat → Int32) (acts : Int32) (post : Int32 → (Nat → Int32) → (Nat → Int32) → Int32 → Prop) : Prop := wX11_isNumber a1 (fun (r1 : Int32) => ((r1 = 0 → post (-1 : Int32) st past acts) ∧ (¬ r1 = 0 → (((st 269) = (8 : Int32) → post (-3 : Int32) st past acts) ∧ (¬ (st 269) = (8 : Int32) → wX11_notes st past acts (fun (past_c4 : Nat → Int32) (acts_c5 : Int32) => vp_in ((270 : Int32) + (st 269)) 279 ∧ post ((upd (upd st ((270 : Int32) + (st 269)).toNatClampNeg a1) 269 (((upd st ((270 : Int32) + (st 269)).toNatClampNeg a1) 269) + (1 : Int32))) 269) (upd (upd st ((270 : Int32) + (st 269)).toNatClampNeg a1) 269 (((upd st ((270 : Int32) + (st 269)).toNatClampNeg a1) 269) + (1 : Int32))) past_c4 acts_c5))))))
def rmX11_add : Room := { frames := 2, cells := 0, slots := 0, locals := 45 }
theorem kX11_add_0 : Cond.fieldLink RX11 7 "GoreGlobeModel" "st" "[I" ∈ wsX11_add := List.mem_cons_of_mem _ (List.mem_append_left _ (List.mem_of_getElem? (i := 0) rfl))
theorem kX11_add_cX11 : ∀ w ∈ wsX110, w ∈ wsX11_add := fun _ h => List.mem_cons_of_mem _ (List.mem_append_right _ h)
set_option maxHeartbeats 4000000 in
set_option maxRecDepth 100000 in
theorem mX11_add (l : Launch) (D : va_G) (K : Nat → ClassId) (h : Nat → Nat) (sz : Nat) (a1 : Int32) (st : Nat → Int32) (past : Nat → Int32) (acts : Int32) (image : Nat → Int32) (ipast : Nat → Int32) (iacts : Int32) (tape : Nat → Int32) (tmany : Int32) (laneOf : Nat → Int32) (sizeOf : Nat → Int32) (items : Nat → Int64) (seaFirst : Nat → Int32) (worstOf : Nat → Int32) (farTo : Nat → Int32) (stepsTo : Nat → Int32) (needs : Nat → Int32) (nmany : Int32) (mat : Int32) (told : Nat → Int32)  {post : Int32 → (Nat → Int32) → (Nat → Int32) → Int32 → Prop} (hw : wX11_add a1 st past acts post) : Met l yX11_add wsX11_add rmX11_add (va_Pc [.ref (h 0), .int a1] (cP D K (fl [wMo K h st past acts image ipast iacts tape tmany laneOf sizeOf items seaFirst worstOf farTo stepsTo needs nmany mat told]) sz)) (va_Qi (fun (r : Int32) (u : (Nat → Int32) × (Nat → Int32) × Int32) => post r u.1 u.2.1 u.2.2) (fun u t => cQ D K (fl [wMo K h u.1 u.2.1 u.2.2 image ipast iacts tape tmany laneOf sizeOf items seaFirst worstOf farTo stepsTo needs nmany mat told]) (va_A (fl [wMo K h st past acts image ipast iacts tape tmany laneOf sizeOf items seaFirst worstOf farTo stepsTo needs nmany mat told]) sz) t) (va_A (fl [wMo K h st past acts image ipast iacts tape tmany laneOf sizeOf items seaFirst worstOf farTo stepsTo needs nmany mat told]) sz)) 0 0 (va_A (fl [wMo K h st past acts image ipast iacts tape tmany laneOf sizeOf items seaFirst worstOf farTo stepsTo needs nmany mat told]) sz) := by
  refine x_entry (cc := cX11_add) (maxL := 2) (ret := (some .int)) (QA := fun A => va_Qi (fun (r : Int32) (u : (Nat → Int32) × (Nat → Int32) × Int32) => post r u.1 u.2.1 u.2.2) (fun u t => cQ D K (fl [wMo K h u.1 u.2.1 u.2.2 image ipast iacts tape tmany laneOf sizeOf items seaFirst worstOf farTo stepsTo needs nmany mat told]) A t) A) (plainFor_of_name (by decide)) rfl (Nat.le_of_ble_eq_true rfl) ?_
  intro p e s m args below meth c A ls H Q hQ hC hlk hr hnm hI hl
  obtain ⟨hx, hb, hml, hown, hts, hK, hA, hZ⟩ := id hC
  obtain ⟨locs, hlocs⟩ : ∃ y : List Loc, y = [] := ⟨_, rfl⟩
  rw [← hlocs] at hI ⊢
  clear hlocs
  replace hl : lv_has ls 2 [(0, .ref (h 0)), (1, .int a1)] := hl
  replace hw : wX11_isNumber a1 (fun (r1 : Int32) => ((r1 = 0 → post (-1 : Int32) st past acts) ∧ (¬ r1 = 0 → (((st 269) = (8 : Int32) → post (-3 : Int32) st past acts) ∧ (¬ (st 269) = (8 : Int32) → wX11_notes st past acts (fun (past_c4 : Nat → Int32) (acts_c5 : Int32) => vp_in ((270 : Int32) + (st 269)) 279 ∧ post ((upd (upd st ((270 : Int32) + (st 269)).toNatClampNeg a1) 269 (((upd st ((270 : Int32) + (st 269)).toNatClampNeg a1) 269) + (1 : Int32))) 269) (upd (upd st ((270 : Int32) + (st 269)).toNatClampNeg a1) 269 (((upd st ((270 : Int32) + (st 269)).toNatClampNeg a1) 269) + (1 : Int32))) past_c4 acts_c5)))))) := hw
  refine lv_iload_n hx hb dX11_add_0 rfl (lv_at hl 1 rfl) ?_
  refine x_callSi (rest := []) hC hI [] (mX11_isNumber l D K  _ a1 hw) (va_cwS 1 hts gX11_add_X11_isNumber rfl rfl rfl (by decide +kernel) ⟨(Nat.le_of_ble_eq_true rfl), (Nat.le_of_ble_eq_true rfl)⟩) (by decide) rfl (fun _ => rfl) rfl hl.1 rfl (Nat.le_of_ble_eq_true rfl) dX11_add_1 ⟨(Nat.le_of_ble_eq_true rfl), (Nat.le_of_ble_eq_true rfl)⟩ (fun r1 u H locs hw hI => ?_)
  try dsimp only at hw
  have hI : wI s D A (fl [wMo K h st past acts image ipast iacts tape tmany laneOf sizeOf items seaFirst worstOf farTo stepsTo needs nmany mat told]) H locs := hI
  refine lv_if_ne (tgt := 9) hx hb dX11_add_4 (by decide) (fun c2 => ?_) (fun c2 => ?_)
  · replace hw := hw.2 c2
    refine lv_aload_n hx hb dX11_add_9 rfl (lv_at hl 0 rfl) ?_
    refine x_get (v := .ref (h 1)) hC hI kX11_add_cX11 0 rfl rfl 0 (by decide) kX11_add_0 rfl rfl dX11_add_10 ?_
    refine lv_sipush (v := (269 : Int32)) hx hb dX11_add_13 (by decide) ?_
    refine x_iald (f := st) hC hI 1 rfl (by unfold vp_in; decide) dX11_add_16 ?_
    refine lv_bipush (v := (8 : Int32)) hx hb dX11_add_17 (by decide) ?_
    refine lv_icmp_ne (tgt := 25) hx hb dX11_add_19 (by decide) (fun c3 => ?_) (fun c3 => ?_)
    · replace hw := hw.2 c3
      refine lv_aload_n hx hb dX11_add_25 rfl (lv_at hl 0 rfl) ?_
      refine x_callWv (rest := []) hC hI (mX11_notes l D K h _ st past acts image ipast iacts tape tmany laneOf sizeOf items seaFirst worstOf farTo stepsTo needs nmany mat told hw) (cwV 0 hts gX11_add_X11_notes rfl rfl rfl (by decide +kernel) ⟨(Nat.le_of_ble_eq_true rfl), (Nat.le_of_ble_eq_true rfl)⟩) (fun _ => rfl) 0 9 rfl rfl rfl rfl hl.1 rfl (Nat.le_of_ble_eq_true rfl) dX11_add_26 ⟨(Nat.le_of_ble_eq_true rfl), (Nat.le_of_ble_eq_true rfl)⟩ (fun u H locs hw hI => ?_)
      obtain ⟨past_c4, acts_c5⟩ := u
      try dsimp only at hw
      have hI : wI s D A (fl [wMo K h st past_c4 acts_c5 image ipast iacts tape tmany laneOf sizeOf items seaFirst worstOf farTo stepsTo needs nmany mat told]) H locs := hI
      refine lv_aload_n hx hb dX11_add_29 rfl (lv_at hl 0 rfl) ?_
      refine x_get (v := .ref (h 1)) hC hI kX11_add_cX11 0 rfl rfl 0 (by decide) kX11_add_0 rfl rfl dX11_add_30 ?_
      refine lv_sipush (v := (270 : Int32)) hx hb dX11_add_33 (by decide) ?_
      refine lv_aload_n hx hb dX11_add_36 rfl (lv_at hl 0 rfl) ?_
      refine x_get (v := .ref (h 1)) hC hI kX11_add_cX11 0 rfl rfl 0 (by decide) kX11_add_0 rfl rfl dX11_add_37 ?_
      refine lv_sipush (v := (269 : Int32)) hx hb dX11_add_40 (by decide) ?_
      refine x_iald (f := st) hC hI 1 rfl (by unfold vp_in; decide) dX11_add_43 ?_
      refine lv_iadd hx hb dX11_add_44 ?_
      refine lv_iload_n hx hb dX11_add_45 rfl (lv_at hl 1 rfl) ?_
      obtain ⟨hc6, hw⟩ := hw
      refine x_iast (f := st) hC hI 1 rfl hc6 dX11_add_46 (fun H locs hI => ?_)
      have hI : wI s D A (fl [wMo K h (upd st ((270 : Int32) + (st 269)).toNatClampNeg a1) past_c4 acts_c5 image ipast iacts tape tmany laneOf sizeOf items seaFirst worstOf farTo stepsTo needs nmany mat told]) H locs := hI
      refine lv_aload_n hx hb dX11_add_47 rfl (lv_at hl 0 rfl) ?_
      refine x_get (v := .ref (h 1)) hC hI kX11_add_cX11 0 rfl rfl 0 (by decide) kX11_add_0 rfl rfl dX11_add_48 ?_
      refine lv_sipush (v := (269 : Int32)) hx hb dX11_add_51 (by decide) ?_
      refine lv_dup2_11 hx hb dX11_add_54 rfl rfl ?_
      refine x_iald (f := (upd st ((270 : Int32) + (st 269)).toNatClampNeg a1)) hC hI 1 rfl (by unfold vp_in; decide) dX11_add_55 ?_
      refine lv_iconst (v := (1 : Int32)) hx hb dX11_add_56 (by decide) ?_
      refine lv_iadd hx hb dX11_add_57 ?_
      refine x_iast (f := (upd st ((270 : Int32) + (st 269)).toNatClampNeg a1)) hC hI 1 rfl (by unfold vp_in; decide) dX11_add_58 (fun H locs hI => ?_)
      have hI : wI s D A (fl [wMo K h (upd (upd st ((270 : Int32) + (st 269)).toNatClampNeg a1) 269 (((upd st ((270 : Int32) + (st 269)).toNatClampNeg a1) 269) + (1 : Int32))) past_c4 acts_c5 image ipast iacts tape tmany laneOf sizeOf items seaFirst worstOf farTo stepsTo needs nmany mat told]) H locs := hI
      refine lv_aload_n hx hb dX11_add_59 rfl (lv_at hl 0 rfl) ?_
      refine x_get (v := .ref (h 1)) hC hI kX11_add_cX11 0 rfl rfl 0 (by decide) kX11_add_0 rfl rfl dX11_add_60 ?_
      refine lv_sipush (v := (269 : Int32)) hx hb dX11_add_63 (by decide) ?_
      refine x_iald (f := (upd (upd st ((270 : Int32) + (st 269)).toNatClampNeg a1) 269 (((upd st ((270 : Int32) + (st 269)).toNatClampNeg a1) 269) + (1 : Int32)))) hC hI 1 rfl (by unfold vp_in; decide) dX11_add_66 ?_
      subst hQ
      exact x_iret (u := ((upd (upd st ((270 : Int32) + (st 269)).toNatClampNeg a1) 269 (((upd st ((270 : Int32) + (st 269)).toNatClampNeg a1) 269) + (1 : Int32))), past_c4, acts_c5)) hC hI hr hlk hw rfl dX11_add_67
    · replace hw := hw.1 c3
      refine lv_bipush (v := (-3 : Int32)) hx hb dX11_add_22 (by decide) ?_
      subst hQ
      exact x_iret (u := (st, past, acts)) hC hI hr hlk hw rfl dX11_add_24
  · replace hw := hw.1 c2
    refine lv_iconst (v := (-1 : Int32)) hx hb dX11_add_7 (by decide) ?_
    subst hQ
    exact x_iret (u := (st, past, acts)) hC hI hr hlk hw rfl dX11_add_8

def wX11_out (a1 : Int32) (st : Nat → Int32) (past : Nat → Int32) (acts : Int32) (post : Int32 → (Nat → Int32) → (Nat → Int32) → Int32 → Prop) : Prop := wX11_isNumber a1 (fun (r1 : Int32) => ((r1 = 0 → post (-1 : Int32) st past acts) ∧ (¬ r1 = 0 → (∃ (I13 : Int32 → Int32 → Prop) (mu13 : Int32 → Int32 → Nat), I13 (0 : Int32) (0 : Int32) ∧ ∀ (l2_13 : Int32) (l3_13 : Int32), I13 l2_13 l3_13 → (((st 269) ≤ l3_13 → ((l2_13 = 0 → post (-4 : Int32) st past acts) ∧ (¬ l2_13 = 0 → wX11_notes st past acts (fun (past_c5 : Nat → Int32) (acts_c6 : Int32) => (∃ (I69 : Int32 → Int32 → (Nat → Int32) → Prop) (mu69 : Int32 → Int32 → (Nat → Int32) → Nat), I69 (0 : Int32) (0 : Int32) st ∧ ∀ (l3_69 : Int32) (l4_69 : Int32) (st_69 : Nat → Int32), I69 l3_69 l4_69 st_69 → (((st_69 269) ≤ l4_69 → post l2_13 (upd st_69 269 l3_69) past_c5 acts_c6) ∧ (¬ (st_69 269) ≤ l4_69 → vp_in ((270 : Int32) + l4_69) 279 ∧ (((st_69 ((270 : Int32) + l4_69).toNatClampNeg) = a1 → ∀ x10 : Int32, x10 = l4_69 + 1 → (I69 l3_69 x10 st_69 ∧ mu69 l3_69 x10 st_69 < mu69 l3_69 l4_69 st_69)) ∧ (¬ (st_69 ((270 : Int32) + l4_69).toNatClampNeg) = a1 → vp_in ((270 : Int32) + l4_69) 279 ∧ vp_in ((270 : Int32) + l3_69) 279 ∧ ∀ x13 : Int32, x13 = l3_69 + 1 → ∀ x14 : Int32, x14 = l4_69 + 1 → (I69 x13 x14 (upd st_69 ((270 : Int32) + l3_69).toNatClampNeg (st_69 ((270 : Int32) + l4_69).toNatClampNeg)) ∧ mu69 x13 x14 (upd st_69 ((270 : Int32) + l3_69).toNatClampNeg (st_69 ((270 : Int32) + l4_69).toNatClampNeg)) < mu69 l3_69 l4_69 st_69)))))))))) ∧ (¬ (st 269) ≤ l3_13 → vp_in ((270 : Int32) + l3_13) 279 ∧ (((st ((270 : Int32) + l3_13).toNatClampNeg) = a1 → ∀ x19 : Int32, x19 = l2_13 + (1 : Int32) → ∀ x20 : Int32, x20 = l3_13 + 1 → (I13 x19 x20 ∧ mu13 x19 x20 < mu13 l2_13 l3_13)) ∧ (¬ (st ((270 : Int32) + l3_13).toNatClampNeg) = a1 → ∀ x17 : Int32, x17 = l2_13 + (0 : Int32) → ∀ x18 : Int32, x18 = l3_13 + 1 → (I13 x17 x18 ∧ mu13 x17 x18 < mu13 l2_13 l3_13)))))))))
def rmX11_out : Room := { frames := 2, cells := 0, slots := 0, locals := 45 }
theorem kX11_out_0 : Cond.fieldLink RX11 7 "GoreGlobeModel" "st" "[I" ∈ wsX11_out := List.mem_cons_of_mem _ (List.mem_append_left _ (List.mem_of_getElem? (i := 0) rfl))
theorem kX11_out_cX11 : ∀ w ∈ wsX110, w ∈ wsX11_out := fun _ h => List.mem_cons_of_mem _ (List.mem_append_right _ h)
set_option maxHeartbeats 4000000 in
set_option maxRecDepth 100000 in
theorem mX11_out (l : Launch) (D : va_G) (K : Nat → ClassId) (h : Nat → Nat) (sz : Nat) (a1 : Int32) (st : Nat → Int32) (past : Nat → Int32) (acts : Int32) (image : Nat → Int32) (ipast : Nat → Int32) (iacts : Int32) (tape : Nat → Int32) (tmany : Int32) (laneOf : Nat → Int32) (sizeOf : Nat → Int32) (items : Nat → Int64) (seaFirst : Nat → Int32) (worstOf : Nat → Int32) (farTo : Nat → Int32) (stepsTo : Nat → Int32) (needs : Nat → Int32) (nmany : Int32) (mat : Int32) (told : Nat → Int32)  {post : Int32 → (Nat → Int32) → (Nat → Int32) → Int32 → Prop} (hw : wX11_out a1 st past acts post) : Met l yX11_out wsX11_out rmX11_out (va_Pc [.ref (h 0), .int a1] (cP D K (fl [wMo K h st past acts image ipast iacts tape tmany laneOf sizeOf items seaFirst worstOf farTo stepsTo needs nmany mat told]) sz)) (va_Qi (fun (r : Int32) (u : (Nat → Int32) × (Nat → Int32) × Int32) => post r u.1 u.2.1 u.2.2) (fun u t => cQ D K (fl [wMo K h u.1 u.2.1 u.2.2 image ipast iacts tape tmany laneOf sizeOf items seaFirst worstOf farTo stepsTo needs nmany mat told]) (va_A (fl [wMo K h st past acts image ipast iacts tape tmany laneOf sizeOf items seaFirst worstOf farTo stepsTo needs nmany mat told]) sz) t) (va_A (fl [wMo K h st past acts image ipast iacts tape tmany laneOf sizeOf items seaFirst worstOf farTo stepsTo needs nmany mat told]) sz)) 0 0 (va_A (fl [wMo K h st past acts image ipast iacts tape tmany laneOf sizeOf items seaFirst worstOf farTo stepsTo needs nmany mat told]) sz) := by
  refine x_entry (cc := cX11_out) (maxL := 5) (ret := (some .int)) (QA := fun A => va_Qi (fun (r : Int32) (u : (Nat → Int32) × (Nat → Int32) × Int32) => post r u.1 u.2.1 u.2.2) (fun u t => cQ D K (fl [wMo K h u.1 u.2.1 u.2.2 image ipast iacts tape tmany laneOf sizeOf items seaFirst worstOf farTo stepsTo needs nmany mat told]) A t) A) (plainFor_of_name (by decide)) rfl (Nat.le_of_ble_eq_true rfl) ?_
  intro p e s m args below meth c A ls H Q hQ hC hlk hr hnm hI hl
  obtain ⟨hx, hb, hml, hown, hts, hK, hA, hZ⟩ := id hC
  obtain ⟨locs, hlocs⟩ : ∃ y : List Loc, y = [] := ⟨_, rfl⟩
  rw [← hlocs] at hI ⊢
  clear hlocs
  replace hl : lv_has ls 5 [(0, .ref (h 0)), (1, .int a1)] := hl
  replace hw : wX11_isNumber a1 (fun (r1 : Int32) => ((r1 = 0 → post (-1 : Int32) st past acts) ∧ (¬ r1 = 0 → (∃ (I13 : Int32 → Int32 → Prop) (mu13 : Int32 → Int32 → Nat), I13 (0 : Int32) (0 : Int32) ∧ ∀ (l2_13 : Int32) (l3_13 : Int32), I13 l2_13 l3_13 → (((st 269) ≤ l3_13 → ((l2_13 = 0 → post (-4 : Int32) st past acts) ∧ (¬ l2_13 = 0 → wX11_notes st past acts (fun (past_c5 : Nat → Int32) (acts_c6 : Int32) => (∃ (I69 : Int32 → Int32 → (Nat → Int32) → Prop) (mu69 : Int32 → Int32 → (Nat → Int32) → Nat), I69 (0 : Int32) (0 : Int32) st ∧ ∀ (l3_69 : Int32) (l4_69 : Int32) (st_69 : Nat → Int32), I69 l3_69 l4_69 st_69 → (((st_69 269) ≤ l4_69 → post l2_13 (upd st_69 269 l3_69) past_c5 acts_c6) ∧ (¬ (st_69 269) ≤ l4_69 → vp_in ((270 : Int32) + l4_69) 279 ∧ (((st_69 ((270 : Int32) + l4_69).toNatClampNeg) = a1 → ∀ x10 : Int32, x10 = l4_69 + 1 → (I69 l3_69 x10 st_69 ∧ mu69 l3_69 x10 st_69 < mu69 l3_69 l4_69 st_69)) ∧ (¬ (st_69 ((270 : Int32) + l4_69).toNatClampNeg) = a1 → vp_in ((270 : Int32) + l4_69) 279 ∧ vp_in ((270 : Int32) + l3_69) 279 ∧ ∀ x13 : Int32, x13 = l3_69 + 1 → ∀ x14 : Int32, x14 = l4_69 + 1 → (I69 x13 x14 (upd st_69 ((270 : Int32) + l3_69).toNatClampNeg (st_69 ((270 : Int32) + l4_69).toNatClampNeg)) ∧ mu69 x13 x14 (upd st_69 ((270 : Int32) + l3_69).toNatClampNeg (st_69 ((270 : Int32) + l4_69).toNatClampNeg)) < mu69 l3_69 l4_69 st_69)))))))))) ∧ (¬ (st 269) ≤ l3_13 → vp_in ((270 : Int32) + l3_13) 279 ∧ (((st ((270 : Int32) + l3_13).toNatClampNeg) = a1 → ∀ x19 : Int32, x19 = l2_13 + (1 : Int32) → ∀ x20 : Int32, x20 = l3_13 + 1 → (I13 x19 x20 ∧ mu13 x19 x20 < mu13 l2_13 l3_13)) ∧ (¬ (st ((270 : Int32) + l3_13).toNatClampNeg) = a1 → ∀ x17 : Int32, x17 = l2_13 + (0 : Int32) → ∀ x18 : Int32, x18 = l3_13 + 1 → (I13 x17 x18 ∧ mu13 x17 x18 < mu13 l2_13 l3_13))))))))) := hw
  refine lv_iload_n hx hb dX11_out_0 rfl (lv_at hl 1 rfl) ?_
  refine x_callSi (rest := []) hC hI [] (mX11_isNumber l D K  _ a1 hw) (va_cwS 1 hts gX11_out_X11_isNumber rfl rfl rfl (by decide +kernel) ⟨(Nat.le_of_ble_eq_true rfl), (Nat.le_of_ble_eq_true rfl)⟩) (by decide) rfl (fun _ => rfl) rfl hl.1 rfl (Nat.le_of_ble_eq_true rfl) dX11_out_1 ⟨(Nat.le_of_ble_eq_true rfl), (Nat.le_of_ble_eq_true rfl)⟩ (fun r1 u H locs hw hI => ?_)
  try dsimp only at hw
  have hI : wI s D A (fl [wMo K h st past acts image ipast iacts tape tmany laneOf sizeOf items seaFirst worstOf farTo stepsTo needs nmany mat told]) H locs := hI
  refine lv_if_ne (tgt := 9) hx hb dX11_out_4 (by decide) (fun c2 => ?_) (fun c2 => ?_)
  · replace hw := hw.2 c2
    refine lv_iconst (v := (0 : Int32)) hx hb dX11_out_9 (by decide) ?_
    refine lv_istore_n (lv' := [(2, .int (0 : Int32)), (0, .ref (h 0)), (1, .int a1)]) hx hb dX11_out_10 rfl hl (by decide) rfl (fun ls hl => ?_)
    refine lv_iconst (v := (0 : Int32)) hx hb dX11_out_11 (by decide) ?_
    refine lv_istore_n (lv' := [(3, .int (0 : Int32)), (2, .int (0 : Int32)), (0, .ref (h 0)), (1, .int a1)]) hx hb dX11_out_12 rfl hl (by decide) rfl (fun ls hl => ?_)
    obtain ⟨I13, mu13, hw, hb13⟩ := hw
    have lp13 : ∀ (k : Nat) (l2_13 : Int32) (l3_13 : Int32) (ls : Array Slot) (H : Heap) (locs : List Loc), mu13 l2_13 l3_13 < k → I13 l2_13 l3_13 → wI s D A (fl [wMo K h st past acts image ipast iacts tape tmany laneOf sizeOf items seaFirst worstOf farTo stepsTo needs nmany mat told]) H locs → lv_has ls 5 [(0, .ref (h 0)), (1, .int a1), (2, .int l2_13), (3, .int l3_13)] → W p l e rmX11_out s m args below meth c H locs 0 0 Q (F0 m 13 ls []) := by
      intro k
      induction k with
      | zero => intro l2_13 l3_13 ls H locs hmu; exact absurd hmu (Nat.not_lt_zero _)
      | succ k ih13 =>
        intro l2_13 l3_13 ls H locs hmu13 hw hI hl
        replace hw := hb13 l2_13 l3_13 hw
        refine lv_iload_n hx hb dX11_out_13 rfl (lv_at hl 3 rfl) ?_
        refine lv_aload_n hx hb dX11_out_14 rfl (lv_at hl 0 rfl) ?_
        refine x_get (v := .ref (h 1)) hC hI kX11_out_cX11 0 rfl rfl 0 (by decide) kX11_out_0 rfl rfl dX11_out_15 ?_
        refine lv_sipush (v := (269 : Int32)) hx hb dX11_out_18 (by decide) ?_
        refine x_iald (f := st) hC hI 1 rfl (by unfold vp_in; decide) dX11_out_21 ?_
        refine lv_icmp_ge (tgt := 53) hx hb dX11_out_22 (by decide) (fun c3 => ?_) (fun c3 => ?_)
        · replace hw := hw.1 c3
          refine lv_iload_n hx hb dX11_out_53 rfl (lv_at hl 2 rfl) ?_
          refine lv_if_ne (tgt := 60) hx hb dX11_out_54 (by decide) (fun c4 => ?_) (fun c4 => ?_)
          · replace hw := hw.2 c4
            refine lv_aload_n hx hb dX11_out_60 rfl (lv_at hl 0 rfl) ?_
            refine x_callWv (rest := []) hC hI (mX11_notes l D K h _ st past acts image ipast iacts tape tmany laneOf sizeOf items seaFirst worstOf farTo stepsTo needs nmany mat told hw) (cwV 0 hts gX11_out_X11_notes rfl rfl rfl (by decide +kernel) ⟨(Nat.le_of_ble_eq_true rfl), (Nat.le_of_ble_eq_true rfl)⟩) (fun _ => rfl) 0 9 rfl rfl rfl rfl hl.1 rfl (Nat.le_of_ble_eq_true rfl) dX11_out_61 ⟨(Nat.le_of_ble_eq_true rfl), (Nat.le_of_ble_eq_true rfl)⟩ (fun u H locs hw hI => ?_)
            obtain ⟨past_c5, acts_c6⟩ := u
            try dsimp only at hw
            have hI : wI s D A (fl [wMo K h st past_c5 acts_c6 image ipast iacts tape tmany laneOf sizeOf items seaFirst worstOf farTo stepsTo needs nmany mat told]) H locs := hI
            refine lv_iconst (v := (0 : Int32)) hx hb dX11_out_64 (by decide) ?_
            refine lv_istore_n (lv' := [(3, .int (0 : Int32)), (0, .ref (h 0)), (1, .int a1), (2, .int l2_13)]) hx hb dX11_out_65 rfl hl (by decide) rfl (fun ls hl => ?_)
            refine lv_iconst (v := (0 : Int32)) hx hb dX11_out_66 (by decide) ?_
            refine lv_istore (lv' := [(4, .int (0 : Int32)), (3, .int (0 : Int32)), (0, .ref (h 0)), (1, .int a1), (2, .int l2_13)]) hx hb dX11_out_67 hl (by decide) rfl (fun ls hl => ?_)
            obtain ⟨I69, mu69, hw, hb69⟩ := hw
            have lp69 : ∀ (k : Nat) (l3_69 : Int32) (l4_69 : Int32) (st_69 : Nat → Int32) (ls : Array Slot) (H : Heap) (locs : List Loc), mu69 l3_69 l4_69 st_69 < k → I69 l3_69 l4_69 st_69 → wI s D A (fl [wMo K h st_69 past_c5 acts_c6 image ipast iacts tape tmany laneOf sizeOf items seaFirst worstOf farTo stepsTo needs nmany mat told]) H locs → lv_has ls 5 [(0, .ref (h 0)), (1, .int a1), (2, .int l2_13), (3, .int l3_69), (4, .int l4_69)] → W p l e rmX11_out s m args below meth c H locs 0 0 Q (F0 m 69 ls []) := by
              intro k
              induction k with
              | zero => intro l3_69 l4_69 st_69 ls H locs hmu; exact absurd hmu (Nat.not_lt_zero _)
              | succ k ih69 =>
                intro l3_69 l4_69 st_69 ls H locs hmu69 hw hI hl
                replace hw := hb69 l3_69 l4_69 st_69 hw
                refine lv_iload hx hb dX11_out_69 (lv_at hl 4 rfl) ?_
                refine lv_aload_n hx hb dX11_out_71 rfl (lv_at hl 0 rfl) ?_
                refine x_get (v := .ref (h 1)) hC hI kX11_out_cX11 0 rfl rfl 0 (by decide) kX11_out_0 rfl rfl dX11_out_72 ?_
                refine lv_sipush (v := (269 : Int32)) hx hb dX11_out_75 (by decide) ?_
                refine x_iald (f := st_69) hC hI 1 rfl (by unfold vp_in; decide) dX11_out_78 ?_
                refine lv_icmp_ge (tgt := 127) hx hb dX11_out_79 (by decide) (fun c7 => ?_) (fun c7 => ?_)
                · replace hw := hw.1 c7
                  refine lv_aload_n hx hb dX11_out_127 rfl (lv_at hl 0 rfl) ?_
                  refine x_get (v := .ref (h 1)) hC hI kX11_out_cX11 0 rfl rfl 0 (by decide) kX11_out_0 rfl rfl dX11_out_128 ?_
                  refine lv_sipush (v := (269 : Int32)) hx hb dX11_out_131 (by decide) ?_
                  refine lv_iload_n hx hb dX11_out_134 rfl (lv_at hl 3 rfl) ?_
                  refine x_iast (f := st_69) hC hI 1 rfl (by unfold vp_in; decide) dX11_out_135 (fun H locs hI => ?_)
                  have hI : wI s D A (fl [wMo K h (upd st_69 269 l3_69) past_c5 acts_c6 image ipast iacts tape tmany laneOf sizeOf items seaFirst worstOf farTo stepsTo needs nmany mat told]) H locs := hI
                  refine lv_iload_n hx hb dX11_out_136 rfl (lv_at hl 2 rfl) ?_
                  subst hQ
                  exact x_iret (u := ((upd st_69 269 l3_69), past_c5, acts_c6)) hC hI hr hlk hw rfl dX11_out_137
                · replace hw := hw.2 c7
                  refine lv_aload_n hx hb dX11_out_82 rfl (lv_at hl 0 rfl) ?_
                  refine x_get (v := .ref (h 1)) hC hI kX11_out_cX11 0 rfl rfl 0 (by decide) kX11_out_0 rfl rfl dX11_out_83 ?_
                  refine lv_sipush (v := (270 : Int32)) hx hb dX11_out_86 (by decide) ?_
                  refine lv_iload hx hb dX11_out_89 (lv_at hl 4 rfl) ?_
                  refine lv_iadd hx hb dX11_out_91 ?_
                  obtain ⟨hc8, hw⟩ := hw
                  refine x_iald (f := st_69) hC hI 1 rfl hc8 dX11_out_92 ?_
                  refine lv_iload_n hx hb dX11_out_93 rfl (lv_at hl 1 rfl) ?_
                  refine lv_icmp_eq (tgt := 121) hx hb dX11_out_94 (by decide) (fun c9 => ?_) (fun c9 => ?_)
                  · replace hw := hw.1 c9
                    obtain ⟨x10, ex10⟩ : ∃ y : Int32, y = l4_69 + 1 := ⟨_, rfl⟩
                    replace hw := hw x10 ex10
                    refine lv_iinc (v := x10) (lv' := [(4, .int x10), (0, .ref (h 0)), (1, .int a1), (2, .int l2_13), (3, .int l3_69)]) hx hb dX11_out_121 hl (k := 4) rfl (by rw [ex10]; rfl) (by decide) rfl (fun ls hl => ?_)
                    refine lv_goto (tgt := 69) hx hb dX11_out_124 (by decide) ?_
                    exact ih69 l3_69 x10 st_69 ls H locs (Nat.lt_of_lt_of_le hw.2 (Nat.le_of_lt_succ hmu69)) hw.1 hI (lv_sub hl [1, 2, 3, 4, 0] rfl)
                  · replace hw := hw.2 c9
                    refine lv_aload_n hx hb dX11_out_97 rfl (lv_at hl 0 rfl) ?_
                    refine x_get (v := .ref (h 1)) hC hI kX11_out_cX11 0 rfl rfl 0 (by decide) kX11_out_0 rfl rfl dX11_out_98 ?_
                    refine lv_sipush (v := (270 : Int32)) hx hb dX11_out_101 (by decide) ?_
                    refine lv_iload_n hx hb dX11_out_104 rfl (lv_at hl 3 rfl) ?_
                    refine lv_iadd hx hb dX11_out_105 ?_
                    refine lv_aload_n hx hb dX11_out_106 rfl (lv_at hl 0 rfl) ?_
                    refine x_get (v := .ref (h 1)) hC hI kX11_out_cX11 0 rfl rfl 0 (by decide) kX11_out_0 rfl rfl dX11_out_107 ?_
                    refine lv_sipush (v := (270 : Int32)) hx hb dX11_out_110 (by decide) ?_
                    refine lv_iload hx hb dX11_out_113 (lv_at hl 4 rfl) ?_
                    refine lv_iadd hx hb dX11_out_115 ?_
                    obtain ⟨hc11, hw⟩ := hw
                    refine x_iald (f := st_69) hC hI 1 rfl hc11 dX11_out_116 ?_
                    obtain ⟨hc12, hw⟩ := hw
                    refine x_iast (f := st_69) hC hI 1 rfl hc12 dX11_out_117 (fun H locs hI => ?_)
                    have hI : wI s D A (fl [wMo K h (upd st_69 ((270 : Int32) + l3_69).toNatClampNeg (st_69 ((270 : Int32) + l4_69).toNatClampNeg)) past_c5 acts_c6 image ipast iacts tape tmany laneOf sizeOf items seaFirst worstOf farTo stepsTo needs nmany mat told]) H locs := hI
                    obtain ⟨x13, ex13⟩ : ∃ y : Int32, y = l3_69 + 1 := ⟨_, rfl⟩
                    replace hw := hw x13 ex13
                    refine lv_iinc (v := x13) (lv' := [(3, .int x13), (0, .ref (h 0)), (1, .int a1), (2, .int l2_13), (4, .int l4_69)]) hx hb dX11_out_118 hl (k := 3) rfl (by rw [ex13]; rfl) (by decide) rfl (fun ls hl => ?_)
                    obtain ⟨x14, ex14⟩ : ∃ y : Int32, y = l4_69 + 1 := ⟨_, rfl⟩
                    replace hw := hw x14 ex14
                    refine lv_iinc (v := x14) (lv' := [(4, .int x14), (3, .int x13), (0, .ref (h 0)), (1, .int a1), (2, .int l2_13)]) hx hb dX11_out_121 hl (k := 4) rfl (by rw [ex14]; rfl) (by decide) rfl (fun ls hl => ?_)
                    refine lv_goto (tgt := 69) hx hb dX11_out_124 (by decide) ?_
                    exact ih69 x13 x14 (upd st_69 ((270 : Int32) + l3_69).toNatClampNeg (st_69 ((270 : Int32) + l4_69).toNatClampNeg)) ls H locs (Nat.lt_of_lt_of_le hw.2 (Nat.le_of_lt_succ hmu69)) hw.1 hI (lv_sub hl [2, 3, 4, 1, 0] rfl)
            exact lp69 (mu69 (0 : Int32) (0 : Int32) st + 1) (0 : Int32) (0 : Int32) st ls H locs (Nat.lt_succ_self _) hw hI (lv_sub hl [2, 3, 4, 1, 0] rfl)
          · replace hw := hw.1 c4
            refine lv_bipush (v := (-4 : Int32)) hx hb dX11_out_57 (by decide) ?_
            subst hQ
            exact x_iret (u := (st, past, acts)) hC hI hr hlk hw rfl dX11_out_59
        · replace hw := hw.2 c3
          refine lv_iload_n hx hb dX11_out_25 rfl (lv_at hl 2 rfl) ?_
          refine lv_aload_n hx hb dX11_out_26 rfl (lv_at hl 0 rfl) ?_
          refine x_get (v := .ref (h 1)) hC hI kX11_out_cX11 0 rfl rfl 0 (by decide) kX11_out_0 rfl rfl dX11_out_27 ?_
          refine lv_sipush (v := (270 : Int32)) hx hb dX11_out_30 (by decide) ?_
          refine lv_iload_n hx hb dX11_out_33 rfl (lv_at hl 3 rfl) ?_
          refine lv_iadd hx hb dX11_out_34 ?_
          obtain ⟨hc15, hw⟩ := hw
          refine x_iald (f := st) hC hI 1 rfl hc15 dX11_out_35 ?_
          refine lv_iload_n hx hb dX11_out_36 rfl (lv_at hl 1 rfl) ?_
          refine lv_icmp_ne (tgt := 44) hx hb dX11_out_37 (by decide) (fun c16 => ?_) (fun c16 => ?_)
          · replace hw := hw.2 c16
            refine lv_iconst (v := (0 : Int32)) hx hb dX11_out_44 (by decide) ?_
            refine lv_iadd hx hb dX11_out_45 ?_
            refine lv_topi (fun x17 ex17 => ?_)
            replace hw := hw x17 ex17
            refine lv_istore_n (lv' := [(2, .int x17), (0, .ref (h 0)), (1, .int a1), (3, .int l3_13)]) hx hb dX11_out_46 rfl hl (by decide) rfl (fun ls hl => ?_)
            obtain ⟨x18, ex18⟩ : ∃ y : Int32, y = l3_13 + 1 := ⟨_, rfl⟩
            replace hw := hw x18 ex18
            refine lv_iinc (v := x18) (lv' := [(3, .int x18), (2, .int x17), (0, .ref (h 0)), (1, .int a1)]) hx hb dX11_out_47 hl (k := 3) rfl (by rw [ex18]; rfl) (by decide) rfl (fun ls hl => ?_)
            refine lv_goto (tgt := 13) hx hb dX11_out_50 (by decide) ?_
            exact ih13 x17 x18 ls H locs (Nat.lt_of_lt_of_le hw.2 (Nat.le_of_lt_succ hmu13)) hw.1 hI (lv_sub hl [2, 3, 1, 0] rfl)
          · replace hw := hw.1 c16
            refine lv_iconst (v := (1 : Int32)) hx hb dX11_out_40 (by decide) ?_
            refine lv_goto (tgt := 45) hx hb dX11_out_41 (by decide) ?_
            refine lv_iadd hx hb dX11_out_45 ?_
            refine lv_topi (fun x19 ex19 => ?_)
            replace hw := hw x19 ex19
            refine lv_istore_n (lv' := [(2, .int x19), (0, .ref (h 0)), (1, .int a1), (3, .int l3_13)]) hx hb dX11_out_46 rfl hl (by decide) rfl (fun ls hl => ?_)
            obtain ⟨x20, ex20⟩ : ∃ y : Int32, y = l3_13 + 1 := ⟨_, rfl⟩
            replace hw := hw x20 ex20
            refine lv_iinc (v := x20) (lv' := [(3, .int x20), (2, .int x19), (0, .ref (h 0)), (1, .int a1)]) hx hb dX11_out_47 hl (k := 3) rfl (by rw [ex20]; rfl) (by decide) rfl (fun ls hl => ?_)
            refine lv_goto (tgt := 13) hx hb dX11_out_50 (by decide) ?_
            exact ih13 x19 x20 ls H locs (Nat.lt_of_lt_of_le hw.2 (Nat.le_of_lt_succ hmu13)) hw.1 hI (lv_sub hl [2, 3, 1, 0] rfl)
    exact lp13 (mu13 (0 : Int32) (0 : Int32) + 1) (0 : Int32) (0 : Int32) ls H locs (Nat.lt_succ_self _) hw hI (lv_sub hl [2, 3, 1, 0] rfl)
  · replace hw := hw.1 c2
    refine lv_iconst (v := (-1 : Int32)) hx hb dX11_out_7 (by decide) ?_
    subst hQ
    exact x_iret (u := (st, past, acts)) hC hI hr hlk hw rfl dX11_out_8

def wX11_reverse  (st : Nat → Int32) (past : Nat → Int32) (acts : Int32) (post : Int32 → (Nat → Int32) → (Nat → Int32) → Int32 → Prop) : Prop := (((2 : Int32) ≤ (st 269) → wX11_notes st past acts (fun (past_c2 : Nat → Int32) (acts_c3 : Int32) => ∀ x4 : Int32, x4 = ((270 : Int32) + (st 269)) - (1 : Int32) → (∃ (I36 : Int32 → (Nat → Int32) → Prop) (mu36 : Int32 → (Nat → Int32) → Nat), I36 (0 : Int32) st ∧ ∀ (l2_36 : Int32) (st_36 : Nat → Int32), I36 l2_36 st_36 → ((((st_36 269) / (2 : Int32)) ≤ l2_36 → post (st_36 270) st_36 past_c2 acts_c3) ∧ (¬ ((st_36 269) / (2 : Int32)) ≤ l2_36 → vp_in ((270 : Int32) + l2_36) 279 ∧ ∀ x7 : Int32, x7 = st_36 ((270 : Int32) + l2_36).toNatClampNeg → vp_in (x4 - l2_36) 279 ∧ vp_in ((270 : Int32) + l2_36) 279 ∧ vp_in (x4 - l2_36) 279 ∧ ∀ x11 : Int32, x11 = l2_36 + 1 → (I36 x11 (upd (upd st_36 ((270 : Int32) + l2_36).toNatClampNeg (st_36 (x4 - l2_36).toNatClampNeg)) (x4 - l2_36).toNatClampNeg x7) ∧ mu36 x11 (upd (upd st_36 ((270 : Int32) + l2_36).toNatClampNeg (st_36 (x4 - l2_36).toNatClampNeg)) (x4 - l2_36).toNatClampNeg x7) < mu36 l2_36 st_36)))))) ∧ (¬ (2 : Int32) ≤ (st 269) → post (-2 : Int32) st past acts))
def rmX11_reverse : Room := { frames := 2, cells := 0, slots := 0, locals := 45 }
theorem kX11_reverse_0 : Cond.fieldLink RX11 7 "GoreGlobeModel" "st" "[I" ∈ wsX11_reverse := List.mem_cons_of_mem _ (List.mem_append_left _ (List.mem_of_getElem? (i := 0) rfl))
theorem kX11_reverse_cX11 : ∀ w ∈ wsX110, w ∈ wsX11_reverse := fun _ h => List.mem_cons_of_mem _ (List.mem_append_right _ h)
set_option maxHeartbeats 4000000 in
set_option maxRecDepth 100000 in
theorem mX11_reverse (l : Launch) (D : va_G) (K : Nat → ClassId) (h : Nat → Nat) (sz : Nat)  (st : Nat → Int32) (past : Nat → Int32) (acts : Int32) (image : Nat → Int32) (ipast : Nat → Int32) (iacts : Int32) (tape : Nat → Int32) (tmany : Int32) (laneOf : Nat → Int32) (sizeOf : Nat → Int32) (items : Nat → Int64) (seaFirst : Nat → Int32) (worstOf : Nat → Int32) (farTo : Nat → Int32) (stepsTo : Nat → Int32) (needs : Nat → Int32) (nmany : Int32) (mat : Int32) (told : Nat → Int32)  {post : Int32 → (Nat → Int32) → (Nat → Int32) → Int32 → Prop} (hw : wX11_reverse  st past acts post) : Met l yX11_reverse wsX11_reverse rmX11_reverse (va_Pc [.ref (h 0)] (cP D K (fl [wMo K h st past acts image ipast iacts tape tmany laneOf sizeOf items seaFirst worstOf farTo stepsTo needs nmany mat told]) sz)) (va_Qi (fun (r : Int32) (u : (Nat → Int32) × (Nat → Int32) × Int32) => post r u.1 u.2.1 u.2.2) (fun u t => cQ D K (fl [wMo K h u.1 u.2.1 u.2.2 image ipast iacts tape tmany laneOf sizeOf items seaFirst worstOf farTo stepsTo needs nmany mat told]) (va_A (fl [wMo K h st past acts image ipast iacts tape tmany laneOf sizeOf items seaFirst worstOf farTo stepsTo needs nmany mat told]) sz) t) (va_A (fl [wMo K h st past acts image ipast iacts tape tmany laneOf sizeOf items seaFirst worstOf farTo stepsTo needs nmany mat told]) sz)) 0 0 (va_A (fl [wMo K h st past acts image ipast iacts tape tmany laneOf sizeOf items seaFirst worstOf farTo stepsTo needs nmany mat told]) sz) := by
  refine x_entry (cc := cX11_reverse) (maxL := 4) (ret := (some .int)) (QA := fun A => va_Qi (fun (r : Int32) (u : (Nat → Int32) × (Nat → Int32) × Int32) => post r u.1 u.2.1 u.2.2) (fun u t => cQ D K (fl [wMo K h u.1 u.2.1 u.2.2 image ipast iacts tape tmany laneOf sizeOf items seaFirst worstOf farTo stepsTo needs nmany mat told]) A t) A) (plainFor_of_name (by decide)) rfl (Nat.le_of_ble_eq_true rfl) ?_
  intro p e s m args below meth c A ls H Q hQ hC hlk hr hnm hI hl
  obtain ⟨hx, hb, hml, hown, hts, hK, hA, hZ⟩ := id hC
  obtain ⟨locs, hlocs⟩ : ∃ y : List Loc, y = [] := ⟨_, rfl⟩
  rw [← hlocs] at hI ⊢
  clear hlocs
  replace hl : lv_has ls 4 [(0, .ref (h 0))] := hl
  replace hw : (((2 : Int32) ≤ (st 269) → wX11_notes st past acts (fun (past_c2 : Nat → Int32) (acts_c3 : Int32) => ∀ x4 : Int32, x4 = ((270 : Int32) + (st 269)) - (1 : Int32) → (∃ (I36 : Int32 → (Nat → Int32) → Prop) (mu36 : Int32 → (Nat → Int32) → Nat), I36 (0 : Int32) st ∧ ∀ (l2_36 : Int32) (st_36 : Nat → Int32), I36 l2_36 st_36 → ((((st_36 269) / (2 : Int32)) ≤ l2_36 → post (st_36 270) st_36 past_c2 acts_c3) ∧ (¬ ((st_36 269) / (2 : Int32)) ≤ l2_36 → vp_in ((270 : Int32) + l2_36) 279 ∧ ∀ x7 : Int32, x7 = st_36 ((270 : Int32) + l2_36).toNatClampNeg → vp_in (x4 - l2_36) 279 ∧ vp_in ((270 : Int32) + l2_36) 279 ∧ vp_in (x4 - l2_36) 279 ∧ ∀ x11 : Int32, x11 = l2_36 + 1 → (I36 x11 (upd (upd st_36 ((270 : Int32) + l2_36).toNatClampNeg (st_36 (x4 - l2_36).toNatClampNeg)) (x4 - l2_36).toNatClampNeg x7) ∧ mu36 x11 (upd (upd st_36 ((270 : Int32) + l2_36).toNatClampNeg (st_36 (x4 - l2_36).toNatClampNeg)) (x4 - l2_36).toNatClampNeg x7) < mu36 l2_36 st_36)))))) ∧ (¬ (2 : Int32) ≤ (st 269) → post (-2 : Int32) st past acts)) := hw
  refine lv_aload_n hx hb dX11_reverse_0 rfl (lv_at hl 0 rfl) ?_
  refine x_get (v := .ref (h 1)) hC hI kX11_reverse_cX11 0 rfl rfl 0 (by decide) kX11_reverse_0 rfl rfl dX11_reverse_1 ?_
  refine lv_sipush (v := (269 : Int32)) hx hb dX11_reverse_4 (by decide) ?_
  refine x_iald (f := st) hC hI 1 rfl (by unfold vp_in; decide) dX11_reverse_7 ?_
  refine lv_iconst (v := (2 : Int32)) hx hb dX11_reverse_8 (by decide) ?_
  refine lv_icmp_ge (tgt := 15) hx hb dX11_reverse_9 (by decide) (fun c1 => ?_) (fun c1 => ?_)
  · replace hw := hw.1 c1
    refine lv_aload_n hx hb dX11_reverse_15 rfl (lv_at hl 0 rfl) ?_
    refine x_callWv (rest := []) hC hI (mX11_notes l D K h _ st past acts image ipast iacts tape tmany laneOf sizeOf items seaFirst worstOf farTo stepsTo needs nmany mat told hw) (cwV 0 hts gX11_reverse_X11_notes rfl rfl rfl (by decide +kernel) ⟨(Nat.le_of_ble_eq_true rfl), (Nat.le_of_ble_eq_true rfl)⟩) (fun _ => rfl) 0 9 rfl rfl rfl rfl hl.1 rfl (Nat.le_of_ble_eq_true rfl) dX11_reverse_16 ⟨(Nat.le_of_ble_eq_true rfl), (Nat.le_of_ble_eq_true rfl)⟩ (fun u H locs hw hI => ?_)
    obtain ⟨past_c2, acts_c3⟩ := u
    try dsimp only at hw
    have hI : wI s D A (fl [wMo K h st past_c2 acts_c3 image ipast iacts tape tmany laneOf sizeOf items seaFirst worstOf farTo stepsTo needs nmany mat told]) H locs := hI
    refine lv_sipush (v := (270 : Int32)) hx hb dX11_reverse_19 (by decide) ?_
    refine lv_aload_n hx hb dX11_reverse_22 rfl (lv_at hl 0 rfl) ?_
    refine x_get (v := .ref (h 1)) hC hI kX11_reverse_cX11 0 rfl rfl 0 (by decide) kX11_reverse_0 rfl rfl dX11_reverse_23 ?_
    refine lv_sipush (v := (269 : Int32)) hx hb dX11_reverse_26 (by decide) ?_
    refine x_iald (f := st) hC hI 1 rfl (by unfold vp_in; decide) dX11_reverse_29 ?_
    refine lv_iadd hx hb dX11_reverse_30 ?_
    refine lv_iconst (v := (1 : Int32)) hx hb dX11_reverse_31 (by decide) ?_
    refine lv_isub hx hb dX11_reverse_32 ?_
    refine lv_topi (fun x4 ex4 => ?_)
    replace hw := hw x4 ex4
    refine lv_istore_n (lv' := [(1, .int x4), (0, .ref (h 0))]) hx hb dX11_reverse_33 rfl hl (by decide) rfl (fun ls hl => ?_)
    refine lv_iconst (v := (0 : Int32)) hx hb dX11_reverse_34 (by decide) ?_
    refine lv_istore_n (lv' := [(2, .int (0 : Int32)), (1, .int x4), (0, .ref (h 0))]) hx hb dX11_reverse_35 rfl hl (by decide) rfl (fun ls hl => ?_)
    obtain ⟨I36, mu36, hw, hb36⟩ := hw
    have lp36 : ∀ (k : Nat) (l2_36 : Int32) (st_36 : Nat → Int32) (ls : Array Slot) (H : Heap) (locs : List Loc), mu36 l2_36 st_36 < k → I36 l2_36 st_36 → wI s D A (fl [wMo K h st_36 past_c2 acts_c3 image ipast iacts tape tmany laneOf sizeOf items seaFirst worstOf farTo stepsTo needs nmany mat told]) H locs → lv_has ls 4 [(0, .ref (h 0)), (1, .int x4), (2, .int l2_36)] → W p l e rmX11_reverse s m args below meth c H locs 0 0 Q (F0 m 36 ls []) := by
      intro k
      induction k with
      | zero => intro l2_36 st_36 ls H locs hmu; exact absurd hmu (Nat.not_lt_zero _)
      | succ k ih36 =>
        intro l2_36 st_36 ls H locs hmu36 hw hI hl
        replace hw := hb36 l2_36 st_36 hw
        refine lv_iload_n hx hb dX11_reverse_36 rfl (lv_at hl 2 rfl) ?_
        refine lv_aload_n hx hb dX11_reverse_37 rfl (lv_at hl 0 rfl) ?_
        refine x_get (v := .ref (h 1)) hC hI kX11_reverse_cX11 0 rfl rfl 0 (by decide) kX11_reverse_0 rfl rfl dX11_reverse_38 ?_
        refine lv_sipush (v := (269 : Int32)) hx hb dX11_reverse_41 (by decide) ?_
        refine x_iald (f := st_36) hC hI 1 rfl (by unfold vp_in; decide) dX11_reverse_44 ?_
        refine lv_iconst (v := (2 : Int32)) hx hb dX11_reverse_45 (by decide) ?_
        refine lv_idiv hx hb dX11_reverse_46 (by decide) ?_
        refine lv_icmp_ge (tgt := 94) hx hb dX11_reverse_47 (by decide) (fun c5 => ?_) (fun c5 => ?_)
        · replace hw := hw.1 c5
          refine lv_aload_n hx hb dX11_reverse_94 rfl (lv_at hl 0 rfl) ?_
          refine x_get (v := .ref (h 1)) hC hI kX11_reverse_cX11 0 rfl rfl 0 (by decide) kX11_reverse_0 rfl rfl dX11_reverse_95 ?_
          refine lv_sipush (v := (270 : Int32)) hx hb dX11_reverse_98 (by decide) ?_
          refine x_iald (f := st_36) hC hI 1 rfl (by unfold vp_in; decide) dX11_reverse_101 ?_
          subst hQ
          exact x_iret (u := (st_36, past_c2, acts_c3)) hC hI hr hlk hw rfl dX11_reverse_102
        · replace hw := hw.2 c5
          refine lv_aload_n hx hb dX11_reverse_50 rfl (lv_at hl 0 rfl) ?_
          refine x_get (v := .ref (h 1)) hC hI kX11_reverse_cX11 0 rfl rfl 0 (by decide) kX11_reverse_0 rfl rfl dX11_reverse_51 ?_
          refine lv_sipush (v := (270 : Int32)) hx hb dX11_reverse_54 (by decide) ?_
          refine lv_iload_n hx hb dX11_reverse_57 rfl (lv_at hl 2 rfl) ?_
          refine lv_iadd hx hb dX11_reverse_58 ?_
          obtain ⟨hc6, hw⟩ := hw
          refine x_iald (f := st_36) hC hI 1 rfl hc6 dX11_reverse_59 ?_
          refine lv_topi (fun x7 ex7 => ?_)
          replace hw := hw x7 ex7
          refine lv_istore_n (lv' := [(3, .int x7), (0, .ref (h 0)), (1, .int x4), (2, .int l2_36)]) hx hb dX11_reverse_60 rfl hl (by decide) rfl (fun ls hl => ?_)
          refine lv_aload_n hx hb dX11_reverse_61 rfl (lv_at hl 1 rfl) ?_
          refine x_get (v := .ref (h 1)) hC hI kX11_reverse_cX11 0 rfl rfl 0 (by decide) kX11_reverse_0 rfl rfl dX11_reverse_62 ?_
          refine lv_sipush (v := (270 : Int32)) hx hb dX11_reverse_65 (by decide) ?_
          refine lv_iload_n hx hb dX11_reverse_68 rfl (lv_at hl 3 rfl) ?_
          refine lv_iadd hx hb dX11_reverse_69 ?_
          refine lv_aload_n hx hb dX11_reverse_70 rfl (lv_at hl 1 rfl) ?_
          refine x_get (v := .ref (h 1)) hC hI kX11_reverse_cX11 0 rfl rfl 0 (by decide) kX11_reverse_0 rfl rfl dX11_reverse_71 ?_
          refine lv_iload_n hx hb dX11_reverse_74 rfl (lv_at hl 2 rfl) ?_
          refine lv_iload_n hx hb dX11_reverse_75 rfl (lv_at hl 3 rfl) ?_
          refine lv_isub hx hb dX11_reverse_76 ?_
          obtain ⟨hc8, hw⟩ := hw
          refine x_iald (f := st_36) hC hI 1 rfl hc8 dX11_reverse_77 ?_
          obtain ⟨hc9, hw⟩ := hw
          refine x_iast (f := st_36) hC hI 1 rfl hc9 dX11_reverse_78 (fun H locs hI => ?_)
          have hI : wI s D A (fl [wMo K h (upd st_36 ((270 : Int32) + l2_36).toNatClampNeg (st_36 (x4 - l2_36).toNatClampNeg)) past_c2 acts_c3 image ipast iacts tape tmany laneOf sizeOf items seaFirst worstOf farTo stepsTo needs nmany mat told]) H locs := hI
          refine lv_aload_n hx hb dX11_reverse_79 rfl (lv_at hl 1 rfl) ?_
          refine x_get (v := .ref (h 1)) hC hI kX11_reverse_cX11 0 rfl rfl 0 (by decide) kX11_reverse_0 rfl rfl dX11_reverse_80 ?_
          refine lv_iload_n hx hb dX11_reverse_83 rfl (lv_at hl 2 rfl) ?_
          refine lv_iload_n hx hb dX11_reverse_84 rfl (lv_at hl 3 rfl) ?_
          refine lv_isub hx hb dX11_reverse_85 ?_
          refine lv_iload_n hx hb dX11_reverse_86 rfl (lv_at hl 0 rfl) ?_
          obtain ⟨hc10, hw⟩ := hw
          refine x_iast (f := (upd st_36 ((270 : Int32) + l2_36).toNatClampNeg (st_36 (x4 - l2_36).toNatClampNeg))) hC hI 1 rfl hc10 dX11_reverse_87 (fun H locs hI => ?_)
          have hI : wI s D A (fl [wMo K h (upd (upd st_36 ((270 : Int32) + l2_36).toNatClampNeg (st_36 (x4 - l2_36).toNatClampNeg)) (x4 - l2_36).toNatClampNeg x7) past_c2 acts_c3 image ipast iacts tape tmany laneOf sizeOf items seaFirst worstOf farTo stepsTo needs nmany mat told]) H locs := hI
          obtain ⟨x11, ex11⟩ : ∃ y : Int32, y = l2_36 + 1 := ⟨_, rfl⟩
          replace hw := hw x11 ex11
          refine lv_iinc (v := x11) (lv' := [(2, .int x11), (3, .int x7), (0, .ref (h 0)), (1, .int x4)]) hx hb dX11_reverse_88 hl (k := 3) rfl (by rw [ex11]; rfl) (by decide) rfl (fun ls hl => ?_)
          refine lv_goto (tgt := 36) hx hb dX11_reverse_91 (by decide) ?_
          exact ih36 x11 (upd (upd st_36 ((270 : Int32) + l2_36).toNatClampNeg (st_36 (x4 - l2_36).toNatClampNeg)) (x4 - l2_36).toNatClampNeg x7) ls H locs (Nat.lt_of_lt_of_le hw.2 (Nat.le_of_lt_succ hmu36)) hw.1 hI (lv_sub hl [2, 3, 0] rfl)
    exact lp36 (mu36 (0 : Int32) st + 1) (0 : Int32) st ls H locs (Nat.lt_succ_self _) hw hI (lv_sub hl [2, 1, 0] rfl)
  · replace hw := hw.2 c1
    refine lv_bipush (v := (-2 : Int32)) hx hb dX11_reverse_12 (by decide) ?_
    subst hQ
    exact x_iret (u := (st, past, acts)) hC hI hr hlk hw rfl dX11_reverse_14

def wX11_type (a1 : Int32) (tape : Nat → Int32) (tmany : Int32) (post : Int32 → (Nat → Int32) → Int32 → Prop) : Prop := wX11_in a1 (32 : Int32) (126 : Int32) (fun (r1 : Int32) => ((r1 = 0 → post (-1 : Int32) tape tmany) ∧ (¬ r1 = 0 → ((tmany = (90 : Int32) → post (-3 : Int32) tape tmany) ∧ (¬ tmany = (90 : Int32) → vp_in tmany 90 ∧ ∀ x5 : Int32, x5 = tmany + (1 : Int32) → post x5 (upd tape tmany.toNatClampNeg a1) x5)))))
def rmX11_type : Room := { frames := 1, cells := 0, slots := 0, locals := 22 }
theorem kX11_type_0 : Cond.fieldLink RX11 249 "GoreGlobeModel" "tapeMany" "I" ∈ wsX11_type := List.mem_cons_of_mem _ (List.mem_append_left _ (List.mem_of_getElem? (i := 0) rfl))
theorem kX11_type_cX11 : ∀ w ∈ wsX110, w ∈ wsX11_type := fun _ h => List.mem_cons_of_mem _ (List.mem_append_right _ h)
theorem kX11_type_2 : Cond.fieldLink RX11 26 "GoreGlobeModel" "tape" "[I" ∈ wsX11_type := List.mem_cons_of_mem _ (List.mem_append_left _ (List.mem_of_getElem? (i := 1) rfl))
set_option maxHeartbeats 4000000 in
set_option maxRecDepth 100000 in
theorem mX11_type (l : Launch) (D : va_G) (K : Nat → ClassId) (h : Nat → Nat) (sz : Nat) (a1 : Int32) (st : Nat → Int32) (past : Nat → Int32) (acts : Int32) (image : Nat → Int32) (ipast : Nat → Int32) (iacts : Int32) (tape : Nat → Int32) (tmany : Int32) (laneOf : Nat → Int32) (sizeOf : Nat → Int32) (items : Nat → Int64) (seaFirst : Nat → Int32) (worstOf : Nat → Int32) (farTo : Nat → Int32) (stepsTo : Nat → Int32) (needs : Nat → Int32) (nmany : Int32) (mat : Int32) (told : Nat → Int32)  {post : Int32 → (Nat → Int32) → Int32 → Prop} (hw : wX11_type a1 tape tmany post) : Met l yX11_type wsX11_type rmX11_type (va_Pc [.ref (h 0), .int a1] (cP D K (fl [wMo K h st past acts image ipast iacts tape tmany laneOf sizeOf items seaFirst worstOf farTo stepsTo needs nmany mat told]) sz)) (va_Qi (fun (r : Int32) (u : (Nat → Int32) × Int32) => post r u.1 u.2) (fun u t => cQ D K (fl [wMo K h st past acts image ipast iacts u.1 u.2 laneOf sizeOf items seaFirst worstOf farTo stepsTo needs nmany mat told]) (va_A (fl [wMo K h st past acts image ipast iacts tape tmany laneOf sizeOf items seaFirst worstOf farTo stepsTo needs nmany mat told]) sz) t) (va_A (fl [wMo K h st past acts image ipast iacts tape tmany laneOf sizeOf items seaFirst worstOf farTo stepsTo needs nmany mat told]) sz)) 0 0 (va_A (fl [wMo K h st past acts image ipast iacts tape tmany laneOf sizeOf items seaFirst worstOf farTo stepsTo needs nmany mat told]) sz) := by
  refine x_entry (cc := cX11_type) (maxL := 2) (ret := (some .int)) (QA := fun A => va_Qi (fun (r : Int32) (u : (Nat → Int32) × Int32) => post r u.1 u.2) (fun u t => cQ D K (fl [wMo K h st past acts image ipast iacts u.1 u.2 laneOf sizeOf items seaFirst worstOf farTo stepsTo needs nmany mat told]) A t) A) (plainFor_of_name (by decide)) rfl (Nat.le_of_ble_eq_true rfl) ?_
  intro p e s m args below meth c A ls H Q hQ hC hlk hr hnm hI hl
  obtain ⟨hx, hb, hml, hown, hts, hK, hA, hZ⟩ := id hC
  obtain ⟨locs, hlocs⟩ : ∃ y : List Loc, y = [] := ⟨_, rfl⟩
  rw [← hlocs] at hI ⊢
  clear hlocs
  replace hl : lv_has ls 2 [(0, .ref (h 0)), (1, .int a1)] := hl
  replace hw : wX11_in a1 (32 : Int32) (126 : Int32) (fun (r1 : Int32) => ((r1 = 0 → post (-1 : Int32) tape tmany) ∧ (¬ r1 = 0 → ((tmany = (90 : Int32) → post (-3 : Int32) tape tmany) ∧ (¬ tmany = (90 : Int32) → vp_in tmany 90 ∧ ∀ x5 : Int32, x5 = tmany + (1 : Int32) → post x5 (upd tape tmany.toNatClampNeg a1) x5))))) := hw
  refine lv_iload_n hx hb dX11_type_0 rfl (lv_at hl 1 rfl) ?_
  refine lv_bipush (v := (32 : Int32)) hx hb dX11_type_1 (by decide) ?_
  refine lv_bipush (v := (126 : Int32)) hx hb dX11_type_3 (by decide) ?_
  refine x_callSi (rest := []) hC hI [] (mX11_in l D K  _ a1 (32 : Int32) (126 : Int32) hw) (va_cwS 3 hts gX11_type_X11_in rfl rfl rfl (by decide +kernel) ⟨(Nat.le_of_ble_eq_true rfl), (Nat.le_of_ble_eq_true rfl)⟩) (by decide) rfl (fun _ => rfl) rfl hl.1 rfl (Nat.le_of_ble_eq_true rfl) dX11_type_5 ⟨(Nat.le_of_ble_eq_true rfl), (Nat.le_of_ble_eq_true rfl)⟩ (fun r1 u H locs hw hI => ?_)
  try dsimp only at hw
  have hI : wI s D A (fl [wMo K h st past acts image ipast iacts tape tmany laneOf sizeOf items seaFirst worstOf farTo stepsTo needs nmany mat told]) H locs := hI
  refine lv_if_ne (tgt := 13) hx hb dX11_type_8 (by decide) (fun c2 => ?_) (fun c2 => ?_)
  · replace hw := hw.2 c2
    refine lv_aload_n hx hb dX11_type_13 rfl (lv_at hl 0 rfl) ?_
    refine x_get (v := .int tmany) hC hI kX11_type_cX11 0 rfl rfl 7 (by decide) kX11_type_0 rfl rfl dX11_type_14 ?_
    refine lv_bipush (v := (90 : Int32)) hx hb dX11_type_17 (by decide) ?_
    refine lv_icmp_ne (tgt := 25) hx hb dX11_type_19 (by decide) (fun c3 => ?_) (fun c3 => ?_)
    · replace hw := hw.2 c3
      refine lv_aload_n hx hb dX11_type_25 rfl (lv_at hl 0 rfl) ?_
      refine x_get (v := .ref (h 5)) hC hI kX11_type_cX11 0 rfl rfl 6 (by decide) kX11_type_2 rfl rfl dX11_type_26 ?_
      refine lv_aload_n hx hb dX11_type_29 rfl (lv_at hl 0 rfl) ?_
      refine x_get (v := .int tmany) hC hI kX11_type_cX11 0 rfl rfl 7 (by decide) kX11_type_0 rfl rfl dX11_type_30 ?_
      refine lv_iload_n hx hb dX11_type_33 rfl (lv_at hl 1 rfl) ?_
      obtain ⟨hc4, hw⟩ := hw
      refine x_iast (f := tape) hC hI 5 rfl hc4 dX11_type_34 (fun H locs hI => ?_)
      have hI : wI s D A (fl [wMo K h st past acts image ipast iacts (upd tape tmany.toNatClampNeg a1) tmany laneOf sizeOf items seaFirst worstOf farTo stepsTo needs nmany mat told]) H locs := hI
      refine lv_aload_n hx hb dX11_type_35 rfl (lv_at hl 0 rfl) ?_
      refine lv_dup hx hb dX11_type_36 rfl ?_
      refine x_get (v := .int tmany) hC hI kX11_type_cX11 0 rfl rfl 7 (by decide) kX11_type_0 rfl rfl dX11_type_37 ?_
      refine lv_iconst (v := (1 : Int32)) hx hb dX11_type_40 (by decide) ?_
      refine lv_iadd hx hb dX11_type_41 ?_
      refine lv_topi (fun x5 ex5 => ?_)
      replace hw := hw x5 ex5
      refine x_put (v := .int x5) hC hI kX11_type_cX11 tyX11 tyX11_ok nmX11 0 rfl rfl 7 (by decide) kX11_type_0 rfl rfl rfl rfl (Nat.le_of_ble_eq_true rfl) dX11_type_42 (fun H locs hI => ?_)
      have hI : wI s D A (fl [wMo K h st past acts image ipast iacts (upd tape tmany.toNatClampNeg a1) x5 laneOf sizeOf items seaFirst worstOf farTo stepsTo needs nmany mat told]) H locs := hI
      refine lv_aload_n hx hb dX11_type_45 rfl (lv_at hl 0 rfl) ?_
      refine x_get (v := .int x5) hC hI kX11_type_cX11 0 rfl rfl 7 (by decide) kX11_type_0 rfl rfl dX11_type_46 ?_
      subst hQ
      exact x_iret (u := ((upd tape tmany.toNatClampNeg a1), x5)) hC hI hr hlk hw rfl dX11_type_49
    · replace hw := hw.1 c3
      refine lv_bipush (v := (-3 : Int32)) hx hb dX11_type_22 (by decide) ?_
      subst hQ
      exact x_iret (u := (tape, tmany)) hC hI hr hlk hw rfl dX11_type_24
  · replace hw := hw.1 c2
    refine lv_iconst (v := (-1 : Int32)) hx hb dX11_type_11 (by decide) ?_
    subst hQ
    exact x_iret (u := (tape, tmany)) hC hI hr hlk hw rfl dX11_type_12

def wX11_here  (tape : Nat → Int32) (tmany : Int32) (mat : Int32) (post : Int32 → Prop) : Prop := ((tmany ≤ mat → post (0 : Int32)) ∧ (¬ tmany ≤ mat → vp_in mat 90 ∧ post (tape mat.toNatClampNeg)))
def rmX11_here : Room := { frames := 0, cells := 0, slots := 0, locals := 0 }
theorem kX11_here_0 : Cond.fieldLink RX11 252 "GoreGlobeModel" "at" "I" ∈ wsX11_here := List.mem_cons_of_mem _ (List.mem_append_left _ (List.mem_of_getElem? (i := 0) rfl))
theorem kX11_here_cX11 : ∀ w ∈ wsX110, w ∈ wsX11_here := fun _ h => List.mem_cons_of_mem _ (List.mem_append_right _ h)
theorem kX11_here_2 : Cond.fieldLink RX11 249 "GoreGlobeModel" "tapeMany" "I" ∈ wsX11_here := List.mem_cons_of_mem _ (List.mem_append_left _ (List.mem_of_getElem? (i := 1) rfl))
theorem kX11_here_3 : Cond.fieldLink RX11 26 "GoreGlobeModel" "tape" "[I" ∈ wsX11_here := List.mem_cons_of_mem _ (List.mem_append_left _ (List.mem_of_getElem? (i := 2) rfl))
set_option maxHeartbeats 4000000 in
set_option maxRecDepth 100000 in
theorem mX11_here (l : Launch) (D : va_G) (K : Nat → ClassId) (h : Nat → Nat) (sz : Nat)  (st : Nat → Int32) (past : Nat → Int32) (acts : Int32) (image : Nat → Int32) (ipast : Nat → Int32) (iacts : Int32) (tape : Nat → Int32) (tmany : Int32) (laneOf : Nat → Int32) (sizeOf : Nat → Int32) (items : Nat → Int64) (seaFirst : Nat → Int32) (worstOf : Nat → Int32) (farTo : Nat → Int32) (stepsTo : Nat → Int32) (needs : Nat → Int32) (nmany : Int32) (mat : Int32) (told : Nat → Int32)  {post : Int32 → Prop} (hw : wX11_here  tape tmany mat post) : Met l yX11_here wsX11_here rmX11_here (va_Pc [.ref (h 0)] (cP D K (fl [wMo K h st past acts image ipast iacts tape tmany laneOf sizeOf items seaFirst worstOf farTo stepsTo needs nmany mat told]) sz)) (va_Qi (fun (r : Int32) (u : Unit) => post r) (fun u t => cQ D K (fl [wMo K h st past acts image ipast iacts tape tmany laneOf sizeOf items seaFirst worstOf farTo stepsTo needs nmany mat told]) (va_A (fl [wMo K h st past acts image ipast iacts tape tmany laneOf sizeOf items seaFirst worstOf farTo stepsTo needs nmany mat told]) sz) t) (va_A (fl [wMo K h st past acts image ipast iacts tape tmany laneOf sizeOf items seaFirst worstOf farTo stepsTo needs nmany mat told]) sz)) 0 0 (va_A (fl [wMo K h st past acts image ipast iacts tape tmany laneOf sizeOf items seaFirst worstOf farTo stepsTo needs nmany mat told]) sz) := by
  refine x_entry (cc := cX11_here) (maxL := 1) (ret := (some .int)) (QA := fun A => va_Qi (fun (r : Int32) (u : Unit) => post r) (fun u t => cQ D K (fl [wMo K h st past acts image ipast iacts tape tmany laneOf sizeOf items seaFirst worstOf farTo stepsTo needs nmany mat told]) A t) A) (plainFor_of_name (by decide)) rfl (Nat.le_of_ble_eq_true rfl) ?_
  intro p e s m args below meth c A ls H Q hQ hC hlk hr hnm hI hl
  obtain ⟨hx, hb, hml, hown, hts, hK, hA, hZ⟩ := id hC
  obtain ⟨locs, hlocs⟩ : ∃ y : List Loc, y = [] := ⟨_, rfl⟩
  rw [← hlocs] at hI ⊢
  clear hlocs
  replace hl : lv_has ls 1 [(0, .ref (h 0))] := hl
  replace hw : ((tmany ≤ mat → post (0 : Int32)) ∧ (¬ tmany ≤ mat → vp_in mat 90 ∧ post (tape mat.toNatClampNeg))) := hw
  refine lv_aload_n hx hb dX11_here_0 rfl (lv_at hl 0 rfl) ?_
  refine x_get (v := .int mat) hC hI kX11_here_cX11 0 rfl rfl 17 (by decide) kX11_here_0 rfl rfl dX11_here_1 ?_
  refine lv_aload_n hx hb dX11_here_4 rfl (lv_at hl 0 rfl) ?_
  refine x_get (v := .int tmany) hC hI kX11_here_cX11 0 rfl rfl 7 (by decide) kX11_here_2 rfl rfl dX11_here_5 ?_
  refine lv_icmp_ge (tgt := 23) hx hb dX11_here_8 (by decide) (fun c1 => ?_) (fun c1 => ?_)
  · replace hw := hw.1 c1
    refine lv_iconst (v := (0 : Int32)) hx hb dX11_here_23 (by decide) ?_
    subst hQ
    exact x_iret (u := ()) hC hI hr hlk hw rfl dX11_here_24
  · replace hw := hw.2 c1
    refine lv_aload_n hx hb dX11_here_11 rfl (lv_at hl 0 rfl) ?_
    refine x_get (v := .ref (h 5)) hC hI kX11_here_cX11 0 rfl rfl 6 (by decide) kX11_here_3 rfl rfl dX11_here_12 ?_
    refine lv_aload_n hx hb dX11_here_15 rfl (lv_at hl 0 rfl) ?_
    refine x_get (v := .int mat) hC hI kX11_here_cX11 0 rfl rfl 17 (by decide) kX11_here_0 rfl rfl dX11_here_16 ?_
    obtain ⟨hc2, hw⟩ := hw
    refine x_iald (f := tape) hC hI 5 rfl hc2 dX11_here_19 ?_
    refine lv_goto (tgt := 24) hx hb dX11_here_20 (by decide) ?_
    subst hQ
    exact x_iret (u := ()) hC hI hr hlk hw rfl dX11_here_24
