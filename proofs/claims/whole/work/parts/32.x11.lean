def wX11_flat (a1 : Int32) (a2 : Int32) (a3 : Int32) (st : Nat → Int32) (post : Int32 → Prop) : Prop := wX11_isPlace a1 a2 (fun (r1 : Int32) => ((r1 = 0 → post (-1 : Int32)) ∧ (¬ r1 = 0 → wX11_in a3 (0 : Int32) (4 : Int32) (fun (r3 : Int32) => ((r3 = 0 → post (-1 : Int32)) ∧ (¬ r3 = 0 → ∃ J37 : Int32 → Prop, (∀ (t_37 : Int32), J37 t_37 → ((t_37 = 0 → post (-4 : Int32)) ∧ (¬ t_37 = 0 → wX11_numberOf a1 a2 (fun (r6 : Int32) => wX11_flatOf r6 a3 st (fun (r7 : Int32) => post r7))))) ∧ (((3 : Int32) ≤ a3 → wX11_isOnCap a1 st (fun (r9 : Int32) => J37 r9)) ∧ (¬ (3 : Int32) ≤ a3 → wX11_isOnStrips a1 st (fun (r10 : Int32) => J37 r10)))))))))
def rmX11_flat : Room := { frames := 8, cells := 0, slots := 0, locals := 173 }
set_option maxHeartbeats 4000000 in
set_option maxRecDepth 100000 in
theorem mX11_flat (l : Launch) (D : va_G) (K : Nat → ClassId) (h : Nat → Nat) (sz : Nat) (a1 : Int32) (a2 : Int32) (a3 : Int32) (st : Nat → Int32) (past : Nat → Int32) (acts : Int32) (image : Nat → Int32) (ipast : Nat → Int32) (iacts : Int32) (tape : Nat → Int32) (tmany : Int32) (laneOf : Nat → Int32) (sizeOf : Nat → Int32) (items : Nat → Int64) (seaFirst : Nat → Int32) (worstOf : Nat → Int32) (farTo : Nat → Int32) (stepsTo : Nat → Int32) (needs : Nat → Int32) (nmany : Int32) (mat : Int32) (told : Nat → Int32)  {post : Int32 → Prop} (hw : wX11_flat a1 a2 a3 st post) : Met l yX11_flat wsX11_flat rmX11_flat (va_Pc [.ref (h 0), .int a1, .int a2, .int a3] (cP D K (fl [wMo K h st past acts image ipast iacts tape tmany laneOf sizeOf items seaFirst worstOf farTo stepsTo needs nmany mat told]) sz)) (va_Qi (fun (r : Int32) (u : Unit) => post r) (fun u t => cQ D K (fl [wMo K h st past acts image ipast iacts tape tmany laneOf sizeOf items seaFirst worstOf farTo stepsTo needs nmany mat told]) (va_A (fl [wMo K h st past acts image ipast iacts tape tmany laneOf sizeOf items seaFirst worstOf farTo stepsTo needs nmany mat told]) sz) t) (va_A (fl [wMo K h st past acts image ipast iacts tape tmany laneOf sizeOf items seaFirst worstOf farTo stepsTo needs nmany mat told]) sz)) 0 0 (va_A (fl [wMo K h st past acts image ipast iacts tape tmany laneOf sizeOf items seaFirst worstOf farTo stepsTo needs nmany mat told]) sz) := by
  refine x_entry (cc := cX11_flat) (maxL := 5) (ret := (some .int)) (QA := fun A => va_Qi (fun (r : Int32) (u : Unit) => post r) (fun u t => cQ D K (fl [wMo K h st past acts image ipast iacts tape tmany laneOf sizeOf items seaFirst worstOf farTo stepsTo needs nmany mat told]) A t) A) (plainFor_of_name (by decide)) rfl (Nat.le_of_ble_eq_true rfl) ?_
  intro p e s m args below meth c A ls H Q hQ hC hlk hr hnm hI hl
  obtain ⟨hx, hb, hml, hown, hts, hK, hA, hZ⟩ := id hC
  obtain ⟨locs, hlocs⟩ : ∃ y : List Loc, y = [] := ⟨_, rfl⟩
  rw [← hlocs] at hI ⊢
  clear hlocs
  replace hl : lv_has ls 5 [(0, .ref (h 0)), (1, .int a1), (2, .int a2), (3, .int a3)] := hl
  replace hw : wX11_isPlace a1 a2 (fun (r1 : Int32) => ((r1 = 0 → post (-1 : Int32)) ∧ (¬ r1 = 0 → wX11_in a3 (0 : Int32) (4 : Int32) (fun (r3 : Int32) => ((r3 = 0 → post (-1 : Int32)) ∧ (¬ r3 = 0 → ∃ J37 : Int32 → Prop, (∀ (t_37 : Int32), J37 t_37 → ((t_37 = 0 → post (-4 : Int32)) ∧ (¬ t_37 = 0 → wX11_numberOf a1 a2 (fun (r6 : Int32) => wX11_flatOf r6 a3 st (fun (r7 : Int32) => post r7))))) ∧ (((3 : Int32) ≤ a3 → wX11_isOnCap a1 st (fun (r9 : Int32) => J37 r9)) ∧ (¬ (3 : Int32) ≤ a3 → wX11_isOnStrips a1 st (fun (r10 : Int32) => J37 r10))))))))) := hw
  refine lv_iload_n hx hb dX11_flat_0 rfl (lv_at hl 1 rfl) ?_
  refine lv_iload_n hx hb dX11_flat_1 rfl (lv_at hl 2 rfl) ?_
  refine x_callSi (rest := []) hC hI [] (mX11_isPlace l D K  _ a1 a2 hw) (va_cwS 2 hts gX11_flat_X11_isPlace rfl rfl rfl (by decide +kernel) ⟨(Nat.le_of_ble_eq_true rfl), (Nat.le_of_ble_eq_true rfl)⟩) (by decide) rfl (fun _ => rfl) rfl hl.1 rfl (Nat.le_of_ble_eq_true rfl) dX11_flat_2 ⟨(Nat.le_of_ble_eq_true rfl), (Nat.le_of_ble_eq_true rfl)⟩ (fun r1 u H locs hw hI => ?_)
  try dsimp only at hw
  have hI : wI s D A (fl [wMo K h st past acts image ipast iacts tape tmany laneOf sizeOf items seaFirst worstOf farTo stepsTo needs nmany mat told]) H locs := hI
  refine lv_if_eq (tgt := 17) hx hb dX11_flat_5 (by decide) (fun c2 => ?_) (fun c2 => ?_)
  · replace hw := hw.1 c2
    refine lv_iconst (v := (-1 : Int32)) hx hb dX11_flat_17 (by decide) ?_
    subst hQ
    exact x_iret (u := ()) hC hI hr hlk hw rfl dX11_flat_18
  · replace hw := hw.2 c2
    refine lv_iload_n hx hb dX11_flat_8 rfl (lv_at hl 3 rfl) ?_
    refine lv_iconst (v := (0 : Int32)) hx hb dX11_flat_9 (by decide) ?_
    refine lv_iconst (v := (4 : Int32)) hx hb dX11_flat_10 (by decide) ?_
    refine x_callSi (rest := []) hC hI [] (mX11_in l D K  _ a3 (0 : Int32) (4 : Int32) hw) (va_cwS 3 hts gX11_flat_X11_in rfl rfl rfl (by decide +kernel) ⟨(Nat.le_of_ble_eq_true rfl), (Nat.le_of_ble_eq_true rfl)⟩) (by decide) rfl (fun _ => rfl) rfl hl.1 rfl (Nat.le_of_ble_eq_true rfl) dX11_flat_11 ⟨(Nat.le_of_ble_eq_true rfl), (Nat.le_of_ble_eq_true rfl)⟩ (fun r3 u H locs hw hI => ?_)
    try dsimp only at hw
    have hI : wI s D A (fl [wMo K h st past acts image ipast iacts tape tmany laneOf sizeOf items seaFirst worstOf farTo stepsTo needs nmany mat told]) H locs := hI
    refine lv_if_ne (tgt := 19) hx hb dX11_flat_14 (by decide) (fun c4 => ?_) (fun c4 => ?_)
    · replace hw := hw.2 c4
      refine lv_iload_n hx hb dX11_flat_19 rfl (lv_at hl 3 rfl) ?_
      refine lv_iconst (v := (3 : Int32)) hx hb dX11_flat_20 (by decide) ?_
      obtain ⟨J37, hJ37, hw⟩ := hw
      have jn37 : ∀ (t_37 : Int32) (ls : Array Slot) (H : Heap) (locs : List Loc), J37 t_37 → wI s D A (fl [wMo K h st past acts image ipast iacts tape tmany laneOf sizeOf items seaFirst worstOf farTo stepsTo needs nmany mat told]) H locs → lv_has ls 5 [(0, .ref (h 0)), (1, .int a1), (2, .int a2), (3, .int a3)] → W p l e rmX11_flat s m args below meth c H locs 0 0 Q (F0 m 37 ls [.int t_37]) := by
        intro t_37 ls H locs hw hI hl
        replace hw := hJ37 t_37 hw
        refine lv_istore (lv' := [(4, .int t_37), (0, .ref (h 0)), (1, .int a1), (2, .int a2), (3, .int a3)]) hx hb dX11_flat_37 hl (by decide) rfl (fun ls hl => ?_)
        refine lv_iload hx hb dX11_flat_39 (lv_at hl 0 rfl) ?_
        refine lv_if_eq (tgt := 57) hx hb dX11_flat_41 (by decide) (fun c5 => ?_) (fun c5 => ?_)
        · replace hw := hw.1 c5
          refine lv_bipush (v := (-4 : Int32)) hx hb dX11_flat_57 (by decide) ?_
          subst hQ
          exact x_iret (u := ()) hC hI hr hlk hw rfl dX11_flat_59
        · replace hw := hw.2 c5
          refine lv_aload_n hx hb dX11_flat_44 rfl (lv_at hl 1 rfl) ?_
          refine lv_iload_n hx hb dX11_flat_45 rfl (lv_at hl 2 rfl) ?_
          refine lv_iload_n hx hb dX11_flat_46 rfl (lv_at hl 3 rfl) ?_
          refine x_callSi (rest := [.ref (h 0)]) hC hI [] (mX11_numberOf l D K  _ a1 a2 hw) (va_cwS 2 hts gX11_flat_X11_numberOf rfl rfl rfl (by decide +kernel) ⟨(Nat.le_of_ble_eq_true rfl), (Nat.le_of_ble_eq_true rfl)⟩) (by decide) rfl (fun _ => rfl) rfl hl.1 rfl (Nat.le_of_ble_eq_true rfl) dX11_flat_47 ⟨(Nat.le_of_ble_eq_true rfl), (Nat.le_of_ble_eq_true rfl)⟩ (fun r6 u H locs hw hI => ?_)
          try dsimp only at hw
          have hI : wI s D A (fl [wMo K h st past acts image ipast iacts tape tmany laneOf sizeOf items seaFirst worstOf farTo stepsTo needs nmany mat told]) H locs := hI
          refine lv_iload_n hx hb dX11_flat_50 rfl (lv_at hl 4 rfl) ?_
          refine x_callWi (rest := []) hC hI (mX11_flatOf l D K h _ r6 a3 st past acts image ipast iacts tape tmany laneOf sizeOf items seaFirst worstOf farTo stepsTo needs nmany mat told hw) (cwV 2 hts gX11_flat_X11_flatOf rfl rfl rfl (by decide +kernel) ⟨(Nat.le_of_ble_eq_true rfl), (Nat.le_of_ble_eq_true rfl)⟩) (fun _ => rfl) 0 9 rfl rfl rfl rfl hl.1 rfl (Nat.le_of_ble_eq_true rfl) dX11_flat_51 ⟨(Nat.le_of_ble_eq_true rfl), (Nat.le_of_ble_eq_true rfl)⟩ (fun r7 u H locs hw hI => ?_)
          try dsimp only at hw
          have hI : wI s D A (fl [wMo K h st past acts image ipast iacts tape tmany laneOf sizeOf items seaFirst worstOf farTo stepsTo needs nmany mat told]) H locs := hI
          refine lv_goto (tgt := 59) hx hb dX11_flat_54 (by decide) ?_
          subst hQ
          exact x_iret (u := ()) hC hI hr hlk hw rfl dX11_flat_59
      refine lv_icmp_ge (tgt := 32) hx hb dX11_flat_21 (by decide) (fun c8 => ?_) (fun c8 => ?_)
      · replace hw := hw.1 c8
        refine lv_aload_n hx hb dX11_flat_32 rfl (lv_at hl 0 rfl) ?_
        refine lv_iload_n hx hb dX11_flat_33 rfl (lv_at hl 1 rfl) ?_
        refine x_callWi (rest := []) hC hI (mX11_isOnCap l D K h _ a1 st past acts image ipast iacts tape tmany laneOf sizeOf items seaFirst worstOf farTo stepsTo needs nmany mat told hw) (cwV 1 hts gX11_flat_X11_isOnCap rfl rfl rfl (by decide +kernel) ⟨(Nat.le_of_ble_eq_true rfl), (Nat.le_of_ble_eq_true rfl)⟩) (fun _ => rfl) 0 9 rfl rfl rfl rfl hl.1 rfl (Nat.le_of_ble_eq_true rfl) dX11_flat_34 ⟨(Nat.le_of_ble_eq_true rfl), (Nat.le_of_ble_eq_true rfl)⟩ (fun r9 u H locs hw hI => ?_)
        try dsimp only at hw
        have hI : wI s D A (fl [wMo K h st past acts image ipast iacts tape tmany laneOf sizeOf items seaFirst worstOf farTo stepsTo needs nmany mat told]) H locs := hI
        exact jn37 r9 ls H locs hw hI (lv_sub hl [0, 1, 2, 3] rfl)
      · replace hw := hw.2 c8
        refine lv_aload_n hx hb dX11_flat_24 rfl (lv_at hl 0 rfl) ?_
        refine lv_iload_n hx hb dX11_flat_25 rfl (lv_at hl 1 rfl) ?_
        refine x_callWi (rest := []) hC hI (mX11_isOnStrips l D K h _ a1 st past acts image ipast iacts tape tmany laneOf sizeOf items seaFirst worstOf farTo stepsTo needs nmany mat told hw) (cwV 1 hts gX11_flat_X11_isOnStrips rfl rfl rfl (by decide +kernel) ⟨(Nat.le_of_ble_eq_true rfl), (Nat.le_of_ble_eq_true rfl)⟩) (fun _ => rfl) 0 9 rfl rfl rfl rfl hl.1 rfl (Nat.le_of_ble_eq_true rfl) dX11_flat_26 ⟨(Nat.le_of_ble_eq_true rfl), (Nat.le_of_ble_eq_true rfl)⟩ (fun r10 u H locs hw hI => ?_)
        try dsimp only at hw
        have hI : wI s D A (fl [wMo K h st past acts image ipast iacts tape tmany laneOf sizeOf items seaFirst worstOf farTo stepsTo needs nmany mat told]) H locs := hI
        refine lv_goto (tgt := 37) hx hb dX11_flat_29 (by decide) ?_
        exact jn37 r10 ls H locs hw hI (lv_sub hl [0, 1, 2, 3] rfl)
    · replace hw := hw.1 c4
      refine lv_iconst (v := (-1 : Int32)) hx hb dX11_flat_17 (by decide) ?_
      subst hQ
      exact x_iret (u := ()) hC hI hr hlk hw rfl dX11_flat_18

def wX11_onStrips (a1 : Int32) (a2 : Int32) (st : Nat → Int32) (post : Int32 → Prop) : Prop := ¬ ((2 : Int32) * (st 266)) = 0 ∧ ∀ x2 : Int32, x2 = ((a2 + (st 266)) / ((2 : Int32) * (st 266))) - (6 : Int32) → wX11_wide st (fun (r3 : Int32) => ¬ (((2 : Int32) * r3) * (st 266)) = 0 ∧ ∀ x5 : Int32, x5 = a1 / (((2 : Int32) * r3) * (st 266)) → ∃ J66 : Int32 → Prop, (∀ (t_66 : Int32), J66 t_66 → wX11_wide st (fun (r6 : Int32) => ∀ x7 : Int32, x7 = ((((2 : Int32) * t_66) + (1 : Int32)) * r6) * (st 266) → wX11_isOnStrips x2 st (fun (r8 : Int32) => ((r8 = 0 → post (-4 : Int32)) ∧ (¬ r8 = 0 → wX11_size (a1 - x7) (fun (r10 : Int32) => wX11_wide st (fun (r11 : Int32) => wX11_wideOf x2 (fun (r12 : Int32) => ((r10 ≤ (((r11 * (st 266)) * r12) / (10000 : Int32)) → (∃ (I139 : Int32 → Int32 → Prop) (mu139 : Int32 → Int32 → Nat), I139 (0 : Int32) (1 : Int32) ∧ ∀ (l6_139 : Int32) (l7_139 : Int32), I139 l6_139 l7_139 → wX11_wide st (fun (r14 : Int32) => ((r14 < l7_139 → wX11_wide st (fun (r16 : Int32) => wX11_numberOf x2 (((t_66 * r16) + l6_139) - ((t_66 * r16) + l6_139) / (24 : Int32) * (24 : Int32)) (fun (r17 : Int32) => post r17))) ∧ (¬ r14 < l7_139 → wX11_across t_66 l7_139 x2 st (fun (r18 : Int32) => wX11_size (a1 - r18) (fun (r19 : Int32) => wX11_across t_66 l6_139 x2 st (fun (r20 : Int32) => wX11_size (a1 - r20) (fun (r21 : Int32) => ((r21 ≤ r19 → ∀ x23 : Int32, x23 = l7_139 + 1 → (I139 l6_139 x23 ∧ mu139 l6_139 x23 < mu139 l6_139 l7_139)) ∧ (¬ r21 ≤ r19 → ∀ x24 : Int32, x24 = l7_139 + 1 → (I139 l7_139 x24 ∧ mu139 l7_139 x24 < mu139 l6_139 l7_139)))))))))))) ∧ (¬ r10 ≤ (((r11 * (st 266)) * r12) / (10000 : Int32)) → post (-4 : Int32))))))))))) ∧ ((x5 = (st 267) → J66 (x5 - (1 : Int32))) ∧ (¬ x5 = (st 267) → J66 x5)))
def rmX11_onStrips : Room := { frames := 6, cells := 0, slots := 0, locals := 129 }
theorem kX11_onStrips_0 : Cond.fieldLink RX11 7 "GoreGlobeModel" "st" "[I" ∈ wsX11_onStrips := List.mem_cons_of_mem _ (List.mem_append_left _ (List.mem_append_left _ (List.mem_of_getElem? (i := 0) rfl)))
theorem kX11_onStrips_cX11 : ∀ w ∈ wsX110, w ∈ wsX11_onStrips := fun _ h => List.mem_cons_of_mem _ (List.mem_append_right _ h)
set_option maxHeartbeats 4000000 in
set_option maxRecDepth 100000 in
theorem mX11_onStrips (l : Launch) (D : va_G) (K : Nat → ClassId) (h : Nat → Nat) (sz : Nat) (a1 : Int32) (a2 : Int32) (st : Nat → Int32) (past : Nat → Int32) (acts : Int32) (image : Nat → Int32) (ipast : Nat → Int32) (iacts : Int32) (tape : Nat → Int32) (tmany : Int32) (laneOf : Nat → Int32) (sizeOf : Nat → Int32) (items : Nat → Int64) (seaFirst : Nat → Int32) (worstOf : Nat → Int32) (farTo : Nat → Int32) (stepsTo : Nat → Int32) (needs : Nat → Int32) (nmany : Int32) (mat : Int32) (told : Nat → Int32)  {post : Int32 → Prop} (hw : wX11_onStrips a1 a2 st post) : Met l yX11_onStrips wsX11_onStrips rmX11_onStrips (va_Pc [.ref (h 0), .int a1, .int a2] (cP D K (fl [wMo K h st past acts image ipast iacts tape tmany laneOf sizeOf items seaFirst worstOf farTo stepsTo needs nmany mat told]) sz)) (va_Qi (fun (r : Int32) (u : Unit) => post r) (fun u t => cQ D K (fl [wMo K h st past acts image ipast iacts tape tmany laneOf sizeOf items seaFirst worstOf farTo stepsTo needs nmany mat told]) (va_A (fl [wMo K h st past acts image ipast iacts tape tmany laneOf sizeOf items seaFirst worstOf farTo stepsTo needs nmany mat told]) sz) t) (va_A (fl [wMo K h st past acts image ipast iacts tape tmany laneOf sizeOf items seaFirst worstOf farTo stepsTo needs nmany mat told]) sz)) 0 0 (va_A (fl [wMo K h st past acts image ipast iacts tape tmany laneOf sizeOf items seaFirst worstOf farTo stepsTo needs nmany mat told]) sz) := by
  refine x_entry (cc := cX11_onStrips) (maxL := 9) (ret := (some .int)) (QA := fun A => va_Qi (fun (r : Int32) (u : Unit) => post r) (fun u t => cQ D K (fl [wMo K h st past acts image ipast iacts tape tmany laneOf sizeOf items seaFirst worstOf farTo stepsTo needs nmany mat told]) A t) A) (plainFor_of_name (by decide)) rfl (Nat.le_of_ble_eq_true rfl) ?_
  intro p e s m args below meth c A ls H Q hQ hC hlk hr hnm hI hl
  obtain ⟨hx, hb, hml, hown, hts, hK, hA, hZ⟩ := id hC
  obtain ⟨locs, hlocs⟩ : ∃ y : List Loc, y = [] := ⟨_, rfl⟩
  rw [← hlocs] at hI ⊢
  clear hlocs
  replace hl : lv_has ls 9 [(0, .ref (h 0)), (1, .int a1), (2, .int a2)] := hl
  replace hw : ¬ ((2 : Int32) * (st 266)) = 0 ∧ ∀ x2 : Int32, x2 = ((a2 + (st 266)) / ((2 : Int32) * (st 266))) - (6 : Int32) → wX11_wide st (fun (r3 : Int32) => ¬ (((2 : Int32) * r3) * (st 266)) = 0 ∧ ∀ x5 : Int32, x5 = a1 / (((2 : Int32) * r3) * (st 266)) → ∃ J66 : Int32 → Prop, (∀ (t_66 : Int32), J66 t_66 → wX11_wide st (fun (r6 : Int32) => ∀ x7 : Int32, x7 = ((((2 : Int32) * t_66) + (1 : Int32)) * r6) * (st 266) → wX11_isOnStrips x2 st (fun (r8 : Int32) => ((r8 = 0 → post (-4 : Int32)) ∧ (¬ r8 = 0 → wX11_size (a1 - x7) (fun (r10 : Int32) => wX11_wide st (fun (r11 : Int32) => wX11_wideOf x2 (fun (r12 : Int32) => ((r10 ≤ (((r11 * (st 266)) * r12) / (10000 : Int32)) → (∃ (I139 : Int32 → Int32 → Prop) (mu139 : Int32 → Int32 → Nat), I139 (0 : Int32) (1 : Int32) ∧ ∀ (l6_139 : Int32) (l7_139 : Int32), I139 l6_139 l7_139 → wX11_wide st (fun (r14 : Int32) => ((r14 < l7_139 → wX11_wide st (fun (r16 : Int32) => wX11_numberOf x2 (((t_66 * r16) + l6_139) - ((t_66 * r16) + l6_139) / (24 : Int32) * (24 : Int32)) (fun (r17 : Int32) => post r17))) ∧ (¬ r14 < l7_139 → wX11_across t_66 l7_139 x2 st (fun (r18 : Int32) => wX11_size (a1 - r18) (fun (r19 : Int32) => wX11_across t_66 l6_139 x2 st (fun (r20 : Int32) => wX11_size (a1 - r20) (fun (r21 : Int32) => ((r21 ≤ r19 → ∀ x23 : Int32, x23 = l7_139 + 1 → (I139 l6_139 x23 ∧ mu139 l6_139 x23 < mu139 l6_139 l7_139)) ∧ (¬ r21 ≤ r19 → ∀ x24 : Int32, x24 = l7_139 + 1 → (I139 l7_139 x24 ∧ mu139 l7_139 x24 < mu139 l6_139 l7_139)))))))))))) ∧ (¬ r10 ≤ (((r11 * (st 266)) * r12) / (10000 : Int32)) → post (-4 : Int32))))))))))) ∧ ((x5 = (st 267) → J66 (x5 - (1 : Int32))) ∧ (¬ x5 = (st 267) → J66 x5))) := hw
  refine lv_iload_n hx hb dX11_onStrips_0 rfl (lv_at hl 2 rfl) ?_
  refine lv_aload_n hx hb dX11_onStrips_1 rfl (lv_at hl 0 rfl) ?_
  refine x_get (v := .ref (h 1)) hC hI kX11_onStrips_cX11 0 rfl rfl 0 (by decide) kX11_onStrips_0 rfl rfl dX11_onStrips_2 ?_
  refine lv_sipush (v := (266 : Int32)) hx hb dX11_onStrips_5 (by decide) ?_
  refine x_iald (f := st) hC hI 1 rfl (by unfold vp_in; decide) dX11_onStrips_8 ?_
  refine lv_iadd hx hb dX11_onStrips_9 ?_
  refine lv_iconst (v := (2 : Int32)) hx hb dX11_onStrips_10 (by decide) ?_
  refine lv_aload_n hx hb dX11_onStrips_11 rfl (lv_at hl 0 rfl) ?_
  refine x_get (v := .ref (h 1)) hC hI kX11_onStrips_cX11 0 rfl rfl 0 (by decide) kX11_onStrips_0 rfl rfl dX11_onStrips_12 ?_
  refine lv_sipush (v := (266 : Int32)) hx hb dX11_onStrips_15 (by decide) ?_
  refine x_iald (f := st) hC hI 1 rfl (by unfold vp_in; decide) dX11_onStrips_18 ?_
  refine lv_imul hx hb dX11_onStrips_19 ?_
  obtain ⟨hc1, hw⟩ := hw
  refine lv_idiv hx hb dX11_onStrips_20 hc1 ?_
  refine lv_bipush (v := (6 : Int32)) hx hb dX11_onStrips_21 (by decide) ?_
  refine lv_isub hx hb dX11_onStrips_23 ?_
  refine lv_topi (fun x2 ex2 => ?_)
  replace hw := hw x2 ex2
  refine lv_istore_n (lv' := [(3, .int x2), (0, .ref (h 0)), (1, .int a1), (2, .int a2)]) hx hb dX11_onStrips_24 rfl hl (by decide) rfl (fun ls hl => ?_)
  refine lv_iload_n hx hb dX11_onStrips_25 rfl (lv_at hl 2 rfl) ?_
  refine lv_iconst (v := (2 : Int32)) hx hb dX11_onStrips_26 (by decide) ?_
  refine lv_aload_n hx hb dX11_onStrips_27 rfl (lv_at hl 1 rfl) ?_
  refine x_callWi (rest := [.int (2 : Int32), .int a1]) hC hI (mX11_wide l D K h _ st past acts image ipast iacts tape tmany laneOf sizeOf items seaFirst worstOf farTo stepsTo needs nmany mat told hw) (cwV 0 hts gX11_onStrips_X11_wide rfl rfl rfl (by decide +kernel) ⟨(Nat.le_of_ble_eq_true rfl), (Nat.le_of_ble_eq_true rfl)⟩) (fun _ => rfl) 0 9 rfl rfl rfl rfl hl.1 rfl (Nat.le_of_ble_eq_true rfl) dX11_onStrips_28 ⟨(Nat.le_of_ble_eq_true rfl), (Nat.le_of_ble_eq_true rfl)⟩ (fun r3 u H locs hw hI => ?_)
  try dsimp only at hw
  have hI : wI s D A (fl [wMo K h st past acts image ipast iacts tape tmany laneOf sizeOf items seaFirst worstOf farTo stepsTo needs nmany mat told]) H locs := hI
  refine lv_imul hx hb dX11_onStrips_31 ?_
  refine lv_aload_n hx hb dX11_onStrips_32 rfl (lv_at hl 1 rfl) ?_
  refine x_get (v := .ref (h 1)) hC hI kX11_onStrips_cX11 0 rfl rfl 0 (by decide) kX11_onStrips_0 rfl rfl dX11_onStrips_33 ?_
  refine lv_sipush (v := (266 : Int32)) hx hb dX11_onStrips_36 (by decide) ?_
  refine x_iald (f := st) hC hI 1 rfl (by unfold vp_in; decide) dX11_onStrips_39 ?_
  refine lv_imul hx hb dX11_onStrips_40 ?_
  obtain ⟨hc4, hw⟩ := hw
  refine lv_idiv hx hb dX11_onStrips_41 hc4 ?_
  refine lv_topi (fun x5 ex5 => ?_)
  replace hw := hw x5 ex5
  refine lv_istore (lv' := [(4, .int x5), (3, .int x2), (0, .ref (h 0)), (1, .int a1), (2, .int a2)]) hx hb dX11_onStrips_42 hl (by decide) rfl (fun ls hl => ?_)
  refine lv_iload hx hb dX11_onStrips_44 (lv_at hl 0 rfl) ?_
  refine lv_aload_n hx hb dX11_onStrips_46 rfl (lv_at hl 2 rfl) ?_
  refine x_get (v := .ref (h 1)) hC hI kX11_onStrips_cX11 0 rfl rfl 0 (by decide) kX11_onStrips_0 rfl rfl dX11_onStrips_47 ?_
  refine lv_sipush (v := (267 : Int32)) hx hb dX11_onStrips_50 (by decide) ?_
  refine x_iald (f := st) hC hI 1 rfl (by unfold vp_in; decide) dX11_onStrips_53 ?_
  obtain ⟨J66, hJ66, hw⟩ := hw
  have jn66 : ∀ (t_66 : Int32) (ls : Array Slot) (H : Heap) (locs : List Loc), J66 t_66 → wI s D A (fl [wMo K h st past acts image ipast iacts tape tmany laneOf sizeOf items seaFirst worstOf farTo stepsTo needs nmany mat told]) H locs → lv_has ls 9 [(0, .ref (h 0)), (1, .int a1), (3, .int x2)] → W p l e rmX11_onStrips s m args below meth c H locs 0 0 Q (F0 m 66 ls [.int t_66]) := by
    intro t_66 ls H locs hw hI hl
    replace hw := hJ66 t_66 hw
    refine lv_istore (lv' := [(4, .int t_66), (0, .ref (h 0)), (1, .int a1), (3, .int x2)]) hx hb dX11_onStrips_66 hl (by decide) rfl (fun ls hl => ?_)
    refine lv_iconst (v := (2 : Int32)) hx hb dX11_onStrips_68 (by decide) ?_
    refine lv_iload hx hb dX11_onStrips_69 (lv_at hl 0 rfl) ?_
    refine lv_imul hx hb dX11_onStrips_71 ?_
    refine lv_iconst (v := (1 : Int32)) hx hb dX11_onStrips_72 (by decide) ?_
    refine lv_iadd hx hb dX11_onStrips_73 ?_
    refine lv_aload_n hx hb dX11_onStrips_74 rfl (lv_at hl 1 rfl) ?_
    refine x_callWi (rest := [.int (((2 : Int32) * t_66) + (1 : Int32))]) hC hI (mX11_wide l D K h _ st past acts image ipast iacts tape tmany laneOf sizeOf items seaFirst worstOf farTo stepsTo needs nmany mat told hw) (cwV 0 hts gX11_onStrips_X11_wide rfl rfl rfl (by decide +kernel) ⟨(Nat.le_of_ble_eq_true rfl), (Nat.le_of_ble_eq_true rfl)⟩) (fun _ => rfl) 0 9 rfl rfl rfl rfl hl.1 rfl (Nat.le_of_ble_eq_true rfl) dX11_onStrips_75 ⟨(Nat.le_of_ble_eq_true rfl), (Nat.le_of_ble_eq_true rfl)⟩ (fun r6 u H locs hw hI => ?_)
    try dsimp only at hw
    have hI : wI s D A (fl [wMo K h st past acts image ipast iacts tape tmany laneOf sizeOf items seaFirst worstOf farTo stepsTo needs nmany mat told]) H locs := hI
    refine lv_imul hx hb dX11_onStrips_78 ?_
    refine lv_aload_n hx hb dX11_onStrips_79 rfl (lv_at hl 1 rfl) ?_
    refine x_get (v := .ref (h 1)) hC hI kX11_onStrips_cX11 0 rfl rfl 0 (by decide) kX11_onStrips_0 rfl rfl dX11_onStrips_80 ?_
    refine lv_sipush (v := (266 : Int32)) hx hb dX11_onStrips_83 (by decide) ?_
    refine x_iald (f := st) hC hI 1 rfl (by unfold vp_in; decide) dX11_onStrips_86 ?_
    refine lv_imul hx hb dX11_onStrips_87 ?_
    refine lv_topi (fun x7 ex7 => ?_)
    replace hw := hw x7 ex7
    refine lv_istore (lv' := [(5, .int x7), (4, .int t_66), (0, .ref (h 0)), (1, .int a1), (3, .int x2)]) hx hb dX11_onStrips_88 hl (by decide) rfl (fun ls hl => ?_)
    refine lv_aload_n hx hb dX11_onStrips_90 rfl (lv_at hl 2 rfl) ?_
    refine lv_iload_n hx hb dX11_onStrips_91 rfl (lv_at hl 4 rfl) ?_
    refine x_callWi (rest := []) hC hI (mX11_isOnStrips l D K h _ x2 st past acts image ipast iacts tape tmany laneOf sizeOf items seaFirst worstOf farTo stepsTo needs nmany mat told hw) (cwV 1 hts gX11_onStrips_X11_isOnStrips rfl rfl rfl (by decide +kernel) ⟨(Nat.le_of_ble_eq_true rfl), (Nat.le_of_ble_eq_true rfl)⟩) (fun _ => rfl) 0 9 rfl rfl rfl rfl hl.1 rfl (Nat.le_of_ble_eq_true rfl) dX11_onStrips_92 ⟨(Nat.le_of_ble_eq_true rfl), (Nat.le_of_ble_eq_true rfl)⟩ (fun r8 u H locs hw hI => ?_)
    try dsimp only at hw
    have hI : wI s D A (fl [wMo K h st past acts image ipast iacts tape tmany laneOf sizeOf items seaFirst worstOf farTo stepsTo needs nmany mat told]) H locs := hI
    refine lv_if_eq (tgt := 130) hx hb dX11_onStrips_95 (by decide) (fun c9 => ?_) (fun c9 => ?_)
    · replace hw := hw.1 c9
      refine lv_bipush (v := (-4 : Int32)) hx hb dX11_onStrips_130 (by decide) ?_
      subst hQ
      exact x_iret (u := ()) hC hI hr hlk hw rfl dX11_onStrips_132
    · replace hw := hw.2 c9
      refine lv_iload_n hx hb dX11_onStrips_98 rfl (lv_at hl 3 rfl) ?_
      refine lv_iload hx hb dX11_onStrips_99 (lv_at hl 0 rfl) ?_
      refine lv_isub hx hb dX11_onStrips_101 ?_
      refine x_callSi (rest := []) hC hI [] (mX11_size l D K  _ (a1 - x7) hw) (va_cwS 1 hts gX11_onStrips_X11_size rfl rfl rfl (by decide +kernel) ⟨(Nat.le_of_ble_eq_true rfl), (Nat.le_of_ble_eq_true rfl)⟩) (by decide) rfl (fun _ => rfl) rfl hl.1 rfl (Nat.le_of_ble_eq_true rfl) dX11_onStrips_102 ⟨(Nat.le_of_ble_eq_true rfl), (Nat.le_of_ble_eq_true rfl)⟩ (fun r10 u H locs hw hI => ?_)
      try dsimp only at hw
      have hI : wI s D A (fl [wMo K h st past acts image ipast iacts tape tmany laneOf sizeOf items seaFirst worstOf farTo stepsTo needs nmany mat told]) H locs := hI
      refine lv_aload_n hx hb dX11_onStrips_105 rfl (lv_at hl 2 rfl) ?_
      refine x_callWi (rest := [.int r10]) hC hI (mX11_wide l D K h _ st past acts image ipast iacts tape tmany laneOf sizeOf items seaFirst worstOf farTo stepsTo needs nmany mat told hw) (cwV 0 hts gX11_onStrips_X11_wide rfl rfl rfl (by decide +kernel) ⟨(Nat.le_of_ble_eq_true rfl), (Nat.le_of_ble_eq_true rfl)⟩) (fun _ => rfl) 0 9 rfl rfl rfl rfl hl.1 rfl (Nat.le_of_ble_eq_true rfl) dX11_onStrips_106 ⟨(Nat.le_of_ble_eq_true rfl), (Nat.le_of_ble_eq_true rfl)⟩ (fun r11 u H locs hw hI => ?_)
      try dsimp only at hw
      have hI : wI s D A (fl [wMo K h st past acts image ipast iacts tape tmany laneOf sizeOf items seaFirst worstOf farTo stepsTo needs nmany mat told]) H locs := hI
      refine lv_aload_n hx hb dX11_onStrips_109 rfl (lv_at hl 2 rfl) ?_
      refine x_get (v := .ref (h 1)) hC hI kX11_onStrips_cX11 0 rfl rfl 0 (by decide) kX11_onStrips_0 rfl rfl dX11_onStrips_110 ?_
      refine lv_sipush (v := (266 : Int32)) hx hb dX11_onStrips_113 (by decide) ?_
      refine x_iald (f := st) hC hI 1 rfl (by unfold vp_in; decide) dX11_onStrips_116 ?_
      refine lv_imul hx hb dX11_onStrips_117 ?_
      refine lv_iload_n hx hb dX11_onStrips_118 rfl (lv_at hl 4 rfl) ?_
      refine x_callSi (rest := [.int (r11 * (st 266)), .int r10]) hC hI [] (mX11_wideOf l D K  _ x2 hw) (va_cwS 1 hts gX11_onStrips_X11_wideOf rfl rfl rfl (by decide +kernel) ⟨(Nat.le_of_ble_eq_true rfl), (Nat.le_of_ble_eq_true rfl)⟩) (by decide) rfl (fun _ => rfl) rfl hl.1 rfl (Nat.le_of_ble_eq_true rfl) dX11_onStrips_119 ⟨(Nat.le_of_ble_eq_true rfl), (Nat.le_of_ble_eq_true rfl)⟩ (fun r12 u H locs hw hI => ?_)
      try dsimp only at hw
      have hI : wI s D A (fl [wMo K h st past acts image ipast iacts tape tmany laneOf sizeOf items seaFirst worstOf farTo stepsTo needs nmany mat told]) H locs := hI
      refine lv_imul hx hb dX11_onStrips_122 ?_
      refine lv_sipush (v := (10000 : Int32)) hx hb dX11_onStrips_123 (by decide) ?_
      refine lv_idiv hx hb dX11_onStrips_126 (by decide) ?_
      refine lv_icmp_le (tgt := 133) hx hb dX11_onStrips_127 (by decide) (fun c13 => ?_) (fun c13 => ?_)
      · replace hw := hw.1 c13
        refine lv_iconst (v := (0 : Int32)) hx hb dX11_onStrips_133 (by decide) ?_
        refine lv_istore (lv' := [(6, .int (0 : Int32)), (5, .int x7), (4, .int t_66), (0, .ref (h 0)), (1, .int a1), (3, .int x2)]) hx hb dX11_onStrips_134 hl (by decide) rfl (fun ls hl => ?_)
        refine lv_iconst (v := (1 : Int32)) hx hb dX11_onStrips_136 (by decide) ?_
        refine lv_istore (lv' := [(7, .int (1 : Int32)), (6, .int (0 : Int32)), (5, .int x7), (4, .int t_66), (0, .ref (h 0)), (1, .int a1), (3, .int x2)]) hx hb dX11_onStrips_137 hl (by decide) rfl (fun ls hl => ?_)
        obtain ⟨I139, mu139, hw, hb139⟩ := hw
        have lp139 : ∀ (k : Nat) (l6_139 : Int32) (l7_139 : Int32) (ls : Array Slot) (H : Heap) (locs : List Loc), mu139 l6_139 l7_139 < k → I139 l6_139 l7_139 → wI s D A (fl [wMo K h st past acts image ipast iacts tape tmany laneOf sizeOf items seaFirst worstOf farTo stepsTo needs nmany mat told]) H locs → lv_has ls 9 [(0, .ref (h 0)), (1, .int a1), (3, .int x2), (4, .int t_66), (6, .int l6_139), (7, .int l7_139)] → W p l e rmX11_onStrips s m args below meth c H locs 0 0 Q (F0 m 139 ls []) := by
          intro k
          induction k with
          | zero => intro l6_139 l7_139 ls H locs hmu; exact absurd hmu (Nat.not_lt_zero _)
          | succ k ih139 =>
            intro l6_139 l7_139 ls H locs hmu139 hw hI hl
            replace hw := hb139 l6_139 l7_139 hw
            refine lv_iload hx hb dX11_onStrips_139 (lv_at hl 5 rfl) ?_
            refine lv_aload_n hx hb dX11_onStrips_141 rfl (lv_at hl 0 rfl) ?_
            refine x_callWi (rest := [.int l7_139]) hC hI (mX11_wide l D K h _ st past acts image ipast iacts tape tmany laneOf sizeOf items seaFirst worstOf farTo stepsTo needs nmany mat told hw) (cwV 0 hts gX11_onStrips_X11_wide rfl rfl rfl (by decide +kernel) ⟨(Nat.le_of_ble_eq_true rfl), (Nat.le_of_ble_eq_true rfl)⟩) (fun _ => rfl) 0 9 rfl rfl rfl rfl hl.1 rfl (Nat.le_of_ble_eq_true rfl) dX11_onStrips_142 ⟨(Nat.le_of_ble_eq_true rfl), (Nat.le_of_ble_eq_true rfl)⟩ (fun r14 u H locs hw hI => ?_)
            try dsimp only at hw
            have hI : wI s D A (fl [wMo K h st past acts image ipast iacts tape tmany laneOf sizeOf items seaFirst worstOf farTo stepsTo needs nmany mat told]) H locs := hI
            refine lv_icmp_gt (tgt := 198) hx hb dX11_onStrips_145 (by decide) (fun c15 => ?_) (fun c15 => ?_)
            · replace hw := hw.1 c15
              refine lv_iload_n hx hb dX11_onStrips_198 rfl (lv_at hl 2 rfl) ?_
              refine lv_iload hx hb dX11_onStrips_199 (lv_at hl 3 rfl) ?_
              refine lv_aload_n hx hb dX11_onStrips_201 rfl (lv_at hl 0 rfl) ?_
              refine x_callWi (rest := [.int t_66, .int x2]) hC hI (mX11_wide l D K h _ st past acts image ipast iacts tape tmany laneOf sizeOf items seaFirst worstOf farTo stepsTo needs nmany mat told hw) (cwV 0 hts gX11_onStrips_X11_wide rfl rfl rfl (by decide +kernel) ⟨(Nat.le_of_ble_eq_true rfl), (Nat.le_of_ble_eq_true rfl)⟩) (fun _ => rfl) 0 9 rfl rfl rfl rfl hl.1 rfl (Nat.le_of_ble_eq_true rfl) dX11_onStrips_202 ⟨(Nat.le_of_ble_eq_true rfl), (Nat.le_of_ble_eq_true rfl)⟩ (fun r16 u H locs hw hI => ?_)
              try dsimp only at hw
              have hI : wI s D A (fl [wMo K h st past acts image ipast iacts tape tmany laneOf sizeOf items seaFirst worstOf farTo stepsTo needs nmany mat told]) H locs := hI
              refine lv_imul hx hb dX11_onStrips_205 ?_
              refine lv_iload hx hb dX11_onStrips_206 (lv_at hl 4 rfl) ?_
              refine lv_iadd hx hb dX11_onStrips_208 ?_
              refine lv_bipush (v := (24 : Int32)) hx hb dX11_onStrips_209 (by decide) ?_
              refine lv_irem hx hb dX11_onStrips_211 (by decide) ?_
              refine x_callSi (rest := []) hC hI [] (mX11_numberOf l D K  _ x2 (((t_66 * r16) + l6_139) - ((t_66 * r16) + l6_139) / (24 : Int32) * (24 : Int32)) hw) (va_cwS 2 hts gX11_onStrips_X11_numberOf rfl rfl rfl (by decide +kernel) ⟨(Nat.le_of_ble_eq_true rfl), (Nat.le_of_ble_eq_true rfl)⟩) (by decide) rfl (fun _ => rfl) rfl hl.1 rfl (Nat.le_of_ble_eq_true rfl) dX11_onStrips_212 ⟨(Nat.le_of_ble_eq_true rfl), (Nat.le_of_ble_eq_true rfl)⟩ (fun r17 u H locs hw hI => ?_)
              try dsimp only at hw
              have hI : wI s D A (fl [wMo K h st past acts image ipast iacts tape tmany laneOf sizeOf items seaFirst worstOf farTo stepsTo needs nmany mat told]) H locs := hI
              subst hQ
              exact x_iret (u := ()) hC hI hr hlk hw rfl dX11_onStrips_215
            · replace hw := hw.2 c15
              refine lv_iload_n hx hb dX11_onStrips_148 rfl (lv_at hl 1 rfl) ?_
              refine lv_aload_n hx hb dX11_onStrips_149 rfl (lv_at hl 0 rfl) ?_
              refine lv_iload hx hb dX11_onStrips_150 (lv_at hl 3 rfl) ?_
              refine lv_iload hx hb dX11_onStrips_152 (lv_at hl 5 rfl) ?_
              refine lv_iload_n hx hb dX11_onStrips_154 rfl (lv_at hl 2 rfl) ?_
              refine x_callWi (rest := [.int a1]) hC hI (mX11_across l D K h _ t_66 l7_139 x2 st past acts image ipast iacts tape tmany laneOf sizeOf items seaFirst worstOf farTo stepsTo needs nmany mat told hw) (cwV 3 hts gX11_onStrips_X11_across rfl rfl rfl (by decide +kernel) ⟨(Nat.le_of_ble_eq_true rfl), (Nat.le_of_ble_eq_true rfl)⟩) (fun _ => rfl) 0 9 rfl rfl rfl rfl hl.1 rfl (Nat.le_of_ble_eq_true rfl) dX11_onStrips_155 ⟨(Nat.le_of_ble_eq_true rfl), (Nat.le_of_ble_eq_true rfl)⟩ (fun r18 u H locs hw hI => ?_)
              try dsimp only at hw
              have hI : wI s D A (fl [wMo K h st past acts image ipast iacts tape tmany laneOf sizeOf items seaFirst worstOf farTo stepsTo needs nmany mat told]) H locs := hI
              refine lv_isub hx hb dX11_onStrips_158 ?_
              refine x_callSi (rest := []) hC hI [] (mX11_size l D K  _ (a1 - r18) hw) (va_cwS 1 hts gX11_onStrips_X11_size rfl rfl rfl (by decide +kernel) ⟨(Nat.le_of_ble_eq_true rfl), (Nat.le_of_ble_eq_true rfl)⟩) (by decide) rfl (fun _ => rfl) rfl hl.1 rfl (Nat.le_of_ble_eq_true rfl) dX11_onStrips_159 ⟨(Nat.le_of_ble_eq_true rfl), (Nat.le_of_ble_eq_true rfl)⟩ (fun r19 u H locs hw hI => ?_)
              try dsimp only at hw
              have hI : wI s D A (fl [wMo K h st past acts image ipast iacts tape tmany laneOf sizeOf items seaFirst worstOf farTo stepsTo needs nmany mat told]) H locs := hI
              refine lv_istore (lv' := [(8, .int r19), (0, .ref (h 0)), (1, .int a1), (3, .int x2), (4, .int t_66), (6, .int l6_139), (7, .int l7_139)]) hx hb dX11_onStrips_162 hl (by decide) rfl (fun ls hl => ?_)
              refine lv_iload hx hb dX11_onStrips_164 (lv_at hl 0 rfl) ?_
              refine lv_iload_n hx hb dX11_onStrips_166 rfl (lv_at hl 2 rfl) ?_
              refine lv_aload_n hx hb dX11_onStrips_167 rfl (lv_at hl 1 rfl) ?_
              refine lv_iload hx hb dX11_onStrips_168 (lv_at hl 4 rfl) ?_
              refine lv_iload hx hb dX11_onStrips_170 (lv_at hl 5 rfl) ?_
              refine lv_iload_n hx hb dX11_onStrips_172 rfl (lv_at hl 3 rfl) ?_
              refine x_callWi (rest := [.int a1, .int r19]) hC hI (mX11_across l D K h _ t_66 l6_139 x2 st past acts image ipast iacts tape tmany laneOf sizeOf items seaFirst worstOf farTo stepsTo needs nmany mat told hw) (cwV 3 hts gX11_onStrips_X11_across rfl rfl rfl (by decide +kernel) ⟨(Nat.le_of_ble_eq_true rfl), (Nat.le_of_ble_eq_true rfl)⟩) (fun _ => rfl) 0 9 rfl rfl rfl rfl hl.1 rfl (Nat.le_of_ble_eq_true rfl) dX11_onStrips_173 ⟨(Nat.le_of_ble_eq_true rfl), (Nat.le_of_ble_eq_true rfl)⟩ (fun r20 u H locs hw hI => ?_)
              try dsimp only at hw
              have hI : wI s D A (fl [wMo K h st past acts image ipast iacts tape tmany laneOf sizeOf items seaFirst worstOf farTo stepsTo needs nmany mat told]) H locs := hI
              refine lv_isub hx hb dX11_onStrips_176 ?_
              refine x_callSi (rest := [.int r19]) hC hI [] (mX11_size l D K  _ (a1 - r20) hw) (va_cwS 1 hts gX11_onStrips_X11_size rfl rfl rfl (by decide +kernel) ⟨(Nat.le_of_ble_eq_true rfl), (Nat.le_of_ble_eq_true rfl)⟩) (by decide) rfl (fun _ => rfl) rfl hl.1 rfl (Nat.le_of_ble_eq_true rfl) dX11_onStrips_177 ⟨(Nat.le_of_ble_eq_true rfl), (Nat.le_of_ble_eq_true rfl)⟩ (fun r21 u H locs hw hI => ?_)
              try dsimp only at hw
              have hI : wI s D A (fl [wMo K h st past acts image ipast iacts tape tmany laneOf sizeOf items seaFirst worstOf farTo stepsTo needs nmany mat told]) H locs := hI
              refine lv_icmp_ge (tgt := 188) hx hb dX11_onStrips_180 (by decide) (fun c22 => ?_) (fun c22 => ?_)
              · replace hw := hw.1 c22
                refine lv_iload hx hb dX11_onStrips_188 (lv_at hl 5 rfl) ?_
                refine lv_istore (lv' := [(6, .int l6_139), (8, .int r19), (0, .ref (h 0)), (1, .int a1), (3, .int x2), (4, .int t_66), (7, .int l7_139)]) hx hb dX11_onStrips_190 hl (by decide) rfl (fun ls hl => ?_)
                obtain ⟨x23, ex23⟩ : ∃ y : Int32, y = l7_139 + 1 := ⟨_, rfl⟩
                replace hw := hw x23 ex23
                refine lv_iinc (v := x23) (lv' := [(7, .int x23), (6, .int l6_139), (8, .int r19), (0, .ref (h 0)), (1, .int a1), (3, .int x2), (4, .int t_66)]) hx hb dX11_onStrips_192 hl (k := 6) rfl (by rw [ex23]; rfl) (by decide) rfl (fun ls hl => ?_)
                refine lv_goto (tgt := 139) hx hb dX11_onStrips_195 (by decide) ?_
                exact ih139 l6_139 x23 ls H locs (Nat.lt_of_lt_of_le hw.2 (Nat.le_of_lt_succ hmu139)) hw.1 hI (lv_sub hl [3, 4, 5, 6, 1, 0] rfl)
              · replace hw := hw.2 c22
                refine lv_iload hx hb dX11_onStrips_183 (lv_at hl 6 rfl) ?_
                refine lv_goto (tgt := 190) hx hb dX11_onStrips_185 (by decide) ?_
                refine lv_istore (lv' := [(6, .int l7_139), (8, .int r19), (0, .ref (h 0)), (1, .int a1), (3, .int x2), (4, .int t_66), (7, .int l7_139)]) hx hb dX11_onStrips_190 hl (by decide) rfl (fun ls hl => ?_)
                obtain ⟨x24, ex24⟩ : ∃ y : Int32, y = l7_139 + 1 := ⟨_, rfl⟩
                replace hw := hw x24 ex24
                refine lv_iinc (v := x24) (lv' := [(7, .int x24), (6, .int l7_139), (8, .int r19), (0, .ref (h 0)), (1, .int a1), (3, .int x2), (4, .int t_66)]) hx hb dX11_onStrips_192 hl (k := 6) rfl (by rw [ex24]; rfl) (by decide) rfl (fun ls hl => ?_)
                refine lv_goto (tgt := 139) hx hb dX11_onStrips_195 (by decide) ?_
                exact ih139 l7_139 x24 ls H locs (Nat.lt_of_lt_of_le hw.2 (Nat.le_of_lt_succ hmu139)) hw.1 hI (lv_sub hl [3, 4, 5, 6, 1, 0] rfl)
        exact lp139 (mu139 (0 : Int32) (1 : Int32) + 1) (0 : Int32) (1 : Int32) ls H locs (Nat.lt_succ_self _) hw hI (lv_sub hl [4, 5, 6, 3, 1, 0] rfl)
      · replace hw := hw.2 c13
        refine lv_bipush (v := (-4 : Int32)) hx hb dX11_onStrips_130 (by decide) ?_
        subst hQ
        exact x_iret (u := ()) hC hI hr hlk hw rfl dX11_onStrips_132
  refine lv_icmp_ne (tgt := 64) hx hb dX11_onStrips_54 (by decide) (fun c25 => ?_) (fun c25 => ?_)
  · replace hw := hw.2 c25
    refine lv_iload hx hb dX11_onStrips_64 (lv_at hl 0 rfl) ?_
    exact jn66 x5 ls H locs hw hI (lv_sub hl [2, 3, 1] rfl)
  · replace hw := hw.1 c25
    refine lv_iload hx hb dX11_onStrips_57 (lv_at hl 0 rfl) ?_
    refine lv_iconst (v := (1 : Int32)) hx hb dX11_onStrips_59 (by decide) ?_
    refine lv_isub hx hb dX11_onStrips_60 ?_
    refine lv_goto (tgt := 66) hx hb dX11_onStrips_61 (by decide) ?_
    exact jn66 (x5 - (1 : Int32)) ls H locs hw hI (lv_sub hl [2, 3, 1] rfl)

def wX11_onCap (a1 : Int32) (a2 : Int32) (a3 : Int32) (st : Nat → Int32) (post : Int32 → Prop) : Prop := (∃ (I11 : Int32 → Int32 → Int32 → Prop) (mu11 : Int32 → Int32 → Int32 → Nat), I11 (-4 : Int32) (100000000 : Int32) (0 : Int32) ∧ ∀ (l4_11 : Int32) (l5_11 : Int32) (l6_11 : Int32), I11 l4_11 l5_11 l6_11 → (((266 : Int32) ≤ l6_11 → post l4_11) ∧ (¬ (266 : Int32) ≤ l6_11 → wX11_rowOf l6_11 (fun (r2 : Int32) => wX11_isOnCap r2 st (fun (r3 : Int32) => ((r3 = 0 → ∀ x5 : Int32, x5 = l6_11 + 1 → (I11 l4_11 l5_11 x5 ∧ mu11 l4_11 l5_11 x5 < mu11 l4_11 l5_11 l6_11)) ∧ (¬ r3 = 0 → ∃ J45 : Int32 → Prop, (∀ (t_45 : Int32), J45 t_45 → ((t_45 = a3 → wX11_capX l6_11 st (fun (r8 : Int32) => ∀ x9 : Int32, x9 = a1 - r8 → wX11_capY l6_11 st (fun (r10 : Int32) => ∀ x11 : Int32, x11 = a2 - r10 → ∀ x12 : Int32, x12 = (x9 * x9) + (x11 * x11) → ∃ J96 : Int32 → Prop, (∀ (t_96 : Int32), J96 t_96 → ((l5_11 ≤ x12 → ∀ x14 : Int32, x14 = l6_11 + 1 → (I11 t_96 l5_11 x14 ∧ mu11 t_96 l5_11 x14 < mu11 l4_11 l5_11 l6_11)) ∧ (¬ l5_11 ≤ x12 → ∀ x15 : Int32, x15 = l6_11 + 1 → (I11 t_96 x12 x15 ∧ mu11 t_96 x12 x15 < mu11 l4_11 l5_11 l6_11)))) ∧ ((l5_11 ≤ x12 → J96 l4_11) ∧ (¬ l5_11 ≤ x12 → J96 l6_11))))) ∧ (¬ t_45 = a3 → ∀ x7 : Int32, x7 = l6_11 + 1 → (I11 l4_11 l5_11 x7 ∧ mu11 l4_11 l5_11 x7 < mu11 l4_11 l5_11 l6_11)))) ∧ ((r2 ≤ 0 → J45 (0 : Int32)) ∧ (¬ r2 ≤ 0 → J45 (1 : Int32))))))))))
def rmX11_onCap : Room := { frames := 4, cells := 0, slots := 0, locals := 84 }
theorem kX11_onCap_0 : Cond.constant RX11 155 (100000000) ∈ wsX11_onCap := List.mem_cons_of_mem _ (List.mem_append_left _ (List.mem_append_left _ (List.mem_of_getElem? (i := 0) rfl)))
set_option maxHeartbeats 4000000 in
set_option maxRecDepth 100000 in
theorem mX11_onCap (l : Launch) (D : va_G) (K : Nat → ClassId) (h : Nat → Nat) (sz : Nat) (a1 : Int32) (a2 : Int32) (a3 : Int32) (st : Nat → Int32) (past : Nat → Int32) (acts : Int32) (image : Nat → Int32) (ipast : Nat → Int32) (iacts : Int32) (tape : Nat → Int32) (tmany : Int32) (laneOf : Nat → Int32) (sizeOf : Nat → Int32) (items : Nat → Int64) (seaFirst : Nat → Int32) (worstOf : Nat → Int32) (farTo : Nat → Int32) (stepsTo : Nat → Int32) (needs : Nat → Int32) (nmany : Int32) (mat : Int32) (told : Nat → Int32)  {post : Int32 → Prop} (hw : wX11_onCap a1 a2 a3 st post) : Met l yX11_onCap wsX11_onCap rmX11_onCap (va_Pc [.ref (h 0), .int a1, .int a2, .int a3] (cP D K (fl [wMo K h st past acts image ipast iacts tape tmany laneOf sizeOf items seaFirst worstOf farTo stepsTo needs nmany mat told]) sz)) (va_Qi (fun (r : Int32) (u : Unit) => post r) (fun u t => cQ D K (fl [wMo K h st past acts image ipast iacts tape tmany laneOf sizeOf items seaFirst worstOf farTo stepsTo needs nmany mat told]) (va_A (fl [wMo K h st past acts image ipast iacts tape tmany laneOf sizeOf items seaFirst worstOf farTo stepsTo needs nmany mat told]) sz) t) (va_A (fl [wMo K h st past acts image ipast iacts tape tmany laneOf sizeOf items seaFirst worstOf farTo stepsTo needs nmany mat told]) sz)) 0 0 (va_A (fl [wMo K h st past acts image ipast iacts tape tmany laneOf sizeOf items seaFirst worstOf farTo stepsTo needs nmany mat told]) sz) := by
  refine x_entry (cc := cX11_onCap) (maxL := 11) (ret := (some .int)) (QA := fun A => va_Qi (fun (r : Int32) (u : Unit) => post r) (fun u t => cQ D K (fl [wMo K h st past acts image ipast iacts tape tmany laneOf sizeOf items seaFirst worstOf farTo stepsTo needs nmany mat told]) A t) A) (plainFor_of_name (by decide)) rfl (Nat.le_of_ble_eq_true rfl) ?_
  intro p e s m args below meth c A ls H Q hQ hC hlk hr hnm hI hl
  obtain ⟨hx, hb, hml, hown, hts, hK, hA, hZ⟩ := id hC
  obtain ⟨locs, hlocs⟩ : ∃ y : List Loc, y = [] := ⟨_, rfl⟩
  rw [← hlocs] at hI ⊢
  clear hlocs
  replace hl : lv_has ls 11 [(0, .ref (h 0)), (1, .int a1), (2, .int a2), (3, .int a3)] := hl
  replace hw : (∃ (I11 : Int32 → Int32 → Int32 → Prop) (mu11 : Int32 → Int32 → Int32 → Nat), I11 (-4 : Int32) (100000000 : Int32) (0 : Int32) ∧ ∀ (l4_11 : Int32) (l5_11 : Int32) (l6_11 : Int32), I11 l4_11 l5_11 l6_11 → (((266 : Int32) ≤ l6_11 → post l4_11) ∧ (¬ (266 : Int32) ≤ l6_11 → wX11_rowOf l6_11 (fun (r2 : Int32) => wX11_isOnCap r2 st (fun (r3 : Int32) => ((r3 = 0 → ∀ x5 : Int32, x5 = l6_11 + 1 → (I11 l4_11 l5_11 x5 ∧ mu11 l4_11 l5_11 x5 < mu11 l4_11 l5_11 l6_11)) ∧ (¬ r3 = 0 → ∃ J45 : Int32 → Prop, (∀ (t_45 : Int32), J45 t_45 → ((t_45 = a3 → wX11_capX l6_11 st (fun (r8 : Int32) => ∀ x9 : Int32, x9 = a1 - r8 → wX11_capY l6_11 st (fun (r10 : Int32) => ∀ x11 : Int32, x11 = a2 - r10 → ∀ x12 : Int32, x12 = (x9 * x9) + (x11 * x11) → ∃ J96 : Int32 → Prop, (∀ (t_96 : Int32), J96 t_96 → ((l5_11 ≤ x12 → ∀ x14 : Int32, x14 = l6_11 + 1 → (I11 t_96 l5_11 x14 ∧ mu11 t_96 l5_11 x14 < mu11 l4_11 l5_11 l6_11)) ∧ (¬ l5_11 ≤ x12 → ∀ x15 : Int32, x15 = l6_11 + 1 → (I11 t_96 x12 x15 ∧ mu11 t_96 x12 x15 < mu11 l4_11 l5_11 l6_11)))) ∧ ((l5_11 ≤ x12 → J96 l4_11) ∧ (¬ l5_11 ≤ x12 → J96 l6_11))))) ∧ (¬ t_45 = a3 → ∀ x7 : Int32, x7 = l6_11 + 1 → (I11 l4_11 l5_11 x7 ∧ mu11 l4_11 l5_11 x7 < mu11 l4_11 l5_11 l6_11)))) ∧ ((r2 ≤ 0 → J45 (0 : Int32)) ∧ (¬ r2 ≤ 0 → J45 (1 : Int32)))))))))) := hw
  refine lv_bipush (v := (-4 : Int32)) hx hb dX11_onCap_0 (by decide) ?_
  refine lv_istore (lv' := [(4, .int (-4 : Int32)), (0, .ref (h 0)), (1, .int a1), (2, .int a2), (3, .int a3)]) hx hb dX11_onCap_2 hl (by decide) rfl (fun ls hl => ?_)
  refine lv_ldc (v := (100000000 : Int32)) hx hb hown (hts _ kX11_onCap_0) dX11_onCap_4 ?_
  refine lv_istore (lv' := [(5, .int (100000000 : Int32)), (4, .int (-4 : Int32)), (0, .ref (h 0)), (1, .int a1), (2, .int a2), (3, .int a3)]) hx hb dX11_onCap_6 hl (by decide) rfl (fun ls hl => ?_)
  refine lv_iconst (v := (0 : Int32)) hx hb dX11_onCap_8 (by decide) ?_
  refine lv_istore (lv' := [(6, .int (0 : Int32)), (5, .int (100000000 : Int32)), (4, .int (-4 : Int32)), (0, .ref (h 0)), (1, .int a1), (2, .int a2), (3, .int a3)]) hx hb dX11_onCap_9 hl (by decide) rfl (fun ls hl => ?_)
  obtain ⟨I11, mu11, hw, hb11⟩ := hw
  have lp11 : ∀ (k : Nat) (l4_11 : Int32) (l5_11 : Int32) (l6_11 : Int32) (ls : Array Slot) (H : Heap) (locs : List Loc), mu11 l4_11 l5_11 l6_11 < k → I11 l4_11 l5_11 l6_11 → wI s D A (fl [wMo K h st past acts image ipast iacts tape tmany laneOf sizeOf items seaFirst worstOf farTo stepsTo needs nmany mat told]) H locs → lv_has ls 11 [(0, .ref (h 0)), (1, .int a1), (2, .int a2), (3, .int a3), (4, .int l4_11), (5, .int l5_11), (6, .int l6_11)] → W p l e rmX11_onCap s m args below meth c H locs 0 0 Q (F0 m 11 ls []) := by
    intro k
    induction k with
    | zero => intro l4_11 l5_11 l6_11 ls H locs hmu; exact absurd hmu (Nat.not_lt_zero _)
    | succ k ih11 =>
      intro l4_11 l5_11 l6_11 ls H locs hmu11 hw hI hl
      replace hw := hb11 l4_11 l5_11 l6_11 hw
      refine lv_iload hx hb dX11_onCap_11 (lv_at hl 6 rfl) ?_
      refine lv_sipush (v := (266 : Int32)) hx hb dX11_onCap_13 (by decide) ?_
      refine lv_icmp_ge (tgt := 120) hx hb dX11_onCap_16 (by decide) (fun c1 => ?_) (fun c1 => ?_)
      · replace hw := hw.1 c1
        refine lv_iload hx hb dX11_onCap_120 (lv_at hl 4 rfl) ?_
        subst hQ
        exact x_iret (u := ()) hC hI hr hlk hw rfl dX11_onCap_122
      · replace hw := hw.2 c1
        refine lv_iload hx hb dX11_onCap_19 (lv_at hl 6 rfl) ?_
        refine x_callSi (rest := []) hC hI [] (mX11_rowOf l D K  _ l6_11 hw) (va_cwS 1 hts gX11_onCap_X11_rowOf rfl rfl rfl (by decide +kernel) ⟨(Nat.le_of_ble_eq_true rfl), (Nat.le_of_ble_eq_true rfl)⟩) (by decide) rfl (fun _ => rfl) rfl hl.1 rfl (Nat.le_of_ble_eq_true rfl) dX11_onCap_21 ⟨(Nat.le_of_ble_eq_true rfl), (Nat.le_of_ble_eq_true rfl)⟩ (fun r2 u H locs hw hI => ?_)
        try dsimp only at hw
        have hI : wI s D A (fl [wMo K h st past acts image ipast iacts tape tmany laneOf sizeOf items seaFirst worstOf farTo stepsTo needs nmany mat told]) H locs := hI
        refine lv_istore (lv' := [(7, .int r2), (0, .ref (h 0)), (1, .int a1), (2, .int a2), (3, .int a3), (4, .int l4_11), (5, .int l5_11), (6, .int l6_11)]) hx hb dX11_onCap_24 hl (by decide) rfl (fun ls hl => ?_)
        refine lv_aload_n hx hb dX11_onCap_26 rfl (lv_at hl 1 rfl) ?_
        refine lv_iload hx hb dX11_onCap_27 (lv_at hl 0 rfl) ?_
        refine x_callWi (rest := []) hC hI (mX11_isOnCap l D K h _ r2 st past acts image ipast iacts tape tmany laneOf sizeOf items seaFirst worstOf farTo stepsTo needs nmany mat told hw) (cwV 1 hts gX11_onCap_X11_isOnCap rfl rfl rfl (by decide +kernel) ⟨(Nat.le_of_ble_eq_true rfl), (Nat.le_of_ble_eq_true rfl)⟩) (fun _ => rfl) 0 9 rfl rfl rfl rfl hl.1 rfl (Nat.le_of_ble_eq_true rfl) dX11_onCap_29 ⟨(Nat.le_of_ble_eq_true rfl), (Nat.le_of_ble_eq_true rfl)⟩ (fun r3 u H locs hw hI => ?_)
        try dsimp only at hw
        have hI : wI s D A (fl [wMo K h st past acts image ipast iacts tape tmany laneOf sizeOf items seaFirst worstOf farTo stepsTo needs nmany mat told]) H locs := hI
        refine lv_if_eq (tgt := 114) hx hb dX11_onCap_32 (by decide) (fun c4 => ?_) (fun c4 => ?_)
        · replace hw := hw.1 c4
          obtain ⟨x5, ex5⟩ : ∃ y : Int32, y = l6_11 + 1 := ⟨_, rfl⟩
          replace hw := hw x5 ex5
          refine lv_iinc (v := x5) (lv' := [(6, .int x5), (7, .int r2), (0, .ref (h 0)), (1, .int a1), (2, .int a2), (3, .int a3), (4, .int l4_11), (5, .int l5_11)]) hx hb dX11_onCap_114 hl (k := 7) rfl (by rw [ex5]; rfl) (by decide) rfl (fun ls hl => ?_)
          refine lv_goto (tgt := 11) hx hb dX11_onCap_117 (by decide) ?_
          exact ih11 l4_11 l5_11 x5 ls H locs (Nat.lt_of_lt_of_le hw.2 (Nat.le_of_lt_succ hmu11)) hw.1 hI (lv_sub hl [2, 3, 4, 5, 6, 7, 0] rfl)
        · replace hw := hw.2 c4
          refine lv_iload hx hb dX11_onCap_35 (lv_at hl 0 rfl) ?_
          obtain ⟨J45, hJ45, hw⟩ := hw
          have jn45 : ∀ (t_45 : Int32) (ls : Array Slot) (H : Heap) (locs : List Loc), J45 t_45 → wI s D A (fl [wMo K h st past acts image ipast iacts tape tmany laneOf sizeOf items seaFirst worstOf farTo stepsTo needs nmany mat told]) H locs → lv_has ls 11 [(0, .ref (h 0)), (1, .int a1), (2, .int a2), (3, .int a3), (4, .int l4_11), (5, .int l5_11), (6, .int l6_11)] → W p l e rmX11_onCap s m args below meth c H locs 0 0 Q (F0 m 45 ls [.int t_45]) := by
            intro t_45 ls H locs hw hI hl
            replace hw := hJ45 t_45 hw
            refine lv_iload_n hx hb dX11_onCap_45 rfl (lv_at hl 3 rfl) ?_
            refine lv_icmp_ne (tgt := 114) hx hb dX11_onCap_46 (by decide) (fun c6 => ?_) (fun c6 => ?_)
            · replace hw := hw.2 c6
              obtain ⟨x7, ex7⟩ : ∃ y : Int32, y = l6_11 + 1 := ⟨_, rfl⟩
              replace hw := hw x7 ex7
              refine lv_iinc (v := x7) (lv' := [(6, .int x7), (0, .ref (h 0)), (1, .int a1), (2, .int a2), (3, .int a3), (4, .int l4_11), (5, .int l5_11)]) hx hb dX11_onCap_114 hl (k := 6) rfl (by rw [ex7]; rfl) (by decide) rfl (fun ls hl => ?_)
              refine lv_goto (tgt := 11) hx hb dX11_onCap_117 (by decide) ?_
              exact ih11 l4_11 l5_11 x7 ls H locs (Nat.lt_of_lt_of_le hw.2 (Nat.le_of_lt_succ hmu11)) hw.1 hI (lv_sub hl [1, 2, 3, 4, 5, 6, 0] rfl)
            · replace hw := hw.1 c6
              refine lv_iload_n hx hb dX11_onCap_49 rfl (lv_at hl 1 rfl) ?_
              refine lv_aload_n hx hb dX11_onCap_50 rfl (lv_at hl 0 rfl) ?_
              refine lv_iload hx hb dX11_onCap_51 (lv_at hl 6 rfl) ?_
              refine x_callWi (rest := [.int a1]) hC hI (mX11_capX l D K h _ l6_11 st past acts image ipast iacts tape tmany laneOf sizeOf items seaFirst worstOf farTo stepsTo needs nmany mat told hw) (cwV 1 hts gX11_onCap_X11_capX rfl rfl rfl (by decide +kernel) ⟨(Nat.le_of_ble_eq_true rfl), (Nat.le_of_ble_eq_true rfl)⟩) (fun _ => rfl) 0 9 rfl rfl rfl rfl hl.1 rfl (Nat.le_of_ble_eq_true rfl) dX11_onCap_53 ⟨(Nat.le_of_ble_eq_true rfl), (Nat.le_of_ble_eq_true rfl)⟩ (fun r8 u H locs hw hI => ?_)
              try dsimp only at hw
              have hI : wI s D A (fl [wMo K h st past acts image ipast iacts tape tmany laneOf sizeOf items seaFirst worstOf farTo stepsTo needs nmany mat told]) H locs := hI
              refine lv_isub hx hb dX11_onCap_56 ?_
              refine lv_topi (fun x9 ex9 => ?_)
              replace hw := hw x9 ex9
              refine lv_istore (lv' := [(8, .int x9), (0, .ref (h 0)), (1, .int a1), (2, .int a2), (3, .int a3), (4, .int l4_11), (5, .int l5_11), (6, .int l6_11)]) hx hb dX11_onCap_57 hl (by decide) rfl (fun ls hl => ?_)
              refine lv_iload_n hx hb dX11_onCap_59 rfl (lv_at hl 3 rfl) ?_
              refine lv_aload_n hx hb dX11_onCap_60 rfl (lv_at hl 1 rfl) ?_
              refine lv_iload hx hb dX11_onCap_61 (lv_at hl 7 rfl) ?_
              refine x_callWi (rest := [.int a2]) hC hI (mX11_capY l D K h _ l6_11 st past acts image ipast iacts tape tmany laneOf sizeOf items seaFirst worstOf farTo stepsTo needs nmany mat told hw) (cwV 1 hts gX11_onCap_X11_capY rfl rfl rfl (by decide +kernel) ⟨(Nat.le_of_ble_eq_true rfl), (Nat.le_of_ble_eq_true rfl)⟩) (fun _ => rfl) 0 9 rfl rfl rfl rfl hl.1 rfl (Nat.le_of_ble_eq_true rfl) dX11_onCap_63 ⟨(Nat.le_of_ble_eq_true rfl), (Nat.le_of_ble_eq_true rfl)⟩ (fun r10 u H locs hw hI => ?_)
              try dsimp only at hw
              have hI : wI s D A (fl [wMo K h st past acts image ipast iacts tape tmany laneOf sizeOf items seaFirst worstOf farTo stepsTo needs nmany mat told]) H locs := hI
              refine lv_isub hx hb dX11_onCap_66 ?_
              refine lv_topi (fun x11 ex11 => ?_)
              replace hw := hw x11 ex11
              refine lv_istore (lv' := [(9, .int x11), (8, .int x9), (0, .ref (h 0)), (1, .int a1), (2, .int a2), (3, .int a3), (4, .int l4_11), (5, .int l5_11), (6, .int l6_11)]) hx hb dX11_onCap_67 hl (by decide) rfl (fun ls hl => ?_)
              refine lv_iload hx hb dX11_onCap_69 (lv_at hl 1 rfl) ?_
              refine lv_iload hx hb dX11_onCap_71 (lv_at hl 1 rfl) ?_
              refine lv_imul hx hb dX11_onCap_73 ?_
              refine lv_iload hx hb dX11_onCap_74 (lv_at hl 0 rfl) ?_
              refine lv_iload hx hb dX11_onCap_76 (lv_at hl 0 rfl) ?_
              refine lv_imul hx hb dX11_onCap_78 ?_
              refine lv_iadd hx hb dX11_onCap_79 ?_
              refine lv_topi (fun x12 ex12 => ?_)
              replace hw := hw x12 ex12
              refine lv_istore (lv' := [(10, .int x12), (9, .int x11), (8, .int x9), (0, .ref (h 0)), (1, .int a1), (2, .int a2), (3, .int a3), (4, .int l4_11), (5, .int l5_11), (6, .int l6_11)]) hx hb dX11_onCap_80 hl (by decide) rfl (fun ls hl => ?_)
              refine lv_iload hx hb dX11_onCap_82 (lv_at hl 0 rfl) ?_
              refine lv_iload hx hb dX11_onCap_84 (lv_at hl 8 rfl) ?_
              obtain ⟨J96, hJ96, hw⟩ := hw
              have jn96 : ∀ (t_96 : Int32) (ls : Array Slot) (H : Heap) (locs : List Loc), J96 t_96 → wI s D A (fl [wMo K h st past acts image ipast iacts tape tmany laneOf sizeOf items seaFirst worstOf farTo stepsTo needs nmany mat told]) H locs → lv_has ls 11 [(0, .ref (h 0)), (1, .int a1), (2, .int a2), (3, .int a3), (5, .int l5_11), (6, .int l6_11), (10, .int x12)] → W p l e rmX11_onCap s m args below meth c H locs 0 0 Q (F0 m 96 ls [.int t_96]) := by
                intro t_96 ls H locs hw hI hl
                replace hw := hJ96 t_96 hw
                refine lv_istore (lv' := [(4, .int t_96), (0, .ref (h 0)), (1, .int a1), (2, .int a2), (3, .int a3), (5, .int l5_11), (6, .int l6_11), (10, .int x12)]) hx hb dX11_onCap_96 hl (by decide) rfl (fun ls hl => ?_)
                refine lv_iload hx hb dX11_onCap_98 (lv_at hl 7 rfl) ?_
                refine lv_iload hx hb dX11_onCap_100 (lv_at hl 5 rfl) ?_
                refine lv_icmp_ge (tgt := 110) hx hb dX11_onCap_102 (by decide) (fun c13 => ?_) (fun c13 => ?_)
                · replace hw := hw.1 c13
                  refine lv_iload hx hb dX11_onCap_110 (lv_at hl 5 rfl) ?_
                  refine lv_istore (lv' := [(5, .int l5_11), (4, .int t_96), (0, .ref (h 0)), (1, .int a1), (2, .int a2), (3, .int a3), (6, .int l6_11), (10, .int x12)]) hx hb dX11_onCap_112 hl (by decide) rfl (fun ls hl => ?_)
                  obtain ⟨x14, ex14⟩ : ∃ y : Int32, y = l6_11 + 1 := ⟨_, rfl⟩
                  replace hw := hw x14 ex14
                  refine lv_iinc (v := x14) (lv' := [(6, .int x14), (5, .int l5_11), (4, .int t_96), (0, .ref (h 0)), (1, .int a1), (2, .int a2), (3, .int a3), (10, .int x12)]) hx hb dX11_onCap_114 hl (k := 6) rfl (by rw [ex14]; rfl) (by decide) rfl (fun ls hl => ?_)
                  refine lv_goto (tgt := 11) hx hb dX11_onCap_117 (by decide) ?_
                  exact ih11 t_96 l5_11 x14 ls H locs (Nat.lt_of_lt_of_le hw.2 (Nat.le_of_lt_succ hmu11)) hw.1 hI (lv_sub hl [3, 4, 5, 6, 2, 1, 0] rfl)
                · replace hw := hw.2 c13
                  refine lv_iload hx hb dX11_onCap_105 (lv_at hl 7 rfl) ?_
                  refine lv_goto (tgt := 112) hx hb dX11_onCap_107 (by decide) ?_
                  refine lv_istore (lv' := [(5, .int x12), (4, .int t_96), (0, .ref (h 0)), (1, .int a1), (2, .int a2), (3, .int a3), (6, .int l6_11), (10, .int x12)]) hx hb dX11_onCap_112 hl (by decide) rfl (fun ls hl => ?_)
                  obtain ⟨x15, ex15⟩ : ∃ y : Int32, y = l6_11 + 1 := ⟨_, rfl⟩
                  replace hw := hw x15 ex15
                  refine lv_iinc (v := x15) (lv' := [(6, .int x15), (5, .int x12), (4, .int t_96), (0, .ref (h 0)), (1, .int a1), (2, .int a2), (3, .int a3), (10, .int x12)]) hx hb dX11_onCap_114 hl (k := 6) rfl (by rw [ex15]; rfl) (by decide) rfl (fun ls hl => ?_)
                  refine lv_goto (tgt := 11) hx hb dX11_onCap_117 (by decide) ?_
                  exact ih11 t_96 x12 x15 ls H locs (Nat.lt_of_lt_of_le hw.2 (Nat.le_of_lt_succ hmu11)) hw.1 hI (lv_sub hl [3, 4, 5, 6, 2, 1, 0] rfl)
              refine lv_icmp_ge (tgt := 94) hx hb dX11_onCap_86 (by decide) (fun c16 => ?_) (fun c16 => ?_)
              · replace hw := hw.1 c16
                refine lv_iload hx hb dX11_onCap_94 (lv_at hl 7 rfl) ?_
                exact jn96 l4_11 ls H locs hw hI (lv_sub hl [3, 4, 5, 6, 8, 9, 0] rfl)
              · replace hw := hw.2 c16
                refine lv_iload hx hb dX11_onCap_89 (lv_at hl 9 rfl) ?_
                refine lv_goto (tgt := 96) hx hb dX11_onCap_91 (by decide) ?_
                exact jn96 l6_11 ls H locs hw hI (lv_sub hl [3, 4, 5, 6, 8, 9, 0] rfl)
          refine lv_if_le (tgt := 44) hx hb dX11_onCap_37 (by decide) (fun c17 => ?_) (fun c17 => ?_)
          · replace hw := hw.1 c17
            refine lv_iconst (v := (0 : Int32)) hx hb dX11_onCap_44 (by decide) ?_
            exact jn45 (0 : Int32) ls H locs hw hI (lv_sub hl [1, 2, 3, 4, 5, 6, 7] rfl)
          · replace hw := hw.2 c17
            refine lv_iconst (v := (1 : Int32)) hx hb dX11_onCap_40 (by decide) ?_
            refine lv_goto (tgt := 45) hx hb dX11_onCap_41 (by decide) ?_
            exact jn45 (1 : Int32) ls H locs hw hI (lv_sub hl [1, 2, 3, 4, 5, 6, 7] rfl)
  exact lp11 (mu11 (-4 : Int32) (100000000 : Int32) (0 : Int32) + 1) (-4 : Int32) (100000000 : Int32) (0 : Int32) ls H locs (Nat.lt_succ_self _) hw hI (lv_sub hl [3, 4, 5, 6, 2, 1, 0] rfl)

def wX11_back (a1 : Int32) (a2 : Int32) (a3 : Int32) (st : Nat → Int32) (post : Int32 → Prop) : Prop := wX11_in a1 (0 : Int32) (2 : Int32) (fun (r1 : Int32) => ((r1 = 0 → post (-1 : Int32)) ∧ (¬ r1 = 0 → ∃ J48 : Int32 → Prop, (∀ (t_48 : Int32), J48 t_48 → ∃ J70 : Int32 → Prop, (∀ (t_70 : Int32), J70 t_70 → wX11_in a2 (0 : Int32) t_48 (fun (r3 : Int32) => ((r3 = 0 → post (-1 : Int32)) ∧ (¬ r3 = 0 → wX11_in a3 (0 : Int32) t_70 (fun (r5 : Int32) => ((r5 = 0 → post (-1 : Int32)) ∧ (¬ r5 = 0 → ((a1 = 0 → wX11_onStrips a2 a3 st (fun (r11 : Int32) => post r11)) ∧ (¬ a1 = 0 → ((a1 = (1 : Int32) → wX11_onCap a2 a3 (1 : Int32) st (fun (r10 : Int32) => post r10)) ∧ (¬ a1 = (1 : Int32) → wX11_onCap a2 a3 (0 : Int32) st (fun (r9 : Int32) => post r9)))))))))))) ∧ ((a1 = 0 → J70 ((24 : Int32) * (st 266))) ∧ (¬ a1 = 0 → J70 t_48))) ∧ ((a1 = 0 → J48 ((48 : Int32) * (st 266))) ∧ (¬ a1 = 0 → J48 (((4 : Int32) * (st 266)) * (st 268)))))))
def rmX11_back : Room := { frames := 7, cells := 0, slots := 0, locals := 157 }
theorem kX11_back_0 : Cond.fieldLink RX11 7 "GoreGlobeModel" "st" "[I" ∈ wsX11_back := List.mem_cons_of_mem _ (List.mem_append_left _ (List.mem_append_left _ (List.mem_of_getElem? (i := 0) rfl)))
theorem kX11_back_cX11 : ∀ w ∈ wsX110, w ∈ wsX11_back := fun _ h => List.mem_cons_of_mem _ (List.mem_append_right _ h)
set_option maxHeartbeats 4000000 in
set_option maxRecDepth 100000 in
theorem mX11_back (l : Launch) (D : va_G) (K : Nat → ClassId) (h : Nat → Nat) (sz : Nat) (a1 : Int32) (a2 : Int32) (a3 : Int32) (st : Nat → Int32) (past : Nat → Int32) (acts : Int32) (image : Nat → Int32) (ipast : Nat → Int32) (iacts : Int32) (tape : Nat → Int32) (tmany : Int32) (laneOf : Nat → Int32) (sizeOf : Nat → Int32) (items : Nat → Int64) (seaFirst : Nat → Int32) (worstOf : Nat → Int32) (farTo : Nat → Int32) (stepsTo : Nat → Int32) (needs : Nat → Int32) (nmany : Int32) (mat : Int32) (told : Nat → Int32)  {post : Int32 → Prop} (hw : wX11_back a1 a2 a3 st post) : Met l yX11_back wsX11_back rmX11_back (va_Pc [.ref (h 0), .int a1, .int a2, .int a3] (cP D K (fl [wMo K h st past acts image ipast iacts tape tmany laneOf sizeOf items seaFirst worstOf farTo stepsTo needs nmany mat told]) sz)) (va_Qi (fun (r : Int32) (u : Unit) => post r) (fun u t => cQ D K (fl [wMo K h st past acts image ipast iacts tape tmany laneOf sizeOf items seaFirst worstOf farTo stepsTo needs nmany mat told]) (va_A (fl [wMo K h st past acts image ipast iacts tape tmany laneOf sizeOf items seaFirst worstOf farTo stepsTo needs nmany mat told]) sz) t) (va_A (fl [wMo K h st past acts image ipast iacts tape tmany laneOf sizeOf items seaFirst worstOf farTo stepsTo needs nmany mat told]) sz)) 0 0 (va_A (fl [wMo K h st past acts image ipast iacts tape tmany laneOf sizeOf items seaFirst worstOf farTo stepsTo needs nmany mat told]) sz) := by
  refine x_entry (cc := cX11_back) (maxL := 6) (ret := (some .int)) (QA := fun A => va_Qi (fun (r : Int32) (u : Unit) => post r) (fun u t => cQ D K (fl [wMo K h st past acts image ipast iacts tape tmany laneOf sizeOf items seaFirst worstOf farTo stepsTo needs nmany mat told]) A t) A) (plainFor_of_name (by decide)) rfl (Nat.le_of_ble_eq_true rfl) ?_
  intro p e s m args below meth c A ls H Q hQ hC hlk hr hnm hI hl
  obtain ⟨hx, hb, hml, hown, hts, hK, hA, hZ⟩ := id hC
  obtain ⟨locs, hlocs⟩ : ∃ y : List Loc, y = [] := ⟨_, rfl⟩
  rw [← hlocs] at hI ⊢
  clear hlocs
  replace hl : lv_has ls 6 [(0, .ref (h 0)), (1, .int a1), (2, .int a2), (3, .int a3)] := hl
  replace hw : wX11_in a1 (0 : Int32) (2 : Int32) (fun (r1 : Int32) => ((r1 = 0 → post (-1 : Int32)) ∧ (¬ r1 = 0 → ∃ J48 : Int32 → Prop, (∀ (t_48 : Int32), J48 t_48 → ∃ J70 : Int32 → Prop, (∀ (t_70 : Int32), J70 t_70 → wX11_in a2 (0 : Int32) t_48 (fun (r3 : Int32) => ((r3 = 0 → post (-1 : Int32)) ∧ (¬ r3 = 0 → wX11_in a3 (0 : Int32) t_70 (fun (r5 : Int32) => ((r5 = 0 → post (-1 : Int32)) ∧ (¬ r5 = 0 → ((a1 = 0 → wX11_onStrips a2 a3 st (fun (r11 : Int32) => post r11)) ∧ (¬ a1 = 0 → ((a1 = (1 : Int32) → wX11_onCap a2 a3 (1 : Int32) st (fun (r10 : Int32) => post r10)) ∧ (¬ a1 = (1 : Int32) → wX11_onCap a2 a3 (0 : Int32) st (fun (r9 : Int32) => post r9)))))))))))) ∧ ((a1 = 0 → J70 ((24 : Int32) * (st 266))) ∧ (¬ a1 = 0 → J70 t_48))) ∧ ((a1 = 0 → J48 ((48 : Int32) * (st 266))) ∧ (¬ a1 = 0 → J48 (((4 : Int32) * (st 266)) * (st 268))))))) := hw
  refine lv_iload_n hx hb dX11_back_0 rfl (lv_at hl 1 rfl) ?_
  refine lv_iconst (v := (0 : Int32)) hx hb dX11_back_1 (by decide) ?_
  refine lv_iconst (v := (2 : Int32)) hx hb dX11_back_2 (by decide) ?_
  refine x_callSi (rest := []) hC hI [] (mX11_in l D K  _ a1 (0 : Int32) (2 : Int32) hw) (va_cwS 3 hts gX11_back_X11_in rfl rfl rfl (by decide +kernel) ⟨(Nat.le_of_ble_eq_true rfl), (Nat.le_of_ble_eq_true rfl)⟩) (by decide) rfl (fun _ => rfl) rfl hl.1 rfl (Nat.le_of_ble_eq_true rfl) dX11_back_3 ⟨(Nat.le_of_ble_eq_true rfl), (Nat.le_of_ble_eq_true rfl)⟩ (fun r1 u H locs hw hI => ?_)
  try dsimp only at hw
  have hI : wI s D A (fl [wMo K h st past acts image ipast iacts tape tmany laneOf sizeOf items seaFirst worstOf farTo stepsTo needs nmany mat told]) H locs := hI
  refine lv_if_ne (tgt := 11) hx hb dX11_back_6 (by decide) (fun c2 => ?_) (fun c2 => ?_)
  · replace hw := hw.2 c2
    refine lv_iload_n hx hb dX11_back_11 rfl (lv_at hl 1 rfl) ?_
    obtain ⟨J48, hJ48, hw⟩ := hw
    have jn48 : ∀ (t_48 : Int32) (ls : Array Slot) (H : Heap) (locs : List Loc), J48 t_48 → wI s D A (fl [wMo K h st past acts image ipast iacts tape tmany laneOf sizeOf items seaFirst worstOf farTo stepsTo needs nmany mat told]) H locs → lv_has ls 6 [(0, .ref (h 0)), (1, .int a1), (2, .int a2), (3, .int a3)] → W p l e rmX11_back s m args below meth c H locs 0 0 Q (F0 m 48 ls [.int t_48]) := by
      intro t_48 ls H locs hw hI hl
      replace hw := hJ48 t_48 hw
      refine lv_istore (lv' := [(4, .int t_48), (0, .ref (h 0)), (1, .int a1), (2, .int a2), (3, .int a3)]) hx hb dX11_back_48 hl (by decide) rfl (fun ls hl => ?_)
      refine lv_iload_n hx hb dX11_back_50 rfl (lv_at hl 2 rfl) ?_
      obtain ⟨J70, hJ70, hw⟩ := hw
      have jn70 : ∀ (t_70 : Int32) (ls : Array Slot) (H : Heap) (locs : List Loc), J70 t_70 → wI s D A (fl [wMo K h st past acts image ipast iacts tape tmany laneOf sizeOf items seaFirst worstOf farTo stepsTo needs nmany mat told]) H locs → lv_has ls 6 [(0, .ref (h 0)), (1, .int a1), (2, .int a2), (3, .int a3), (4, .int t_48)] → W p l e rmX11_back s m args below meth c H locs 0 0 Q (F0 m 70 ls [.int t_70]) := by
        intro t_70 ls H locs hw hI hl
        replace hw := hJ70 t_70 hw
        refine lv_istore (lv' := [(5, .int t_70), (0, .ref (h 0)), (1, .int a1), (2, .int a2), (3, .int a3), (4, .int t_48)]) hx hb dX11_back_70 hl (by decide) rfl (fun ls hl => ?_)
        refine lv_iload_n hx hb dX11_back_72 rfl (lv_at hl 3 rfl) ?_
        refine lv_iconst (v := (0 : Int32)) hx hb dX11_back_73 (by decide) ?_
        refine lv_iload hx hb dX11_back_74 (lv_at hl 5 rfl) ?_
        refine x_callSi (rest := []) hC hI [] (mX11_in l D K  _ a2 (0 : Int32) t_48 hw) (va_cwS 3 hts gX11_back_X11_in rfl rfl rfl (by decide +kernel) ⟨(Nat.le_of_ble_eq_true rfl), (Nat.le_of_ble_eq_true rfl)⟩) (by decide) rfl (fun _ => rfl) rfl hl.1 rfl (Nat.le_of_ble_eq_true rfl) dX11_back_76 ⟨(Nat.le_of_ble_eq_true rfl), (Nat.le_of_ble_eq_true rfl)⟩ (fun r3 u H locs hw hI => ?_)
        try dsimp only at hw
        have hI : wI s D A (fl [wMo K h st past acts image ipast iacts tape tmany laneOf sizeOf items seaFirst worstOf farTo stepsTo needs nmany mat told]) H locs := hI
        refine lv_if_eq (tgt := 92) hx hb dX11_back_79 (by decide) (fun c4 => ?_) (fun c4 => ?_)
        · replace hw := hw.1 c4
          refine lv_iconst (v := (-1 : Int32)) hx hb dX11_back_92 (by decide) ?_
          subst hQ
          exact x_iret (u := ()) hC hI hr hlk hw rfl dX11_back_93
        · replace hw := hw.2 c4
          refine lv_iload_n hx hb dX11_back_82 rfl (lv_at hl 4 rfl) ?_
          refine lv_iconst (v := (0 : Int32)) hx hb dX11_back_83 (by decide) ?_
          refine lv_iload hx hb dX11_back_84 (lv_at hl 0 rfl) ?_
          refine x_callSi (rest := []) hC hI [] (mX11_in l D K  _ a3 (0 : Int32) t_70 hw) (va_cwS 3 hts gX11_back_X11_in rfl rfl rfl (by decide +kernel) ⟨(Nat.le_of_ble_eq_true rfl), (Nat.le_of_ble_eq_true rfl)⟩) (by decide) rfl (fun _ => rfl) rfl hl.1 rfl (Nat.le_of_ble_eq_true rfl) dX11_back_86 ⟨(Nat.le_of_ble_eq_true rfl), (Nat.le_of_ble_eq_true rfl)⟩ (fun r5 u H locs hw hI => ?_)
          try dsimp only at hw
          have hI : wI s D A (fl [wMo K h st past acts image ipast iacts tape tmany laneOf sizeOf items seaFirst worstOf farTo stepsTo needs nmany mat told]) H locs := hI
          refine lv_if_ne (tgt := 94) hx hb dX11_back_89 (by decide) (fun c6 => ?_) (fun c6 => ?_)
          · replace hw := hw.2 c6
            refine lv_iload_n hx hb dX11_back_94 rfl (lv_at hl 2 rfl) ?_
            refine lv_if_ne (tgt := 107) hx hb dX11_back_95 (by decide) (fun c7 => ?_) (fun c7 => ?_)
            · replace hw := hw.2 c7
              refine lv_aload_n hx hb dX11_back_107 rfl (lv_at hl 1 rfl) ?_
              refine lv_iload_n hx hb dX11_back_108 rfl (lv_at hl 3 rfl) ?_
              refine lv_iload_n hx hb dX11_back_109 rfl (lv_at hl 4 rfl) ?_
              refine lv_iload_n hx hb dX11_back_110 rfl (lv_at hl 2 rfl) ?_
              refine lv_iconst (v := (1 : Int32)) hx hb dX11_back_111 (by decide) ?_
              refine lv_icmp_ne (tgt := 119) hx hb dX11_back_112 (by decide) (fun c8 => ?_) (fun c8 => ?_)
              · replace hw := hw.2 c8
                refine lv_iconst (v := (0 : Int32)) hx hb dX11_back_119 (by decide) ?_
                refine x_callWi (rest := []) hC hI (mX11_onCap l D K h _ a2 a3 (0 : Int32) st past acts image ipast iacts tape tmany laneOf sizeOf items seaFirst worstOf farTo stepsTo needs nmany mat told hw) (cwV 3 hts gX11_back_X11_onCap rfl rfl rfl (by decide +kernel) ⟨(Nat.le_of_ble_eq_true rfl), (Nat.le_of_ble_eq_true rfl)⟩) (fun _ => rfl) 0 9 rfl rfl rfl rfl hl.1 rfl (Nat.le_of_ble_eq_true rfl) dX11_back_120 ⟨(Nat.le_of_ble_eq_true rfl), (Nat.le_of_ble_eq_true rfl)⟩ (fun r9 u H locs hw hI => ?_)
                try dsimp only at hw
                have hI : wI s D A (fl [wMo K h st past acts image ipast iacts tape tmany laneOf sizeOf items seaFirst worstOf farTo stepsTo needs nmany mat told]) H locs := hI
                subst hQ
                exact x_iret (u := ()) hC hI hr hlk hw rfl dX11_back_123
              · replace hw := hw.1 c8
                refine lv_iconst (v := (1 : Int32)) hx hb dX11_back_115 (by decide) ?_
                refine lv_goto (tgt := 120) hx hb dX11_back_116 (by decide) ?_
                refine x_callWi (rest := []) hC hI (mX11_onCap l D K h _ a2 a3 (1 : Int32) st past acts image ipast iacts tape tmany laneOf sizeOf items seaFirst worstOf farTo stepsTo needs nmany mat told hw) (cwV 3 hts gX11_back_X11_onCap rfl rfl rfl (by decide +kernel) ⟨(Nat.le_of_ble_eq_true rfl), (Nat.le_of_ble_eq_true rfl)⟩) (fun _ => rfl) 0 9 rfl rfl rfl rfl hl.1 rfl (Nat.le_of_ble_eq_true rfl) dX11_back_120 ⟨(Nat.le_of_ble_eq_true rfl), (Nat.le_of_ble_eq_true rfl)⟩ (fun r10 u H locs hw hI => ?_)
                try dsimp only at hw
                have hI : wI s D A (fl [wMo K h st past acts image ipast iacts tape tmany laneOf sizeOf items seaFirst worstOf farTo stepsTo needs nmany mat told]) H locs := hI
                subst hQ
                exact x_iret (u := ()) hC hI hr hlk hw rfl dX11_back_123
            · replace hw := hw.1 c7
              refine lv_aload_n hx hb dX11_back_98 rfl (lv_at hl 1 rfl) ?_
              refine lv_iload_n hx hb dX11_back_99 rfl (lv_at hl 3 rfl) ?_
              refine lv_iload_n hx hb dX11_back_100 rfl (lv_at hl 4 rfl) ?_
              refine x_callWi (rest := []) hC hI (mX11_onStrips l D K h _ a2 a3 st past acts image ipast iacts tape tmany laneOf sizeOf items seaFirst worstOf farTo stepsTo needs nmany mat told hw) (cwV 2 hts gX11_back_X11_onStrips rfl rfl rfl (by decide +kernel) ⟨(Nat.le_of_ble_eq_true rfl), (Nat.le_of_ble_eq_true rfl)⟩) (fun _ => rfl) 0 9 rfl rfl rfl rfl hl.1 rfl (Nat.le_of_ble_eq_true rfl) dX11_back_101 ⟨(Nat.le_of_ble_eq_true rfl), (Nat.le_of_ble_eq_true rfl)⟩ (fun r11 u H locs hw hI => ?_)
              try dsimp only at hw
              have hI : wI s D A (fl [wMo K h st past acts image ipast iacts tape tmany laneOf sizeOf items seaFirst worstOf farTo stepsTo needs nmany mat told]) H locs := hI
              refine lv_goto (tgt := 123) hx hb dX11_back_104 (by decide) ?_
              subst hQ
              exact x_iret (u := ()) hC hI hr hlk hw rfl dX11_back_123
          · replace hw := hw.1 c6
            refine lv_iconst (v := (-1 : Int32)) hx hb dX11_back_92 (by decide) ?_
            subst hQ
            exact x_iret (u := ()) hC hI hr hlk hw rfl dX11_back_93
      refine lv_if_ne (tgt := 68) hx hb dX11_back_51 (by decide) (fun c12 => ?_) (fun c12 => ?_)
      · replace hw := hw.2 c12
        refine lv_iload hx hb dX11_back_68 (lv_at hl 0 rfl) ?_
        exact jn70 t_48 ls H locs hw hI (lv_sub hl [1, 2, 3, 4, 0] rfl)
      · replace hw := hw.1 c12
        refine lv_bipush (v := (24 : Int32)) hx hb dX11_back_54 (by decide) ?_
        refine lv_aload_n hx hb dX11_back_56 rfl (lv_at hl 1 rfl) ?_
        refine x_get (v := .ref (h 1)) hC hI kX11_back_cX11 0 rfl rfl 0 (by decide) kX11_back_0 rfl rfl dX11_back_57 ?_
        refine lv_sipush (v := (266 : Int32)) hx hb dX11_back_60 (by decide) ?_
        refine x_iald (f := st) hC hI 1 rfl (by unfold vp_in; decide) dX11_back_63 ?_
        refine lv_imul hx hb dX11_back_64 ?_
        refine lv_goto (tgt := 70) hx hb dX11_back_65 (by decide) ?_
        exact jn70 ((24 : Int32) * (st 266)) ls H locs hw hI (lv_sub hl [1, 2, 3, 4, 0] rfl)
    refine lv_if_ne (tgt := 29) hx hb dX11_back_12 (by decide) (fun c13 => ?_) (fun c13 => ?_)
    · replace hw := hw.2 c13
      refine lv_iconst (v := (4 : Int32)) hx hb dX11_back_29 (by decide) ?_
      refine lv_aload_n hx hb dX11_back_30 rfl (lv_at hl 0 rfl) ?_
      refine x_get (v := .ref (h 1)) hC hI kX11_back_cX11 0 rfl rfl 0 (by decide) kX11_back_0 rfl rfl dX11_back_31 ?_
      refine lv_sipush (v := (266 : Int32)) hx hb dX11_back_34 (by decide) ?_
      refine x_iald (f := st) hC hI 1 rfl (by unfold vp_in; decide) dX11_back_37 ?_
      refine lv_imul hx hb dX11_back_38 ?_
      refine lv_aload_n hx hb dX11_back_39 rfl (lv_at hl 0 rfl) ?_
      refine x_get (v := .ref (h 1)) hC hI kX11_back_cX11 0 rfl rfl 0 (by decide) kX11_back_0 rfl rfl dX11_back_40 ?_
      refine lv_sipush (v := (268 : Int32)) hx hb dX11_back_43 (by decide) ?_
      refine x_iald (f := st) hC hI 1 rfl (by unfold vp_in; decide) dX11_back_46 ?_
      refine lv_imul hx hb dX11_back_47 ?_
      exact jn48 (((4 : Int32) * (st 266)) * (st 268)) ls H locs hw hI (lv_sub hl [0, 1, 2, 3] rfl)
    · replace hw := hw.1 c13
      refine lv_bipush (v := (48 : Int32)) hx hb dX11_back_15 (by decide) ?_
      refine lv_aload_n hx hb dX11_back_17 rfl (lv_at hl 0 rfl) ?_
      refine x_get (v := .ref (h 1)) hC hI kX11_back_cX11 0 rfl rfl 0 (by decide) kX11_back_0 rfl rfl dX11_back_18 ?_
      refine lv_sipush (v := (266 : Int32)) hx hb dX11_back_21 (by decide) ?_
      refine x_iald (f := st) hC hI 1 rfl (by unfold vp_in; decide) dX11_back_24 ?_
      refine lv_imul hx hb dX11_back_25 ?_
      refine lv_goto (tgt := 48) hx hb dX11_back_26 (by decide) ?_
      exact jn48 ((48 : Int32) * (st 266)) ls H locs hw hI (lv_sub hl [0, 1, 2, 3] rfl)
  · replace hw := hw.1 c2
    refine lv_iconst (v := (-1 : Int32)) hx hb dX11_back_9 (by decide) ?_
    subst hQ
    exact x_iret (u := ()) hC hI hr hlk hw rfl dX11_back_10

def wX11_farOf (a1 : Int32) (a2 : Int32) (st : Nat → Int32) (post : Int32 → Prop) : Prop := wX11_rowOf a1 (fun (r1 : Int32) => wX11_rowOf a2 (fun (r2 : Int32) => ((r1 = r2 → wX11_wideOf r1 (fun (r4 : Int32) => post ((((2 : Int32) * (st 266)) * r4) / (10000 : Int32)))) ∧ (¬ r1 = r2 → post ((2 : Int32) * (st 266))))))
def rmX11_farOf : Room := { frames := 4, cells := 0, slots := 0, locals := 82 }
theorem kX11_farOf_0 : Cond.fieldLink RX11 7 "GoreGlobeModel" "st" "[I" ∈ wsX11_farOf := List.mem_cons_of_mem _ (List.mem_append_left _ (List.mem_of_getElem? (i := 0) rfl))
theorem kX11_farOf_cX11 : ∀ w ∈ wsX110, w ∈ wsX11_farOf := fun _ h => List.mem_cons_of_mem _ (List.mem_append_right _ h)
set_option maxHeartbeats 4000000 in
set_option maxRecDepth 100000 in
theorem mX11_farOf (l : Launch) (D : va_G) (K : Nat → ClassId) (h : Nat → Nat) (sz : Nat) (a1 : Int32) (a2 : Int32) (st : Nat → Int32) (past : Nat → Int32) (acts : Int32) (image : Nat → Int32) (ipast : Nat → Int32) (iacts : Int32) (tape : Nat → Int32) (tmany : Int32) (laneOf : Nat → Int32) (sizeOf : Nat → Int32) (items : Nat → Int64) (seaFirst : Nat → Int32) (worstOf : Nat → Int32) (farTo : Nat → Int32) (stepsTo : Nat → Int32) (needs : Nat → Int32) (nmany : Int32) (mat : Int32) (told : Nat → Int32)  {post : Int32 → Prop} (hw : wX11_farOf a1 a2 st post) : Met l yX11_farOf wsX11_farOf rmX11_farOf (va_Pc [.ref (h 0), .int a1, .int a2] (cP D K (fl [wMo K h st past acts image ipast iacts tape tmany laneOf sizeOf items seaFirst worstOf farTo stepsTo needs nmany mat told]) sz)) (va_Qi (fun (r : Int32) (u : Unit) => post r) (fun u t => cQ D K (fl [wMo K h st past acts image ipast iacts tape tmany laneOf sizeOf items seaFirst worstOf farTo stepsTo needs nmany mat told]) (va_A (fl [wMo K h st past acts image ipast iacts tape tmany laneOf sizeOf items seaFirst worstOf farTo stepsTo needs nmany mat told]) sz) t) (va_A (fl [wMo K h st past acts image ipast iacts tape tmany laneOf sizeOf items seaFirst worstOf farTo stepsTo needs nmany mat told]) sz)) 0 0 (va_A (fl [wMo K h st past acts image ipast iacts tape tmany laneOf sizeOf items seaFirst worstOf farTo stepsTo needs nmany mat told]) sz) := by
  refine x_entry (cc := cX11_farOf) (maxL := 4) (ret := (some .int)) (QA := fun A => va_Qi (fun (r : Int32) (u : Unit) => post r) (fun u t => cQ D K (fl [wMo K h st past acts image ipast iacts tape tmany laneOf sizeOf items seaFirst worstOf farTo stepsTo needs nmany mat told]) A t) A) (plainFor_of_name (by decide)) rfl (Nat.le_of_ble_eq_true rfl) ?_
  intro p e s m args below meth c A ls H Q hQ hC hlk hr hnm hI hl
  obtain ⟨hx, hb, hml, hown, hts, hK, hA, hZ⟩ := id hC
  obtain ⟨locs, hlocs⟩ : ∃ y : List Loc, y = [] := ⟨_, rfl⟩
  rw [← hlocs] at hI ⊢
  clear hlocs
  replace hl : lv_has ls 4 [(0, .ref (h 0)), (1, .int a1), (2, .int a2)] := hl
  replace hw : wX11_rowOf a1 (fun (r1 : Int32) => wX11_rowOf a2 (fun (r2 : Int32) => ((r1 = r2 → wX11_wideOf r1 (fun (r4 : Int32) => post ((((2 : Int32) * (st 266)) * r4) / (10000 : Int32)))) ∧ (¬ r1 = r2 → post ((2 : Int32) * (st 266)))))) := hw
  refine lv_iload_n hx hb dX11_farOf_0 rfl (lv_at hl 1 rfl) ?_
  refine x_callSi (rest := []) hC hI [] (mX11_rowOf l D K  _ a1 hw) (va_cwS 1 hts gX11_farOf_X11_rowOf rfl rfl rfl (by decide +kernel) ⟨(Nat.le_of_ble_eq_true rfl), (Nat.le_of_ble_eq_true rfl)⟩) (by decide) rfl (fun _ => rfl) rfl hl.1 rfl (Nat.le_of_ble_eq_true rfl) dX11_farOf_1 ⟨(Nat.le_of_ble_eq_true rfl), (Nat.le_of_ble_eq_true rfl)⟩ (fun r1 u H locs hw hI => ?_)
  try dsimp only at hw
  have hI : wI s D A (fl [wMo K h st past acts image ipast iacts tape tmany laneOf sizeOf items seaFirst worstOf farTo stepsTo needs nmany mat told]) H locs := hI
  refine lv_istore_n (lv' := [(3, .int r1), (0, .ref (h 0)), (1, .int a1), (2, .int a2)]) hx hb dX11_farOf_4 rfl hl (by decide) rfl (fun ls hl => ?_)
  refine lv_iload_n hx hb dX11_farOf_5 rfl (lv_at hl 0 rfl) ?_
  refine lv_iload_n hx hb dX11_farOf_6 rfl (lv_at hl 3 rfl) ?_
  refine x_callSi (rest := [.int r1]) hC hI [] (mX11_rowOf l D K  _ a2 hw) (va_cwS 1 hts gX11_farOf_X11_rowOf rfl rfl rfl (by decide +kernel) ⟨(Nat.le_of_ble_eq_true rfl), (Nat.le_of_ble_eq_true rfl)⟩) (by decide) rfl (fun _ => rfl) rfl hl.1 rfl (Nat.le_of_ble_eq_true rfl) dX11_farOf_7 ⟨(Nat.le_of_ble_eq_true rfl), (Nat.le_of_ble_eq_true rfl)⟩ (fun r2 u H locs hw hI => ?_)
  try dsimp only at hw
  have hI : wI s D A (fl [wMo K h st past acts image ipast iacts tape tmany laneOf sizeOf items seaFirst worstOf farTo stepsTo needs nmany mat told]) H locs := hI
  refine lv_icmp_ne (tgt := 35) hx hb dX11_farOf_10 (by decide) (fun c3 => ?_) (fun c3 => ?_)
  · replace hw := hw.2 c3
    refine lv_iconst (v := (2 : Int32)) hx hb dX11_farOf_35 (by decide) ?_
    refine lv_aload_n hx hb dX11_farOf_36 rfl (lv_at hl 1 rfl) ?_
    refine x_get (v := .ref (h 1)) hC hI kX11_farOf_cX11 0 rfl rfl 0 (by decide) kX11_farOf_0 rfl rfl dX11_farOf_37 ?_
    refine lv_sipush (v := (266 : Int32)) hx hb dX11_farOf_40 (by decide) ?_
    refine x_iald (f := st) hC hI 1 rfl (by unfold vp_in; decide) dX11_farOf_43 ?_
    refine lv_imul hx hb dX11_farOf_44 ?_
    subst hQ
    exact x_iret (u := ()) hC hI hr hlk hw rfl dX11_farOf_45
  · replace hw := hw.1 c3
    refine lv_iconst (v := (2 : Int32)) hx hb dX11_farOf_13 (by decide) ?_
    refine lv_aload_n hx hb dX11_farOf_14 rfl (lv_at hl 1 rfl) ?_
    refine x_get (v := .ref (h 1)) hC hI kX11_farOf_cX11 0 rfl rfl 0 (by decide) kX11_farOf_0 rfl rfl dX11_farOf_15 ?_
    refine lv_sipush (v := (266 : Int32)) hx hb dX11_farOf_18 (by decide) ?_
    refine x_iald (f := st) hC hI 1 rfl (by unfold vp_in; decide) dX11_farOf_21 ?_
    refine lv_imul hx hb dX11_farOf_22 ?_
    refine lv_iload_n hx hb dX11_farOf_23 rfl (lv_at hl 0 rfl) ?_
    refine x_callSi (rest := [.int ((2 : Int32) * (st 266))]) hC hI [] (mX11_wideOf l D K  _ r1 hw) (va_cwS 1 hts gX11_farOf_X11_wideOf rfl rfl rfl (by decide +kernel) ⟨(Nat.le_of_ble_eq_true rfl), (Nat.le_of_ble_eq_true rfl)⟩) (by decide) rfl (fun _ => rfl) rfl hl.1 rfl (Nat.le_of_ble_eq_true rfl) dX11_farOf_24 ⟨(Nat.le_of_ble_eq_true rfl), (Nat.le_of_ble_eq_true rfl)⟩ (fun r4 u H locs hw hI => ?_)
    try dsimp only at hw
    have hI : wI s D A (fl [wMo K h st past acts image ipast iacts tape tmany laneOf sizeOf items seaFirst worstOf farTo stepsTo needs nmany mat told]) H locs := hI
    refine lv_imul hx hb dX11_farOf_27 ?_
    refine lv_sipush (v := (10000 : Int32)) hx hb dX11_farOf_28 (by decide) ?_
    refine lv_idiv hx hb dX11_farOf_31 (by decide) ?_
    refine lv_goto (tgt := 45) hx hb dX11_farOf_32 (by decide) ?_
    subst hQ
    exact x_iret (u := ()) hC hI hr hlk hw rfl dX11_farOf_45

def wX11_root (a0 : Int32)  (post : Int32 → Prop) : Prop := (∃ (I6 : Int32 → Int32 → Prop) (mu6 : Int32 → Int32 → Nat), I6 (0 : Int32) (30000 : Int32) ∧ ∀ (l1_6 : Int32) (l2_6 : Int32), I6 l1_6 l2_6 → ((l2_6 ≤ l1_6 → post l1_6) ∧ (¬ l2_6 ≤ l1_6 → ∀ x2 : Int32, x2 = ((l1_6 + l2_6) + (1 : Int32)) / (2 : Int32) → ((a0 < (x2 * x2) → ∀ x4 : Int32, x4 = x2 - (1 : Int32) → (I6 l1_6 x4 ∧ mu6 l1_6 x4 < mu6 l1_6 l2_6)) ∧ (¬ a0 < (x2 * x2) → (I6 x2 l2_6 ∧ mu6 x2 l2_6 < mu6 l1_6 l2_6))))))
def rmX11_root : Room := { frames := 0, cells := 0, slots := 0, locals := 0 }
set_option maxHeartbeats 4000000 in
set_option maxRecDepth 100000 in
theorem mX11_root (l : Launch) (D : va_G) (K : Nat → ClassId)  (sz : Nat) (a0 : Int32)   {post : Int32 → Prop} (hw : wX11_root a0  post) : Met l yX11_root wsX11_root rmX11_root (va_Pc [.int a0] (cP D K (fl []) sz)) (va_Qi (fun (r : Int32) (u : Unit) => post r) (fun u t => cQ D K (fl []) (va_A (fl []) sz) t) (va_A (fl []) sz)) 0 0 (va_A (fl []) sz) := by
  refine x_entry (cc := cX11_root) (maxL := 4) (ret := (some .int)) (QA := fun A => va_Qi (fun (r : Int32) (u : Unit) => post r) (fun u t => cQ D K (fl []) A t) A) (plainFor_of_name (by decide)) rfl (Nat.le_of_ble_eq_true rfl) ?_
  intro p e s m args below meth c A ls H Q hQ hC hlk hr hnm hI hl
  obtain ⟨hx, hb, hml, hown, hts, hK, hA, hZ⟩ := id hC
  obtain ⟨locs, hlocs⟩ : ∃ y : List Loc, y = [] := ⟨_, rfl⟩
  rw [← hlocs] at hI ⊢
  clear hlocs
  replace hl : lv_has ls 4 [(0, .int a0)] := hl
  replace hw : (∃ (I6 : Int32 → Int32 → Prop) (mu6 : Int32 → Int32 → Nat), I6 (0 : Int32) (30000 : Int32) ∧ ∀ (l1_6 : Int32) (l2_6 : Int32), I6 l1_6 l2_6 → ((l2_6 ≤ l1_6 → post l1_6) ∧ (¬ l2_6 ≤ l1_6 → ∀ x2 : Int32, x2 = ((l1_6 + l2_6) + (1 : Int32)) / (2 : Int32) → ((a0 < (x2 * x2) → ∀ x4 : Int32, x4 = x2 - (1 : Int32) → (I6 l1_6 x4 ∧ mu6 l1_6 x4 < mu6 l1_6 l2_6)) ∧ (¬ a0 < (x2 * x2) → (I6 x2 l2_6 ∧ mu6 x2 l2_6 < mu6 l1_6 l2_6)))))) := hw
  refine lv_iconst (v := (0 : Int32)) hx hb dX11_root_0 (by decide) ?_
  refine lv_istore_n (lv' := [(1, .int (0 : Int32)), (0, .int a0)]) hx hb dX11_root_1 rfl hl (by decide) rfl (fun ls hl => ?_)
  refine lv_sipush (v := (30000 : Int32)) hx hb dX11_root_2 (by decide) ?_
  refine lv_istore_n (lv' := [(2, .int (30000 : Int32)), (1, .int (0 : Int32)), (0, .int a0)]) hx hb dX11_root_5 rfl hl (by decide) rfl (fun ls hl => ?_)
  obtain ⟨I6, mu6, hw, hb6⟩ := hw
  have lp6 : ∀ (k : Nat) (l1_6 : Int32) (l2_6 : Int32) (ls : Array Slot) (H : Heap) (locs : List Loc), mu6 l1_6 l2_6 < k → I6 l1_6 l2_6 → wI s D A (fl []) H locs → lv_has ls 4 [(0, .int a0), (1, .int l1_6), (2, .int l2_6)] → W p l e rmX11_root s m args below meth c H locs 0 0 Q (F0 m 6 ls []) := by
    intro k
    induction k with
    | zero => intro l1_6 l2_6 ls H locs hmu; exact absurd hmu (Nat.not_lt_zero _)
    | succ k ih6 =>
      intro l1_6 l2_6 ls H locs hmu6 hw hI hl
      replace hw := hb6 l1_6 l2_6 hw
      refine lv_iload_n hx hb dX11_root_6 rfl (lv_at hl 1 rfl) ?_
      refine lv_iload_n hx hb dX11_root_7 rfl (lv_at hl 2 rfl) ?_
      refine lv_icmp_ge (tgt := 38) hx hb dX11_root_8 (by decide) (fun c1 => ?_) (fun c1 => ?_)
      · replace hw := hw.1 c1
        refine lv_iload_n hx hb dX11_root_38 rfl (lv_at hl 1 rfl) ?_
        subst hQ
        exact x_iret (u := ()) hC hI hr hlk hw rfl dX11_root_39
      · replace hw := hw.2 c1
        refine lv_iload_n hx hb dX11_root_11 rfl (lv_at hl 1 rfl) ?_
        refine lv_iload_n hx hb dX11_root_12 rfl (lv_at hl 2 rfl) ?_
        refine lv_iadd hx hb dX11_root_13 ?_
        refine lv_iconst (v := (1 : Int32)) hx hb dX11_root_14 (by decide) ?_
        refine lv_iadd hx hb dX11_root_15 ?_
        refine lv_iconst (v := (2 : Int32)) hx hb dX11_root_16 (by decide) ?_
        refine lv_idiv hx hb dX11_root_17 (by decide) ?_
        refine lv_topi (fun x2 ex2 => ?_)
        replace hw := hw x2 ex2
        refine lv_istore_n (lv' := [(3, .int x2), (0, .int a0), (1, .int l1_6), (2, .int l2_6)]) hx hb dX11_root_18 rfl hl (by decide) rfl (fun ls hl => ?_)
        refine lv_iload_n hx hb dX11_root_19 rfl (lv_at hl 0 rfl) ?_
        refine lv_iload_n hx hb dX11_root_20 rfl (lv_at hl 0 rfl) ?_
        refine lv_imul hx hb dX11_root_21 ?_
        refine lv_iload_n hx hb dX11_root_22 rfl (lv_at hl 1 rfl) ?_
        refine lv_icmp_gt (tgt := 31) hx hb dX11_root_23 (by decide) (fun c3 => ?_) (fun c3 => ?_)
        · replace hw := hw.1 c3
          refine lv_iload_n hx hb dX11_root_31 rfl (lv_at hl 0 rfl) ?_
          refine lv_iconst (v := (1 : Int32)) hx hb dX11_root_32 (by decide) ?_
          refine lv_isub hx hb dX11_root_33 ?_
          refine lv_topi (fun x4 ex4 => ?_)
          replace hw := hw x4 ex4
          refine lv_istore_n (lv' := [(2, .int x4), (3, .int x2), (0, .int a0), (1, .int l1_6)]) hx hb dX11_root_34 rfl hl (by decide) rfl (fun ls hl => ?_)
          refine lv_goto (tgt := 6) hx hb dX11_root_35 (by decide) ?_
          exact ih6 l1_6 x4 ls H locs (Nat.lt_of_lt_of_le hw.2 (Nat.le_of_lt_succ hmu6)) hw.1 hI (lv_sub hl [2, 3, 0] rfl)
        · replace hw := hw.2 c3
          refine lv_iload_n hx hb dX11_root_26 rfl (lv_at hl 0 rfl) ?_
          refine lv_istore_n (lv' := [(1, .int x2), (3, .int x2), (0, .int a0), (2, .int l2_6)]) hx hb dX11_root_27 rfl hl (by decide) rfl (fun ls hl => ?_)
          refine lv_goto (tgt := 35) hx hb dX11_root_28 (by decide) ?_
          refine lv_goto (tgt := 6) hx hb dX11_root_35 (by decide) ?_
          exact ih6 x2 l2_6 ls H locs (Nat.lt_of_lt_of_le hw.2 (Nat.le_of_lt_succ hmu6)) hw.1 hI (lv_sub hl [2, 0, 3] rfl)
  exact lp6 (mu6 (0 : Int32) (30000 : Int32) + 1) (0 : Int32) (30000 : Int32) ls H locs (Nat.lt_succ_self _) hw hI (lv_sub hl [2, 1, 0] rfl)
