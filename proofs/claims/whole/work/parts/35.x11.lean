def wX11_route (a1 : Int32) (st : Nat → Int32) (farTo : Nat → Int32) (stepsTo : Nat → Int32) (post : Int32 → (Nat → Int32) → (Nat → Int32) → Prop) : Prop := ((a1 = 0 → post (st 269) farTo stepsTo) ∧ (¬ a1 = 0 → ((a1 = (1 : Int32) → wX11_lengthOf st farTo stepsTo (fun (r5 : Int32) (farTo_c3 : Nat → Int32) (stepsTo_c4 : Nat → Int32) => post r5 farTo_c3 stepsTo_c4)) ∧ (¬ a1 = (1 : Int32) → post (-1 : Int32) farTo stepsTo))))
def rmX11_route : Room := { frames := 8, cells := 0, slots := 0, locals := 177 }
theorem kX11_route_0 : Cond.fieldLink RX11 7 "GoreGlobeModel" "st" "[I" ∈ wsX11_route := List.mem_cons_of_mem _ (List.mem_append_left _ (List.mem_append_left _ (List.mem_of_getElem? (i := 0) rfl)))
theorem kX11_route_cX11 : ∀ w ∈ wsX110, w ∈ wsX11_route := fun _ h => List.mem_cons_of_mem _ (List.mem_append_right _ h)
set_option maxHeartbeats 4000000 in
set_option maxRecDepth 100000 in
theorem mX11_route (l : Launch) (D : va_G) (K : Nat → ClassId) (h : Nat → Nat) (sz : Nat) (a1 : Int32) (st : Nat → Int32) (past : Nat → Int32) (acts : Int32) (image : Nat → Int32) (ipast : Nat → Int32) (iacts : Int32) (tape : Nat → Int32) (tmany : Int32) (laneOf : Nat → Int32) (sizeOf : Nat → Int32) (items : Nat → Int64) (seaFirst : Nat → Int32) (worstOf : Nat → Int32) (farTo : Nat → Int32) (stepsTo : Nat → Int32) (needs : Nat → Int32) (nmany : Int32) (mat : Int32) (told : Nat → Int32)  {post : Int32 → (Nat → Int32) → (Nat → Int32) → Prop} (hw : wX11_route a1 st farTo stepsTo post) : Met l yX11_route wsX11_route rmX11_route (va_Pc [.ref (h 0), .int a1] (cP D K (fl [wMo K h st past acts image ipast iacts tape tmany laneOf sizeOf items seaFirst worstOf farTo stepsTo needs nmany mat told]) sz)) (va_Qi (fun (r : Int32) (u : (Nat → Int32) × (Nat → Int32)) => post r u.1 u.2) (fun u t => cQ D K (fl [wMo K h st past acts image ipast iacts tape tmany laneOf sizeOf items seaFirst worstOf u.1 u.2 needs nmany mat told]) (va_A (fl [wMo K h st past acts image ipast iacts tape tmany laneOf sizeOf items seaFirst worstOf farTo stepsTo needs nmany mat told]) sz) t) (va_A (fl [wMo K h st past acts image ipast iacts tape tmany laneOf sizeOf items seaFirst worstOf farTo stepsTo needs nmany mat told]) sz)) 0 0 (va_A (fl [wMo K h st past acts image ipast iacts tape tmany laneOf sizeOf items seaFirst worstOf farTo stepsTo needs nmany mat told]) sz) := by
  refine x_entry (cc := cX11_route) (maxL := 2) (ret := (some .int)) (QA := fun A => va_Qi (fun (r : Int32) (u : (Nat → Int32) × (Nat → Int32)) => post r u.1 u.2) (fun u t => cQ D K (fl [wMo K h st past acts image ipast iacts tape tmany laneOf sizeOf items seaFirst worstOf u.1 u.2 needs nmany mat told]) A t) A) (plainFor_of_name (by decide)) rfl (Nat.le_of_ble_eq_true rfl) ?_
  intro p e s m args below meth c A ls H Q hQ hC hlk hr hnm hI hl
  obtain ⟨hx, hb, hml, hown, hts, hK, hA, hZ⟩ := id hC
  obtain ⟨locs, hlocs⟩ : ∃ y : List Loc, y = [] := ⟨_, rfl⟩
  rw [← hlocs] at hI ⊢
  clear hlocs
  replace hl : lv_has ls 2 [(0, .ref (h 0)), (1, .int a1)] := hl
  replace hw : ((a1 = 0 → post (st 269) farTo stepsTo) ∧ (¬ a1 = 0 → ((a1 = (1 : Int32) → wX11_lengthOf st farTo stepsTo (fun (r5 : Int32) (farTo_c3 : Nat → Int32) (stepsTo_c4 : Nat → Int32) => post r5 farTo_c3 stepsTo_c4)) ∧ (¬ a1 = (1 : Int32) → post (-1 : Int32) farTo stepsTo)))) := hw
  refine lv_iload_n hx hb dX11_route_0 rfl (lv_at hl 1 rfl) ?_
  refine lv_if_ne (tgt := 15) hx hb dX11_route_1 (by decide) (fun c1 => ?_) (fun c1 => ?_)
  · replace hw := hw.2 c1
    refine lv_iload_n hx hb dX11_route_15 rfl (lv_at hl 1 rfl) ?_
    refine lv_iconst (v := (1 : Int32)) hx hb dX11_route_16 (by decide) ?_
    refine lv_icmp_ne (tgt := 27) hx hb dX11_route_17 (by decide) (fun c2 => ?_) (fun c2 => ?_)
    · replace hw := hw.2 c2
      refine lv_iconst (v := (-1 : Int32)) hx hb dX11_route_27 (by decide) ?_
      subst hQ
      exact x_iret (u := (farTo, stepsTo)) hC hI hr hlk hw rfl dX11_route_28
    · replace hw := hw.1 c2
      refine lv_aload_n hx hb dX11_route_20 rfl (lv_at hl 0 rfl) ?_
      refine x_callWi (rest := []) hC hI (mX11_lengthOf l D K h _ st past acts image ipast iacts tape tmany laneOf sizeOf items seaFirst worstOf farTo stepsTo needs nmany mat told hw) (cwV 0 hts gX11_route_X11_lengthOf rfl rfl rfl (by decide +kernel) ⟨(Nat.le_of_ble_eq_true rfl), (Nat.le_of_ble_eq_true rfl)⟩) (fun _ => rfl) 0 9 rfl rfl rfl rfl hl.1 rfl (Nat.le_of_ble_eq_true rfl) dX11_route_21 ⟨(Nat.le_of_ble_eq_true rfl), (Nat.le_of_ble_eq_true rfl)⟩ (fun r5 u H locs hw hI => ?_)
      obtain ⟨farTo_c3, stepsTo_c4⟩ := u
      try dsimp only at hw
      have hI : wI s D A (fl [wMo K h st past acts image ipast iacts tape tmany laneOf sizeOf items seaFirst worstOf farTo_c3 stepsTo_c4 needs nmany mat told]) H locs := hI
      refine lv_goto (tgt := 28) hx hb dX11_route_24 (by decide) ?_
      subst hQ
      exact x_iret (u := (farTo_c3, stepsTo_c4)) hC hI hr hlk hw rfl dX11_route_28
  · replace hw := hw.1 c1
    refine lv_aload_n hx hb dX11_route_4 rfl (lv_at hl 0 rfl) ?_
    refine x_get (v := .ref (h 1)) hC hI kX11_route_cX11 0 rfl rfl 0 (by decide) kX11_route_0 rfl rfl dX11_route_5 ?_
    refine lv_sipush (v := (269 : Int32)) hx hb dX11_route_8 (by decide) ?_
    refine x_iald (f := st) hC hI 1 rfl (by unfold vp_in; decide) dX11_route_11 ?_
    refine lv_goto (tgt := 28) hx hb dX11_route_12 (by decide) ?_
    subst hQ
    exact x_iret (u := (farTo, stepsTo)) hC hI hr hlk hw rfl dX11_route_28

def wX11_rolled (a1 : Int32) (a2 : Int32) (st : Nat → Int32) (farTo : Nat → Int32) (stepsTo : Nat → Int32) (post : Int32 → (Nat → Int32) → (Nat → Int32) → Prop) : Prop := wX11_in a1 (1 : Int32) (10000 : Int32) (fun (r1 : Int32) => ((r1 = 0 → post (-1 : Int32) farTo stepsTo) ∧ (¬ r1 = 0 → wX11_in a2 (0 : Int32) (1 : Int32) (fun (r3 : Int32) => ((r3 = 0 → post (-1 : Int32) farTo stepsTo) ∧ (¬ r3 = 0 → wX11_lengthOf st farTo stepsTo (fun (r7 : Int32) (farTo_c5 : Nat → Int32) (stepsTo_c6 : Nat → Int32) => ((r7 = (-4 : Int32) → post (-4 : Int32) farTo_c5 stepsTo_c6) ∧ (¬ r7 = (-4 : Int32) → ((a2 = 0 → ¬ a1 = 0 ∧ post (r7 / a1) farTo_c5 stepsTo_c6) ∧ (¬ a2 = 0 → ¬ a1 = 0 ∧ post (r7 - r7 / a1 * a1) farTo_c5 stepsTo_c6)))))))))))
def rmX11_rolled : Room := { frames := 8, cells := 0, slots := 0, locals := 177 }
set_option maxHeartbeats 4000000 in
set_option maxRecDepth 100000 in
theorem mX11_rolled (l : Launch) (D : va_G) (K : Nat → ClassId) (h : Nat → Nat) (sz : Nat) (a1 : Int32) (a2 : Int32) (st : Nat → Int32) (past : Nat → Int32) (acts : Int32) (image : Nat → Int32) (ipast : Nat → Int32) (iacts : Int32) (tape : Nat → Int32) (tmany : Int32) (laneOf : Nat → Int32) (sizeOf : Nat → Int32) (items : Nat → Int64) (seaFirst : Nat → Int32) (worstOf : Nat → Int32) (farTo : Nat → Int32) (stepsTo : Nat → Int32) (needs : Nat → Int32) (nmany : Int32) (mat : Int32) (told : Nat → Int32)  {post : Int32 → (Nat → Int32) → (Nat → Int32) → Prop} (hw : wX11_rolled a1 a2 st farTo stepsTo post) : Met l yX11_rolled wsX11_rolled rmX11_rolled (va_Pc [.ref (h 0), .int a1, .int a2] (cP D K (fl [wMo K h st past acts image ipast iacts tape tmany laneOf sizeOf items seaFirst worstOf farTo stepsTo needs nmany mat told]) sz)) (va_Qi (fun (r : Int32) (u : (Nat → Int32) × (Nat → Int32)) => post r u.1 u.2) (fun u t => cQ D K (fl [wMo K h st past acts image ipast iacts tape tmany laneOf sizeOf items seaFirst worstOf u.1 u.2 needs nmany mat told]) (va_A (fl [wMo K h st past acts image ipast iacts tape tmany laneOf sizeOf items seaFirst worstOf farTo stepsTo needs nmany mat told]) sz) t) (va_A (fl [wMo K h st past acts image ipast iacts tape tmany laneOf sizeOf items seaFirst worstOf farTo stepsTo needs nmany mat told]) sz)) 0 0 (va_A (fl [wMo K h st past acts image ipast iacts tape tmany laneOf sizeOf items seaFirst worstOf farTo stepsTo needs nmany mat told]) sz) := by
  refine x_entry (cc := cX11_rolled) (maxL := 4) (ret := (some .int)) (QA := fun A => va_Qi (fun (r : Int32) (u : (Nat → Int32) × (Nat → Int32)) => post r u.1 u.2) (fun u t => cQ D K (fl [wMo K h st past acts image ipast iacts tape tmany laneOf sizeOf items seaFirst worstOf u.1 u.2 needs nmany mat told]) A t) A) (plainFor_of_name (by decide)) rfl (Nat.le_of_ble_eq_true rfl) ?_
  intro p e s m args below meth c A ls H Q hQ hC hlk hr hnm hI hl
  obtain ⟨hx, hb, hml, hown, hts, hK, hA, hZ⟩ := id hC
  obtain ⟨locs, hlocs⟩ : ∃ y : List Loc, y = [] := ⟨_, rfl⟩
  rw [← hlocs] at hI ⊢
  clear hlocs
  replace hl : lv_has ls 4 [(0, .ref (h 0)), (1, .int a1), (2, .int a2)] := hl
  replace hw : wX11_in a1 (1 : Int32) (10000 : Int32) (fun (r1 : Int32) => ((r1 = 0 → post (-1 : Int32) farTo stepsTo) ∧ (¬ r1 = 0 → wX11_in a2 (0 : Int32) (1 : Int32) (fun (r3 : Int32) => ((r3 = 0 → post (-1 : Int32) farTo stepsTo) ∧ (¬ r3 = 0 → wX11_lengthOf st farTo stepsTo (fun (r7 : Int32) (farTo_c5 : Nat → Int32) (stepsTo_c6 : Nat → Int32) => ((r7 = (-4 : Int32) → post (-4 : Int32) farTo_c5 stepsTo_c6) ∧ (¬ r7 = (-4 : Int32) → ((a2 = 0 → ¬ a1 = 0 ∧ post (r7 / a1) farTo_c5 stepsTo_c6) ∧ (¬ a2 = 0 → ¬ a1 = 0 ∧ post (r7 - r7 / a1 * a1) farTo_c5 stepsTo_c6))))))))))) := hw
  refine lv_iload_n hx hb dX11_rolled_0 rfl (lv_at hl 1 rfl) ?_
  refine lv_iconst (v := (1 : Int32)) hx hb dX11_rolled_1 (by decide) ?_
  refine lv_sipush (v := (10000 : Int32)) hx hb dX11_rolled_2 (by decide) ?_
  refine x_callSi (rest := []) hC hI [] (mX11_in l D K  _ a1 (1 : Int32) (10000 : Int32) hw) (va_cwS 3 hts gX11_rolled_X11_in rfl rfl rfl (by decide +kernel) ⟨(Nat.le_of_ble_eq_true rfl), (Nat.le_of_ble_eq_true rfl)⟩) (by decide) rfl (fun _ => rfl) rfl hl.1 rfl (Nat.le_of_ble_eq_true rfl) dX11_rolled_5 ⟨(Nat.le_of_ble_eq_true rfl), (Nat.le_of_ble_eq_true rfl)⟩ (fun r1 u H locs hw hI => ?_)
  try dsimp only at hw
  have hI : wI s D A (fl [wMo K h st past acts image ipast iacts tape tmany laneOf sizeOf items seaFirst worstOf farTo stepsTo needs nmany mat told]) H locs := hI
  refine lv_if_eq (tgt := 20) hx hb dX11_rolled_8 (by decide) (fun c2 => ?_) (fun c2 => ?_)
  · replace hw := hw.1 c2
    refine lv_iconst (v := (-1 : Int32)) hx hb dX11_rolled_20 (by decide) ?_
    subst hQ
    exact x_iret (u := (farTo, stepsTo)) hC hI hr hlk hw rfl dX11_rolled_21
  · replace hw := hw.2 c2
    refine lv_iload_n hx hb dX11_rolled_11 rfl (lv_at hl 2 rfl) ?_
    refine lv_iconst (v := (0 : Int32)) hx hb dX11_rolled_12 (by decide) ?_
    refine lv_iconst (v := (1 : Int32)) hx hb dX11_rolled_13 (by decide) ?_
    refine x_callSi (rest := []) hC hI [] (mX11_in l D K  _ a2 (0 : Int32) (1 : Int32) hw) (va_cwS 3 hts gX11_rolled_X11_in rfl rfl rfl (by decide +kernel) ⟨(Nat.le_of_ble_eq_true rfl), (Nat.le_of_ble_eq_true rfl)⟩) (by decide) rfl (fun _ => rfl) rfl hl.1 rfl (Nat.le_of_ble_eq_true rfl) dX11_rolled_14 ⟨(Nat.le_of_ble_eq_true rfl), (Nat.le_of_ble_eq_true rfl)⟩ (fun r3 u H locs hw hI => ?_)
    try dsimp only at hw
    have hI : wI s D A (fl [wMo K h st past acts image ipast iacts tape tmany laneOf sizeOf items seaFirst worstOf farTo stepsTo needs nmany mat told]) H locs := hI
    refine lv_if_ne (tgt := 22) hx hb dX11_rolled_17 (by decide) (fun c4 => ?_) (fun c4 => ?_)
    · replace hw := hw.2 c4
      refine lv_aload_n hx hb dX11_rolled_22 rfl (lv_at hl 0 rfl) ?_
      refine x_callWi (rest := []) hC hI (mX11_lengthOf l D K h _ st past acts image ipast iacts tape tmany laneOf sizeOf items seaFirst worstOf farTo stepsTo needs nmany mat told hw) (cwV 0 hts gX11_rolled_X11_lengthOf rfl rfl rfl (by decide +kernel) ⟨(Nat.le_of_ble_eq_true rfl), (Nat.le_of_ble_eq_true rfl)⟩) (fun _ => rfl) 0 9 rfl rfl rfl rfl hl.1 rfl (Nat.le_of_ble_eq_true rfl) dX11_rolled_23 ⟨(Nat.le_of_ble_eq_true rfl), (Nat.le_of_ble_eq_true rfl)⟩ (fun r7 u H locs hw hI => ?_)
      obtain ⟨farTo_c5, stepsTo_c6⟩ := u
      try dsimp only at hw
      have hI : wI s D A (fl [wMo K h st past acts image ipast iacts tape tmany laneOf sizeOf items seaFirst worstOf farTo_c5 stepsTo_c6 needs nmany mat told]) H locs := hI
      refine lv_istore_n (lv' := [(3, .int r7), (0, .ref (h 0)), (1, .int a1), (2, .int a2)]) hx hb dX11_rolled_26 rfl hl (by decide) rfl (fun ls hl => ?_)
      refine lv_iload_n hx hb dX11_rolled_27 rfl (lv_at hl 0 rfl) ?_
      refine lv_bipush (v := (-4 : Int32)) hx hb dX11_rolled_28 (by decide) ?_
      refine lv_icmp_ne (tgt := 38) hx hb dX11_rolled_30 (by decide) (fun c8 => ?_) (fun c8 => ?_)
      · replace hw := hw.2 c8
        refine lv_iload_n hx hb dX11_rolled_38 rfl (lv_at hl 3 rfl) ?_
        refine lv_if_ne (tgt := 48) hx hb dX11_rolled_39 (by decide) (fun c9 => ?_) (fun c9 => ?_)
        · replace hw := hw.2 c9
          refine lv_iload_n hx hb dX11_rolled_48 rfl (lv_at hl 0 rfl) ?_
          refine lv_iload_n hx hb dX11_rolled_49 rfl (lv_at hl 2 rfl) ?_
          obtain ⟨hc10, hw⟩ := hw
          refine lv_irem hx hb dX11_rolled_50 hc10 ?_
          subst hQ
          exact x_iret (u := (farTo_c5, stepsTo_c6)) hC hI hr hlk hw rfl dX11_rolled_51
        · replace hw := hw.1 c9
          refine lv_iload_n hx hb dX11_rolled_42 rfl (lv_at hl 0 rfl) ?_
          refine lv_iload_n hx hb dX11_rolled_43 rfl (lv_at hl 2 rfl) ?_
          obtain ⟨hc11, hw⟩ := hw
          refine lv_idiv hx hb dX11_rolled_44 hc11 ?_
          refine lv_goto (tgt := 51) hx hb dX11_rolled_45 (by decide) ?_
          subst hQ
          exact x_iret (u := (farTo_c5, stepsTo_c6)) hC hI hr hlk hw rfl dX11_rolled_51
      · replace hw := hw.1 c8
        refine lv_bipush (v := (-4 : Int32)) hx hb dX11_rolled_33 (by decide) ?_
        refine lv_goto (tgt := 51) hx hb dX11_rolled_35 (by decide) ?_
        subst hQ
        exact x_iret (u := (farTo_c5, stepsTo_c6)) hC hI hr hlk hw rfl dX11_rolled_51
    · replace hw := hw.1 c4
      refine lv_iconst (v := (-1 : Int32)) hx hb dX11_rolled_20 (by decide) ?_
      subst hQ
      exact x_iret (u := (farTo, stepsTo)) hC hI hr hlk hw rfl dX11_rolled_21

def wX11_needsOne (a1 : Int32) (needs : Nat → Int32) (nmany : Int32) (post : (Nat → Int32) → Int32 → Prop) : Prop := (∃ (I4 : Int32 → Int32 → Prop) (mu4 : Int32 → Int32 → Nat), I4 (0 : Int32) (0 : Int32) ∧ ∀ (l2_4 : Int32) (l3_4 : Int32), I4 l2_4 l3_4 → ((nmany ≤ l3_4 → ((l2_4 = 0 → vp_in nmany 26 ∧ ∀ x4 : Int32, x4 = nmany + (1 : Int32) → post (upd needs nmany.toNatClampNeg a1) x4) ∧ (¬ l2_4 = 0 → post needs nmany))) ∧ (¬ nmany ≤ l3_4 → ((l2_4 = 0 → vp_in l3_4 26 ∧ (((needs l3_4.toNatClampNeg) = a1 → ∀ x10 : Int32, x10 = l3_4 + 1 → (I4 (1 : Int32) x10 ∧ mu4 (1 : Int32) x10 < mu4 l2_4 l3_4)) ∧ (¬ (needs l3_4.toNatClampNeg) = a1 → ∀ x9 : Int32, x9 = l3_4 + 1 → (I4 (0 : Int32) x9 ∧ mu4 (0 : Int32) x9 < mu4 l2_4 l3_4)))) ∧ (¬ l2_4 = 0 → ∀ x6 : Int32, x6 = l3_4 + 1 → (I4 (1 : Int32) x6 ∧ mu4 (1 : Int32) x6 < mu4 l2_4 l3_4))))))
def rmX11_needsOne : Room := { frames := 0, cells := 0, slots := 0, locals := 0 }
theorem kX11_needsOne_0 : Cond.fieldLink RX11 200 "GoreGlobeModel" "needsMany" "I" ∈ wsX11_needsOne := List.mem_cons_of_mem _ (List.mem_append_left _ (List.mem_of_getElem? (i := 0) rfl))
theorem kX11_needsOne_cX11 : ∀ w ∈ wsX110, w ∈ wsX11_needsOne := fun _ h => List.mem_cons_of_mem _ (List.mem_append_right _ h)
theorem kX11_needsOne_2 : Cond.fieldLink RX11 51 "GoreGlobeModel" "needs" "[I" ∈ wsX11_needsOne := List.mem_cons_of_mem _ (List.mem_append_left _ (List.mem_of_getElem? (i := 1) rfl))
set_option maxHeartbeats 4000000 in
set_option maxRecDepth 100000 in
theorem mX11_needsOne (l : Launch) (D : va_G) (K : Nat → ClassId) (h : Nat → Nat) (sz : Nat) (a1 : Int32) (st : Nat → Int32) (past : Nat → Int32) (acts : Int32) (image : Nat → Int32) (ipast : Nat → Int32) (iacts : Int32) (tape : Nat → Int32) (tmany : Int32) (laneOf : Nat → Int32) (sizeOf : Nat → Int32) (items : Nat → Int64) (seaFirst : Nat → Int32) (worstOf : Nat → Int32) (farTo : Nat → Int32) (stepsTo : Nat → Int32) (needs : Nat → Int32) (nmany : Int32) (mat : Int32) (told : Nat → Int32)  {post : (Nat → Int32) → Int32 → Prop} (hw : wX11_needsOne a1 needs nmany post) : Met l yX11_needsOne wsX11_needsOne rmX11_needsOne (va_Pc [.ref (h 0), .int a1] (cP D K (fl [wMo K h st past acts image ipast iacts tape tmany laneOf sizeOf items seaFirst worstOf farTo stepsTo needs nmany mat told]) sz)) (va_Qv (fun (u : (Nat → Int32) × Int32) => post u.1 u.2) (fun u t => cQ D K (fl [wMo K h st past acts image ipast iacts tape tmany laneOf sizeOf items seaFirst worstOf farTo stepsTo u.1 u.2 mat told]) (va_A (fl [wMo K h st past acts image ipast iacts tape tmany laneOf sizeOf items seaFirst worstOf farTo stepsTo needs nmany mat told]) sz) t) (va_A (fl [wMo K h st past acts image ipast iacts tape tmany laneOf sizeOf items seaFirst worstOf farTo stepsTo needs nmany mat told]) sz)) 0 0 (va_A (fl [wMo K h st past acts image ipast iacts tape tmany laneOf sizeOf items seaFirst worstOf farTo stepsTo needs nmany mat told]) sz) := by
  refine x_entry (cc := cX11_needsOne) (maxL := 4) (ret := none) (QA := fun A => va_Qv (fun (u : (Nat → Int32) × Int32) => post u.1 u.2) (fun u t => cQ D K (fl [wMo K h st past acts image ipast iacts tape tmany laneOf sizeOf items seaFirst worstOf farTo stepsTo u.1 u.2 mat told]) A t) A) (plainFor_of_name (by decide)) rfl (Nat.le_of_ble_eq_true rfl) ?_
  intro p e s m args below meth c A ls H Q hQ hC hlk hr hnm hI hl
  obtain ⟨hx, hb, hml, hown, hts, hK, hA, hZ⟩ := id hC
  obtain ⟨locs, hlocs⟩ : ∃ y : List Loc, y = [] := ⟨_, rfl⟩
  rw [← hlocs] at hI ⊢
  clear hlocs
  replace hl : lv_has ls 4 [(0, .ref (h 0)), (1, .int a1)] := hl
  replace hw : (∃ (I4 : Int32 → Int32 → Prop) (mu4 : Int32 → Int32 → Nat), I4 (0 : Int32) (0 : Int32) ∧ ∀ (l2_4 : Int32) (l3_4 : Int32), I4 l2_4 l3_4 → ((nmany ≤ l3_4 → ((l2_4 = 0 → vp_in nmany 26 ∧ ∀ x4 : Int32, x4 = nmany + (1 : Int32) → post (upd needs nmany.toNatClampNeg a1) x4) ∧ (¬ l2_4 = 0 → post needs nmany))) ∧ (¬ nmany ≤ l3_4 → ((l2_4 = 0 → vp_in l3_4 26 ∧ (((needs l3_4.toNatClampNeg) = a1 → ∀ x10 : Int32, x10 = l3_4 + 1 → (I4 (1 : Int32) x10 ∧ mu4 (1 : Int32) x10 < mu4 l2_4 l3_4)) ∧ (¬ (needs l3_4.toNatClampNeg) = a1 → ∀ x9 : Int32, x9 = l3_4 + 1 → (I4 (0 : Int32) x9 ∧ mu4 (0 : Int32) x9 < mu4 l2_4 l3_4)))) ∧ (¬ l2_4 = 0 → ∀ x6 : Int32, x6 = l3_4 + 1 → (I4 (1 : Int32) x6 ∧ mu4 (1 : Int32) x6 < mu4 l2_4 l3_4)))))) := hw
  refine lv_iconst (v := (0 : Int32)) hx hb dX11_needsOne_0 (by decide) ?_
  refine lv_istore_n (lv' := [(2, .int (0 : Int32)), (0, .ref (h 0)), (1, .int a1)]) hx hb dX11_needsOne_1 rfl hl (by decide) rfl (fun ls hl => ?_)
  refine lv_iconst (v := (0 : Int32)) hx hb dX11_needsOne_2 (by decide) ?_
  refine lv_istore_n (lv' := [(3, .int (0 : Int32)), (2, .int (0 : Int32)), (0, .ref (h 0)), (1, .int a1)]) hx hb dX11_needsOne_3 rfl hl (by decide) rfl (fun ls hl => ?_)
  obtain ⟨I4, mu4, hw, hb4⟩ := hw
  have lp4 : ∀ (k : Nat) (l2_4 : Int32) (l3_4 : Int32) (ls : Array Slot) (H : Heap) (locs : List Loc), mu4 l2_4 l3_4 < k → I4 l2_4 l3_4 → wI s D A (fl [wMo K h st past acts image ipast iacts tape tmany laneOf sizeOf items seaFirst worstOf farTo stepsTo needs nmany mat told]) H locs → lv_has ls 4 [(0, .ref (h 0)), (1, .int a1), (2, .int l2_4), (3, .int l3_4)] → W p l e rmX11_needsOne s m args below meth c H locs 0 0 Q (F0 m 4 ls []) := by
    intro k
    induction k with
    | zero => intro l2_4 l3_4 ls H locs hmu; exact absurd hmu (Nat.not_lt_zero _)
    | succ k ih4 =>
      intro l2_4 l3_4 ls H locs hmu4 hw hI hl
      replace hw := hb4 l2_4 l3_4 hw
      refine lv_iload_n hx hb dX11_needsOne_4 rfl (lv_at hl 3 rfl) ?_
      refine lv_aload_n hx hb dX11_needsOne_5 rfl (lv_at hl 0 rfl) ?_
      refine x_get (v := .int nmany) hC hI kX11_needsOne_cX11 0 rfl rfl 16 (by decide) kX11_needsOne_0 rfl rfl dX11_needsOne_6 ?_
      refine lv_icmp_ge (tgt := 38) hx hb dX11_needsOne_9 (by decide) (fun c1 => ?_) (fun c1 => ?_)
      · replace hw := hw.1 c1
        refine lv_iload_n hx hb dX11_needsOne_38 rfl (lv_at hl 2 rfl) ?_
        refine lv_if_ne (tgt := 62) hx hb dX11_needsOne_39 (by decide) (fun c2 => ?_) (fun c2 => ?_)
        · replace hw := hw.2 c2
          subst hQ
          exact x_vret (u := (needs, nmany)) hC hI hr hlk hw rfl dX11_needsOne_62
        · replace hw := hw.1 c2
          refine lv_aload_n hx hb dX11_needsOne_42 rfl (lv_at hl 0 rfl) ?_
          refine x_get (v := .ref (h 13)) hC hI kX11_needsOne_cX11 0 rfl rfl 15 (by decide) kX11_needsOne_2 rfl rfl dX11_needsOne_43 ?_
          refine lv_aload_n hx hb dX11_needsOne_46 rfl (lv_at hl 0 rfl) ?_
          refine x_get (v := .int nmany) hC hI kX11_needsOne_cX11 0 rfl rfl 16 (by decide) kX11_needsOne_0 rfl rfl dX11_needsOne_47 ?_
          refine lv_iload_n hx hb dX11_needsOne_50 rfl (lv_at hl 1 rfl) ?_
          obtain ⟨hc3, hw⟩ := hw
          refine x_iast (f := needs) hC hI 13 rfl hc3 dX11_needsOne_51 (fun H locs hI => ?_)
          have hI : wI s D A (fl [wMo K h st past acts image ipast iacts tape tmany laneOf sizeOf items seaFirst worstOf farTo stepsTo (upd needs nmany.toNatClampNeg a1) nmany mat told]) H locs := hI
          refine lv_aload_n hx hb dX11_needsOne_52 rfl (lv_at hl 0 rfl) ?_
          refine lv_dup hx hb dX11_needsOne_53 rfl ?_
          refine x_get (v := .int nmany) hC hI kX11_needsOne_cX11 0 rfl rfl 16 (by decide) kX11_needsOne_0 rfl rfl dX11_needsOne_54 ?_
          refine lv_iconst (v := (1 : Int32)) hx hb dX11_needsOne_57 (by decide) ?_
          refine lv_iadd hx hb dX11_needsOne_58 ?_
          refine lv_topi (fun x4 ex4 => ?_)
          replace hw := hw x4 ex4
          refine x_put (v := .int x4) hC hI kX11_needsOne_cX11 tyX11 tyX11_ok nmX11 0 rfl rfl 16 (by decide) kX11_needsOne_0 rfl rfl rfl rfl (Nat.le_of_ble_eq_true rfl) dX11_needsOne_59 (fun H locs hI => ?_)
          have hI : wI s D A (fl [wMo K h st past acts image ipast iacts tape tmany laneOf sizeOf items seaFirst worstOf farTo stepsTo (upd needs nmany.toNatClampNeg a1) x4 mat told]) H locs := hI
          subst hQ
          exact x_vret (u := ((upd needs nmany.toNatClampNeg a1), x4)) hC hI hr hlk hw rfl dX11_needsOne_62
      · replace hw := hw.2 c1
        refine lv_iload_n hx hb dX11_needsOne_12 rfl (lv_at hl 2 rfl) ?_
        refine lv_if_ne (tgt := 26) hx hb dX11_needsOne_13 (by decide) (fun c5 => ?_) (fun c5 => ?_)
        · replace hw := hw.2 c5
          refine lv_iconst (v := (1 : Int32)) hx hb dX11_needsOne_26 (by decide) ?_
          refine lv_goto (tgt := 31) hx hb dX11_needsOne_27 (by decide) ?_
          refine lv_istore_n (lv' := [(2, .int (1 : Int32)), (0, .ref (h 0)), (1, .int a1), (3, .int l3_4)]) hx hb dX11_needsOne_31 rfl hl (by decide) rfl (fun ls hl => ?_)
          obtain ⟨x6, ex6⟩ : ∃ y : Int32, y = l3_4 + 1 := ⟨_, rfl⟩
          replace hw := hw x6 ex6
          refine lv_iinc (v := x6) (lv' := [(3, .int x6), (2, .int (1 : Int32)), (0, .ref (h 0)), (1, .int a1)]) hx hb dX11_needsOne_32 hl (k := 3) rfl (by rw [ex6]; rfl) (by decide) rfl (fun ls hl => ?_)
          refine lv_goto (tgt := 4) hx hb dX11_needsOne_35 (by decide) ?_
          exact ih4 (1 : Int32) x6 ls H locs (Nat.lt_of_lt_of_le hw.2 (Nat.le_of_lt_succ hmu4)) hw.1 hI (lv_sub hl [2, 3, 1, 0] rfl)
        · replace hw := hw.1 c5
          refine lv_aload_n hx hb dX11_needsOne_16 rfl (lv_at hl 0 rfl) ?_
          refine x_get (v := .ref (h 13)) hC hI kX11_needsOne_cX11 0 rfl rfl 15 (by decide) kX11_needsOne_2 rfl rfl dX11_needsOne_17 ?_
          refine lv_iload_n hx hb dX11_needsOne_20 rfl (lv_at hl 3 rfl) ?_
          obtain ⟨hc7, hw⟩ := hw
          refine x_iald (f := needs) hC hI 13 rfl hc7 dX11_needsOne_21 ?_
          refine lv_iload_n hx hb dX11_needsOne_22 rfl (lv_at hl 1 rfl) ?_
          refine lv_icmp_ne (tgt := 30) hx hb dX11_needsOne_23 (by decide) (fun c8 => ?_) (fun c8 => ?_)
          · replace hw := hw.2 c8
            refine lv_iconst (v := (0 : Int32)) hx hb dX11_needsOne_30 (by decide) ?_
            refine lv_istore_n (lv' := [(2, .int (0 : Int32)), (0, .ref (h 0)), (1, .int a1), (3, .int l3_4)]) hx hb dX11_needsOne_31 rfl hl (by decide) rfl (fun ls hl => ?_)
            obtain ⟨x9, ex9⟩ : ∃ y : Int32, y = l3_4 + 1 := ⟨_, rfl⟩
            replace hw := hw x9 ex9
            refine lv_iinc (v := x9) (lv' := [(3, .int x9), (2, .int (0 : Int32)), (0, .ref (h 0)), (1, .int a1)]) hx hb dX11_needsOne_32 hl (k := 3) rfl (by rw [ex9]; rfl) (by decide) rfl (fun ls hl => ?_)
            refine lv_goto (tgt := 4) hx hb dX11_needsOne_35 (by decide) ?_
            exact ih4 (0 : Int32) x9 ls H locs (Nat.lt_of_lt_of_le hw.2 (Nat.le_of_lt_succ hmu4)) hw.1 hI (lv_sub hl [2, 3, 1, 0] rfl)
          · replace hw := hw.1 c8
            refine lv_iconst (v := (1 : Int32)) hx hb dX11_needsOne_26 (by decide) ?_
            refine lv_goto (tgt := 31) hx hb dX11_needsOne_27 (by decide) ?_
            refine lv_istore_n (lv' := [(2, .int (1 : Int32)), (0, .ref (h 0)), (1, .int a1), (3, .int l3_4)]) hx hb dX11_needsOne_31 rfl hl (by decide) rfl (fun ls hl => ?_)
            obtain ⟨x10, ex10⟩ : ∃ y : Int32, y = l3_4 + 1 := ⟨_, rfl⟩
            replace hw := hw x10 ex10
            refine lv_iinc (v := x10) (lv' := [(3, .int x10), (2, .int (1 : Int32)), (0, .ref (h 0)), (1, .int a1)]) hx hb dX11_needsOne_32 hl (k := 3) rfl (by rw [ex10]; rfl) (by decide) rfl (fun ls hl => ?_)
            refine lv_goto (tgt := 4) hx hb dX11_needsOne_35 (by decide) ?_
            exact ih4 (1 : Int32) x10 ls H locs (Nat.lt_of_lt_of_le hw.2 (Nat.le_of_lt_succ hmu4)) hw.1 hI (lv_sub hl [2, 3, 1, 0] rfl)
  exact lp4 (mu4 (0 : Int32) (0 : Int32) + 1) (0 : Int32) (0 : Int32) ls H locs (Nat.lt_succ_self _) hw hI (lv_sub hl [2, 3, 1, 0] rfl)

def wX11_laysNeeds  (st : Nat → Int32) (needs : Nat → Int32) (post : (Nat → Int32) → Int32 → Prop) : Prop := (∃ (I7 : Int32 → (Nat → Int32) → Int32 → Prop) (mu7 : Int32 → (Nat → Int32) → Int32 → Nat), I7 (0 : Int32) needs (0 : Int32) ∧ ∀ (l1_7 : Int32) (needs_7 : Nat → Int32) (nmany_7 : Int32), I7 l1_7 needs_7 nmany_7 → (((266 : Int32) ≤ l1_7 → post needs_7 nmany_7) ∧ (¬ (266 : Int32) ≤ l1_7 → wX11_isLand l1_7 st (fun (r2 : Int32) => ((r2 = 0 → ∀ x4 : Int32, x4 = l1_7 + 1 → (I7 x4 needs_7 nmany_7 ∧ mu7 x4 needs_7 nmany_7 < mu7 l1_7 needs_7 nmany_7)) ∧ (¬ r2 = 0 → wX11_rowOf l1_7 (fun (r5 : Int32) => wX11_isOnStrips r5 st (fun (r6 : Int32) => ((r6 = 0 → ∀ x8 : Int32, x8 = l1_7 + 1 → (I7 x8 needs_7 nmany_7 ∧ mu7 x8 needs_7 nmany_7 < mu7 l1_7 needs_7 nmany_7)) ∧ (¬ r6 = 0 → wX11_stepOf l1_7 (fun (r9 : Int32) => wX11_wide st (fun (r10 : Int32) => ¬ r10 = 0 ∧ ∀ x12 : Int32, x12 = r9 / r10 → wX11_isCut l1_7 st (fun (r13 : Int32) => ∃ J68 : Int32 → Prop, (∀ (t_68 : Int32), J68 t_68 → wX11_isPole l1_7 (fun (r14 : Int32) => ∃ J93 : Int32 → Prop, (∀ (t_93 : Int32), J93 t_93 → wX11_needsOne t_93 needs_7 nmany_7 (fun (needs_c15 : Nat → Int32) (nmany_c16 : Int32) => ∀ x17 : Int32, x17 = l1_7 + 1 → (I7 x17 needs_c15 nmany_c16 ∧ mu7 x17 needs_c15 nmany_c16 < mu7 l1_7 needs_7 nmany_7))) ∧ ((r14 = 0 → J93 t_68) ∧ (¬ r14 = 0 → J93 (((1 : Int32) <<< ((st 267) &&& 31)) - (1 : Int32)))))) ∧ ((r13 = 0 → J68 ((1 : Int32) <<< (x12 &&& 31))) ∧ (¬ r13 = 0 → wX11_stripAhead x12 st (fun (r20 : Int32) => J68 (((1 : Int32) <<< (x12 &&& 31)) ||| ((1 : Int32) <<< (r20 &&& 31)))))))))))))))))))
def rmX11_laysNeeds : Room := { frames := 3, cells := 0, slots := 0, locals := 61 }
theorem kX11_laysNeeds_0 : Cond.fieldLink RX11 200 "GoreGlobeModel" "needsMany" "I" ∈ wsX11_laysNeeds := List.mem_cons_of_mem _ (List.mem_append_left _ (List.mem_append_left _ (List.mem_of_getElem? (i := 0) rfl)))
theorem kX11_laysNeeds_cX11 : ∀ w ∈ wsX110, w ∈ wsX11_laysNeeds := fun _ h => List.mem_cons_of_mem _ (List.mem_append_right _ h)
theorem kX11_laysNeeds_2 : Cond.fieldLink RX11 7 "GoreGlobeModel" "st" "[I" ∈ wsX11_laysNeeds := List.mem_cons_of_mem _ (List.mem_append_left _ (List.mem_append_left _ (List.mem_of_getElem? (i := 1) rfl)))
set_option maxHeartbeats 4000000 in
set_option maxRecDepth 100000 in
theorem mX11_laysNeeds (l : Launch) (D : va_G) (K : Nat → ClassId) (h : Nat → Nat) (sz : Nat)  (st : Nat → Int32) (past : Nat → Int32) (acts : Int32) (image : Nat → Int32) (ipast : Nat → Int32) (iacts : Int32) (tape : Nat → Int32) (tmany : Int32) (laneOf : Nat → Int32) (sizeOf : Nat → Int32) (items : Nat → Int64) (seaFirst : Nat → Int32) (worstOf : Nat → Int32) (farTo : Nat → Int32) (stepsTo : Nat → Int32) (needs : Nat → Int32) (nmany : Int32) (mat : Int32) (told : Nat → Int32)  {post : (Nat → Int32) → Int32 → Prop} (hw : wX11_laysNeeds  st needs post) : Met l yX11_laysNeeds wsX11_laysNeeds rmX11_laysNeeds (va_Pc [.ref (h 0)] (cP D K (fl [wMo K h st past acts image ipast iacts tape tmany laneOf sizeOf items seaFirst worstOf farTo stepsTo needs nmany mat told]) sz)) (va_Qv (fun (u : (Nat → Int32) × Int32) => post u.1 u.2) (fun u t => cQ D K (fl [wMo K h st past acts image ipast iacts tape tmany laneOf sizeOf items seaFirst worstOf farTo stepsTo u.1 u.2 mat told]) (va_A (fl [wMo K h st past acts image ipast iacts tape tmany laneOf sizeOf items seaFirst worstOf farTo stepsTo needs nmany mat told]) sz) t) (va_A (fl [wMo K h st past acts image ipast iacts tape tmany laneOf sizeOf items seaFirst worstOf farTo stepsTo needs nmany mat told]) sz)) 0 0 (va_A (fl [wMo K h st past acts image ipast iacts tape tmany laneOf sizeOf items seaFirst worstOf farTo stepsTo needs nmany mat told]) sz) := by
  refine x_entry (cc := cX11_laysNeeds) (maxL := 4) (ret := none) (QA := fun A => va_Qv (fun (u : (Nat → Int32) × Int32) => post u.1 u.2) (fun u t => cQ D K (fl [wMo K h st past acts image ipast iacts tape tmany laneOf sizeOf items seaFirst worstOf farTo stepsTo u.1 u.2 mat told]) A t) A) (plainFor_of_name (by decide)) rfl (Nat.le_of_ble_eq_true rfl) ?_
  intro p e s m args below meth c A ls H Q hQ hC hlk hr hnm hI hl
  obtain ⟨hx, hb, hml, hown, hts, hK, hA, hZ⟩ := id hC
  obtain ⟨locs, hlocs⟩ : ∃ y : List Loc, y = [] := ⟨_, rfl⟩
  rw [← hlocs] at hI ⊢
  clear hlocs
  replace hl : lv_has ls 4 [(0, .ref (h 0))] := hl
  replace hw : (∃ (I7 : Int32 → (Nat → Int32) → Int32 → Prop) (mu7 : Int32 → (Nat → Int32) → Int32 → Nat), I7 (0 : Int32) needs (0 : Int32) ∧ ∀ (l1_7 : Int32) (needs_7 : Nat → Int32) (nmany_7 : Int32), I7 l1_7 needs_7 nmany_7 → (((266 : Int32) ≤ l1_7 → post needs_7 nmany_7) ∧ (¬ (266 : Int32) ≤ l1_7 → wX11_isLand l1_7 st (fun (r2 : Int32) => ((r2 = 0 → ∀ x4 : Int32, x4 = l1_7 + 1 → (I7 x4 needs_7 nmany_7 ∧ mu7 x4 needs_7 nmany_7 < mu7 l1_7 needs_7 nmany_7)) ∧ (¬ r2 = 0 → wX11_rowOf l1_7 (fun (r5 : Int32) => wX11_isOnStrips r5 st (fun (r6 : Int32) => ((r6 = 0 → ∀ x8 : Int32, x8 = l1_7 + 1 → (I7 x8 needs_7 nmany_7 ∧ mu7 x8 needs_7 nmany_7 < mu7 l1_7 needs_7 nmany_7)) ∧ (¬ r6 = 0 → wX11_stepOf l1_7 (fun (r9 : Int32) => wX11_wide st (fun (r10 : Int32) => ¬ r10 = 0 ∧ ∀ x12 : Int32, x12 = r9 / r10 → wX11_isCut l1_7 st (fun (r13 : Int32) => ∃ J68 : Int32 → Prop, (∀ (t_68 : Int32), J68 t_68 → wX11_isPole l1_7 (fun (r14 : Int32) => ∃ J93 : Int32 → Prop, (∀ (t_93 : Int32), J93 t_93 → wX11_needsOne t_93 needs_7 nmany_7 (fun (needs_c15 : Nat → Int32) (nmany_c16 : Int32) => ∀ x17 : Int32, x17 = l1_7 + 1 → (I7 x17 needs_c15 nmany_c16 ∧ mu7 x17 needs_c15 nmany_c16 < mu7 l1_7 needs_7 nmany_7))) ∧ ((r14 = 0 → J93 t_68) ∧ (¬ r14 = 0 → J93 (((1 : Int32) <<< ((st 267) &&& 31)) - (1 : Int32)))))) ∧ ((r13 = 0 → J68 ((1 : Int32) <<< (x12 &&& 31))) ∧ (¬ r13 = 0 → wX11_stripAhead x12 st (fun (r20 : Int32) => J68 (((1 : Int32) <<< (x12 &&& 31)) ||| ((1 : Int32) <<< (r20 &&& 31))))))))))))))))))) := hw
  refine lv_aload_n hx hb dX11_laysNeeds_0 rfl (lv_at hl 0 rfl) ?_
  refine lv_iconst (v := (0 : Int32)) hx hb dX11_laysNeeds_1 (by decide) ?_
  refine x_put (v := .int (0 : Int32)) hC hI kX11_laysNeeds_cX11 tyX11 tyX11_ok nmX11 0 rfl rfl 16 (by decide) kX11_laysNeeds_0 rfl rfl rfl rfl (Nat.le_of_ble_eq_true rfl) dX11_laysNeeds_2 (fun H locs hI => ?_)
  have hI : wI s D A (fl [wMo K h st past acts image ipast iacts tape tmany laneOf sizeOf items seaFirst worstOf farTo stepsTo needs (0 : Int32) mat told]) H locs := hI
  refine lv_iconst (v := (0 : Int32)) hx hb dX11_laysNeeds_5 (by decide) ?_
  refine lv_istore_n (lv' := [(1, .int (0 : Int32)), (0, .ref (h 0))]) hx hb dX11_laysNeeds_6 rfl hl (by decide) rfl (fun ls hl => ?_)
  obtain ⟨I7, mu7, hw, hb7⟩ := hw
  have lp7 : ∀ (k : Nat) (l1_7 : Int32) (needs_7 : Nat → Int32) (nmany_7 : Int32) (ls : Array Slot) (H : Heap) (locs : List Loc), mu7 l1_7 needs_7 nmany_7 < k → I7 l1_7 needs_7 nmany_7 → wI s D A (fl [wMo K h st past acts image ipast iacts tape tmany laneOf sizeOf items seaFirst worstOf farTo stepsTo needs_7 nmany_7 mat told]) H locs → lv_has ls 4 [(0, .ref (h 0)), (1, .int l1_7)] → W p l e rmX11_laysNeeds s m args below meth c H locs 0 0 Q (F0 m 7 ls []) := by
    intro k
    induction k with
    | zero => intro l1_7 needs_7 nmany_7 ls H locs hmu; exact absurd hmu (Nat.not_lt_zero _)
    | succ k ih7 =>
      intro l1_7 needs_7 nmany_7 ls H locs hmu7 hw hI hl
      replace hw := hb7 l1_7 needs_7 nmany_7 hw
      refine lv_iload_n hx hb dX11_laysNeeds_7 rfl (lv_at hl 1 rfl) ?_
      refine lv_sipush (v := (266 : Int32)) hx hb dX11_laysNeeds_8 (by decide) ?_
      refine lv_icmp_ge (tgt := 102) hx hb dX11_laysNeeds_11 (by decide) (fun c1 => ?_) (fun c1 => ?_)
      · replace hw := hw.1 c1
        subst hQ
        exact x_vret (u := (needs_7, nmany_7)) hC hI hr hlk hw rfl dX11_laysNeeds_102
      · replace hw := hw.2 c1
        refine lv_aload_n hx hb dX11_laysNeeds_14 rfl (lv_at hl 0 rfl) ?_
        refine lv_iload_n hx hb dX11_laysNeeds_15 rfl (lv_at hl 1 rfl) ?_
        refine x_callWi (rest := []) hC hI (mX11_isLand l D K h _ l1_7 st past acts image ipast iacts tape tmany laneOf sizeOf items seaFirst worstOf farTo stepsTo needs_7 nmany_7 mat told hw) (cwV 1 hts gX11_laysNeeds_X11_isLand rfl rfl rfl (by decide +kernel) ⟨(Nat.le_of_ble_eq_true rfl), (Nat.le_of_ble_eq_true rfl)⟩) (fun _ => rfl) 0 9 rfl rfl rfl rfl hl.1 rfl (Nat.le_of_ble_eq_true rfl) dX11_laysNeeds_16 ⟨(Nat.le_of_ble_eq_true rfl), (Nat.le_of_ble_eq_true rfl)⟩ (fun r2 u H locs hw hI => ?_)
        try dsimp only at hw
        have hI : wI s D A (fl [wMo K h st past acts image ipast iacts tape tmany laneOf sizeOf items seaFirst worstOf farTo stepsTo needs_7 nmany_7 mat told]) H locs := hI
        refine lv_if_eq (tgt := 96) hx hb dX11_laysNeeds_19 (by decide) (fun c3 => ?_) (fun c3 => ?_)
        · replace hw := hw.1 c3
          obtain ⟨x4, ex4⟩ : ∃ y : Int32, y = l1_7 + 1 := ⟨_, rfl⟩
          replace hw := hw x4 ex4
          refine lv_iinc (v := x4) (lv' := [(1, .int x4), (0, .ref (h 0))]) hx hb dX11_laysNeeds_96 hl (k := 1) rfl (by rw [ex4]; rfl) (by decide) rfl (fun ls hl => ?_)
          refine lv_goto (tgt := 7) hx hb dX11_laysNeeds_99 (by decide) ?_
          exact ih7 x4 needs_7 nmany_7 ls H locs (Nat.lt_of_lt_of_le hw.2 (Nat.le_of_lt_succ hmu7)) hw.1 hI (lv_sub hl [1, 0] rfl)
        · replace hw := hw.2 c3
          refine lv_aload_n hx hb dX11_laysNeeds_22 rfl (lv_at hl 0 rfl) ?_
          refine lv_iload_n hx hb dX11_laysNeeds_23 rfl (lv_at hl 1 rfl) ?_
          refine x_callSi (rest := [.ref (h 0)]) hC hI [] (mX11_rowOf l D K  _ l1_7 hw) (va_cwS 1 hts gX11_laysNeeds_X11_rowOf rfl rfl rfl (by decide +kernel) ⟨(Nat.le_of_ble_eq_true rfl), (Nat.le_of_ble_eq_true rfl)⟩) (by decide) rfl (fun _ => rfl) rfl hl.1 rfl (Nat.le_of_ble_eq_true rfl) dX11_laysNeeds_24 ⟨(Nat.le_of_ble_eq_true rfl), (Nat.le_of_ble_eq_true rfl)⟩ (fun r5 u H locs hw hI => ?_)
          try dsimp only at hw
          have hI : wI s D A (fl [wMo K h st past acts image ipast iacts tape tmany laneOf sizeOf items seaFirst worstOf farTo stepsTo needs_7 nmany_7 mat told]) H locs := hI
          refine x_callWi (rest := []) hC hI (mX11_isOnStrips l D K h _ r5 st past acts image ipast iacts tape tmany laneOf sizeOf items seaFirst worstOf farTo stepsTo needs_7 nmany_7 mat told hw) (cwV 1 hts gX11_laysNeeds_X11_isOnStrips rfl rfl rfl (by decide +kernel) ⟨(Nat.le_of_ble_eq_true rfl), (Nat.le_of_ble_eq_true rfl)⟩) (fun _ => rfl) 0 9 rfl rfl rfl rfl hl.1 rfl (Nat.le_of_ble_eq_true rfl) dX11_laysNeeds_27 ⟨(Nat.le_of_ble_eq_true rfl), (Nat.le_of_ble_eq_true rfl)⟩ (fun r6 u H locs hw hI => ?_)
          try dsimp only at hw
          have hI : wI s D A (fl [wMo K h st past acts image ipast iacts tape tmany laneOf sizeOf items seaFirst worstOf farTo stepsTo needs_7 nmany_7 mat told]) H locs := hI
          refine lv_if_eq (tgt := 96) hx hb dX11_laysNeeds_30 (by decide) (fun c7 => ?_) (fun c7 => ?_)
          · replace hw := hw.1 c7
            obtain ⟨x8, ex8⟩ : ∃ y : Int32, y = l1_7 + 1 := ⟨_, rfl⟩
            replace hw := hw x8 ex8
            refine lv_iinc (v := x8) (lv' := [(1, .int x8), (0, .ref (h 0))]) hx hb dX11_laysNeeds_96 hl (k := 1) rfl (by rw [ex8]; rfl) (by decide) rfl (fun ls hl => ?_)
            refine lv_goto (tgt := 7) hx hb dX11_laysNeeds_99 (by decide) ?_
            exact ih7 x8 needs_7 nmany_7 ls H locs (Nat.lt_of_lt_of_le hw.2 (Nat.le_of_lt_succ hmu7)) hw.1 hI (lv_sub hl [1, 0] rfl)
          · replace hw := hw.2 c7
            refine lv_iload_n hx hb dX11_laysNeeds_33 rfl (lv_at hl 1 rfl) ?_
            refine x_callSi (rest := []) hC hI [] (mX11_stepOf l D K  _ l1_7 hw) (va_cwS 1 hts gX11_laysNeeds_X11_stepOf rfl rfl rfl (by decide +kernel) ⟨(Nat.le_of_ble_eq_true rfl), (Nat.le_of_ble_eq_true rfl)⟩) (by decide) rfl (fun _ => rfl) rfl hl.1 rfl (Nat.le_of_ble_eq_true rfl) dX11_laysNeeds_34 ⟨(Nat.le_of_ble_eq_true rfl), (Nat.le_of_ble_eq_true rfl)⟩ (fun r9 u H locs hw hI => ?_)
            try dsimp only at hw
            have hI : wI s D A (fl [wMo K h st past acts image ipast iacts tape tmany laneOf sizeOf items seaFirst worstOf farTo stepsTo needs_7 nmany_7 mat told]) H locs := hI
            refine lv_aload_n hx hb dX11_laysNeeds_37 rfl (lv_at hl 0 rfl) ?_
            refine x_callWi (rest := [.int r9]) hC hI (mX11_wide l D K h _ st past acts image ipast iacts tape tmany laneOf sizeOf items seaFirst worstOf farTo stepsTo needs_7 nmany_7 mat told hw) (cwV 0 hts gX11_laysNeeds_X11_wide rfl rfl rfl (by decide +kernel) ⟨(Nat.le_of_ble_eq_true rfl), (Nat.le_of_ble_eq_true rfl)⟩) (fun _ => rfl) 0 9 rfl rfl rfl rfl hl.1 rfl (Nat.le_of_ble_eq_true rfl) dX11_laysNeeds_38 ⟨(Nat.le_of_ble_eq_true rfl), (Nat.le_of_ble_eq_true rfl)⟩ (fun r10 u H locs hw hI => ?_)
            try dsimp only at hw
            have hI : wI s D A (fl [wMo K h st past acts image ipast iacts tape tmany laneOf sizeOf items seaFirst worstOf farTo stepsTo needs_7 nmany_7 mat told]) H locs := hI
            obtain ⟨hc11, hw⟩ := hw
            refine lv_idiv hx hb dX11_laysNeeds_41 hc11 ?_
            refine lv_topi (fun x12 ex12 => ?_)
            replace hw := hw x12 ex12
            refine lv_istore_n (lv' := [(2, .int x12), (0, .ref (h 0)), (1, .int l1_7)]) hx hb dX11_laysNeeds_42 rfl hl (by decide) rfl (fun ls hl => ?_)
            refine lv_aload_n hx hb dX11_laysNeeds_43 rfl (lv_at hl 1 rfl) ?_
            refine lv_iload_n hx hb dX11_laysNeeds_44 rfl (lv_at hl 2 rfl) ?_
            refine x_callWi (rest := []) hC hI (mX11_isCut l D K h _ l1_7 st past acts image ipast iacts tape tmany laneOf sizeOf items seaFirst worstOf farTo stepsTo needs_7 nmany_7 mat told hw) (cwV 1 hts gX11_laysNeeds_X11_isCut rfl rfl rfl (by decide +kernel) ⟨(Nat.le_of_ble_eq_true rfl), (Nat.le_of_ble_eq_true rfl)⟩) (fun _ => rfl) 0 9 rfl rfl rfl rfl hl.1 rfl (Nat.le_of_ble_eq_true rfl) dX11_laysNeeds_45 ⟨(Nat.le_of_ble_eq_true rfl), (Nat.le_of_ble_eq_true rfl)⟩ (fun r13 u H locs hw hI => ?_)
            try dsimp only at hw
            have hI : wI s D A (fl [wMo K h st past acts image ipast iacts tape tmany laneOf sizeOf items seaFirst worstOf farTo stepsTo needs_7 nmany_7 mat told]) H locs := hI
            obtain ⟨J68, hJ68, hw⟩ := hw
            have jn68 : ∀ (t_68 : Int32) (ls : Array Slot) (H : Heap) (locs : List Loc), J68 t_68 → wI s D A (fl [wMo K h st past acts image ipast iacts tape tmany laneOf sizeOf items seaFirst worstOf farTo stepsTo needs_7 nmany_7 mat told]) H locs → lv_has ls 4 [(0, .ref (h 0)), (1, .int l1_7)] → W p l e rmX11_laysNeeds s m args below meth c H locs 0 0 Q (F0 m 68 ls [.int t_68]) := by
              intro t_68 ls H locs hw hI hl
              replace hw := hJ68 t_68 hw
              refine lv_istore_n (lv' := [(3, .int t_68), (0, .ref (h 0)), (1, .int l1_7)]) hx hb dX11_laysNeeds_68 rfl hl (by decide) rfl (fun ls hl => ?_)
              refine lv_aload_n hx hb dX11_laysNeeds_69 rfl (lv_at hl 1 rfl) ?_
              refine lv_iload_n hx hb dX11_laysNeeds_70 rfl (lv_at hl 2 rfl) ?_
              refine x_callSi (rest := [.ref (h 0)]) hC hI [] (mX11_isPole l D K  _ l1_7 hw) (va_cwS 1 hts gX11_laysNeeds_X11_isPole rfl rfl rfl (by decide +kernel) ⟨(Nat.le_of_ble_eq_true rfl), (Nat.le_of_ble_eq_true rfl)⟩) (by decide) rfl (fun _ => rfl) rfl hl.1 rfl (Nat.le_of_ble_eq_true rfl) dX11_laysNeeds_71 ⟨(Nat.le_of_ble_eq_true rfl), (Nat.le_of_ble_eq_true rfl)⟩ (fun r14 u H locs hw hI => ?_)
              try dsimp only at hw
              have hI : wI s D A (fl [wMo K h st past acts image ipast iacts tape tmany laneOf sizeOf items seaFirst worstOf farTo stepsTo needs_7 nmany_7 mat told]) H locs := hI
              obtain ⟨J93, hJ93, hw⟩ := hw
              have jn93 : ∀ (t_93 : Int32) (ls : Array Slot) (H : Heap) (locs : List Loc), J93 t_93 → wI s D A (fl [wMo K h st past acts image ipast iacts tape tmany laneOf sizeOf items seaFirst worstOf farTo stepsTo needs_7 nmany_7 mat told]) H locs → lv_has ls 4 [(0, .ref (h 0)), (1, .int l1_7)] → W p l e rmX11_laysNeeds s m args below meth c H locs 0 0 Q (F0 m 93 ls [.int t_93, .ref (h 0)]) := by
                intro t_93 ls H locs hw hI hl
                replace hw := hJ93 t_93 hw
                refine x_callWv (rest := []) hC hI (mX11_needsOne l D K h _ t_93 st past acts image ipast iacts tape tmany laneOf sizeOf items seaFirst worstOf farTo stepsTo needs_7 nmany_7 mat told hw) (cwV 1 hts gX11_laysNeeds_X11_needsOne rfl rfl rfl (by decide +kernel) ⟨(Nat.le_of_ble_eq_true rfl), (Nat.le_of_ble_eq_true rfl)⟩) (fun _ => rfl) 0 9 rfl rfl rfl rfl hl.1 rfl (Nat.le_of_ble_eq_true rfl) dX11_laysNeeds_93 ⟨(Nat.le_of_ble_eq_true rfl), (Nat.le_of_ble_eq_true rfl)⟩ (fun u H locs hw hI => ?_)
                obtain ⟨needs_c15, nmany_c16⟩ := u
                try dsimp only at hw
                have hI : wI s D A (fl [wMo K h st past acts image ipast iacts tape tmany laneOf sizeOf items seaFirst worstOf farTo stepsTo needs_c15 nmany_c16 mat told]) H locs := hI
                obtain ⟨x17, ex17⟩ : ∃ y : Int32, y = l1_7 + 1 := ⟨_, rfl⟩
                replace hw := hw x17 ex17
                refine lv_iinc (v := x17) (lv' := [(1, .int x17), (0, .ref (h 0))]) hx hb dX11_laysNeeds_96 hl (k := 1) rfl (by rw [ex17]; rfl) (by decide) rfl (fun ls hl => ?_)
                refine lv_goto (tgt := 7) hx hb dX11_laysNeeds_99 (by decide) ?_
                exact ih7 x17 needs_c15 nmany_c16 ls H locs (Nat.lt_of_lt_of_le hw.2 (Nat.le_of_lt_succ hmu7)) hw.1 hI (lv_sub hl [1, 0] rfl)
              refine lv_if_eq (tgt := 92) hx hb dX11_laysNeeds_74 (by decide) (fun c18 => ?_) (fun c18 => ?_)
              · replace hw := hw.1 c18
                refine lv_iload_n hx hb dX11_laysNeeds_92 rfl (lv_at hl 0 rfl) ?_
                exact jn93 t_68 ls H locs hw hI (lv_sub hl [1, 2] rfl)
              · replace hw := hw.2 c18
                refine lv_iconst (v := (1 : Int32)) hx hb dX11_laysNeeds_77 (by decide) ?_
                refine lv_aload_n hx hb dX11_laysNeeds_78 rfl (lv_at hl 1 rfl) ?_
                refine x_get (v := .ref (h 1)) hC hI kX11_laysNeeds_cX11 0 rfl rfl 0 (by decide) kX11_laysNeeds_2 rfl rfl dX11_laysNeeds_79 ?_
                refine lv_sipush (v := (267 : Int32)) hx hb dX11_laysNeeds_82 (by decide) ?_
                refine x_iald (f := st) hC hI 1 rfl (by unfold vp_in; decide) dX11_laysNeeds_85 ?_
                refine lv_ishl hx hb dX11_laysNeeds_86 ?_
                refine lv_iconst (v := (1 : Int32)) hx hb dX11_laysNeeds_87 (by decide) ?_
                refine lv_isub hx hb dX11_laysNeeds_88 ?_
                refine lv_goto (tgt := 93) hx hb dX11_laysNeeds_89 (by decide) ?_
                exact jn93 (((1 : Int32) <<< ((st 267) &&& 31)) - (1 : Int32)) ls H locs hw hI (lv_sub hl [1, 2] rfl)
            refine lv_if_eq (tgt := 65) hx hb dX11_laysNeeds_48 (by decide) (fun c19 => ?_) (fun c19 => ?_)
            · replace hw := hw.1 c19
              refine lv_iconst (v := (1 : Int32)) hx hb dX11_laysNeeds_65 (by decide) ?_
              refine lv_iload_n hx hb dX11_laysNeeds_66 rfl (lv_at hl 0 rfl) ?_
              refine lv_ishl hx hb dX11_laysNeeds_67 ?_
              exact jn68 ((1 : Int32) <<< (x12 &&& 31)) ls H locs hw hI (lv_sub hl [1, 2] rfl)
            · replace hw := hw.2 c19
              refine lv_iconst (v := (1 : Int32)) hx hb dX11_laysNeeds_51 (by decide) ?_
              refine lv_iload_n hx hb dX11_laysNeeds_52 rfl (lv_at hl 0 rfl) ?_
              refine lv_ishl hx hb dX11_laysNeeds_53 ?_
              refine lv_iconst (v := (1 : Int32)) hx hb dX11_laysNeeds_54 (by decide) ?_
              refine lv_aload_n hx hb dX11_laysNeeds_55 rfl (lv_at hl 1 rfl) ?_
              refine lv_iload_n hx hb dX11_laysNeeds_56 rfl (lv_at hl 0 rfl) ?_
              refine x_callWi (rest := [.int (1 : Int32), .int ((1 : Int32) <<< (x12 &&& 31))]) hC hI (mX11_stripAhead l D K h _ x12 st past acts image ipast iacts tape tmany laneOf sizeOf items seaFirst worstOf farTo stepsTo needs_7 nmany_7 mat told hw) (cwV 1 hts gX11_laysNeeds_X11_stripAhead rfl rfl rfl (by decide +kernel) ⟨(Nat.le_of_ble_eq_true rfl), (Nat.le_of_ble_eq_true rfl)⟩) (fun _ => rfl) 0 9 rfl rfl rfl rfl hl.1 rfl (Nat.le_of_ble_eq_true rfl) dX11_laysNeeds_57 ⟨(Nat.le_of_ble_eq_true rfl), (Nat.le_of_ble_eq_true rfl)⟩ (fun r20 u H locs hw hI => ?_)
              try dsimp only at hw
              have hI : wI s D A (fl [wMo K h st past acts image ipast iacts tape tmany laneOf sizeOf items seaFirst worstOf farTo stepsTo needs_7 nmany_7 mat told]) H locs := hI
              refine lv_ishl hx hb dX11_laysNeeds_60 ?_
              refine lv_ior hx hb dX11_laysNeeds_61 ?_
              refine lv_goto (tgt := 68) hx hb dX11_laysNeeds_62 (by decide) ?_
              exact jn68 (((1 : Int32) <<< (x12 &&& 31)) ||| ((1 : Int32) <<< (r20 &&& 31))) ls H locs hw hI (lv_sub hl [1, 2] rfl)
  exact lp7 (mu7 (0 : Int32) needs (0 : Int32) + 1) (0 : Int32) needs (0 : Int32) ls H locs (Nat.lt_succ_self _) hw hI (lv_sub hl [1, 0] rfl)

def wX11_areLeft (a1 : Int32) (needs : Nat → Int32) (nmany : Int32) (post : Int32 → Prop) : Prop := (∃ (I4 : Int32 → Int32 → Prop) (mu4 : Int32 → Int32 → Nat), I4 (1 : Int32) (0 : Int32) ∧ ∀ (l2_4 : Int32) (l3_4 : Int32), I4 l2_4 l3_4 → ((nmany ≤ l3_4 → (l2_4 = 0 ∨ l2_4 = 1) ∧ post l2_4) ∧ (¬ nmany ≤ l3_4 → ((l2_4 = 0 → ∀ x4 : Int32, x4 = l3_4 + 1 → (I4 (0 : Int32) x4 ∧ mu4 (0 : Int32) x4 < mu4 l2_4 l3_4)) ∧ (¬ l2_4 = 0 → vp_in l3_4 26 ∧ ((((needs l3_4.toNatClampNeg) &&& a1) = 0 → ∀ x7 : Int32, x7 = l3_4 + 1 → (I4 (0 : Int32) x7 ∧ mu4 (0 : Int32) x7 < mu4 l2_4 l3_4)) ∧ (¬ ((needs l3_4.toNatClampNeg) &&& a1) = 0 → ∀ x8 : Int32, x8 = l3_4 + 1 → (I4 (1 : Int32) x8 ∧ mu4 (1 : Int32) x8 < mu4 l2_4 l3_4))))))))
def rmX11_areLeft : Room := { frames := 0, cells := 0, slots := 0, locals := 0 }
theorem kX11_areLeft_0 : Cond.fieldLink RX11 200 "GoreGlobeModel" "needsMany" "I" ∈ wsX11_areLeft := List.mem_cons_of_mem _ (List.mem_append_left _ (List.mem_of_getElem? (i := 0) rfl))
theorem kX11_areLeft_cX11 : ∀ w ∈ wsX110, w ∈ wsX11_areLeft := fun _ h => List.mem_cons_of_mem _ (List.mem_append_right _ h)
theorem kX11_areLeft_2 : Cond.fieldLink RX11 51 "GoreGlobeModel" "needs" "[I" ∈ wsX11_areLeft := List.mem_cons_of_mem _ (List.mem_append_left _ (List.mem_of_getElem? (i := 1) rfl))
set_option maxHeartbeats 4000000 in
set_option maxRecDepth 100000 in
theorem mX11_areLeft (l : Launch) (D : va_G) (K : Nat → ClassId) (h : Nat → Nat) (sz : Nat) (a1 : Int32) (st : Nat → Int32) (past : Nat → Int32) (acts : Int32) (image : Nat → Int32) (ipast : Nat → Int32) (iacts : Int32) (tape : Nat → Int32) (tmany : Int32) (laneOf : Nat → Int32) (sizeOf : Nat → Int32) (items : Nat → Int64) (seaFirst : Nat → Int32) (worstOf : Nat → Int32) (farTo : Nat → Int32) (stepsTo : Nat → Int32) (needs : Nat → Int32) (nmany : Int32) (mat : Int32) (told : Nat → Int32)  {post : Int32 → Prop} (hw : wX11_areLeft a1 needs nmany post) : Met l yX11_areLeft wsX11_areLeft rmX11_areLeft (va_Pc [.ref (h 0), .int a1] (cP D K (fl [wMo K h st past acts image ipast iacts tape tmany laneOf sizeOf items seaFirst worstOf farTo stepsTo needs nmany mat told]) sz)) (va_Qi (fun (r : Int32) (u : Unit) => post r) (fun u t => cQ D K (fl [wMo K h st past acts image ipast iacts tape tmany laneOf sizeOf items seaFirst worstOf farTo stepsTo needs nmany mat told]) (va_A (fl [wMo K h st past acts image ipast iacts tape tmany laneOf sizeOf items seaFirst worstOf farTo stepsTo needs nmany mat told]) sz) t) (va_A (fl [wMo K h st past acts image ipast iacts tape tmany laneOf sizeOf items seaFirst worstOf farTo stepsTo needs nmany mat told]) sz)) 0 0 (va_A (fl [wMo K h st past acts image ipast iacts tape tmany laneOf sizeOf items seaFirst worstOf farTo stepsTo needs nmany mat told]) sz) := by
  refine x_entry (cc := cX11_areLeft) (maxL := 4) (ret := (some .boolean)) (QA := fun A => va_Qi (fun (r : Int32) (u : Unit) => post r) (fun u t => cQ D K (fl [wMo K h st past acts image ipast iacts tape tmany laneOf sizeOf items seaFirst worstOf farTo stepsTo needs nmany mat told]) A t) A) (plainFor_of_name (by decide)) rfl (Nat.le_of_ble_eq_true rfl) ?_
  intro p e s m args below meth c A ls H Q hQ hC hlk hr hnm hI hl
  obtain ⟨hx, hb, hml, hown, hts, hK, hA, hZ⟩ := id hC
  obtain ⟨locs, hlocs⟩ : ∃ y : List Loc, y = [] := ⟨_, rfl⟩
  rw [← hlocs] at hI ⊢
  clear hlocs
  replace hl : lv_has ls 4 [(0, .ref (h 0)), (1, .int a1)] := hl
  replace hw : (∃ (I4 : Int32 → Int32 → Prop) (mu4 : Int32 → Int32 → Nat), I4 (1 : Int32) (0 : Int32) ∧ ∀ (l2_4 : Int32) (l3_4 : Int32), I4 l2_4 l3_4 → ((nmany ≤ l3_4 → (l2_4 = 0 ∨ l2_4 = 1) ∧ post l2_4) ∧ (¬ nmany ≤ l3_4 → ((l2_4 = 0 → ∀ x4 : Int32, x4 = l3_4 + 1 → (I4 (0 : Int32) x4 ∧ mu4 (0 : Int32) x4 < mu4 l2_4 l3_4)) ∧ (¬ l2_4 = 0 → vp_in l3_4 26 ∧ ((((needs l3_4.toNatClampNeg) &&& a1) = 0 → ∀ x7 : Int32, x7 = l3_4 + 1 → (I4 (0 : Int32) x7 ∧ mu4 (0 : Int32) x7 < mu4 l2_4 l3_4)) ∧ (¬ ((needs l3_4.toNatClampNeg) &&& a1) = 0 → ∀ x8 : Int32, x8 = l3_4 + 1 → (I4 (1 : Int32) x8 ∧ mu4 (1 : Int32) x8 < mu4 l2_4 l3_4)))))))) := hw
  refine lv_iconst (v := (1 : Int32)) hx hb dX11_areLeft_0 (by decide) ?_
  refine lv_istore_n (lv' := [(2, .int (1 : Int32)), (0, .ref (h 0)), (1, .int a1)]) hx hb dX11_areLeft_1 rfl hl (by decide) rfl (fun ls hl => ?_)
  refine lv_iconst (v := (0 : Int32)) hx hb dX11_areLeft_2 (by decide) ?_
  refine lv_istore_n (lv' := [(3, .int (0 : Int32)), (2, .int (1 : Int32)), (0, .ref (h 0)), (1, .int a1)]) hx hb dX11_areLeft_3 rfl hl (by decide) rfl (fun ls hl => ?_)
  obtain ⟨I4, mu4, hw, hb4⟩ := hw
  have lp4 : ∀ (k : Nat) (l2_4 : Int32) (l3_4 : Int32) (ls : Array Slot) (H : Heap) (locs : List Loc), mu4 l2_4 l3_4 < k → I4 l2_4 l3_4 → wI s D A (fl [wMo K h st past acts image ipast iacts tape tmany laneOf sizeOf items seaFirst worstOf farTo stepsTo needs nmany mat told]) H locs → lv_has ls 4 [(0, .ref (h 0)), (1, .int a1), (2, .int l2_4), (3, .int l3_4)] → W p l e rmX11_areLeft s m args below meth c H locs 0 0 Q (F0 m 4 ls []) := by
    intro k
    induction k with
    | zero => intro l2_4 l3_4 ls H locs hmu; exact absurd hmu (Nat.not_lt_zero _)
    | succ k ih4 =>
      intro l2_4 l3_4 ls H locs hmu4 hw hI hl
      replace hw := hb4 l2_4 l3_4 hw
      refine lv_iload_n hx hb dX11_areLeft_4 rfl (lv_at hl 3 rfl) ?_
      refine lv_aload_n hx hb dX11_areLeft_5 rfl (lv_at hl 0 rfl) ?_
      refine x_get (v := .int nmany) hC hI kX11_areLeft_cX11 0 rfl rfl 16 (by decide) kX11_areLeft_0 rfl rfl dX11_areLeft_6 ?_
      refine lv_icmp_ge (tgt := 39) hx hb dX11_areLeft_9 (by decide) (fun c1 => ?_) (fun c1 => ?_)
      · replace hw := hw.1 c1
        refine lv_iload_n hx hb dX11_areLeft_39 rfl (lv_at hl 2 rfl) ?_
        obtain ⟨hc2, hw⟩ := hw
        subst hQ
        exact x_zret (u := ()) hC hI hr hlk hw rfl hc2 dX11_areLeft_40
      · replace hw := hw.2 c1
        refine lv_iload_n hx hb dX11_areLeft_12 rfl (lv_at hl 2 rfl) ?_
        refine lv_if_eq (tgt := 31) hx hb dX11_areLeft_13 (by decide) (fun c3 => ?_) (fun c3 => ?_)
        · replace hw := hw.1 c3
          refine lv_iconst (v := (0 : Int32)) hx hb dX11_areLeft_31 (by decide) ?_
          refine lv_istore_n (lv' := [(2, .int (0 : Int32)), (0, .ref (h 0)), (1, .int a1), (3, .int l3_4)]) hx hb dX11_areLeft_32 rfl hl (by decide) rfl (fun ls hl => ?_)
          obtain ⟨x4, ex4⟩ : ∃ y : Int32, y = l3_4 + 1 := ⟨_, rfl⟩
          replace hw := hw x4 ex4
          refine lv_iinc (v := x4) (lv' := [(3, .int x4), (2, .int (0 : Int32)), (0, .ref (h 0)), (1, .int a1)]) hx hb dX11_areLeft_33 hl (k := 3) rfl (by rw [ex4]; rfl) (by decide) rfl (fun ls hl => ?_)
          refine lv_goto (tgt := 4) hx hb dX11_areLeft_36 (by decide) ?_
          exact ih4 (0 : Int32) x4 ls H locs (Nat.lt_of_lt_of_le hw.2 (Nat.le_of_lt_succ hmu4)) hw.1 hI (lv_sub hl [2, 3, 1, 0] rfl)
        · replace hw := hw.2 c3
          refine lv_aload_n hx hb dX11_areLeft_16 rfl (lv_at hl 0 rfl) ?_
          refine x_get (v := .ref (h 13)) hC hI kX11_areLeft_cX11 0 rfl rfl 15 (by decide) kX11_areLeft_2 rfl rfl dX11_areLeft_17 ?_
          refine lv_iload_n hx hb dX11_areLeft_20 rfl (lv_at hl 3 rfl) ?_
          obtain ⟨hc5, hw⟩ := hw
          refine x_iald (f := needs) hC hI 13 rfl hc5 dX11_areLeft_21 ?_
          refine lv_iload_n hx hb dX11_areLeft_22 rfl (lv_at hl 1 rfl) ?_
          refine lv_iand hx hb dX11_areLeft_23 ?_
          refine lv_if_eq (tgt := 31) hx hb dX11_areLeft_24 (by decide) (fun c6 => ?_) (fun c6 => ?_)
          · replace hw := hw.1 c6
            refine lv_iconst (v := (0 : Int32)) hx hb dX11_areLeft_31 (by decide) ?_
            refine lv_istore_n (lv' := [(2, .int (0 : Int32)), (0, .ref (h 0)), (1, .int a1), (3, .int l3_4)]) hx hb dX11_areLeft_32 rfl hl (by decide) rfl (fun ls hl => ?_)
            obtain ⟨x7, ex7⟩ : ∃ y : Int32, y = l3_4 + 1 := ⟨_, rfl⟩
            replace hw := hw x7 ex7
            refine lv_iinc (v := x7) (lv' := [(3, .int x7), (2, .int (0 : Int32)), (0, .ref (h 0)), (1, .int a1)]) hx hb dX11_areLeft_33 hl (k := 3) rfl (by rw [ex7]; rfl) (by decide) rfl (fun ls hl => ?_)
            refine lv_goto (tgt := 4) hx hb dX11_areLeft_36 (by decide) ?_
            exact ih4 (0 : Int32) x7 ls H locs (Nat.lt_of_lt_of_le hw.2 (Nat.le_of_lt_succ hmu4)) hw.1 hI (lv_sub hl [2, 3, 1, 0] rfl)
          · replace hw := hw.2 c6
            refine lv_iconst (v := (1 : Int32)) hx hb dX11_areLeft_27 (by decide) ?_
            refine lv_goto (tgt := 32) hx hb dX11_areLeft_28 (by decide) ?_
            refine lv_istore_n (lv' := [(2, .int (1 : Int32)), (0, .ref (h 0)), (1, .int a1), (3, .int l3_4)]) hx hb dX11_areLeft_32 rfl hl (by decide) rfl (fun ls hl => ?_)
            obtain ⟨x8, ex8⟩ : ∃ y : Int32, y = l3_4 + 1 := ⟨_, rfl⟩
            replace hw := hw x8 ex8
            refine lv_iinc (v := x8) (lv' := [(3, .int x8), (2, .int (1 : Int32)), (0, .ref (h 0)), (1, .int a1)]) hx hb dX11_areLeft_33 hl (k := 3) rfl (by rw [ex8]; rfl) (by decide) rfl (fun ls hl => ?_)
            refine lv_goto (tgt := 4) hx hb dX11_areLeft_36 (by decide) ?_
            exact ih4 (1 : Int32) x8 ls H locs (Nat.lt_of_lt_of_le hw.2 (Nat.le_of_lt_succ hmu4)) hw.1 hI (lv_sub hl [2, 3, 1, 0] rfl)
  exact lp4 (mu4 (1 : Int32) (0 : Int32) + 1) (1 : Int32) (0 : Int32) ls H locs (Nat.lt_succ_self _) hw hI (lv_sub hl [2, 3, 1, 0] rfl)

def wX11_chances (a1 : Int32) (st : Nat → Int32) (needs : Nat → Int32) (nmany : Int32) (post : Int64 → Prop) : Prop := (∃ (I5 : Int64 → Int32 → Prop) (mu5 : Int64 → Int32 → Nat), I5 (0 : Int64) (0 : Int32) ∧ ∀ (l2_5 : Int64) (l4_5 : Int32), I5 l2_5 l4_5 → ((((1 : Int32) <<< ((st 267) &&& 31)) ≤ l4_5 → post l2_5) ∧ (¬ ((1 : Int32) <<< ((st 267) &&& 31)) ≤ l4_5 → (∃ (I26 : Int64 → Int32 → Prop) (mu26 : Int64 → Int32 → Nat), I26 (1 : Int64) (0 : Int32) ∧ ∀ (l5_26 : Int64) (l7_26 : Int32), I26 l5_26 l7_26 → (((st 267) ≤ l7_26 → wX11_areLeft l4_5 needs nmany (fun (r3 : Int32) => ((r3 = 0 → ∀ x5 : Int64, x5 = l2_5 + (0 : Int64) → ∀ x6 : Int32, x6 = l4_5 + 1 → (I5 x5 x6 ∧ mu5 x5 x6 < mu5 l2_5 l4_5)) ∧ (¬ r3 = 0 → ∀ x7 : Int64, x7 = l2_5 + l5_26 → ∀ x8 : Int32, x8 = l4_5 + 1 → (I5 x7 x8 ∧ mu5 x7 x8 < mu5 l2_5 l4_5))))) ∧ (¬ (st 267) ≤ l7_26 → ((((l4_5 >>> (l7_26 &&& 31)) &&& (1 : Int32)) = (1 : Int32) → ∀ x12 : Int64, x12 = l5_26 * (((10 : Int32) - a1).toInt64) → ∀ x13 : Int32, x13 = l7_26 + 1 → (I26 x12 x13 ∧ mu26 x12 x13 < mu26 l5_26 l7_26)) ∧ (¬ ((l4_5 >>> (l7_26 &&& 31)) &&& (1 : Int32)) = (1 : Int32) → ∀ x10 : Int64, x10 = l5_26 * a1.toInt64 → ∀ x11 : Int32, x11 = l7_26 + 1 → (I26 x10 x11 ∧ mu26 x10 x11 < mu26 l5_26 l7_26)))))))))
def rmX11_chances : Room := { frames := 1, cells := 0, slots := 0, locals := 23 }
theorem kX11_chances_0 : Cond.fieldLink RX11 7 "GoreGlobeModel" "st" "[I" ∈ wsX11_chances := List.mem_cons_of_mem _ (List.mem_append_left _ (List.mem_of_getElem? (i := 0) rfl))
theorem kX11_chances_cX11 : ∀ w ∈ wsX110, w ∈ wsX11_chances := fun _ h => List.mem_cons_of_mem _ (List.mem_append_right _ h)
set_option maxHeartbeats 4000000 in
set_option maxRecDepth 100000 in
theorem mX11_chances (l : Launch) (D : va_G) (K : Nat → ClassId) (h : Nat → Nat) (sz : Nat) (a1 : Int32) (st : Nat → Int32) (past : Nat → Int32) (acts : Int32) (image : Nat → Int32) (ipast : Nat → Int32) (iacts : Int32) (tape : Nat → Int32) (tmany : Int32) (laneOf : Nat → Int32) (sizeOf : Nat → Int32) (items : Nat → Int64) (seaFirst : Nat → Int32) (worstOf : Nat → Int32) (farTo : Nat → Int32) (stepsTo : Nat → Int32) (needs : Nat → Int32) (nmany : Int32) (mat : Int32) (told : Nat → Int32)  {post : Int64 → Prop} (hw : wX11_chances a1 st needs nmany post) : Met l yX11_chances wsX11_chances rmX11_chances (va_Pc [.ref (h 0), .int a1] (cP D K (fl [wMo K h st past acts image ipast iacts tape tmany laneOf sizeOf items seaFirst worstOf farTo stepsTo needs nmany mat told]) sz)) (va_Ql (fun (r : Int64) (u : Unit) => post r) (fun u t => cQ D K (fl [wMo K h st past acts image ipast iacts tape tmany laneOf sizeOf items seaFirst worstOf farTo stepsTo needs nmany mat told]) (va_A (fl [wMo K h st past acts image ipast iacts tape tmany laneOf sizeOf items seaFirst worstOf farTo stepsTo needs nmany mat told]) sz) t) (va_A (fl [wMo K h st past acts image ipast iacts tape tmany laneOf sizeOf items seaFirst worstOf farTo stepsTo needs nmany mat told]) sz)) 0 0 (va_A (fl [wMo K h st past acts image ipast iacts tape tmany laneOf sizeOf items seaFirst worstOf farTo stepsTo needs nmany mat told]) sz) := by
  refine x_entry (cc := cX11_chances) (maxL := 8) (ret := (some .long)) (QA := fun A => va_Ql (fun (r : Int64) (u : Unit) => post r) (fun u t => cQ D K (fl [wMo K h st past acts image ipast iacts tape tmany laneOf sizeOf items seaFirst worstOf farTo stepsTo needs nmany mat told]) A t) A) (plainFor_of_name (by decide)) rfl (Nat.le_of_ble_eq_true rfl) ?_
  intro p e s m args below meth c A ls H Q hQ hC hlk hr hnm hI hl
  obtain ⟨hx, hb, hml, hown, hts, hK, hA, hZ⟩ := id hC
  obtain ⟨locs, hlocs⟩ : ∃ y : List Loc, y = [] := ⟨_, rfl⟩
  rw [← hlocs] at hI ⊢
  clear hlocs
  replace hl : lv_has ls 8 [(0, .ref (h 0)), (1, .int a1)] := hl
  replace hw : (∃ (I5 : Int64 → Int32 → Prop) (mu5 : Int64 → Int32 → Nat), I5 (0 : Int64) (0 : Int32) ∧ ∀ (l2_5 : Int64) (l4_5 : Int32), I5 l2_5 l4_5 → ((((1 : Int32) <<< ((st 267) &&& 31)) ≤ l4_5 → post l2_5) ∧ (¬ ((1 : Int32) <<< ((st 267) &&& 31)) ≤ l4_5 → (∃ (I26 : Int64 → Int32 → Prop) (mu26 : Int64 → Int32 → Nat), I26 (1 : Int64) (0 : Int32) ∧ ∀ (l5_26 : Int64) (l7_26 : Int32), I26 l5_26 l7_26 → (((st 267) ≤ l7_26 → wX11_areLeft l4_5 needs nmany (fun (r3 : Int32) => ((r3 = 0 → ∀ x5 : Int64, x5 = l2_5 + (0 : Int64) → ∀ x6 : Int32, x6 = l4_5 + 1 → (I5 x5 x6 ∧ mu5 x5 x6 < mu5 l2_5 l4_5)) ∧ (¬ r3 = 0 → ∀ x7 : Int64, x7 = l2_5 + l5_26 → ∀ x8 : Int32, x8 = l4_5 + 1 → (I5 x7 x8 ∧ mu5 x7 x8 < mu5 l2_5 l4_5))))) ∧ (¬ (st 267) ≤ l7_26 → ((((l4_5 >>> (l7_26 &&& 31)) &&& (1 : Int32)) = (1 : Int32) → ∀ x12 : Int64, x12 = l5_26 * (((10 : Int32) - a1).toInt64) → ∀ x13 : Int32, x13 = l7_26 + 1 → (I26 x12 x13 ∧ mu26 x12 x13 < mu26 l5_26 l7_26)) ∧ (¬ ((l4_5 >>> (l7_26 &&& 31)) &&& (1 : Int32)) = (1 : Int32) → ∀ x10 : Int64, x10 = l5_26 * a1.toInt64 → ∀ x11 : Int32, x11 = l7_26 + 1 → (I26 x10 x11 ∧ mu26 x10 x11 < mu26 l5_26 l7_26))))))))) := hw
  refine lv_lconst (v := (0 : Int64)) hx hb dX11_chances_0 (by decide) ?_
  refine lv_lstore_n (lv' := [(2, .long (0 : Int64)), (0, .ref (h 0)), (1, .int a1)]) hx hb dX11_chances_1 rfl hl (by decide) rfl (fun ls hl => ?_)
  refine lv_iconst (v := (0 : Int32)) hx hb dX11_chances_2 (by decide) ?_
  refine lv_istore (lv' := [(4, .int (0 : Int32)), (2, .long (0 : Int64)), (0, .ref (h 0)), (1, .int a1)]) hx hb dX11_chances_3 hl (by decide) rfl (fun ls hl => ?_)
  obtain ⟨I5, mu5, hw, hb5⟩ := hw
  have lp5 : ∀ (k : Nat) (l2_5 : Int64) (l4_5 : Int32) (ls : Array Slot) (H : Heap) (locs : List Loc), mu5 l2_5 l4_5 < k → I5 l2_5 l4_5 → wI s D A (fl [wMo K h st past acts image ipast iacts tape tmany laneOf sizeOf items seaFirst worstOf farTo stepsTo needs nmany mat told]) H locs → lv_has ls 8 [(0, .ref (h 0)), (1, .int a1), (2, .long l2_5), (4, .int l4_5)] → W p l e rmX11_chances s m args below meth c H locs 0 0 Q (F0 m 5 ls []) := by
    intro k
    induction k with
    | zero => intro l2_5 l4_5 ls H locs hmu; exact absurd hmu (Nat.not_lt_zero _)
    | succ k ih5 =>
      intro l2_5 l4_5 ls H locs hmu5 hw hI hl
      replace hw := hb5 l2_5 l4_5 hw
      refine lv_iload hx hb dX11_chances_5 (lv_at hl 3 rfl) ?_
      refine lv_iconst (v := (1 : Int32)) hx hb dX11_chances_7 (by decide) ?_
      refine lv_aload_n hx hb dX11_chances_8 rfl (lv_at hl 0 rfl) ?_
      refine x_get (v := .ref (h 1)) hC hI kX11_chances_cX11 0 rfl rfl 0 (by decide) kX11_chances_0 rfl rfl dX11_chances_9 ?_
      refine lv_sipush (v := (267 : Int32)) hx hb dX11_chances_12 (by decide) ?_
      refine x_iald (f := st) hC hI 1 rfl (by unfold vp_in; decide) dX11_chances_15 ?_
      refine lv_ishl hx hb dX11_chances_16 ?_
      refine lv_icmp_ge (tgt := 95) hx hb dX11_chances_17 (by decide) (fun c1 => ?_) (fun c1 => ?_)
      · replace hw := hw.1 c1
        refine lv_lload_n hx hb dX11_chances_95 rfl (lv_at hl 2 rfl) ?_
        subst hQ
        exact x_lret (u := ()) hC hI hr hlk hw rfl dX11_chances_96
      · replace hw := hw.2 c1
        refine lv_lconst (v := (1 : Int64)) hx hb dX11_chances_20 (by decide) ?_
        refine lv_lstore (lv' := [(5, .long (1 : Int64)), (0, .ref (h 0)), (1, .int a1), (2, .long l2_5), (4, .int l4_5)]) hx hb dX11_chances_21 hl (by decide) rfl (fun ls hl => ?_)
        refine lv_iconst (v := (0 : Int32)) hx hb dX11_chances_23 (by decide) ?_
        refine lv_istore (lv' := [(7, .int (0 : Int32)), (5, .long (1 : Int64)), (0, .ref (h 0)), (1, .int a1), (2, .long l2_5), (4, .int l4_5)]) hx hb dX11_chances_24 hl (by decide) rfl (fun ls hl => ?_)
        obtain ⟨I26, mu26, hw, hb26⟩ := hw
        have lp26 : ∀ (k : Nat) (l5_26 : Int64) (l7_26 : Int32) (ls : Array Slot) (H : Heap) (locs : List Loc), mu26 l5_26 l7_26 < k → I26 l5_26 l7_26 → wI s D A (fl [wMo K h st past acts image ipast iacts tape tmany laneOf sizeOf items seaFirst worstOf farTo stepsTo needs nmany mat told]) H locs → lv_has ls 8 [(0, .ref (h 0)), (1, .int a1), (2, .long l2_5), (4, .int l4_5), (5, .long l5_26), (7, .int l7_26)] → W p l e rmX11_chances s m args below meth c H locs 0 0 Q (F0 m 26 ls []) := by
          intro k
          induction k with
          | zero => intro l5_26 l7_26 ls H locs hmu; exact absurd hmu (Nat.not_lt_zero _)
          | succ k ih26 =>
            intro l5_26 l7_26 ls H locs hmu26 hw hI hl
            replace hw := hb26 l5_26 l7_26 hw
            refine lv_iload hx hb dX11_chances_26 (lv_at hl 5 rfl) ?_
            refine lv_aload_n hx hb dX11_chances_28 rfl (lv_at hl 0 rfl) ?_
            refine x_get (v := .ref (h 1)) hC hI kX11_chances_cX11 0 rfl rfl 0 (by decide) kX11_chances_0 rfl rfl dX11_chances_29 ?_
            refine lv_sipush (v := (267 : Int32)) hx hb dX11_chances_32 (by decide) ?_
            refine x_iald (f := st) hC hI 1 rfl (by unfold vp_in; decide) dX11_chances_35 ?_
            refine lv_icmp_ge (tgt := 71) hx hb dX11_chances_36 (by decide) (fun c2 => ?_) (fun c2 => ?_)
            · replace hw := hw.1 c2
              refine lv_lload_n hx hb dX11_chances_71 rfl (lv_at hl 2 rfl) ?_
              refine lv_aload_n hx hb dX11_chances_72 rfl (lv_at hl 0 rfl) ?_
              refine lv_iload hx hb dX11_chances_73 (lv_at hl 3 rfl) ?_
              refine x_callWi (rest := [.long l2_5]) hC hI (mX11_areLeft l D K h _ l4_5 st past acts image ipast iacts tape tmany laneOf sizeOf items seaFirst worstOf farTo stepsTo needs nmany mat told hw) (cwV 1 hts gX11_chances_X11_areLeft rfl rfl rfl (by decide +kernel) ⟨(Nat.le_of_ble_eq_true rfl), (Nat.le_of_ble_eq_true rfl)⟩) (fun _ => rfl) 0 9 rfl rfl rfl rfl hl.1 rfl (Nat.le_of_ble_eq_true rfl) dX11_chances_75 ⟨(Nat.le_of_ble_eq_true rfl), (Nat.le_of_ble_eq_true rfl)⟩ (fun r3 u H locs hw hI => ?_)
              try dsimp only at hw
              have hI : wI s D A (fl [wMo K h st past acts image ipast iacts tape tmany laneOf sizeOf items seaFirst worstOf farTo stepsTo needs nmany mat told]) H locs := hI
              refine lv_if_eq (tgt := 86) hx hb dX11_chances_78 (by decide) (fun c4 => ?_) (fun c4 => ?_)
              · replace hw := hw.1 c4
                refine lv_lconst (v := (0 : Int64)) hx hb dX11_chances_86 (by decide) ?_
                refine lv_ladd hx hb dX11_chances_87 ?_
                refine lv_topl (fun x5 ex5 => ?_)
                replace hw := hw x5 ex5
                refine lv_lstore_n (lv' := [(2, .long x5), (0, .ref (h 0)), (1, .int a1), (4, .int l4_5), (5, .long l5_26), (7, .int l7_26)]) hx hb dX11_chances_88 rfl hl (by decide) rfl (fun ls hl => ?_)
                obtain ⟨x6, ex6⟩ : ∃ y : Int32, y = l4_5 + 1 := ⟨_, rfl⟩
                replace hw := hw x6 ex6
                refine lv_iinc (v := x6) (lv' := [(4, .int x6), (2, .long x5), (0, .ref (h 0)), (1, .int a1), (5, .long l5_26), (7, .int l7_26)]) hx hb dX11_chances_89 hl (k := 3) rfl (by rw [ex6]; rfl) (by decide) rfl (fun ls hl => ?_)
                refine lv_goto (tgt := 5) hx hb dX11_chances_92 (by decide) ?_
                exact ih5 x5 x6 ls H locs (Nat.lt_of_lt_of_le hw.2 (Nat.le_of_lt_succ hmu5)) hw.1 hI (lv_sub hl [2, 3, 1, 0] rfl)
              · replace hw := hw.2 c4
                refine lv_lload hx hb dX11_chances_81 (lv_at hl 4 rfl) ?_
                refine lv_goto (tgt := 87) hx hb dX11_chances_83 (by decide) ?_
                refine lv_ladd hx hb dX11_chances_87 ?_
                refine lv_topl (fun x7 ex7 => ?_)
                replace hw := hw x7 ex7
                refine lv_lstore_n (lv' := [(2, .long x7), (0, .ref (h 0)), (1, .int a1), (4, .int l4_5), (5, .long l5_26), (7, .int l7_26)]) hx hb dX11_chances_88 rfl hl (by decide) rfl (fun ls hl => ?_)
                obtain ⟨x8, ex8⟩ : ∃ y : Int32, y = l4_5 + 1 := ⟨_, rfl⟩
                replace hw := hw x8 ex8
                refine lv_iinc (v := x8) (lv' := [(4, .int x8), (2, .long x7), (0, .ref (h 0)), (1, .int a1), (5, .long l5_26), (7, .int l7_26)]) hx hb dX11_chances_89 hl (k := 3) rfl (by rw [ex8]; rfl) (by decide) rfl (fun ls hl => ?_)
                refine lv_goto (tgt := 5) hx hb dX11_chances_92 (by decide) ?_
                exact ih5 x7 x8 ls H locs (Nat.lt_of_lt_of_le hw.2 (Nat.le_of_lt_succ hmu5)) hw.1 hI (lv_sub hl [2, 3, 1, 0] rfl)
            · replace hw := hw.2 c2
              refine lv_lload hx hb dX11_chances_39 (lv_at hl 4 rfl) ?_
              refine lv_iload hx hb dX11_chances_41 (lv_at hl 3 rfl) ?_
              refine lv_iload hx hb dX11_chances_43 (lv_at hl 5 rfl) ?_
              refine lv_ishr hx hb dX11_chances_45 ?_
              refine lv_iconst (v := (1 : Int32)) hx hb dX11_chances_46 (by decide) ?_
              refine lv_iand hx hb dX11_chances_47 ?_
              refine lv_iconst (v := (1 : Int32)) hx hb dX11_chances_48 (by decide) ?_
              refine lv_icmp_ne (tgt := 60) hx hb dX11_chances_49 (by decide) (fun c9 => ?_) (fun c9 => ?_)
              · replace hw := hw.2 c9
                refine lv_iload_n hx hb dX11_chances_60 rfl (lv_at hl 1 rfl) ?_
                refine lv_i2l (v := a1.toInt64) hx hb dX11_chances_61 rfl ?_
                refine lv_lmul hx hb dX11_chances_62 ?_
                refine lv_topl (fun x10 ex10 => ?_)
                replace hw := hw x10 ex10
                refine lv_lstore (lv' := [(5, .long x10), (0, .ref (h 0)), (1, .int a1), (2, .long l2_5), (4, .int l4_5), (7, .int l7_26)]) hx hb dX11_chances_63 hl (by decide) rfl (fun ls hl => ?_)
                obtain ⟨x11, ex11⟩ : ∃ y : Int32, y = l7_26 + 1 := ⟨_, rfl⟩
                replace hw := hw x11 ex11
                refine lv_iinc (v := x11) (lv' := [(7, .int x11), (5, .long x10), (0, .ref (h 0)), (1, .int a1), (2, .long l2_5), (4, .int l4_5)]) hx hb dX11_chances_65 hl (k := 5) rfl (by rw [ex11]; rfl) (by decide) rfl (fun ls hl => ?_)
                refine lv_goto (tgt := 26) hx hb dX11_chances_68 (by decide) ?_
                exact ih26 x10 x11 ls H locs (Nat.lt_of_lt_of_le hw.2 (Nat.le_of_lt_succ hmu26)) hw.1 hI (lv_sub hl [2, 3, 4, 5, 1, 0] rfl)
              · replace hw := hw.1 c9
                refine lv_bipush (v := (10 : Int32)) hx hb dX11_chances_52 (by decide) ?_
                refine lv_iload_n hx hb dX11_chances_54 rfl (lv_at hl 1 rfl) ?_
                refine lv_isub hx hb dX11_chances_55 ?_
                refine lv_i2l (v := ((10 : Int32) - a1).toInt64) hx hb dX11_chances_56 rfl ?_
                refine lv_goto (tgt := 62) hx hb dX11_chances_57 (by decide) ?_
                refine lv_lmul hx hb dX11_chances_62 ?_
                refine lv_topl (fun x12 ex12 => ?_)
                replace hw := hw x12 ex12
                refine lv_lstore (lv' := [(5, .long x12), (0, .ref (h 0)), (1, .int a1), (2, .long l2_5), (4, .int l4_5), (7, .int l7_26)]) hx hb dX11_chances_63 hl (by decide) rfl (fun ls hl => ?_)
                obtain ⟨x13, ex13⟩ : ∃ y : Int32, y = l7_26 + 1 := ⟨_, rfl⟩
                replace hw := hw x13 ex13
                refine lv_iinc (v := x13) (lv' := [(7, .int x13), (5, .long x12), (0, .ref (h 0)), (1, .int a1), (2, .long l2_5), (4, .int l4_5)]) hx hb dX11_chances_65 hl (k := 5) rfl (by rw [ex13]; rfl) (by decide) rfl (fun ls hl => ?_)
                refine lv_goto (tgt := 26) hx hb dX11_chances_68 (by decide) ?_
                exact ih26 x12 x13 ls H locs (Nat.lt_of_lt_of_le hw.2 (Nat.le_of_lt_succ hmu26)) hw.1 hI (lv_sub hl [2, 3, 4, 5, 1, 0] rfl)
        exact lp26 (mu26 (1 : Int64) (0 : Int32) + 1) (1 : Int64) (0 : Int32) ls H locs (Nat.lt_succ_self _) hw hI (lv_sub hl [2, 3, 4, 5, 1, 0] rfl)
  exact lp5 (mu5 (0 : Int64) (0 : Int32) + 1) (0 : Int64) (0 : Int32) ls H locs (Nat.lt_succ_self _) hw hI (lv_sub hl [2, 3, 1, 0] rfl)

def wX11_common (a0 : Int64) (a2 : Int64)  (post : Int64 → Prop) : Prop := (∃ (I9 : Int64 → Int64 → Int32 → Prop) (mu9 : Int64 → Int64 → Int32 → Nat), I9 a0 a2 (0 : Int32) ∧ ∀ (l4_9 : Int64) (l6_9 : Int64) (l8_9 : Int32), I9 l4_9 l6_9 l8_9 → (((200 : Int32) ≤ l8_9 → post l4_9) ∧ (¬ (200 : Int32) ≤ l8_9 → (((lg_cmp l6_9 (0 : Int64)) = 0 → post l4_9) ∧ (¬ (lg_cmp l6_9 (0 : Int64)) = 0 → ¬ l6_9 = 0 ∧ ∀ x4 : Int64, x4 = l4_9 - l4_9 / l6_9 * l6_9 → ∀ x5 : Int32, x5 = l8_9 + 1 → (I9 l6_9 x4 x5 ∧ mu9 l6_9 x4 x5 < mu9 l4_9 l6_9 l8_9))))))
def rmX11_common : Room := { frames := 0, cells := 0, slots := 0, locals := 0 }
set_option maxHeartbeats 4000000 in
set_option maxRecDepth 100000 in
theorem mX11_common (l : Launch) (D : va_G) (K : Nat → ClassId)  (sz : Nat) (a0 : Int64) (a2 : Int64)   {post : Int64 → Prop} (hw : wX11_common a0 a2  post) : Met l yX11_common wsX11_common rmX11_common (va_Pc [.long a0, .long a2] (cP D K (fl []) sz)) (va_Ql (fun (r : Int64) (u : Unit) => post r) (fun u t => cQ D K (fl []) (va_A (fl []) sz) t) (va_A (fl []) sz)) 0 0 (va_A (fl []) sz) := by
  refine x_entry (cc := cX11_common) (maxL := 11) (ret := (some .long)) (QA := fun A => va_Ql (fun (r : Int64) (u : Unit) => post r) (fun u t => cQ D K (fl []) A t) A) (plainFor_of_name (by decide)) rfl (Nat.le_of_ble_eq_true rfl) ?_
  intro p e s m args below meth c A ls H Q hQ hC hlk hr hnm hI hl
  obtain ⟨hx, hb, hml, hown, hts, hK, hA, hZ⟩ := id hC
  obtain ⟨locs, hlocs⟩ : ∃ y : List Loc, y = [] := ⟨_, rfl⟩
  rw [← hlocs] at hI ⊢
  clear hlocs
  replace hl : lv_has ls 11 [(0, .long a0), (2, .long a2)] := hl
  replace hw : (∃ (I9 : Int64 → Int64 → Int32 → Prop) (mu9 : Int64 → Int64 → Int32 → Nat), I9 a0 a2 (0 : Int32) ∧ ∀ (l4_9 : Int64) (l6_9 : Int64) (l8_9 : Int32), I9 l4_9 l6_9 l8_9 → (((200 : Int32) ≤ l8_9 → post l4_9) ∧ (¬ (200 : Int32) ≤ l8_9 → (((lg_cmp l6_9 (0 : Int64)) = 0 → post l4_9) ∧ (¬ (lg_cmp l6_9 (0 : Int64)) = 0 → ¬ l6_9 = 0 ∧ ∀ x4 : Int64, x4 = l4_9 - l4_9 / l6_9 * l6_9 → ∀ x5 : Int32, x5 = l8_9 + 1 → (I9 l6_9 x4 x5 ∧ mu9 l6_9 x4 x5 < mu9 l4_9 l6_9 l8_9)))))) := hw
  refine lv_lload_n hx hb dX11_common_0 rfl (lv_at hl 0 rfl) ?_
  refine lv_lstore (lv' := [(4, .long a0), (0, .long a0), (2, .long a2)]) hx hb dX11_common_1 hl (by decide) rfl (fun ls hl => ?_)
  refine lv_lload_n hx hb dX11_common_3 rfl (lv_at hl 2 rfl) ?_
  refine lv_lstore (lv' := [(6, .long a2), (4, .long a0), (0, .long a0), (2, .long a2)]) hx hb dX11_common_4 hl (by decide) rfl (fun ls hl => ?_)
  refine lv_iconst (v := (0 : Int32)) hx hb dX11_common_6 (by decide) ?_
  refine lv_istore (lv' := [(8, .int (0 : Int32)), (6, .long a2), (4, .long a0), (0, .long a0), (2, .long a2)]) hx hb dX11_common_7 hl (by decide) rfl (fun ls hl => ?_)
  obtain ⟨I9, mu9, hw, hb9⟩ := hw
  have lp9 : ∀ (k : Nat) (l4_9 : Int64) (l6_9 : Int64) (l8_9 : Int32) (ls : Array Slot) (H : Heap) (locs : List Loc), mu9 l4_9 l6_9 l8_9 < k → I9 l4_9 l6_9 l8_9 → wI s D A (fl []) H locs → lv_has ls 11 [(4, .long l4_9), (6, .long l6_9), (8, .int l8_9)] → W p l e rmX11_common s m args below meth c H locs 0 0 Q (F0 m 9 ls []) := by
    intro k
    induction k with
    | zero => intro l4_9 l6_9 l8_9 ls H locs hmu; exact absurd hmu (Nat.not_lt_zero _)
    | succ k ih9 =>
      intro l4_9 l6_9 l8_9 ls H locs hmu9 hw hI hl
      replace hw := hb9 l4_9 l6_9 l8_9 hw
      refine lv_iload hx hb dX11_common_9 (lv_at hl 2 rfl) ?_
      refine lv_sipush (v := (200 : Int32)) hx hb dX11_common_11 (by decide) ?_
      refine lv_icmp_ge (tgt := 45) hx hb dX11_common_14 (by decide) (fun c1 => ?_) (fun c1 => ?_)
      · replace hw := hw.1 c1
        refine lv_lload hx hb dX11_common_45 (lv_at hl 0 rfl) ?_
        subst hQ
        exact x_lret (u := ()) hC hI hr hlk hw rfl dX11_common_47
      · replace hw := hw.2 c1
        refine lv_lload hx hb dX11_common_17 (lv_at hl 1 rfl) ?_
        refine lv_lconst (v := (0 : Int64)) hx hb dX11_common_19 (by decide) ?_
        refine W.lcmp hx hb dX11_common_20 ?_
        refine lv_if_eq (tgt := 45) hx hb dX11_common_21 (by decide) (fun c2 => ?_) (fun c2 => ?_)
        · replace hw := hw.1 c2
          refine lv_lload hx hb dX11_common_45 (lv_at hl 0 rfl) ?_
          subst hQ
          exact x_lret (u := ()) hC hI hr hlk hw rfl dX11_common_47
        · replace hw := hw.2 c2
          refine lv_lload hx hb dX11_common_24 (lv_at hl 0 rfl) ?_
          refine lv_lload hx hb dX11_common_26 (lv_at hl 1 rfl) ?_
          obtain ⟨hc3, hw⟩ := hw
          refine lv_lrem hx hb dX11_common_28 hc3 ?_
          refine lv_topl (fun x4 ex4 => ?_)
          replace hw := hw x4 ex4
          refine lv_lstore (lv' := [(9, .long x4), (4, .long l4_9), (6, .long l6_9), (8, .int l8_9)]) hx hb dX11_common_29 hl (by decide) rfl (fun ls hl => ?_)
          refine lv_lload hx hb dX11_common_31 (lv_at hl 2 rfl) ?_
          refine lv_lstore (lv' := [(4, .long l6_9), (9, .long x4), (6, .long l6_9), (8, .int l8_9)]) hx hb dX11_common_33 hl (by decide) rfl (fun ls hl => ?_)
          refine lv_lload hx hb dX11_common_35 (lv_at hl 1 rfl) ?_
          refine lv_lstore (lv' := [(6, .long x4), (4, .long l6_9), (9, .long x4), (8, .int l8_9)]) hx hb dX11_common_37 hl (by decide) rfl (fun ls hl => ?_)
          obtain ⟨x5, ex5⟩ : ∃ y : Int32, y = l8_9 + 1 := ⟨_, rfl⟩
          replace hw := hw x5 ex5
          refine lv_iinc (v := x5) (lv' := [(8, .int x5), (6, .long x4), (4, .long l6_9), (9, .long x4)]) hx hb dX11_common_39 hl (k := 3) rfl (by rw [ex5]; rfl) (by decide) rfl (fun ls hl => ?_)
          refine lv_goto (tgt := 9) hx hb dX11_common_42 (by decide) ?_
          exact ih9 l6_9 x4 x5 ls H locs (Nat.lt_of_lt_of_le hw.2 (Nat.le_of_lt_succ hmu9)) hw.1 hI (lv_sub hl [2, 1, 0] rfl)
  exact lp9 (mu9 a0 a2 (0 : Int32) + 1) a0 a2 (0 : Int32) ls H locs (Nat.lt_succ_self _) hw hI (lv_sub hl [2, 1, 0] rfl)

def wX11_lost (a1 : Int32) (a2 : Int32) (st : Nat → Int32) (needs : Nat → Int32) (nmany : Int32) (post : Int64 → (Nat → Int32) → Int32 → Prop) : Prop := wX11_in a1 (0 : Int32) (10 : Int32) (fun (r1 : Int32) => ((r1 = 0 → post (-1 : Int64) needs nmany) ∧ (¬ r1 = 0 → wX11_in a2 (0 : Int32) (1 : Int32) (fun (r3 : Int32) => ((r3 = 0 → post (-1 : Int64) needs nmany) ∧ (¬ r3 = 0 → wX11_laysNeeds st needs (fun (needs_c5 : Nat → Int32) (nmany_c6 : Int32) => wX11_chances a1 st needs_c5 nmany_c6 (fun (r7 : Int64) => (∃ (I39 : Int64 → Int32 → Prop) (mu39 : Int64 → Int32 → Nat), I39 (1 : Int64) (0 : Int32) ∧ ∀ (l5_39 : Int64) (l7_39 : Int32), I39 l5_39 l7_39 → (((st 267) ≤ l7_39 → wX11_common r7 l5_39 (fun (r9 : Int64) => ((a2 = 0 → ¬ r9 = 0 ∧ post (r7 / r9) needs_c5 nmany_c6) ∧ (¬ a2 = 0 → ¬ r9 = 0 ∧ post (l5_39 / r9) needs_c5 nmany_c6)))) ∧ (¬ (st 267) ≤ l7_39 → ∀ x13 : Int64, x13 = l5_39 * (10 : Int64) → ∀ x14 : Int32, x14 = l7_39 + 1 → (I39 x13 x14 ∧ mu39 x13 x14 < mu39 l5_39 l7_39))))))))))))
def rmX11_lost : Room := { frames := 4, cells := 0, slots := 0, locals := 84 }
theorem kX11_lost_0 : Cond.constantLong RX11 209 (-1) ∈ wsX11_lost := List.mem_cons_of_mem _ (List.mem_append_left _ (List.mem_append_left _ (List.mem_of_getElem? (i := 0) rfl)))
theorem kX11_lost_1 : Cond.fieldLink RX11 7 "GoreGlobeModel" "st" "[I" ∈ wsX11_lost := List.mem_cons_of_mem _ (List.mem_append_left _ (List.mem_append_left _ (List.mem_of_getElem? (i := 1) rfl)))
theorem kX11_lost_cX11 : ∀ w ∈ wsX110, w ∈ wsX11_lost := fun _ h => List.mem_cons_of_mem _ (List.mem_append_right _ h)
theorem kX11_lost_3 : Cond.constantLong RX11 218 (10) ∈ wsX11_lost := List.mem_cons_of_mem _ (List.mem_append_left _ (List.mem_append_left _ (List.mem_of_getElem? (i := 2) rfl)))
set_option maxHeartbeats 4000000 in
set_option maxRecDepth 100000 in
theorem mX11_lost (l : Launch) (D : va_G) (K : Nat → ClassId) (h : Nat → Nat) (sz : Nat) (a1 : Int32) (a2 : Int32) (st : Nat → Int32) (past : Nat → Int32) (acts : Int32) (image : Nat → Int32) (ipast : Nat → Int32) (iacts : Int32) (tape : Nat → Int32) (tmany : Int32) (laneOf : Nat → Int32) (sizeOf : Nat → Int32) (items : Nat → Int64) (seaFirst : Nat → Int32) (worstOf : Nat → Int32) (farTo : Nat → Int32) (stepsTo : Nat → Int32) (needs : Nat → Int32) (nmany : Int32) (mat : Int32) (told : Nat → Int32)  {post : Int64 → (Nat → Int32) → Int32 → Prop} (hw : wX11_lost a1 a2 st needs nmany post) : Met l yX11_lost wsX11_lost rmX11_lost (va_Pc [.ref (h 0), .int a1, .int a2] (cP D K (fl [wMo K h st past acts image ipast iacts tape tmany laneOf sizeOf items seaFirst worstOf farTo stepsTo needs nmany mat told]) sz)) (va_Ql (fun (r : Int64) (u : (Nat → Int32) × Int32) => post r u.1 u.2) (fun u t => cQ D K (fl [wMo K h st past acts image ipast iacts tape tmany laneOf sizeOf items seaFirst worstOf farTo stepsTo u.1 u.2 mat told]) (va_A (fl [wMo K h st past acts image ipast iacts tape tmany laneOf sizeOf items seaFirst worstOf farTo stepsTo needs nmany mat told]) sz) t) (va_A (fl [wMo K h st past acts image ipast iacts tape tmany laneOf sizeOf items seaFirst worstOf farTo stepsTo needs nmany mat told]) sz)) 0 0 (va_A (fl [wMo K h st past acts image ipast iacts tape tmany laneOf sizeOf items seaFirst worstOf farTo stepsTo needs nmany mat told]) sz) := by
  refine x_entry (cc := cX11_lost) (maxL := 9) (ret := (some .long)) (QA := fun A => va_Ql (fun (r : Int64) (u : (Nat → Int32) × Int32) => post r u.1 u.2) (fun u t => cQ D K (fl [wMo K h st past acts image ipast iacts tape tmany laneOf sizeOf items seaFirst worstOf farTo stepsTo u.1 u.2 mat told]) A t) A) (plainFor_of_name (by decide)) rfl (Nat.le_of_ble_eq_true rfl) ?_
  intro p e s m args below meth c A ls H Q hQ hC hlk hr hnm hI hl
  obtain ⟨hx, hb, hml, hown, hts, hK, hA, hZ⟩ := id hC
  obtain ⟨locs, hlocs⟩ : ∃ y : List Loc, y = [] := ⟨_, rfl⟩
  rw [← hlocs] at hI ⊢
  clear hlocs
  replace hl : lv_has ls 9 [(0, .ref (h 0)), (1, .int a1), (2, .int a2)] := hl
  replace hw : wX11_in a1 (0 : Int32) (10 : Int32) (fun (r1 : Int32) => ((r1 = 0 → post (-1 : Int64) needs nmany) ∧ (¬ r1 = 0 → wX11_in a2 (0 : Int32) (1 : Int32) (fun (r3 : Int32) => ((r3 = 0 → post (-1 : Int64) needs nmany) ∧ (¬ r3 = 0 → wX11_laysNeeds st needs (fun (needs_c5 : Nat → Int32) (nmany_c6 : Int32) => wX11_chances a1 st needs_c5 nmany_c6 (fun (r7 : Int64) => (∃ (I39 : Int64 → Int32 → Prop) (mu39 : Int64 → Int32 → Nat), I39 (1 : Int64) (0 : Int32) ∧ ∀ (l5_39 : Int64) (l7_39 : Int32), I39 l5_39 l7_39 → (((st 267) ≤ l7_39 → wX11_common r7 l5_39 (fun (r9 : Int64) => ((a2 = 0 → ¬ r9 = 0 ∧ post (r7 / r9) needs_c5 nmany_c6) ∧ (¬ a2 = 0 → ¬ r9 = 0 ∧ post (l5_39 / r9) needs_c5 nmany_c6)))) ∧ (¬ (st 267) ≤ l7_39 → ∀ x13 : Int64, x13 = l5_39 * (10 : Int64) → ∀ x14 : Int32, x14 = l7_39 + 1 → (I39 x13 x14 ∧ mu39 x13 x14 < mu39 l5_39 l7_39)))))))))))) := hw
  refine lv_iload_n hx hb dX11_lost_0 rfl (lv_at hl 1 rfl) ?_
  refine lv_iconst (v := (0 : Int32)) hx hb dX11_lost_1 (by decide) ?_
  refine lv_bipush (v := (10 : Int32)) hx hb dX11_lost_2 (by decide) ?_
  refine x_callSi (rest := []) hC hI [] (mX11_in l D K  _ a1 (0 : Int32) (10 : Int32) hw) (va_cwS 3 hts gX11_lost_X11_in rfl rfl rfl (by decide +kernel) ⟨(Nat.le_of_ble_eq_true rfl), (Nat.le_of_ble_eq_true rfl)⟩) (by decide) rfl (fun _ => rfl) rfl hl.1 rfl (Nat.le_of_ble_eq_true rfl) dX11_lost_4 ⟨(Nat.le_of_ble_eq_true rfl), (Nat.le_of_ble_eq_true rfl)⟩ (fun r1 u H locs hw hI => ?_)
  try dsimp only at hw
  have hI : wI s D A (fl [wMo K h st past acts image ipast iacts tape tmany laneOf sizeOf items seaFirst worstOf farTo stepsTo needs nmany mat told]) H locs := hI
  refine lv_if_eq (tgt := 19) hx hb dX11_lost_7 (by decide) (fun c2 => ?_) (fun c2 => ?_)
  · replace hw := hw.1 c2
    refine lv_ldc2 (v := (-1 : Int64)) hx hb hown (hts _ kX11_lost_0) dX11_lost_19 ?_
    subst hQ
    exact x_lret (u := (needs, nmany)) hC hI hr hlk hw rfl dX11_lost_22
  · replace hw := hw.2 c2
    refine lv_iload_n hx hb dX11_lost_10 rfl (lv_at hl 2 rfl) ?_
    refine lv_iconst (v := (0 : Int32)) hx hb dX11_lost_11 (by decide) ?_
    refine lv_iconst (v := (1 : Int32)) hx hb dX11_lost_12 (by decide) ?_
    refine x_callSi (rest := []) hC hI [] (mX11_in l D K  _ a2 (0 : Int32) (1 : Int32) hw) (va_cwS 3 hts gX11_lost_X11_in rfl rfl rfl (by decide +kernel) ⟨(Nat.le_of_ble_eq_true rfl), (Nat.le_of_ble_eq_true rfl)⟩) (by decide) rfl (fun _ => rfl) rfl hl.1 rfl (Nat.le_of_ble_eq_true rfl) dX11_lost_13 ⟨(Nat.le_of_ble_eq_true rfl), (Nat.le_of_ble_eq_true rfl)⟩ (fun r3 u H locs hw hI => ?_)
    try dsimp only at hw
    have hI : wI s D A (fl [wMo K h st past acts image ipast iacts tape tmany laneOf sizeOf items seaFirst worstOf farTo stepsTo needs nmany mat told]) H locs := hI
    refine lv_if_ne (tgt := 23) hx hb dX11_lost_16 (by decide) (fun c4 => ?_) (fun c4 => ?_)
    · replace hw := hw.2 c4
      refine lv_aload_n hx hb dX11_lost_23 rfl (lv_at hl 0 rfl) ?_
      refine x_callWv (rest := []) hC hI (mX11_laysNeeds l D K h _ st past acts image ipast iacts tape tmany laneOf sizeOf items seaFirst worstOf farTo stepsTo needs nmany mat told hw) (cwV 0 hts gX11_lost_X11_laysNeeds rfl rfl rfl (by decide +kernel) ⟨(Nat.le_of_ble_eq_true rfl), (Nat.le_of_ble_eq_true rfl)⟩) (fun _ => rfl) 0 9 rfl rfl rfl rfl hl.1 rfl (Nat.le_of_ble_eq_true rfl) dX11_lost_24 ⟨(Nat.le_of_ble_eq_true rfl), (Nat.le_of_ble_eq_true rfl)⟩ (fun u H locs hw hI => ?_)
      obtain ⟨needs_c5, nmany_c6⟩ := u
      try dsimp only at hw
      have hI : wI s D A (fl [wMo K h st past acts image ipast iacts tape tmany laneOf sizeOf items seaFirst worstOf farTo stepsTo needs_c5 nmany_c6 mat told]) H locs := hI
      refine lv_aload_n hx hb dX11_lost_27 rfl (lv_at hl 0 rfl) ?_
      refine lv_iload_n hx hb dX11_lost_28 rfl (lv_at hl 1 rfl) ?_
      refine x_callWl (rest := []) hC hI (mX11_chances l D K h _ a1 st past acts image ipast iacts tape tmany laneOf sizeOf items seaFirst worstOf farTo stepsTo needs_c5 nmany_c6 mat told hw) (cwV 1 hts gX11_lost_X11_chances rfl rfl rfl (by decide +kernel) ⟨(Nat.le_of_ble_eq_true rfl), (Nat.le_of_ble_eq_true rfl)⟩) (fun _ => rfl) 0 9 rfl rfl rfl rfl hl.1 rfl (Nat.le_of_ble_eq_true rfl) dX11_lost_29 ⟨(Nat.le_of_ble_eq_true rfl), (Nat.le_of_ble_eq_true rfl)⟩ (fun r7 u H locs hw hI => ?_)
      try dsimp only at hw
      have hI : wI s D A (fl [wMo K h st past acts image ipast iacts tape tmany laneOf sizeOf items seaFirst worstOf farTo stepsTo needs_c5 nmany_c6 mat told]) H locs := hI
      refine lv_lstore_n (lv' := [(3, .long r7), (0, .ref (h 0)), (1, .int a1), (2, .int a2)]) hx hb dX11_lost_32 rfl hl (by decide) rfl (fun ls hl => ?_)
      refine lv_lconst (v := (1 : Int64)) hx hb dX11_lost_33 (by decide) ?_
      refine lv_lstore (lv' := [(5, .long (1 : Int64)), (3, .long r7), (0, .ref (h 0)), (1, .int a1), (2, .int a2)]) hx hb dX11_lost_34 hl (by decide) rfl (fun ls hl => ?_)
      refine lv_iconst (v := (0 : Int32)) hx hb dX11_lost_36 (by decide) ?_
      refine lv_istore (lv' := [(7, .int (0 : Int32)), (5, .long (1 : Int64)), (3, .long r7), (0, .ref (h 0)), (1, .int a1), (2, .int a2)]) hx hb dX11_lost_37 hl (by decide) rfl (fun ls hl => ?_)
      obtain ⟨I39, mu39, hw, hb39⟩ := hw
      have lp39 : ∀ (k : Nat) (l5_39 : Int64) (l7_39 : Int32) (ls : Array Slot) (H : Heap) (locs : List Loc), mu39 l5_39 l7_39 < k → I39 l5_39 l7_39 → wI s D A (fl [wMo K h st past acts image ipast iacts tape tmany laneOf sizeOf items seaFirst worstOf farTo stepsTo needs_c5 nmany_c6 mat told]) H locs → lv_has ls 9 [(0, .ref (h 0)), (2, .int a2), (3, .long r7), (5, .long l5_39), (7, .int l7_39)] → W p l e rmX11_lost s m args below meth c H locs 0 0 Q (F0 m 39 ls []) := by
        intro k
        induction k with
        | zero => intro l5_39 l7_39 ls H locs hmu; exact absurd hmu (Nat.not_lt_zero _)
        | succ k ih39 =>
          intro l5_39 l7_39 ls H locs hmu39 hw hI hl
          replace hw := hb39 l5_39 l7_39 hw
          refine lv_iload hx hb dX11_lost_39 (lv_at hl 4 rfl) ?_
          refine lv_aload_n hx hb dX11_lost_41 rfl (lv_at hl 0 rfl) ?_
          refine x_get (v := .ref (h 1)) hC hI kX11_lost_cX11 0 rfl rfl 0 (by decide) kX11_lost_1 rfl rfl dX11_lost_42 ?_
          refine lv_sipush (v := (267 : Int32)) hx hb dX11_lost_45 (by decide) ?_
          refine x_iald (f := st) hC hI 1 rfl (by unfold vp_in; decide) dX11_lost_48 ?_
          refine lv_icmp_ge (tgt := 66) hx hb dX11_lost_49 (by decide) (fun c8 => ?_) (fun c8 => ?_)
          · replace hw := hw.1 c8
            refine lv_lload_n hx hb dX11_lost_66 rfl (lv_at hl 2 rfl) ?_
            refine lv_lload hx hb dX11_lost_67 (lv_at hl 3 rfl) ?_
            refine x_callSl (rest := []) hC hI [] (mX11_common l D K  _ r7 l5_39 hw) (va_cwS 2 hts gX11_lost_X11_common rfl rfl rfl (by decide +kernel) ⟨(Nat.le_of_ble_eq_true rfl), (Nat.le_of_ble_eq_true rfl)⟩) (by decide) rfl (fun _ => rfl) rfl hl.1 rfl (Nat.le_of_ble_eq_true rfl) dX11_lost_69 ⟨(Nat.le_of_ble_eq_true rfl), (Nat.le_of_ble_eq_true rfl)⟩ (fun r9 u H locs hw hI => ?_)
            try dsimp only at hw
            have hI : wI s D A (fl [wMo K h st past acts image ipast iacts tape tmany laneOf sizeOf items seaFirst worstOf farTo stepsTo needs_c5 nmany_c6 mat told]) H locs := hI
            refine lv_lstore (lv' := [(7, .long r9), (0, .ref (h 0)), (2, .int a2), (3, .long r7), (5, .long l5_39)]) hx hb dX11_lost_72 hl (by decide) rfl (fun ls hl => ?_)
            refine lv_iload_n hx hb dX11_lost_74 rfl (lv_at hl 2 rfl) ?_
            refine lv_if_ne (tgt := 85) hx hb dX11_lost_75 (by decide) (fun c10 => ?_) (fun c10 => ?_)
            · replace hw := hw.2 c10
              refine lv_lload hx hb dX11_lost_85 (lv_at hl 4 rfl) ?_
              refine lv_lload hx hb dX11_lost_87 (lv_at hl 0 rfl) ?_
              obtain ⟨hc11, hw⟩ := hw
              refine lv_ldiv hx hb dX11_lost_89 hc11 ?_
              subst hQ
              exact x_lret (u := (needs_c5, nmany_c6)) hC hI hr hlk hw rfl dX11_lost_90
            · replace hw := hw.1 c10
              refine lv_lload_n hx hb dX11_lost_78 rfl (lv_at hl 3 rfl) ?_
              refine lv_lload hx hb dX11_lost_79 (lv_at hl 0 rfl) ?_
              obtain ⟨hc12, hw⟩ := hw
              refine lv_ldiv hx hb dX11_lost_81 hc12 ?_
              refine lv_goto (tgt := 90) hx hb dX11_lost_82 (by decide) ?_
              subst hQ
              exact x_lret (u := (needs_c5, nmany_c6)) hC hI hr hlk hw rfl dX11_lost_90
          · replace hw := hw.2 c8
            refine lv_lload hx hb dX11_lost_52 (lv_at hl 3 rfl) ?_
            refine lv_ldc2 (v := (10 : Int64)) hx hb hown (hts _ kX11_lost_3) dX11_lost_54 ?_
            refine lv_lmul hx hb dX11_lost_57 ?_
            refine lv_topl (fun x13 ex13 => ?_)
            replace hw := hw x13 ex13
            refine lv_lstore (lv' := [(5, .long x13), (0, .ref (h 0)), (2, .int a2), (3, .long r7), (7, .int l7_39)]) hx hb dX11_lost_58 hl (by decide) rfl (fun ls hl => ?_)
            obtain ⟨x14, ex14⟩ : ∃ y : Int32, y = l7_39 + 1 := ⟨_, rfl⟩
            replace hw := hw x14 ex14
            refine lv_iinc (v := x14) (lv' := [(7, .int x14), (5, .long x13), (0, .ref (h 0)), (2, .int a2), (3, .long r7)]) hx hb dX11_lost_60 hl (k := 4) rfl (by rw [ex14]; rfl) (by decide) rfl (fun ls hl => ?_)
            refine lv_goto (tgt := 39) hx hb dX11_lost_63 (by decide) ?_
            exact ih39 x13 x14 ls H locs (Nat.lt_of_lt_of_le hw.2 (Nat.le_of_lt_succ hmu39)) hw.1 hI (lv_sub hl [2, 3, 4, 1, 0] rfl)
      exact lp39 (mu39 (1 : Int64) (0 : Int32) + 1) (1 : Int64) (0 : Int32) ls H locs (Nat.lt_succ_self _) hw hI (lv_sub hl [3, 5, 2, 1, 0] rfl)
    · replace hw := hw.1 c4
      refine lv_ldc2 (v := (-1 : Int64)) hx hb hown (hts _ kX11_lost_0) dX11_lost_19 ?_
      subst hQ
      exact x_lret (u := (needs, nmany)) hC hI hr hlk hw rfl dX11_lost_22

def wX11_landOnStrips  (st : Nat → Int32) (post : Int32 → Prop) : Prop := (∃ (I4 : Int32 → Int32 → Prop) (mu4 : Int32 → Int32 → Nat), I4 (0 : Int32) (0 : Int32) ∧ ∀ (l1_4 : Int32) (l2_4 : Int32), I4 l1_4 l2_4 → (((266 : Int32) ≤ l2_4 → post l1_4) ∧ (¬ (266 : Int32) ≤ l2_4 → wX11_isLand l2_4 st (fun (r2 : Int32) => ((r2 = 0 → ∀ x4 : Int32, x4 = l1_4 + (0 : Int32) → ∀ x5 : Int32, x5 = l2_4 + 1 → (I4 x4 x5 ∧ mu4 x4 x5 < mu4 l1_4 l2_4)) ∧ (¬ r2 = 0 → wX11_rowOf l2_4 (fun (r6 : Int32) => wX11_isOnStrips r6 st (fun (r7 : Int32) => ((r7 = 0 → ∀ x9 : Int32, x9 = l1_4 + (0 : Int32) → ∀ x10 : Int32, x10 = l2_4 + 1 → (I4 x9 x10 ∧ mu4 x9 x10 < mu4 l1_4 l2_4)) ∧ (¬ r7 = 0 → ∀ x11 : Int32, x11 = l1_4 + (1 : Int32) → ∀ x12 : Int32, x12 = l2_4 + 1 → (I4 x11 x12 ∧ mu4 x11 x12 < mu4 l1_4 l2_4)))))))))))
def rmX11_landOnStrips : Room := { frames := 2, cells := 0, slots := 0, locals := 41 }
set_option maxHeartbeats 4000000 in
set_option maxRecDepth 100000 in
theorem mX11_landOnStrips (l : Launch) (D : va_G) (K : Nat → ClassId) (h : Nat → Nat) (sz : Nat)  (st : Nat → Int32) (past : Nat → Int32) (acts : Int32) (image : Nat → Int32) (ipast : Nat → Int32) (iacts : Int32) (tape : Nat → Int32) (tmany : Int32) (laneOf : Nat → Int32) (sizeOf : Nat → Int32) (items : Nat → Int64) (seaFirst : Nat → Int32) (worstOf : Nat → Int32) (farTo : Nat → Int32) (stepsTo : Nat → Int32) (needs : Nat → Int32) (nmany : Int32) (mat : Int32) (told : Nat → Int32)  {post : Int32 → Prop} (hw : wX11_landOnStrips  st post) : Met l yX11_landOnStrips wsX11_landOnStrips rmX11_landOnStrips (va_Pc [.ref (h 0)] (cP D K (fl [wMo K h st past acts image ipast iacts tape tmany laneOf sizeOf items seaFirst worstOf farTo stepsTo needs nmany mat told]) sz)) (va_Qi (fun (r : Int32) (u : Unit) => post r) (fun u t => cQ D K (fl [wMo K h st past acts image ipast iacts tape tmany laneOf sizeOf items seaFirst worstOf farTo stepsTo needs nmany mat told]) (va_A (fl [wMo K h st past acts image ipast iacts tape tmany laneOf sizeOf items seaFirst worstOf farTo stepsTo needs nmany mat told]) sz) t) (va_A (fl [wMo K h st past acts image ipast iacts tape tmany laneOf sizeOf items seaFirst worstOf farTo stepsTo needs nmany mat told]) sz)) 0 0 (va_A (fl [wMo K h st past acts image ipast iacts tape tmany laneOf sizeOf items seaFirst worstOf farTo stepsTo needs nmany mat told]) sz) := by
  refine x_entry (cc := cX11_landOnStrips) (maxL := 3) (ret := (some .int)) (QA := fun A => va_Qi (fun (r : Int32) (u : Unit) => post r) (fun u t => cQ D K (fl [wMo K h st past acts image ipast iacts tape tmany laneOf sizeOf items seaFirst worstOf farTo stepsTo needs nmany mat told]) A t) A) (plainFor_of_name (by decide)) rfl (Nat.le_of_ble_eq_true rfl) ?_
  intro p e s m args below meth c A ls H Q hQ hC hlk hr hnm hI hl
  obtain ⟨hx, hb, hml, hown, hts, hK, hA, hZ⟩ := id hC
  obtain ⟨locs, hlocs⟩ : ∃ y : List Loc, y = [] := ⟨_, rfl⟩
  rw [← hlocs] at hI ⊢
  clear hlocs
  replace hl : lv_has ls 3 [(0, .ref (h 0))] := hl
  replace hw : (∃ (I4 : Int32 → Int32 → Prop) (mu4 : Int32 → Int32 → Nat), I4 (0 : Int32) (0 : Int32) ∧ ∀ (l1_4 : Int32) (l2_4 : Int32), I4 l1_4 l2_4 → (((266 : Int32) ≤ l2_4 → post l1_4) ∧ (¬ (266 : Int32) ≤ l2_4 → wX11_isLand l2_4 st (fun (r2 : Int32) => ((r2 = 0 → ∀ x4 : Int32, x4 = l1_4 + (0 : Int32) → ∀ x5 : Int32, x5 = l2_4 + 1 → (I4 x4 x5 ∧ mu4 x4 x5 < mu4 l1_4 l2_4)) ∧ (¬ r2 = 0 → wX11_rowOf l2_4 (fun (r6 : Int32) => wX11_isOnStrips r6 st (fun (r7 : Int32) => ((r7 = 0 → ∀ x9 : Int32, x9 = l1_4 + (0 : Int32) → ∀ x10 : Int32, x10 = l2_4 + 1 → (I4 x9 x10 ∧ mu4 x9 x10 < mu4 l1_4 l2_4)) ∧ (¬ r7 = 0 → ∀ x11 : Int32, x11 = l1_4 + (1 : Int32) → ∀ x12 : Int32, x12 = l2_4 + 1 → (I4 x11 x12 ∧ mu4 x11 x12 < mu4 l1_4 l2_4))))))))))) := hw
  refine lv_iconst (v := (0 : Int32)) hx hb dX11_landOnStrips_0 (by decide) ?_
  refine lv_istore_n (lv' := [(1, .int (0 : Int32)), (0, .ref (h 0))]) hx hb dX11_landOnStrips_1 rfl hl (by decide) rfl (fun ls hl => ?_)
  refine lv_iconst (v := (0 : Int32)) hx hb dX11_landOnStrips_2 (by decide) ?_
  refine lv_istore_n (lv' := [(2, .int (0 : Int32)), (1, .int (0 : Int32)), (0, .ref (h 0))]) hx hb dX11_landOnStrips_3 rfl hl (by decide) rfl (fun ls hl => ?_)
  obtain ⟨I4, mu4, hw, hb4⟩ := hw
  have lp4 : ∀ (k : Nat) (l1_4 : Int32) (l2_4 : Int32) (ls : Array Slot) (H : Heap) (locs : List Loc), mu4 l1_4 l2_4 < k → I4 l1_4 l2_4 → wI s D A (fl [wMo K h st past acts image ipast iacts tape tmany laneOf sizeOf items seaFirst worstOf farTo stepsTo needs nmany mat told]) H locs → lv_has ls 3 [(0, .ref (h 0)), (1, .int l1_4), (2, .int l2_4)] → W p l e rmX11_landOnStrips s m args below meth c H locs 0 0 Q (F0 m 4 ls []) := by
    intro k
    induction k with
    | zero => intro l1_4 l2_4 ls H locs hmu; exact absurd hmu (Nat.not_lt_zero _)
    | succ k ih4 =>
      intro l1_4 l2_4 ls H locs hmu4 hw hI hl
      replace hw := hb4 l1_4 l2_4 hw
      refine lv_iload_n hx hb dX11_landOnStrips_4 rfl (lv_at hl 2 rfl) ?_
      refine lv_sipush (v := (266 : Int32)) hx hb dX11_landOnStrips_5 (by decide) ?_
      refine lv_icmp_ge (tgt := 44) hx hb dX11_landOnStrips_8 (by decide) (fun c1 => ?_) (fun c1 => ?_)
      · replace hw := hw.1 c1
        refine lv_iload_n hx hb dX11_landOnStrips_44 rfl (lv_at hl 1 rfl) ?_
        subst hQ
        exact x_iret (u := ()) hC hI hr hlk hw rfl dX11_landOnStrips_45
      · replace hw := hw.2 c1
        refine lv_iload_n hx hb dX11_landOnStrips_11 rfl (lv_at hl 1 rfl) ?_
        refine lv_aload_n hx hb dX11_landOnStrips_12 rfl (lv_at hl 0 rfl) ?_
        refine lv_iload_n hx hb dX11_landOnStrips_13 rfl (lv_at hl 2 rfl) ?_
        refine x_callWi (rest := [.int l1_4]) hC hI (mX11_isLand l D K h _ l2_4 st past acts image ipast iacts tape tmany laneOf sizeOf items seaFirst worstOf farTo stepsTo needs nmany mat told hw) (cwV 1 hts gX11_landOnStrips_X11_isLand rfl rfl rfl (by decide +kernel) ⟨(Nat.le_of_ble_eq_true rfl), (Nat.le_of_ble_eq_true rfl)⟩) (fun _ => rfl) 0 9 rfl rfl rfl rfl hl.1 rfl (Nat.le_of_ble_eq_true rfl) dX11_landOnStrips_14 ⟨(Nat.le_of_ble_eq_true rfl), (Nat.le_of_ble_eq_true rfl)⟩ (fun r2 u H locs hw hI => ?_)
        try dsimp only at hw
        have hI : wI s D A (fl [wMo K h st past acts image ipast iacts tape tmany laneOf sizeOf items seaFirst worstOf farTo stepsTo needs nmany mat told]) H locs := hI
        refine lv_if_eq (tgt := 35) hx hb dX11_landOnStrips_17 (by decide) (fun c3 => ?_) (fun c3 => ?_)
        · replace hw := hw.1 c3
          refine lv_iconst (v := (0 : Int32)) hx hb dX11_landOnStrips_35 (by decide) ?_
          refine lv_iadd hx hb dX11_landOnStrips_36 ?_
          refine lv_topi (fun x4 ex4 => ?_)
          replace hw := hw x4 ex4
          refine lv_istore_n (lv' := [(1, .int x4), (0, .ref (h 0)), (2, .int l2_4)]) hx hb dX11_landOnStrips_37 rfl hl (by decide) rfl (fun ls hl => ?_)
          obtain ⟨x5, ex5⟩ : ∃ y : Int32, y = l2_4 + 1 := ⟨_, rfl⟩
          replace hw := hw x5 ex5
          refine lv_iinc (v := x5) (lv' := [(2, .int x5), (1, .int x4), (0, .ref (h 0))]) hx hb dX11_landOnStrips_38 hl (k := 2) rfl (by rw [ex5]; rfl) (by decide) rfl (fun ls hl => ?_)
          refine lv_goto (tgt := 4) hx hb dX11_landOnStrips_41 (by decide) ?_
          exact ih4 x4 x5 ls H locs (Nat.lt_of_lt_of_le hw.2 (Nat.le_of_lt_succ hmu4)) hw.1 hI (lv_sub hl [2, 1, 0] rfl)
        · replace hw := hw.2 c3
          refine lv_aload_n hx hb dX11_landOnStrips_20 rfl (lv_at hl 0 rfl) ?_
          refine lv_iload_n hx hb dX11_landOnStrips_21 rfl (lv_at hl 2 rfl) ?_
          refine x_callSi (rest := [.ref (h 0), .int l1_4]) hC hI [] (mX11_rowOf l D K  _ l2_4 hw) (va_cwS 1 hts gX11_landOnStrips_X11_rowOf rfl rfl rfl (by decide +kernel) ⟨(Nat.le_of_ble_eq_true rfl), (Nat.le_of_ble_eq_true rfl)⟩) (by decide) rfl (fun _ => rfl) rfl hl.1 rfl (Nat.le_of_ble_eq_true rfl) dX11_landOnStrips_22 ⟨(Nat.le_of_ble_eq_true rfl), (Nat.le_of_ble_eq_true rfl)⟩ (fun r6 u H locs hw hI => ?_)
          try dsimp only at hw
          have hI : wI s D A (fl [wMo K h st past acts image ipast iacts tape tmany laneOf sizeOf items seaFirst worstOf farTo stepsTo needs nmany mat told]) H locs := hI
          refine x_callWi (rest := [.int l1_4]) hC hI (mX11_isOnStrips l D K h _ r6 st past acts image ipast iacts tape tmany laneOf sizeOf items seaFirst worstOf farTo stepsTo needs nmany mat told hw) (cwV 1 hts gX11_landOnStrips_X11_isOnStrips rfl rfl rfl (by decide +kernel) ⟨(Nat.le_of_ble_eq_true rfl), (Nat.le_of_ble_eq_true rfl)⟩) (fun _ => rfl) 0 9 rfl rfl rfl rfl hl.1 rfl (Nat.le_of_ble_eq_true rfl) dX11_landOnStrips_25 ⟨(Nat.le_of_ble_eq_true rfl), (Nat.le_of_ble_eq_true rfl)⟩ (fun r7 u H locs hw hI => ?_)
          try dsimp only at hw
          have hI : wI s D A (fl [wMo K h st past acts image ipast iacts tape tmany laneOf sizeOf items seaFirst worstOf farTo stepsTo needs nmany mat told]) H locs := hI
          refine lv_if_eq (tgt := 35) hx hb dX11_landOnStrips_28 (by decide) (fun c8 => ?_) (fun c8 => ?_)
          · replace hw := hw.1 c8
            refine lv_iconst (v := (0 : Int32)) hx hb dX11_landOnStrips_35 (by decide) ?_
            refine lv_iadd hx hb dX11_landOnStrips_36 ?_
            refine lv_topi (fun x9 ex9 => ?_)
            replace hw := hw x9 ex9
            refine lv_istore_n (lv' := [(1, .int x9), (0, .ref (h 0)), (2, .int l2_4)]) hx hb dX11_landOnStrips_37 rfl hl (by decide) rfl (fun ls hl => ?_)
            obtain ⟨x10, ex10⟩ : ∃ y : Int32, y = l2_4 + 1 := ⟨_, rfl⟩
            replace hw := hw x10 ex10
            refine lv_iinc (v := x10) (lv' := [(2, .int x10), (1, .int x9), (0, .ref (h 0))]) hx hb dX11_landOnStrips_38 hl (k := 2) rfl (by rw [ex10]; rfl) (by decide) rfl (fun ls hl => ?_)
            refine lv_goto (tgt := 4) hx hb dX11_landOnStrips_41 (by decide) ?_
            exact ih4 x9 x10 ls H locs (Nat.lt_of_lt_of_le hw.2 (Nat.le_of_lt_succ hmu4)) hw.1 hI (lv_sub hl [2, 1, 0] rfl)
          · replace hw := hw.2 c8
            refine lv_iconst (v := (1 : Int32)) hx hb dX11_landOnStrips_31 (by decide) ?_
            refine lv_goto (tgt := 36) hx hb dX11_landOnStrips_32 (by decide) ?_
            refine lv_iadd hx hb dX11_landOnStrips_36 ?_
            refine lv_topi (fun x11 ex11 => ?_)
            replace hw := hw x11 ex11
            refine lv_istore_n (lv' := [(1, .int x11), (0, .ref (h 0)), (2, .int l2_4)]) hx hb dX11_landOnStrips_37 rfl hl (by decide) rfl (fun ls hl => ?_)
            obtain ⟨x12, ex12⟩ : ∃ y : Int32, y = l2_4 + 1 := ⟨_, rfl⟩
            replace hw := hw x12 ex12
            refine lv_iinc (v := x12) (lv' := [(2, .int x12), (1, .int x11), (0, .ref (h 0))]) hx hb dX11_landOnStrips_38 hl (k := 2) rfl (by rw [ex12]; rfl) (by decide) rfl (fun ls hl => ?_)
            refine lv_goto (tgt := 4) hx hb dX11_landOnStrips_41 (by decide) ?_
            exact ih4 x11 x12 ls H locs (Nat.lt_of_lt_of_le hw.2 (Nat.le_of_lt_succ hmu4)) hw.1 hI (lv_sub hl [2, 1, 0] rfl)
  exact lp4 (mu4 (0 : Int32) (0 : Int32) + 1) (0 : Int32) (0 : Int32) ls H locs (Nat.lt_succ_self _) hw hI (lv_sub hl [2, 1, 0] rfl)
