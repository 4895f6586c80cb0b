def wX11_capY (a1 : Int32) (st : Nat → Int32) (post : Int32 → Prop) : Prop := wX11_rowOf a1 (fun (r1 : Int32) => wX11_size r1 (fun (r2 : Int32) => wX11_stepOf a1 (fun (r3 : Int32) => wX11_cosine r3 (fun (r4 : Int32) => ∀ x5 : Int32, x5 = ((((2 : Int32) * (st 266)) * ((6 : Int32) - r2)) * r4) / (10000 : Int32) → post ((((2 : Int32) * (st 266)) * (st 268)) + x5)))))
def rmX11_capY : Room := { frames := 3, cells := 0, slots := 0, locals := 62 }
theorem kX11_capY_0 : Cond.fieldLink RX11 7 "GoreGlobeModel" "st" "[I" ∈ wsX11_capY := List.mem_cons_of_mem _ (List.mem_append_left _ (List.mem_of_getElem? (i := 0) rfl))
theorem kX11_capY_cX11 : ∀ w ∈ wsX110, w ∈ wsX11_capY := fun _ h => List.mem_cons_of_mem _ (List.mem_append_right _ h)
set_option maxHeartbeats 4000000 in
set_option maxRecDepth 100000 in
theorem mX11_capY (l : Launch) (D : va_G) (K : Nat → ClassId) (h : Nat → Nat) (sz : Nat) (a1 : Int32) (st : Nat → Int32) (past : Nat → Int32) (acts : Int32) (image : Nat → Int32) (ipast : Nat → Int32) (iacts : Int32) (tape : Nat → Int32) (tmany : Int32) (laneOf : Nat → Int32) (sizeOf : Nat → Int32) (items : Nat → Int64) (seaFirst : Nat → Int32) (worstOf : Nat → Int32) (farTo : Nat → Int32) (stepsTo : Nat → Int32) (needs : Nat → Int32) (nmany : Int32) (mat : Int32) (told : Nat → Int32)  {post : Int32 → Prop} (hw : wX11_capY a1 st post) : Met l yX11_capY wsX11_capY rmX11_capY (va_Pc [.ref (h 0), .int a1] (cP D K (fl [wMo K h st past acts image ipast iacts tape tmany laneOf sizeOf items seaFirst worstOf farTo stepsTo needs nmany mat told]) sz)) (va_Qi (fun (r : Int32) (u : Unit) => post r) (fun u t => cQ D K (fl [wMo K h st past acts image ipast iacts tape tmany laneOf sizeOf items seaFirst worstOf farTo stepsTo needs nmany mat told]) (va_A (fl [wMo K h st past acts image ipast iacts tape tmany laneOf sizeOf items seaFirst worstOf farTo stepsTo needs nmany mat told]) sz) t) (va_A (fl [wMo K h st past acts image ipast iacts tape tmany laneOf sizeOf items seaFirst worstOf farTo stepsTo needs nmany mat told]) sz)) 0 0 (va_A (fl [wMo K h st past acts image ipast iacts tape tmany laneOf sizeOf items seaFirst worstOf farTo stepsTo needs nmany mat told]) sz) := by
  refine x_entry (cc := cX11_capY) (maxL := 3) (ret := (some .int)) (QA := fun A => va_Qi (fun (r : Int32) (u : Unit) => post r) (fun u t => cQ D K (fl [wMo K h st past acts image ipast iacts tape tmany laneOf sizeOf items seaFirst worstOf farTo stepsTo needs nmany mat told]) A t) A) (plainFor_of_name (by decide)) rfl (Nat.le_of_ble_eq_true rfl) ?_
  intro p e s m args below meth c A ls H Q hQ hC hlk hr hnm hI hl
  obtain ⟨hx, hb, hml, hown, hts, hK, hA, hZ⟩ := id hC
  obtain ⟨locs, hlocs⟩ : ∃ y : List Loc, y = [] := ⟨_, rfl⟩
  rw [← hlocs] at hI ⊢
  clear hlocs
  replace hl : lv_has ls 3 [(0, .ref (h 0)), (1, .int a1)] := hl
  replace hw : wX11_rowOf a1 (fun (r1 : Int32) => wX11_size r1 (fun (r2 : Int32) => wX11_stepOf a1 (fun (r3 : Int32) => wX11_cosine r3 (fun (r4 : Int32) => ∀ x5 : Int32, x5 = ((((2 : Int32) * (st 266)) * ((6 : Int32) - r2)) * r4) / (10000 : Int32) → post ((((2 : Int32) * (st 266)) * (st 268)) + x5))))) := hw
  refine lv_iconst (v := (2 : Int32)) hx hb dX11_capY_0 (by decide) ?_
  refine lv_aload_n hx hb dX11_capY_1 rfl (lv_at hl 0 rfl) ?_
  refine x_get (v := .ref (h 1)) hC hI kX11_capY_cX11 0 rfl rfl 0 (by decide) kX11_capY_0 rfl rfl dX11_capY_2 ?_
  refine lv_sipush (v := (266 : Int32)) hx hb dX11_capY_5 (by decide) ?_
  refine x_iald (f := st) hC hI 1 rfl (by unfold vp_in; decide) dX11_capY_8 ?_
  refine lv_imul hx hb dX11_capY_9 ?_
  refine lv_bipush (v := (6 : Int32)) hx hb dX11_capY_10 (by decide) ?_
  refine lv_iload_n hx hb dX11_capY_12 rfl (lv_at hl 1 rfl) ?_
  refine x_callSi (rest := [.int (6 : Int32), .int ((2 : Int32) * (st 266))]) hC hI [] (mX11_rowOf l D K  _ a1 hw) (va_cwS 1 hts gX11_capY_X11_rowOf rfl rfl rfl (by decide +kernel) ⟨(Nat.le_of_ble_eq_true rfl), (Nat.le_of_ble_eq_true rfl)⟩) (by decide) rfl (fun _ => rfl) rfl hl.1 rfl (Nat.le_of_ble_eq_true rfl) dX11_capY_13 ⟨(Nat.le_of_ble_eq_true rfl), (Nat.le_of_ble_eq_true rfl)⟩ (fun r1 u H locs hw hI => ?_)
  try dsimp only at hw
  have hI : wI s D A (fl [wMo K h st past acts image ipast iacts tape tmany laneOf sizeOf items seaFirst worstOf farTo stepsTo needs nmany mat told]) H locs := hI
  refine x_callSi (rest := [.int (6 : Int32), .int ((2 : Int32) * (st 266))]) hC hI [] (mX11_size l D K  _ r1 hw) (va_cwS 1 hts gX11_capY_X11_size rfl rfl rfl (by decide +kernel) ⟨(Nat.le_of_ble_eq_true rfl), (Nat.le_of_ble_eq_true rfl)⟩) (by decide) rfl (fun _ => rfl) rfl hl.1 rfl (Nat.le_of_ble_eq_true rfl) dX11_capY_16 ⟨(Nat.le_of_ble_eq_true rfl), (Nat.le_of_ble_eq_true rfl)⟩ (fun r2 u H locs hw hI => ?_)
  try dsimp only at hw
  have hI : wI s D A (fl [wMo K h st past acts image ipast iacts tape tmany laneOf sizeOf items seaFirst worstOf farTo stepsTo needs nmany mat told]) H locs := hI
  refine lv_isub hx hb dX11_capY_19 ?_
  refine lv_imul hx hb dX11_capY_20 ?_
  refine lv_iload_n hx hb dX11_capY_21 rfl (lv_at hl 1 rfl) ?_
  refine x_callSi (rest := [.int (((2 : Int32) * (st 266)) * ((6 : Int32) - r2))]) hC hI [] (mX11_stepOf l D K  _ a1 hw) (va_cwS 1 hts gX11_capY_X11_stepOf rfl rfl rfl (by decide +kernel) ⟨(Nat.le_of_ble_eq_true rfl), (Nat.le_of_ble_eq_true rfl)⟩) (by decide) rfl (fun _ => rfl) rfl hl.1 rfl (Nat.le_of_ble_eq_true rfl) dX11_capY_22 ⟨(Nat.le_of_ble_eq_true rfl), (Nat.le_of_ble_eq_true rfl)⟩ (fun r3 u H locs hw hI => ?_)
  try dsimp only at hw
  have hI : wI s D A (fl [wMo K h st past acts image ipast iacts tape tmany laneOf sizeOf items seaFirst worstOf farTo stepsTo needs nmany mat told]) H locs := hI
  refine x_callSi (rest := [.int (((2 : Int32) * (st 266)) * ((6 : Int32) - r2))]) hC hI [] (mX11_cosine l D K  _ r3 hw) (va_cwS 1 hts gX11_capY_X11_cosine rfl rfl rfl (by decide +kernel) ⟨(Nat.le_of_ble_eq_true rfl), (Nat.le_of_ble_eq_true rfl)⟩) (by decide) rfl (fun _ => rfl) rfl hl.1 rfl (Nat.le_of_ble_eq_true rfl) dX11_capY_25 ⟨(Nat.le_of_ble_eq_true rfl), (Nat.le_of_ble_eq_true rfl)⟩ (fun r4 u H locs hw hI => ?_)
  try dsimp only at hw
  have hI : wI s D A (fl [wMo K h st past acts image ipast iacts tape tmany laneOf sizeOf items seaFirst worstOf farTo stepsTo needs nmany mat told]) H locs := hI
  refine lv_imul hx hb dX11_capY_28 ?_
  refine lv_sipush (v := (10000 : Int32)) hx hb dX11_capY_29 (by decide) ?_
  refine lv_idiv hx hb dX11_capY_32 (by decide) ?_
  refine lv_topi (fun x5 ex5 => ?_)
  replace hw := hw x5 ex5
  refine lv_istore_n (lv' := [(2, .int x5), (0, .ref (h 0)), (1, .int a1)]) hx hb dX11_capY_33 rfl hl (by decide) rfl (fun ls hl => ?_)
  refine lv_iconst (v := (2 : Int32)) hx hb dX11_capY_34 (by decide) ?_
  refine lv_aload_n hx hb dX11_capY_35 rfl (lv_at hl 1 rfl) ?_
  refine x_get (v := .ref (h 1)) hC hI kX11_capY_cX11 0 rfl rfl 0 (by decide) kX11_capY_0 rfl rfl dX11_capY_36 ?_
  refine lv_sipush (v := (266 : Int32)) hx hb dX11_capY_39 (by decide) ?_
  refine x_iald (f := st) hC hI 1 rfl (by unfold vp_in; decide) dX11_capY_42 ?_
  refine lv_imul hx hb dX11_capY_43 ?_
  refine lv_aload_n hx hb dX11_capY_44 rfl (lv_at hl 1 rfl) ?_
  refine x_get (v := .ref (h 1)) hC hI kX11_capY_cX11 0 rfl rfl 0 (by decide) kX11_capY_0 rfl rfl dX11_capY_45 ?_
  refine lv_sipush (v := (268 : Int32)) hx hb dX11_capY_48 (by decide) ?_
  refine x_iald (f := st) hC hI 1 rfl (by unfold vp_in; decide) dX11_capY_51 ?_
  refine lv_imul hx hb dX11_capY_52 ?_
  refine lv_iload_n hx hb dX11_capY_53 rfl (lv_at hl 0 rfl) ?_
  refine lv_iadd hx hb dX11_capY_54 ?_
  subst hQ
  exact x_iret (u := ()) hC hI hr hlk hw rfl dX11_capY_55

def wX11_isLand (a1 : Int32) (st : Nat → Int32) (post : Int32 → Prop) : Prop := vp_in a1 279 ∧ (((st a1.toNatClampNeg) = (1 : Int32) → post (1 : Int32)) ∧ (¬ (st a1.toNatClampNeg) = (1 : Int32) → post (0 : Int32)))
def rmX11_isLand : Room := { frames := 0, cells := 0, slots := 0, locals := 0 }
theorem kX11_isLand_0 : Cond.fieldLink RX11 7 "GoreGlobeModel" "st" "[I" ∈ wsX11_isLand := List.mem_cons_of_mem _ (List.mem_append_left _ (List.mem_of_getElem? (i := 0) rfl))
theorem kX11_isLand_cX11 : ∀ w ∈ wsX110, w ∈ wsX11_isLand := fun _ h => List.mem_cons_of_mem _ (List.mem_append_right _ h)
set_option maxHeartbeats 4000000 in
set_option maxRecDepth 100000 in
theorem mX11_isLand (l : Launch) (D : va_G) (K : Nat → ClassId) (h : Nat → Nat) (sz : Nat) (a1 : Int32) (st : Nat → Int32) (past : Nat → Int32) (acts : Int32) (image : Nat → Int32) (ipast : Nat → Int32) (iacts : Int32) (tape : Nat → Int32) (tmany : Int32) (laneOf : Nat → Int32) (sizeOf : Nat → Int32) (items : Nat → Int64) (seaFirst : Nat → Int32) (worstOf : Nat → Int32) (farTo : Nat → Int32) (stepsTo : Nat → Int32) (needs : Nat → Int32) (nmany : Int32) (mat : Int32) (told : Nat → Int32)  {post : Int32 → Prop} (hw : wX11_isLand a1 st post) : Met l yX11_isLand wsX11_isLand rmX11_isLand (va_Pc [.ref (h 0), .int a1] (cP D K (fl [wMo K h st past acts image ipast iacts tape tmany laneOf sizeOf items seaFirst worstOf farTo stepsTo needs nmany mat told]) sz)) (va_Qi (fun (r : Int32) (u : Unit) => post r) (fun u t => cQ D K (fl [wMo K h st past acts image ipast iacts tape tmany laneOf sizeOf items seaFirst worstOf farTo stepsTo needs nmany mat told]) (va_A (fl [wMo K h st past acts image ipast iacts tape tmany laneOf sizeOf items seaFirst worstOf farTo stepsTo needs nmany mat told]) sz) t) (va_A (fl [wMo K h st past acts image ipast iacts tape tmany laneOf sizeOf items seaFirst worstOf farTo stepsTo needs nmany mat told]) sz)) 0 0 (va_A (fl [wMo K h st past acts image ipast iacts tape tmany laneOf sizeOf items seaFirst worstOf farTo stepsTo needs nmany mat told]) sz) := by
  refine x_entry (cc := cX11_isLand) (maxL := 2) (ret := (some .boolean)) (QA := fun A => va_Qi (fun (r : Int32) (u : Unit) => post r) (fun u t => cQ D K (fl [wMo K h st past acts image ipast iacts tape tmany laneOf sizeOf items seaFirst worstOf farTo stepsTo needs nmany mat told]) A t) A) (plainFor_of_name (by decide)) rfl (Nat.le_of_ble_eq_true rfl) ?_
  intro p e s m args below meth c A ls H Q hQ hC hlk hr hnm hI hl
  obtain ⟨hx, hb, hml, hown, hts, hK, hA, hZ⟩ := id hC
  obtain ⟨locs, hlocs⟩ : ∃ y : List Loc, y = [] := ⟨_, rfl⟩
  rw [← hlocs] at hI ⊢
  clear hlocs
  replace hl : lv_has ls 2 [(0, .ref (h 0)), (1, .int a1)] := hl
  replace hw : vp_in a1 279 ∧ (((st a1.toNatClampNeg) = (1 : Int32) → post (1 : Int32)) ∧ (¬ (st a1.toNatClampNeg) = (1 : Int32) → post (0 : Int32))) := hw
  refine lv_aload_n hx hb dX11_isLand_0 rfl (lv_at hl 0 rfl) ?_
  refine x_get (v := .ref (h 1)) hC hI kX11_isLand_cX11 0 rfl rfl 0 (by decide) kX11_isLand_0 rfl rfl dX11_isLand_1 ?_
  refine lv_iload_n hx hb dX11_isLand_4 rfl (lv_at hl 1 rfl) ?_
  obtain ⟨hc1, hw⟩ := hw
  refine x_iald (f := st) hC hI 1 rfl hc1 dX11_isLand_5 ?_
  refine lv_iconst (v := (1 : Int32)) hx hb dX11_isLand_6 (by decide) ?_
  refine lv_icmp_ne (tgt := 14) hx hb dX11_isLand_7 (by decide) (fun c2 => ?_) (fun c2 => ?_)
  · replace hw := hw.2 c2
    refine lv_iconst (v := (0 : Int32)) hx hb dX11_isLand_14 (by decide) ?_
    subst hQ
    exact x_zret (u := ()) hC hI hr hlk hw rfl (Or.inl rfl) dX11_isLand_15
  · replace hw := hw.1 c2
    refine lv_iconst (v := (1 : Int32)) hx hb dX11_isLand_10 (by decide) ?_
    refine lv_goto (tgt := 15) hx hb dX11_isLand_11 (by decide) ?_
    subst hQ
    exact x_zret (u := ()) hC hI hr hlk hw rfl (Or.inr rfl) dX11_isLand_15

def wX11_neighbours (a0 : Int32)  (post : Int32 → Prop) : Prop := wX11_isPole a0 (fun (r1 : Int32) => ((r1 = 0 → post (4 : Int32)) ∧ (¬ r1 = 0 → post (24 : Int32))))
def rmX11_neighbours : Room := { frames := 1, cells := 0, slots := 0, locals := 20 }
set_option maxHeartbeats 4000000 in
set_option maxRecDepth 100000 in
theorem mX11_neighbours (l : Launch) (D : va_G) (K : Nat → ClassId)  (sz : Nat) (a0 : Int32)   {post : Int32 → Prop} (hw : wX11_neighbours a0  post) : Met l yX11_neighbours wsX11_neighbours rmX11_neighbours (va_Pc [.int a0] (cP D K (fl []) sz)) (va_Qi (fun (r : Int32) (u : Unit) => post r) (fun u t => cQ D K (fl []) (va_A (fl []) sz) t) (va_A (fl []) sz)) 0 0 (va_A (fl []) sz) := by
  refine x_entry (cc := cX11_neighbours) (maxL := 1) (ret := (some .int)) (QA := fun A => va_Qi (fun (r : Int32) (u : Unit) => post r) (fun u t => cQ D K (fl []) A t) A) (plainFor_of_name (by decide)) rfl (Nat.le_of_ble_eq_true rfl) ?_
  intro p e s m args below meth c A ls H Q hQ hC hlk hr hnm hI hl
  obtain ⟨hx, hb, hml, hown, hts, hK, hA, hZ⟩ := id hC
  obtain ⟨locs, hlocs⟩ : ∃ y : List Loc, y = [] := ⟨_, rfl⟩
  rw [← hlocs] at hI ⊢
  clear hlocs
  replace hl : lv_has ls 1 [(0, .int a0)] := hl
  replace hw : wX11_isPole a0 (fun (r1 : Int32) => ((r1 = 0 → post (4 : Int32)) ∧ (¬ r1 = 0 → post (24 : Int32)))) := hw
  refine lv_iload_n hx hb dX11_neighbours_0 rfl (lv_at hl 0 rfl) ?_
  refine x_callSi (rest := []) hC hI [] (mX11_isPole l D K  _ a0 hw) (va_cwS 1 hts gX11_neighbours_X11_isPole rfl rfl rfl (by decide +kernel) ⟨(Nat.le_of_ble_eq_true rfl), (Nat.le_of_ble_eq_true rfl)⟩) (by decide) rfl (fun _ => rfl) rfl hl.1 rfl (Nat.le_of_ble_eq_true rfl) dX11_neighbours_1 ⟨(Nat.le_of_ble_eq_true rfl), (Nat.le_of_ble_eq_true rfl)⟩ (fun r1 u H locs hw hI => ?_)
  try dsimp only at hw
  have hI : wI s D A (fl []) H locs := hI
  refine lv_if_eq (tgt := 12) hx hb dX11_neighbours_4 (by decide) (fun c2 => ?_) (fun c2 => ?_)
  · replace hw := hw.1 c2
    refine lv_iconst (v := (4 : Int32)) hx hb dX11_neighbours_12 (by decide) ?_
    subst hQ
    exact x_iret (u := ()) hC hI hr hlk hw rfl dX11_neighbours_13
  · replace hw := hw.2 c2
    refine lv_bipush (v := (24 : Int32)) hx hb dX11_neighbours_7 (by decide) ?_
    refine lv_goto (tgt := 13) hx hb dX11_neighbours_9 (by decide) ?_
    subst hQ
    exact x_iret (u := ()) hC hI hr hlk hw rfl dX11_neighbours_13

def wX11_neighbour (a0 : Int32) (a1 : Int32)  (post : Int32 → Prop) : Prop := wX11_isPole a0 (fun (r1 : Int32) => ((r1 = 0 → wX11_rowOf a0 (fun (r3 : Int32) => wX11_stepOf a0 (fun (r4 : Int32) => ((a1 = (0 : Int32) → wX11_numberOf r3 ((r4 + (23 : Int32)) - (r4 + (23 : Int32)) / (24 : Int32) * (24 : Int32)) (fun (r6 : Int32) => post r6)) ∧ (¬ a1 = (0 : Int32) → ((a1 = (1 : Int32) → wX11_numberOf r3 ((r4 + (1 : Int32)) - (r4 + (1 : Int32)) / (24 : Int32) * (24 : Int32)) (fun (r8 : Int32) => post r8)) ∧ (¬ a1 = (1 : Int32) → ((a1 = (2 : Int32) → wX11_numberOf (r3 - (1 : Int32)) r4 (fun (r10 : Int32) => post r10)) ∧ (¬ a1 = (2 : Int32) → wX11_numberOf (r3 + (1 : Int32)) r4 (fun (r11 : Int32) => post r11)))))))))) ∧ (¬ r1 = 0 → ((a0 = 0 → post ((1 : Int32) + a1)) ∧ (¬ a0 = 0 → post ((241 : Int32) + a1))))))
def rmX11_neighbour : Room := { frames := 2, cells := 0, slots := 0, locals := 40 }
set_option maxHeartbeats 4000000 in
set_option maxRecDepth 100000 in
theorem mX11_neighbour (l : Launch) (D : va_G) (K : Nat → ClassId)  (sz : Nat) (a0 : Int32) (a1 : Int32)   {post : Int32 → Prop} (hw : wX11_neighbour a0 a1  post) : Met l yX11_neighbour wsX11_neighbour rmX11_neighbour (va_Pc [.int a0, .int a1] (cP D K (fl []) sz)) (va_Qi (fun (r : Int32) (u : Unit) => post r) (fun u t => cQ D K (fl []) (va_A (fl []) sz) t) (va_A (fl []) sz)) 0 0 (va_A (fl []) sz) := by
  refine x_entry (cc := cX11_neighbour) (maxL := 4) (ret := (some .int)) (QA := fun A => va_Qi (fun (r : Int32) (u : Unit) => post r) (fun u t => cQ D K (fl []) A t) A) (plainFor_of_name (by decide)) rfl (Nat.le_of_ble_eq_true rfl) ?_
  intro p e s m args below meth c A ls H Q hQ hC hlk hr hnm hI hl
  obtain ⟨hx, hb, hml, hown, hts, hK, hA, hZ⟩ := id hC
  obtain ⟨locs, hlocs⟩ : ∃ y : List Loc, y = [] := ⟨_, rfl⟩
  rw [← hlocs] at hI ⊢
  clear hlocs
  replace hl : lv_has ls 4 [(0, .int a0), (1, .int a1)] := hl
  replace hw : wX11_isPole a0 (fun (r1 : Int32) => ((r1 = 0 → wX11_rowOf a0 (fun (r3 : Int32) => wX11_stepOf a0 (fun (r4 : Int32) => ((a1 = (0 : Int32) → wX11_numberOf r3 ((r4 + (23 : Int32)) - (r4 + (23 : Int32)) / (24 : Int32) * (24 : Int32)) (fun (r6 : Int32) => post r6)) ∧ (¬ a1 = (0 : Int32) → ((a1 = (1 : Int32) → wX11_numberOf r3 ((r4 + (1 : Int32)) - (r4 + (1 : Int32)) / (24 : Int32) * (24 : Int32)) (fun (r8 : Int32) => post r8)) ∧ (¬ a1 = (1 : Int32) → ((a1 = (2 : Int32) → wX11_numberOf (r3 - (1 : Int32)) r4 (fun (r10 : Int32) => post r10)) ∧ (¬ a1 = (2 : Int32) → wX11_numberOf (r3 + (1 : Int32)) r4 (fun (r11 : Int32) => post r11)))))))))) ∧ (¬ r1 = 0 → ((a0 = 0 → post ((1 : Int32) + a1)) ∧ (¬ a0 = 0 → post ((241 : Int32) + a1)))))) := hw
  refine lv_iload_n hx hb dX11_neighbour_0 rfl (lv_at hl 0 rfl) ?_
  refine x_callSi (rest := []) hC hI [] (mX11_isPole l D K  _ a0 hw) (va_cwS 1 hts gX11_neighbour_X11_isPole rfl rfl rfl (by decide +kernel) ⟨(Nat.le_of_ble_eq_true rfl), (Nat.le_of_ble_eq_true rfl)⟩) (by decide) rfl (fun _ => rfl) rfl hl.1 rfl (Nat.le_of_ble_eq_true rfl) dX11_neighbour_1 ⟨(Nat.le_of_ble_eq_true rfl), (Nat.le_of_ble_eq_true rfl)⟩ (fun r1 u H locs hw hI => ?_)
  try dsimp only at hw
  have hI : wI s D A (fl []) H locs := hI
  refine lv_if_eq (tgt := 23) hx hb dX11_neighbour_4 (by decide) (fun c2 => ?_) (fun c2 => ?_)
  · replace hw := hw.1 c2
    refine lv_iload_n hx hb dX11_neighbour_23 rfl (lv_at hl 0 rfl) ?_
    refine x_callSi (rest := []) hC hI [] (mX11_rowOf l D K  _ a0 hw) (va_cwS 1 hts gX11_neighbour_X11_rowOf rfl rfl rfl (by decide +kernel) ⟨(Nat.le_of_ble_eq_true rfl), (Nat.le_of_ble_eq_true rfl)⟩) (by decide) rfl (fun _ => rfl) rfl hl.1 rfl (Nat.le_of_ble_eq_true rfl) dX11_neighbour_24 ⟨(Nat.le_of_ble_eq_true rfl), (Nat.le_of_ble_eq_true rfl)⟩ (fun r3 u H locs hw hI => ?_)
    try dsimp only at hw
    have hI : wI s D A (fl []) H locs := hI
    refine lv_istore_n (lv' := [(2, .int r3), (0, .int a0), (1, .int a1)]) hx hb dX11_neighbour_27 rfl hl (by decide) rfl (fun ls hl => ?_)
    refine lv_iload_n hx hb dX11_neighbour_28 rfl (lv_at hl 1 rfl) ?_
    refine x_callSi (rest := []) hC hI [] (mX11_stepOf l D K  _ a0 hw) (va_cwS 1 hts gX11_neighbour_X11_stepOf rfl rfl rfl (by decide +kernel) ⟨(Nat.le_of_ble_eq_true rfl), (Nat.le_of_ble_eq_true rfl)⟩) (by decide) rfl (fun _ => rfl) rfl hl.1 rfl (Nat.le_of_ble_eq_true rfl) dX11_neighbour_29 ⟨(Nat.le_of_ble_eq_true rfl), (Nat.le_of_ble_eq_true rfl)⟩ (fun r4 u H locs hw hI => ?_)
    try dsimp only at hw
    have hI : wI s D A (fl []) H locs := hI
    refine lv_istore_n (lv' := [(3, .int r4), (2, .int r3), (0, .int a0), (1, .int a1)]) hx hb dX11_neighbour_32 rfl hl (by decide) rfl (fun ls hl => ?_)
    refine lv_iload_n hx hb dX11_neighbour_33 rfl (lv_at hl 3 rfl) ?_
    by_cases c5 : a1 = (0 : Int32)
    · replace hw := hw.1 c5
      refine lv_tableIn (off := 26) (tgt := 60) hx hb dX11_neighbour_34 (by rw [c5]; decide) (by rw [c5]; decide) (by rw [c5]; rfl) (by decide) ?_
      refine lv_iload_n hx hb dX11_neighbour_60 rfl (lv_at hl 1 rfl) ?_
      refine lv_iload_n hx hb dX11_neighbour_61 rfl (lv_at hl 0 rfl) ?_
      refine lv_bipush (v := (23 : Int32)) hx hb dX11_neighbour_62 (by decide) ?_
      refine lv_iadd hx hb dX11_neighbour_64 ?_
      refine lv_bipush (v := (24 : Int32)) hx hb dX11_neighbour_65 (by decide) ?_
      refine lv_irem hx hb dX11_neighbour_67 (by decide) ?_
      refine x_callSi (rest := []) hC hI [] (mX11_numberOf l D K  _ r3 ((r4 + (23 : Int32)) - (r4 + (23 : Int32)) / (24 : Int32) * (24 : Int32)) hw) (va_cwS 2 hts gX11_neighbour_X11_numberOf rfl rfl rfl (by decide +kernel) ⟨(Nat.le_of_ble_eq_true rfl), (Nat.le_of_ble_eq_true rfl)⟩) (by decide) rfl (fun _ => rfl) rfl hl.1 rfl (Nat.le_of_ble_eq_true rfl) dX11_neighbour_68 ⟨(Nat.le_of_ble_eq_true rfl), (Nat.le_of_ble_eq_true rfl)⟩ (fun r6 u H locs hw hI => ?_)
      try dsimp only at hw
      have hI : wI s D A (fl []) H locs := hI
      subst hQ
      exact x_iret (u := ()) hC hI hr hlk hw rfl dX11_neighbour_71
    · replace hw := hw.2 c5
      by_cases c7 : a1 = (1 : Int32)
      · replace hw := hw.1 c7
        refine lv_tableIn (off := 38) (tgt := 72) hx hb dX11_neighbour_34 (by rw [c7]; decide) (by rw [c7]; decide) (by rw [c7]; rfl) (by decide) ?_
        refine lv_iload_n hx hb dX11_neighbour_72 rfl (lv_at hl 1 rfl) ?_
        refine lv_iload_n hx hb dX11_neighbour_73 rfl (lv_at hl 0 rfl) ?_
        refine lv_iconst (v := (1 : Int32)) hx hb dX11_neighbour_74 (by decide) ?_
        refine lv_iadd hx hb dX11_neighbour_75 ?_
        refine lv_bipush (v := (24 : Int32)) hx hb dX11_neighbour_76 (by decide) ?_
        refine lv_irem hx hb dX11_neighbour_78 (by decide) ?_
        refine x_callSi (rest := []) hC hI [] (mX11_numberOf l D K  _ r3 ((r4 + (1 : Int32)) - (r4 + (1 : Int32)) / (24 : Int32) * (24 : Int32)) hw) (va_cwS 2 hts gX11_neighbour_X11_numberOf rfl rfl rfl (by decide +kernel) ⟨(Nat.le_of_ble_eq_true rfl), (Nat.le_of_ble_eq_true rfl)⟩) (by decide) rfl (fun _ => rfl) rfl hl.1 rfl (Nat.le_of_ble_eq_true rfl) dX11_neighbour_79 ⟨(Nat.le_of_ble_eq_true rfl), (Nat.le_of_ble_eq_true rfl)⟩ (fun r8 u H locs hw hI => ?_)
        try dsimp only at hw
        have hI : wI s D A (fl []) H locs := hI
        subst hQ
        exact x_iret (u := ()) hC hI hr hlk hw rfl dX11_neighbour_82
      · replace hw := hw.2 c7
        by_cases c9 : a1 = (2 : Int32)
        · replace hw := hw.1 c9
          refine lv_tableIn (off := 49) (tgt := 83) hx hb dX11_neighbour_34 (by rw [c9]; decide) (by rw [c9]; decide) (by rw [c9]; rfl) (by decide) ?_
          refine lv_iload_n hx hb dX11_neighbour_83 rfl (lv_at hl 1 rfl) ?_
          refine lv_iconst (v := (1 : Int32)) hx hb dX11_neighbour_84 (by decide) ?_
          refine lv_isub hx hb dX11_neighbour_85 ?_
          refine lv_iload_n hx hb dX11_neighbour_86 rfl (lv_at hl 0 rfl) ?_
          refine x_callSi (rest := []) hC hI [] (mX11_numberOf l D K  _ (r3 - (1 : Int32)) r4 hw) (va_cwS 2 hts gX11_neighbour_X11_numberOf rfl rfl rfl (by decide +kernel) ⟨(Nat.le_of_ble_eq_true rfl), (Nat.le_of_ble_eq_true rfl)⟩) (by decide) rfl (fun _ => rfl) rfl hl.1 rfl (Nat.le_of_ble_eq_true rfl) dX11_neighbour_87 ⟨(Nat.le_of_ble_eq_true rfl), (Nat.le_of_ble_eq_true rfl)⟩ (fun r10 u H locs hw hI => ?_)
          try dsimp only at hw
          have hI : wI s D A (fl []) H locs := hI
          subst hQ
          exact x_iret (u := ()) hC hI hr hlk hw rfl dX11_neighbour_90
        · replace hw := hw.2 c9
          refine lv_tableOut (tgt := 91) hx hb dX11_neighbour_34 (by have nc5 := lv_neT c5 (a := 0) rfl; have nc7 := lv_neT c7 (a := 1) rfl; have nc9 := lv_neT c9 (a := 2) rfl; omega) (by decide) ?_
          refine lv_iload_n hx hb dX11_neighbour_91 rfl (lv_at hl 1 rfl) ?_
          refine lv_iconst (v := (1 : Int32)) hx hb dX11_neighbour_92 (by decide) ?_
          refine lv_iadd hx hb dX11_neighbour_93 ?_
          refine lv_iload_n hx hb dX11_neighbour_94 rfl (lv_at hl 0 rfl) ?_
          refine x_callSi (rest := []) hC hI [] (mX11_numberOf l D K  _ (r3 + (1 : Int32)) r4 hw) (va_cwS 2 hts gX11_neighbour_X11_numberOf rfl rfl rfl (by decide +kernel) ⟨(Nat.le_of_ble_eq_true rfl), (Nat.le_of_ble_eq_true rfl)⟩) (by decide) rfl (fun _ => rfl) rfl hl.1 rfl (Nat.le_of_ble_eq_true rfl) dX11_neighbour_95 ⟨(Nat.le_of_ble_eq_true rfl), (Nat.le_of_ble_eq_true rfl)⟩ (fun r11 u H locs hw hI => ?_)
          try dsimp only at hw
          have hI : wI s D A (fl []) H locs := hI
          subst hQ
          exact x_iret (u := ()) hC hI hr hlk hw rfl dX11_neighbour_98
  · replace hw := hw.2 c2
    refine lv_iload_n hx hb dX11_neighbour_7 rfl (lv_at hl 0 rfl) ?_
    refine lv_if_ne (tgt := 17) hx hb dX11_neighbour_8 (by decide) (fun c12 => ?_) (fun c12 => ?_)
    · replace hw := hw.2 c12
      refine lv_sipush (v := (241 : Int32)) hx hb dX11_neighbour_17 (by decide) ?_
      refine lv_iload_n hx hb dX11_neighbour_20 rfl (lv_at hl 1 rfl) ?_
      refine lv_iadd hx hb dX11_neighbour_21 ?_
      subst hQ
      exact x_iret (u := ()) hC hI hr hlk hw rfl dX11_neighbour_22
    · replace hw := hw.1 c12
      refine lv_iconst (v := (1 : Int32)) hx hb dX11_neighbour_11 (by decide) ?_
      refine lv_iload_n hx hb dX11_neighbour_12 rfl (lv_at hl 1 rfl) ?_
      refine lv_iadd hx hb dX11_neighbour_13 ?_
      refine lv_goto (tgt := 22) hx hb dX11_neighbour_14 (by decide) ?_
      subst hQ
      exact x_iret (u := ()) hC hI hr hlk hw rfl dX11_neighbour_22

def wX11_areNext (a0 : Int32) (a1 : Int32)  (post : Int32 → Prop) : Prop := (∃ (I4 : Int32 → Int32 → Prop) (mu4 : Int32 → Int32 → Nat), I4 (0 : Int32) (0 : Int32) ∧ ∀ (l2_4 : Int32) (l3_4 : Int32), I4 l2_4 l3_4 → wX11_neighbours a0 (fun (r1 : Int32) => ((r1 ≤ l3_4 → (l2_4 = 0 ∨ l2_4 = 1) ∧ post l2_4) ∧ (¬ r1 ≤ l3_4 → ((l2_4 = 0 → wX11_neighbour a0 l3_4 (fun (r6 : Int32) => ((r6 = a1 → ∀ x9 : Int32, x9 = l3_4 + 1 → (I4 (1 : Int32) x9 ∧ mu4 (1 : Int32) x9 < mu4 l2_4 l3_4)) ∧ (¬ r6 = a1 → ∀ x8 : Int32, x8 = l3_4 + 1 → (I4 (0 : Int32) x8 ∧ mu4 (0 : Int32) x8 < mu4 l2_4 l3_4))))) ∧ (¬ l2_4 = 0 → ∀ x5 : Int32, x5 = l3_4 + 1 → (I4 (1 : Int32) x5 ∧ mu4 (1 : Int32) x5 < mu4 l2_4 l3_4)))))))
def rmX11_areNext : Room := { frames := 3, cells := 0, slots := 0, locals := 63 }
set_option maxHeartbeats 4000000 in
set_option maxRecDepth 100000 in
theorem mX11_areNext (l : Launch) (D : va_G) (K : Nat → ClassId)  (sz : Nat) (a0 : Int32) (a1 : Int32)   {post : Int32 → Prop} (hw : wX11_areNext a0 a1  post) : Met l yX11_areNext wsX11_areNext rmX11_areNext (va_Pc [.int a0, .int a1] (cP D K (fl []) sz)) (va_Qi (fun (r : Int32) (u : Unit) => post r) (fun u t => cQ D K (fl []) (va_A (fl []) sz) t) (va_A (fl []) sz)) 0 0 (va_A (fl []) sz) := by
  refine x_entry (cc := cX11_areNext) (maxL := 4) (ret := (some .boolean)) (QA := fun A => va_Qi (fun (r : Int32) (u : Unit) => post r) (fun u t => cQ D K (fl []) A t) A) (plainFor_of_name (by decide)) rfl (Nat.le_of_ble_eq_true rfl) ?_
  intro p e s m args below meth c A ls H Q hQ hC hlk hr hnm hI hl
  obtain ⟨hx, hb, hml, hown, hts, hK, hA, hZ⟩ := id hC
  obtain ⟨locs, hlocs⟩ : ∃ y : List Loc, y = [] := ⟨_, rfl⟩
  rw [← hlocs] at hI ⊢
  clear hlocs
  replace hl : lv_has ls 4 [(0, .int a0), (1, .int a1)] := hl
  replace hw : (∃ (I4 : Int32 → Int32 → Prop) (mu4 : Int32 → Int32 → Nat), I4 (0 : Int32) (0 : Int32) ∧ ∀ (l2_4 : Int32) (l3_4 : Int32), I4 l2_4 l3_4 → wX11_neighbours a0 (fun (r1 : Int32) => ((r1 ≤ l3_4 → (l2_4 = 0 ∨ l2_4 = 1) ∧ post l2_4) ∧ (¬ r1 ≤ l3_4 → ((l2_4 = 0 → wX11_neighbour a0 l3_4 (fun (r6 : Int32) => ((r6 = a1 → ∀ x9 : Int32, x9 = l3_4 + 1 → (I4 (1 : Int32) x9 ∧ mu4 (1 : Int32) x9 < mu4 l2_4 l3_4)) ∧ (¬ r6 = a1 → ∀ x8 : Int32, x8 = l3_4 + 1 → (I4 (0 : Int32) x8 ∧ mu4 (0 : Int32) x8 < mu4 l2_4 l3_4))))) ∧ (¬ l2_4 = 0 → ∀ x5 : Int32, x5 = l3_4 + 1 → (I4 (1 : Int32) x5 ∧ mu4 (1 : Int32) x5 < mu4 l2_4 l3_4))))))) := hw
  refine lv_iconst (v := (0 : Int32)) hx hb dX11_areNext_0 (by decide) ?_
  refine lv_istore_n (lv' := [(2, .int (0 : Int32)), (0, .int a0), (1, .int a1)]) hx hb dX11_areNext_1 rfl hl (by decide) rfl (fun ls hl => ?_)
  refine lv_iconst (v := (0 : Int32)) hx hb dX11_areNext_2 (by decide) ?_
  refine lv_istore_n (lv' := [(3, .int (0 : Int32)), (2, .int (0 : Int32)), (0, .int a0), (1, .int a1)]) hx hb dX11_areNext_3 rfl hl (by decide) rfl (fun ls hl => ?_)
  obtain ⟨I4, mu4, hw, hb4⟩ := hw
  have lp4 : ∀ (k : Nat) (l2_4 : Int32) (l3_4 : Int32) (ls : Array Slot) (H : Heap) (locs : List Loc), mu4 l2_4 l3_4 < k → I4 l2_4 l3_4 → wI s D A (fl []) H locs → lv_has ls 4 [(0, .int a0), (1, .int a1), (2, .int l2_4), (3, .int l3_4)] → W p l e rmX11_areNext s m args below meth c H locs 0 0 Q (F0 m 4 ls []) := by
    intro k
    induction k with
    | zero => intro l2_4 l3_4 ls H locs hmu; exact absurd hmu (Nat.not_lt_zero _)
    | succ k ih4 =>
      intro l2_4 l3_4 ls H locs hmu4 hw hI hl
      replace hw := hb4 l2_4 l3_4 hw
      refine lv_iload_n hx hb dX11_areNext_4 rfl (lv_at hl 3 rfl) ?_
      refine lv_iload_n hx hb dX11_areNext_5 rfl (lv_at hl 0 rfl) ?_
      refine x_callSi (rest := [.int l3_4]) hC hI [] (mX11_neighbours l D K  _ a0 hw) (va_cwS 1 hts gX11_areNext_X11_neighbours rfl rfl rfl (by decide +kernel) ⟨(Nat.le_of_ble_eq_true rfl), (Nat.le_of_ble_eq_true rfl)⟩) (by decide) rfl (fun _ => rfl) rfl hl.1 rfl (Nat.le_of_ble_eq_true rfl) dX11_areNext_6 ⟨(Nat.le_of_ble_eq_true rfl), (Nat.le_of_ble_eq_true rfl)⟩ (fun r1 u H locs hw hI => ?_)
      try dsimp only at hw
      have hI : wI s D A (fl []) H locs := hI
      refine lv_icmp_ge (tgt := 37) hx hb dX11_areNext_9 (by decide) (fun c2 => ?_) (fun c2 => ?_)
      · replace hw := hw.1 c2
        refine lv_iload_n hx hb dX11_areNext_37 rfl (lv_at hl 2 rfl) ?_
        obtain ⟨hc3, hw⟩ := hw
        subst hQ
        exact x_zret (u := ()) hC hI hr hlk hw rfl hc3 dX11_areNext_38
      · replace hw := hw.2 c2
        refine lv_iload_n hx hb dX11_areNext_12 rfl (lv_at hl 2 rfl) ?_
        refine lv_if_ne (tgt := 25) hx hb dX11_areNext_13 (by decide) (fun c4 => ?_) (fun c4 => ?_)
        · replace hw := hw.2 c4
          refine lv_iconst (v := (1 : Int32)) hx hb dX11_areNext_25 (by decide) ?_
          refine lv_goto (tgt := 30) hx hb dX11_areNext_26 (by decide) ?_
          refine lv_istore_n (lv' := [(2, .int (1 : Int32)), (0, .int a0), (1, .int a1), (3, .int l3_4)]) hx hb dX11_areNext_30 rfl hl (by decide) rfl (fun ls hl => ?_)
          obtain ⟨x5, ex5⟩ : ∃ y : Int32, y = l3_4 + 1 := ⟨_, rfl⟩
          replace hw := hw x5 ex5
          refine lv_iinc (v := x5) (lv' := [(3, .int x5), (2, .int (1 : Int32)), (0, .int a0), (1, .int a1)]) hx hb dX11_areNext_31 hl (k := 3) rfl (by rw [ex5]; rfl) (by decide) rfl (fun ls hl => ?_)
          refine lv_goto (tgt := 4) hx hb dX11_areNext_34 (by decide) ?_
          exact ih4 (1 : Int32) x5 ls H locs (Nat.lt_of_lt_of_le hw.2 (Nat.le_of_lt_succ hmu4)) hw.1 hI (lv_sub hl [2, 3, 1, 0] rfl)
        · replace hw := hw.1 c4
          refine lv_iload_n hx hb dX11_areNext_16 rfl (lv_at hl 0 rfl) ?_
          refine lv_iload_n hx hb dX11_areNext_17 rfl (lv_at hl 3 rfl) ?_
          refine x_callSi (rest := []) hC hI [] (mX11_neighbour l D K  _ a0 l3_4 hw) (va_cwS 2 hts gX11_areNext_X11_neighbour rfl rfl rfl (by decide +kernel) ⟨(Nat.le_of_ble_eq_true rfl), (Nat.le_of_ble_eq_true rfl)⟩) (by decide) rfl (fun _ => rfl) rfl hl.1 rfl (Nat.le_of_ble_eq_true rfl) dX11_areNext_18 ⟨(Nat.le_of_ble_eq_true rfl), (Nat.le_of_ble_eq_true rfl)⟩ (fun r6 u H locs hw hI => ?_)
          try dsimp only at hw
          have hI : wI s D A (fl []) H locs := hI
          refine lv_iload_n hx hb dX11_areNext_21 rfl (lv_at hl 1 rfl) ?_
          refine lv_icmp_ne (tgt := 29) hx hb dX11_areNext_22 (by decide) (fun c7 => ?_) (fun c7 => ?_)
          · replace hw := hw.2 c7
            refine lv_iconst (v := (0 : Int32)) hx hb dX11_areNext_29 (by decide) ?_
            refine lv_istore_n (lv' := [(2, .int (0 : Int32)), (0, .int a0), (1, .int a1), (3, .int l3_4)]) hx hb dX11_areNext_30 rfl hl (by decide) rfl (fun ls hl => ?_)
            obtain ⟨x8, ex8⟩ : ∃ y : Int32, y = l3_4 + 1 := ⟨_, rfl⟩
            replace hw := hw x8 ex8
            refine lv_iinc (v := x8) (lv' := [(3, .int x8), (2, .int (0 : Int32)), (0, .int a0), (1, .int a1)]) hx hb dX11_areNext_31 hl (k := 3) rfl (by rw [ex8]; rfl) (by decide) rfl (fun ls hl => ?_)
            refine lv_goto (tgt := 4) hx hb dX11_areNext_34 (by decide) ?_
            exact ih4 (0 : Int32) x8 ls H locs (Nat.lt_of_lt_of_le hw.2 (Nat.le_of_lt_succ hmu4)) hw.1 hI (lv_sub hl [2, 3, 1, 0] rfl)
          · replace hw := hw.1 c7
            refine lv_iconst (v := (1 : Int32)) hx hb dX11_areNext_25 (by decide) ?_
            refine lv_goto (tgt := 30) hx hb dX11_areNext_26 (by decide) ?_
            refine lv_istore_n (lv' := [(2, .int (1 : Int32)), (0, .int a0), (1, .int a1), (3, .int l3_4)]) hx hb dX11_areNext_30 rfl hl (by decide) rfl (fun ls hl => ?_)
            obtain ⟨x9, ex9⟩ : ∃ y : Int32, y = l3_4 + 1 := ⟨_, rfl⟩
            replace hw := hw x9 ex9
            refine lv_iinc (v := x9) (lv' := [(3, .int x9), (2, .int (1 : Int32)), (0, .int a0), (1, .int a1)]) hx hb dX11_areNext_31 hl (k := 3) rfl (by rw [ex9]; rfl) (by decide) rfl (fun ls hl => ?_)
            refine lv_goto (tgt := 4) hx hb dX11_areNext_34 (by decide) ?_
            exact ih4 (1 : Int32) x9 ls H locs (Nat.lt_of_lt_of_le hw.2 (Nat.le_of_lt_succ hmu4)) hw.1 hI (lv_sub hl [2, 3, 1, 0] rfl)
  exact lp4 (mu4 (0 : Int32) (0 : Int32) + 1) (0 : Int32) (0 : Int32) ls H locs (Nat.lt_succ_self _) hw hI (lv_sub hl [2, 3, 1, 0] rfl)

def wX11_laysSeas  (st : Nat → Int32) (seaFirst : Nat → Int32) (post : (Nat → Int32) → Prop) : Prop := (∃ (I4 : Int32 → (Nat → Int32) → Prop) (mu4 : Int32 → (Nat → Int32) → Nat), I4 (0 : Int32) seaFirst ∧ ∀ (l2_4 : Int32) (seaFirst_4 : Nat → Int32), I4 l2_4 seaFirst_4 → (((266 : Int32) ≤ l2_4 → (∃ (I37 : Int32 → (Nat → Int32) → Prop) (mu37 : Int32 → (Nat → Int32) → Nat), I37 (0 : Int32) seaFirst_4 ∧ ∀ (l1_37 : Int32) (seaFirst_37 : Nat → Int32), I37 l1_37 seaFirst_37 → ((l1_37 = 0 → (∃ (I45 : Int32 → Int32 → (Nat → Int32) → Prop) (mu45 : Int32 → Int32 → (Nat → Int32) → Nat), I45 (1 : Int32) (0 : Int32) seaFirst_37 ∧ ∀ (l1_45 : Int32) (l2_45 : Int32) (seaFirst_45 : Nat → Int32), I45 l1_45 l2_45 seaFirst_45 → (((266 : Int32) ≤ l2_45 → (I37 l1_45 seaFirst_45 ∧ mu37 l1_45 seaFirst_45 < mu37 l1_37 seaFirst_37)) ∧ (¬ (266 : Int32) ≤ l2_45 → (∃ (I54 : Int32 → Int32 → (Nat → Int32) → Prop) (mu54 : Int32 → Int32 → (Nat → Int32) → Nat), I54 l1_45 (0 : Int32) seaFirst_45 ∧ ∀ (l1_54 : Int32) (l3_54 : Int32) (seaFirst_54 : Nat → Int32), I54 l1_54 l3_54 seaFirst_54 → wX11_neighbours l2_45 (fun (r4 : Int32) => ((r4 ≤ l3_54 → ∀ x6 : Int32, x6 = l2_45 + 1 → (I45 l1_54 x6 seaFirst_54 ∧ mu45 l1_54 x6 seaFirst_54 < mu45 l1_45 l2_45 seaFirst_45)) ∧ (¬ r4 ≤ l3_54 → wX11_neighbour l2_45 l3_54 (fun (r7 : Int32) => wX11_isLand l2_45 st (fun (r8 : Int32) => ((r8 = 0 → wX11_isLand r7 st (fun (r11 : Int32) => ((r11 = 0 → vp_in r7 266 ∧ vp_in l2_45 266 ∧ (((seaFirst_54 l2_45.toNatClampNeg) ≤ (seaFirst_54 r7.toNatClampNeg) → ∀ x17 : Int32, x17 = l3_54 + 1 → (I54 l1_54 x17 seaFirst_54 ∧ mu54 l1_54 x17 seaFirst_54 < mu54 l1_54 l3_54 seaFirst_54)) ∧ (¬ (seaFirst_54 l2_45.toNatClampNeg) ≤ (seaFirst_54 r7.toNatClampNeg) → vp_in r7 266 ∧ vp_in l2_45 266 ∧ ∀ x20 : Int32, x20 = l3_54 + 1 → (I54 (0 : Int32) x20 (upd seaFirst_54 l2_45.toNatClampNeg (seaFirst_54 r7.toNatClampNeg)) ∧ mu54 (0 : Int32) x20 (upd seaFirst_54 l2_45.toNatClampNeg (seaFirst_54 r7.toNatClampNeg)) < mu54 l1_54 l3_54 seaFirst_54)))) ∧ (¬ r11 = 0 → ∀ x13 : Int32, x13 = l3_54 + 1 → (I54 l1_54 x13 seaFirst_54 ∧ mu54 l1_54 x13 seaFirst_54 < mu54 l1_54 l3_54 seaFirst_54))))) ∧ (¬ r8 = 0 → ∀ x10 : Int32, x10 = l3_54 + 1 → (I54 l1_54 x10 seaFirst_54 ∧ mu54 l1_54 x10 seaFirst_54 < mu54 l1_54 l3_54 seaFirst_54))))))))))))) ∧ (¬ l1_37 = 0 → post seaFirst_37)))) ∧ (¬ (266 : Int32) ≤ l2_4 → wX11_isLand l2_4 st (fun (r21 : Int32) => ((r21 = 0 → vp_in l2_4 266 ∧ ∀ x24 : Int32, x24 = l2_4 + 1 → (I4 x24 (upd seaFirst_4 l2_4.toNatClampNeg l2_4) ∧ mu4 x24 (upd seaFirst_4 l2_4.toNatClampNeg l2_4) < mu4 l2_4 seaFirst_4)) ∧ (¬ r21 = 0 → vp_in l2_4 266 ∧ ∀ x26 : Int32, x26 = l2_4 + 1 → (I4 x26 (upd seaFirst_4 l2_4.toNatClampNeg (-4 : Int32)) ∧ mu4 x26 (upd seaFirst_4 l2_4.toNatClampNeg (-4 : Int32)) < mu4 l2_4 seaFirst_4)))))))
def rmX11_laysSeas : Room := { frames := 3, cells := 0, slots := 0, locals := 63 }
theorem kX11_laysSeas_0 : Cond.fieldLink RX11 39 "GoreGlobeModel" "seaFirst" "[I" ∈ wsX11_laysSeas := List.mem_cons_of_mem _ (List.mem_append_left _ (List.mem_append_left _ (List.mem_of_getElem? (i := 0) rfl)))
theorem kX11_laysSeas_cX11 : ∀ w ∈ wsX110, w ∈ wsX11_laysSeas := fun _ h => List.mem_cons_of_mem _ (List.mem_append_right _ h)
set_option maxHeartbeats 4000000 in
set_option maxRecDepth 100000 in
theorem mX11_laysSeas (l : Launch) (D : va_G) (K : Nat → ClassId) (h : Nat → Nat) (sz : Nat)  (st : Nat → Int32) (past : Nat → Int32) (acts : Int32) (image : Nat → Int32) (ipast : Nat → Int32) (iacts : Int32) (tape : Nat → Int32) (tmany : Int32) (laneOf : Nat → Int32) (sizeOf : Nat → Int32) (items : Nat → Int64) (seaFirst : Nat → Int32) (worstOf : Nat → Int32) (farTo : Nat → Int32) (stepsTo : Nat → Int32) (needs : Nat → Int32) (nmany : Int32) (mat : Int32) (told : Nat → Int32)  {post : (Nat → Int32) → Prop} (hw : wX11_laysSeas  st seaFirst post) : Met l yX11_laysSeas wsX11_laysSeas rmX11_laysSeas (va_Pc [.ref (h 0)] (cP D K (fl [wMo K h st past acts image ipast iacts tape tmany laneOf sizeOf items seaFirst worstOf farTo stepsTo needs nmany mat told]) sz)) (va_Qv (fun (u : (Nat → Int32)) => post u) (fun u t => cQ D K (fl [wMo K h st past acts image ipast iacts tape tmany laneOf sizeOf items u worstOf farTo stepsTo needs nmany mat told]) (va_A (fl [wMo K h st past acts image ipast iacts tape tmany laneOf sizeOf items seaFirst worstOf farTo stepsTo needs nmany mat told]) sz) t) (va_A (fl [wMo K h st past acts image ipast iacts tape tmany laneOf sizeOf items seaFirst worstOf farTo stepsTo needs nmany mat told]) sz)) 0 0 (va_A (fl [wMo K h st past acts image ipast iacts tape tmany laneOf sizeOf items seaFirst worstOf farTo stepsTo needs nmany mat told]) sz) := by
  refine x_entry (cc := cX11_laysSeas) (maxL := 5) (ret := none) (QA := fun A => va_Qv (fun (u : (Nat → Int32)) => post u) (fun u t => cQ D K (fl [wMo K h st past acts image ipast iacts tape tmany laneOf sizeOf items u worstOf farTo stepsTo needs nmany mat told]) A t) A) (plainFor_of_name (by decide)) rfl (Nat.le_of_ble_eq_true rfl) ?_
  intro p e s m args below meth c A ls H Q hQ hC hlk hr hnm hI hl
  obtain ⟨hx, hb, hml, hown, hts, hK, hA, hZ⟩ := id hC
  obtain ⟨locs, hlocs⟩ : ∃ y : List Loc, y = [] := ⟨_, rfl⟩
  rw [← hlocs] at hI ⊢
  clear hlocs
  replace hl : lv_has ls 5 [(0, .ref (h 0))] := hl
  replace hw : (∃ (I4 : Int32 → (Nat → Int32) → Prop) (mu4 : Int32 → (Nat → Int32) → Nat), I4 (0 : Int32) seaFirst ∧ ∀ (l2_4 : Int32) (seaFirst_4 : Nat → Int32), I4 l2_4 seaFirst_4 → (((266 : Int32) ≤ l2_4 → (∃ (I37 : Int32 → (Nat → Int32) → Prop) (mu37 : Int32 → (Nat → Int32) → Nat), I37 (0 : Int32) seaFirst_4 ∧ ∀ (l1_37 : Int32) (seaFirst_37 : Nat → Int32), I37 l1_37 seaFirst_37 → ((l1_37 = 0 → (∃ (I45 : Int32 → Int32 → (Nat → Int32) → Prop) (mu45 : Int32 → Int32 → (Nat → Int32) → Nat), I45 (1 : Int32) (0 : Int32) seaFirst_37 ∧ ∀ (l1_45 : Int32) (l2_45 : Int32) (seaFirst_45 : Nat → Int32), I45 l1_45 l2_45 seaFirst_45 → (((266 : Int32) ≤ l2_45 → (I37 l1_45 seaFirst_45 ∧ mu37 l1_45 seaFirst_45 < mu37 l1_37 seaFirst_37)) ∧ (¬ (266 : Int32) ≤ l2_45 → (∃ (I54 : Int32 → Int32 → (Nat → Int32) → Prop) (mu54 : Int32 → Int32 → (Nat → Int32) → Nat), I54 l1_45 (0 : Int32) seaFirst_45 ∧ ∀ (l1_54 : Int32) (l3_54 : Int32) (seaFirst_54 : Nat → Int32), I54 l1_54 l3_54 seaFirst_54 → wX11_neighbours l2_45 (fun (r4 : Int32) => ((r4 ≤ l3_54 → ∀ x6 : Int32, x6 = l2_45 + 1 → (I45 l1_54 x6 seaFirst_54 ∧ mu45 l1_54 x6 seaFirst_54 < mu45 l1_45 l2_45 seaFirst_45)) ∧ (¬ r4 ≤ l3_54 → wX11_neighbour l2_45 l3_54 (fun (r7 : Int32) => wX11_isLand l2_45 st (fun (r8 : Int32) => ((r8 = 0 → wX11_isLand r7 st (fun (r11 : Int32) => ((r11 = 0 → vp_in r7 266 ∧ vp_in l2_45 266 ∧ (((seaFirst_54 l2_45.toNatClampNeg) ≤ (seaFirst_54 r7.toNatClampNeg) → ∀ x17 : Int32, x17 = l3_54 + 1 → (I54 l1_54 x17 seaFirst_54 ∧ mu54 l1_54 x17 seaFirst_54 < mu54 l1_54 l3_54 seaFirst_54)) ∧ (¬ (seaFirst_54 l2_45.toNatClampNeg) ≤ (seaFirst_54 r7.toNatClampNeg) → vp_in r7 266 ∧ vp_in l2_45 266 ∧ ∀ x20 : Int32, x20 = l3_54 + 1 → (I54 (0 : Int32) x20 (upd seaFirst_54 l2_45.toNatClampNeg (seaFirst_54 r7.toNatClampNeg)) ∧ mu54 (0 : Int32) x20 (upd seaFirst_54 l2_45.toNatClampNeg (seaFirst_54 r7.toNatClampNeg)) < mu54 l1_54 l3_54 seaFirst_54)))) ∧ (¬ r11 = 0 → ∀ x13 : Int32, x13 = l3_54 + 1 → (I54 l1_54 x13 seaFirst_54 ∧ mu54 l1_54 x13 seaFirst_54 < mu54 l1_54 l3_54 seaFirst_54))))) ∧ (¬ r8 = 0 → ∀ x10 : Int32, x10 = l3_54 + 1 → (I54 l1_54 x10 seaFirst_54 ∧ mu54 l1_54 x10 seaFirst_54 < mu54 l1_54 l3_54 seaFirst_54))))))))))))) ∧ (¬ l1_37 = 0 → post seaFirst_37)))) ∧ (¬ (266 : Int32) ≤ l2_4 → wX11_isLand l2_4 st (fun (r21 : Int32) => ((r21 = 0 → vp_in l2_4 266 ∧ ∀ x24 : Int32, x24 = l2_4 + 1 → (I4 x24 (upd seaFirst_4 l2_4.toNatClampNeg l2_4) ∧ mu4 x24 (upd seaFirst_4 l2_4.toNatClampNeg l2_4) < mu4 l2_4 seaFirst_4)) ∧ (¬ r21 = 0 → vp_in l2_4 266 ∧ ∀ x26 : Int32, x26 = l2_4 + 1 → (I4 x26 (upd seaFirst_4 l2_4.toNatClampNeg (-4 : Int32)) ∧ mu4 x26 (upd seaFirst_4 l2_4.toNatClampNeg (-4 : Int32)) < mu4 l2_4 seaFirst_4))))))) := hw
  refine lv_iconst (v := (0 : Int32)) hx hb dX11_laysSeas_0 (by decide) ?_
  refine lv_istore_n (lv' := [(1, .int (0 : Int32)), (0, .ref (h 0))]) hx hb dX11_laysSeas_1 rfl hl (by decide) rfl (fun ls hl => ?_)
  refine lv_iconst (v := (0 : Int32)) hx hb dX11_laysSeas_2 (by decide) ?_
  refine lv_istore_n (lv' := [(2, .int (0 : Int32)), (1, .int (0 : Int32)), (0, .ref (h 0))]) hx hb dX11_laysSeas_3 rfl hl (by decide) rfl (fun ls hl => ?_)
  obtain ⟨I4, mu4, hw, hb4⟩ := hw
  have lp4 : ∀ (k : Nat) (l2_4 : Int32) (seaFirst_4 : Nat → Int32) (ls : Array Slot) (H : Heap) (locs : List Loc), mu4 l2_4 seaFirst_4 < k → I4 l2_4 seaFirst_4 → wI s D A (fl [wMo K h st past acts image ipast iacts tape tmany laneOf sizeOf items seaFirst_4 worstOf farTo stepsTo needs nmany mat told]) H locs → lv_has ls 5 [(0, .ref (h 0)), (1, .int (0 : Int32)), (2, .int l2_4)] → W p l e rmX11_laysSeas s m args below meth c H locs 0 0 Q (F0 m 4 ls []) := by
    intro k
    induction k with
    | zero => intro l2_4 seaFirst_4 ls H locs hmu; exact absurd hmu (Nat.not_lt_zero _)
    | succ k ih4 =>
      intro l2_4 seaFirst_4 ls H locs hmu4 hw hI hl
      replace hw := hb4 l2_4 seaFirst_4 hw
      refine lv_iload_n hx hb dX11_laysSeas_4 rfl (lv_at hl 2 rfl) ?_
      refine lv_sipush (v := (266 : Int32)) hx hb dX11_laysSeas_5 (by decide) ?_
      refine lv_icmp_ge (tgt := 37) hx hb dX11_laysSeas_8 (by decide) (fun c1 => ?_) (fun c1 => ?_)
      · replace hw := hw.1 c1
        obtain ⟨I37, mu37, hw, hb37⟩ := hw
        have lp37 : ∀ (k : Nat) (l1_37 : Int32) (seaFirst_37 : Nat → Int32) (ls : Array Slot) (H : Heap) (locs : List Loc), mu37 l1_37 seaFirst_37 < k → I37 l1_37 seaFirst_37 → wI s D A (fl [wMo K h st past acts image ipast iacts tape tmany laneOf sizeOf items seaFirst_37 worstOf farTo stepsTo needs nmany mat told]) H locs → lv_has ls 5 [(0, .ref (h 0)), (1, .int l1_37)] → W p l e rmX11_laysSeas s m args below meth c H locs 0 0 Q (F0 m 37 ls []) := by
          intro k
          induction k with
          | zero => intro l1_37 seaFirst_37 ls H locs hmu; exact absurd hmu (Nat.not_lt_zero _)
          | succ k ih37 =>
            intro l1_37 seaFirst_37 ls H locs hmu37 hw hI hl
            replace hw := hb37 l1_37 seaFirst_37 hw
            refine lv_iload_n hx hb dX11_laysSeas_37 rfl (lv_at hl 1 rfl) ?_
            refine lv_if_ne (tgt := 132) hx hb dX11_laysSeas_38 (by decide) (fun c2 => ?_) (fun c2 => ?_)
            · replace hw := hw.2 c2
              subst hQ
              exact x_vret (u := seaFirst_37) hC hI hr hlk hw rfl dX11_laysSeas_132
            · replace hw := hw.1 c2
              refine lv_iconst (v := (1 : Int32)) hx hb dX11_laysSeas_41 (by decide) ?_
              refine lv_istore_n (lv' := [(1, .int (1 : Int32)), (0, .ref (h 0))]) hx hb dX11_laysSeas_42 rfl hl (by decide) rfl (fun ls hl => ?_)
              refine lv_iconst (v := (0 : Int32)) hx hb dX11_laysSeas_43 (by decide) ?_
              refine lv_istore_n (lv' := [(2, .int (0 : Int32)), (1, .int (1 : Int32)), (0, .ref (h 0))]) hx hb dX11_laysSeas_44 rfl hl (by decide) rfl (fun ls hl => ?_)
              obtain ⟨I45, mu45, hw, hb45⟩ := hw
              have lp45 : ∀ (k : Nat) (l1_45 : Int32) (l2_45 : Int32) (seaFirst_45 : Nat → Int32) (ls : Array Slot) (H : Heap) (locs : List Loc), mu45 l1_45 l2_45 seaFirst_45 < k → I45 l1_45 l2_45 seaFirst_45 → wI s D A (fl [wMo K h st past acts image ipast iacts tape tmany laneOf sizeOf items seaFirst_45 worstOf farTo stepsTo needs nmany mat told]) H locs → lv_has ls 5 [(0, .ref (h 0)), (1, .int l1_45), (2, .int l2_45)] → W p l e rmX11_laysSeas s m args below meth c H locs 0 0 Q (F0 m 45 ls []) := by
                intro k
                induction k with
                | zero => intro l1_45 l2_45 seaFirst_45 ls H locs hmu; exact absurd hmu (Nat.not_lt_zero _)
                | succ k ih45 =>
                  intro l1_45 l2_45 seaFirst_45 ls H locs hmu45 hw hI hl
                  replace hw := hb45 l1_45 l2_45 seaFirst_45 hw
                  refine lv_iload_n hx hb dX11_laysSeas_45 rfl (lv_at hl 2 rfl) ?_
                  refine lv_sipush (v := (266 : Int32)) hx hb dX11_laysSeas_46 (by decide) ?_
                  refine lv_icmp_ge (tgt := 129) hx hb dX11_laysSeas_49 (by decide) (fun c3 => ?_) (fun c3 => ?_)
                  · replace hw := hw.1 c3
                    refine lv_goto (tgt := 37) hx hb dX11_laysSeas_129 (by decide) ?_
                    exact ih37 l1_45 seaFirst_45 ls H locs (Nat.lt_of_lt_of_le hw.2 (Nat.le_of_lt_succ hmu37)) hw.1 hI (lv_sub hl [0, 1] rfl)
                  · replace hw := hw.2 c3
                    refine lv_iconst (v := (0 : Int32)) hx hb dX11_laysSeas_52 (by decide) ?_
                    refine lv_istore_n (lv' := [(3, .int (0 : Int32)), (0, .ref (h 0)), (1, .int l1_45), (2, .int l2_45)]) hx hb dX11_laysSeas_53 rfl hl (by decide) rfl (fun ls hl => ?_)
                    obtain ⟨I54, mu54, hw, hb54⟩ := hw
                    have lp54 : ∀ (k : Nat) (l1_54 : Int32) (l3_54 : Int32) (seaFirst_54 : Nat → Int32) (ls : Array Slot) (H : Heap) (locs : List Loc), mu54 l1_54 l3_54 seaFirst_54 < k → I54 l1_54 l3_54 seaFirst_54 → wI s D A (fl [wMo K h st past acts image ipast iacts tape tmany laneOf sizeOf items seaFirst_54 worstOf farTo stepsTo needs nmany mat told]) H locs → lv_has ls 5 [(0, .ref (h 0)), (1, .int l1_54), (2, .int l2_45), (3, .int l3_54)] → W p l e rmX11_laysSeas s m args below meth c H locs 0 0 Q (F0 m 54 ls []) := by
                      intro k
                      induction k with
                      | zero => intro l1_54 l3_54 seaFirst_54 ls H locs hmu; exact absurd hmu (Nat.not_lt_zero _)
                      | succ k ih54 =>
                        intro l1_54 l3_54 seaFirst_54 ls H locs hmu54 hw hI hl
                        replace hw := hb54 l1_54 l3_54 seaFirst_54 hw
                        refine lv_iload_n hx hb dX11_laysSeas_54 rfl (lv_at hl 3 rfl) ?_
                        refine lv_iload_n hx hb dX11_laysSeas_55 rfl (lv_at hl 2 rfl) ?_
                        refine x_callSi (rest := [.int l3_54]) hC hI [] (mX11_neighbours l D K  _ l2_45 hw) (va_cwS 1 hts gX11_laysSeas_X11_neighbours rfl rfl rfl (by decide +kernel) ⟨(Nat.le_of_ble_eq_true rfl), (Nat.le_of_ble_eq_true rfl)⟩) (by decide) rfl (fun _ => rfl) rfl hl.1 rfl (Nat.le_of_ble_eq_true rfl) dX11_laysSeas_56 ⟨(Nat.le_of_ble_eq_true rfl), (Nat.le_of_ble_eq_true rfl)⟩ (fun r4 u H locs hw hI => ?_)
                        try dsimp only at hw
                        have hI : wI s D A (fl [wMo K h st past acts image ipast iacts tape tmany laneOf sizeOf items seaFirst_54 worstOf farTo stepsTo needs nmany mat told]) H locs := hI
                        refine lv_icmp_ge (tgt := 123) hx hb dX11_laysSeas_59 (by decide) (fun c5 => ?_) (fun c5 => ?_)
                        · replace hw := hw.1 c5
                          obtain ⟨x6, ex6⟩ : ∃ y : Int32, y = l2_45 + 1 := ⟨_, rfl⟩
                          replace hw := hw x6 ex6
                          refine lv_iinc (v := x6) (lv' := [(2, .int x6), (0, .ref (h 0)), (1, .int l1_54), (3, .int l3_54)]) hx hb dX11_laysSeas_123 hl (k := 2) rfl (by rw [ex6]; rfl) (by decide) rfl (fun ls hl => ?_)
                          refine lv_goto (tgt := 45) hx hb dX11_laysSeas_126 (by decide) ?_
                          exact ih45 l1_54 x6 seaFirst_54 ls H locs (Nat.lt_of_lt_of_le hw.2 (Nat.le_of_lt_succ hmu45)) hw.1 hI (lv_sub hl [1, 2, 0] rfl)
                        · replace hw := hw.2 c5
                          refine lv_iload_n hx hb dX11_laysSeas_62 rfl (lv_at hl 2 rfl) ?_
                          refine lv_iload_n hx hb dX11_laysSeas_63 rfl (lv_at hl 3 rfl) ?_
                          refine x_callSi (rest := []) hC hI [] (mX11_neighbour l D K  _ l2_45 l3_54 hw) (va_cwS 2 hts gX11_laysSeas_X11_neighbour rfl rfl rfl (by decide +kernel) ⟨(Nat.le_of_ble_eq_true rfl), (Nat.le_of_ble_eq_true rfl)⟩) (by decide) rfl (fun _ => rfl) rfl hl.1 rfl (Nat.le_of_ble_eq_true rfl) dX11_laysSeas_64 ⟨(Nat.le_of_ble_eq_true rfl), (Nat.le_of_ble_eq_true rfl)⟩ (fun r7 u H locs hw hI => ?_)
                          try dsimp only at hw
                          have hI : wI s D A (fl [wMo K h st past acts image ipast iacts tape tmany laneOf sizeOf items seaFirst_54 worstOf farTo stepsTo needs nmany mat told]) H locs := hI
                          refine lv_istore (lv' := [(4, .int r7), (0, .ref (h 0)), (1, .int l1_54), (2, .int l2_45), (3, .int l3_54)]) hx hb dX11_laysSeas_67 hl (by decide) rfl (fun ls hl => ?_)
                          refine lv_aload_n hx hb dX11_laysSeas_69 rfl (lv_at hl 1 rfl) ?_
                          refine lv_iload_n hx hb dX11_laysSeas_70 rfl (lv_at hl 3 rfl) ?_
                          refine x_callWi (rest := []) hC hI (mX11_isLand l D K h _ l2_45 st past acts image ipast iacts tape tmany laneOf sizeOf items seaFirst_54 worstOf farTo stepsTo needs nmany mat told hw) (cwV 1 hts gX11_laysSeas_X11_isLand rfl rfl rfl (by decide +kernel) ⟨(Nat.le_of_ble_eq_true rfl), (Nat.le_of_ble_eq_true rfl)⟩) (fun _ => rfl) 0 9 rfl rfl rfl rfl hl.1 rfl (Nat.le_of_ble_eq_true rfl) dX11_laysSeas_71 ⟨(Nat.le_of_ble_eq_true rfl), (Nat.le_of_ble_eq_true rfl)⟩ (fun r8 u H locs hw hI => ?_)
                          try dsimp only at hw
                          have hI : wI s D A (fl [wMo K h st past acts image ipast iacts tape tmany laneOf sizeOf items seaFirst_54 worstOf farTo stepsTo needs nmany mat told]) H locs := hI
                          refine lv_if_ne (tgt := 117) hx hb dX11_laysSeas_74 (by decide) (fun c9 => ?_) (fun c9 => ?_)
                          · replace hw := hw.2 c9
                            obtain ⟨x10, ex10⟩ : ∃ y : Int32, y = l3_54 + 1 := ⟨_, rfl⟩
                            replace hw := hw x10 ex10
                            refine lv_iinc (v := x10) (lv' := [(3, .int x10), (4, .int r7), (0, .ref (h 0)), (1, .int l1_54), (2, .int l2_45)]) hx hb dX11_laysSeas_117 hl (k := 4) rfl (by rw [ex10]; rfl) (by decide) rfl (fun ls hl => ?_)
                            refine lv_goto (tgt := 54) hx hb dX11_laysSeas_120 (by decide) ?_
                            exact ih54 l1_54 x10 seaFirst_54 ls H locs (Nat.lt_of_lt_of_le hw.2 (Nat.le_of_lt_succ hmu54)) hw.1 hI (lv_sub hl [2, 3, 4, 0] rfl)
                          · replace hw := hw.1 c9
                            refine lv_aload_n hx hb dX11_laysSeas_77 rfl (lv_at hl 1 rfl) ?_
                            refine lv_iload hx hb dX11_laysSeas_78 (lv_at hl 0 rfl) ?_
                            refine x_callWi (rest := []) hC hI (mX11_isLand l D K h _ r7 st past acts image ipast iacts tape tmany laneOf sizeOf items seaFirst_54 worstOf farTo stepsTo needs nmany mat told hw) (cwV 1 hts gX11_laysSeas_X11_isLand rfl rfl rfl (by decide +kernel) ⟨(Nat.le_of_ble_eq_true rfl), (Nat.le_of_ble_eq_true rfl)⟩) (fun _ => rfl) 0 9 rfl rfl rfl rfl hl.1 rfl (Nat.le_of_ble_eq_true rfl) dX11_laysSeas_80 ⟨(Nat.le_of_ble_eq_true rfl), (Nat.le_of_ble_eq_true rfl)⟩ (fun r11 u H locs hw hI => ?_)
                            try dsimp only at hw
                            have hI : wI s D A (fl [wMo K h st past acts image ipast iacts tape tmany laneOf sizeOf items seaFirst_54 worstOf farTo stepsTo needs nmany mat told]) H locs := hI
                            refine lv_if_ne (tgt := 117) hx hb dX11_laysSeas_83 (by decide) (fun c12 => ?_) (fun c12 => ?_)
                            · replace hw := hw.2 c12
                              obtain ⟨x13, ex13⟩ : ∃ y : Int32, y = l3_54 + 1 := ⟨_, rfl⟩
                              replace hw := hw x13 ex13
                              refine lv_iinc (v := x13) (lv' := [(3, .int x13), (4, .int r7), (0, .ref (h 0)), (1, .int l1_54), (2, .int l2_45)]) hx hb dX11_laysSeas_117 hl (k := 4) rfl (by rw [ex13]; rfl) (by decide) rfl (fun ls hl => ?_)
                              refine lv_goto (tgt := 54) hx hb dX11_laysSeas_120 (by decide) ?_
                              exact ih54 l1_54 x13 seaFirst_54 ls H locs (Nat.lt_of_lt_of_le hw.2 (Nat.le_of_lt_succ hmu54)) hw.1 hI (lv_sub hl [2, 3, 4, 0] rfl)
                            · replace hw := hw.1 c12
                              refine lv_aload_n hx hb dX11_laysSeas_86 rfl (lv_at hl 1 rfl) ?_
                              refine x_get (v := .ref (h 9)) hC hI kX11_laysSeas_cX11 0 rfl rfl 11 (by decide) kX11_laysSeas_0 rfl rfl dX11_laysSeas_87 ?_
                              refine lv_iload hx hb dX11_laysSeas_90 (lv_at hl 0 rfl) ?_
                              obtain ⟨hc14, hw⟩ := hw
                              refine x_iald (f := seaFirst_54) hC hI 9 rfl hc14 dX11_laysSeas_92 ?_
                              refine lv_aload_n hx hb dX11_laysSeas_93 rfl (lv_at hl 1 rfl) ?_
                              refine x_get (v := .ref (h 9)) hC hI kX11_laysSeas_cX11 0 rfl rfl 11 (by decide) kX11_laysSeas_0 rfl rfl dX11_laysSeas_94 ?_
                              refine lv_iload_n hx hb dX11_laysSeas_97 rfl (lv_at hl 3 rfl) ?_
                              obtain ⟨hc15, hw⟩ := hw
                              refine x_iald (f := seaFirst_54) hC hI 9 rfl hc15 dX11_laysSeas_98 ?_
                              refine lv_icmp_ge (tgt := 117) hx hb dX11_laysSeas_99 (by decide) (fun c16 => ?_) (fun c16 => ?_)
                              · replace hw := hw.1 c16
                                obtain ⟨x17, ex17⟩ : ∃ y : Int32, y = l3_54 + 1 := ⟨_, rfl⟩
                                replace hw := hw x17 ex17
                                refine lv_iinc (v := x17) (lv' := [(3, .int x17), (4, .int r7), (0, .ref (h 0)), (1, .int l1_54), (2, .int l2_45)]) hx hb dX11_laysSeas_117 hl (k := 4) rfl (by rw [ex17]; rfl) (by decide) rfl (fun ls hl => ?_)
                                refine lv_goto (tgt := 54) hx hb dX11_laysSeas_120 (by decide) ?_
                                exact ih54 l1_54 x17 seaFirst_54 ls H locs (Nat.lt_of_lt_of_le hw.2 (Nat.le_of_lt_succ hmu54)) hw.1 hI (lv_sub hl [2, 3, 4, 0] rfl)
                              · replace hw := hw.2 c16
                                refine lv_aload_n hx hb dX11_laysSeas_102 rfl (lv_at hl 1 rfl) ?_
                                refine x_get (v := .ref (h 9)) hC hI kX11_laysSeas_cX11 0 rfl rfl 11 (by decide) kX11_laysSeas_0 rfl rfl dX11_laysSeas_103 ?_
                                refine lv_iload_n hx hb dX11_laysSeas_106 rfl (lv_at hl 3 rfl) ?_
                                refine lv_aload_n hx hb dX11_laysSeas_107 rfl (lv_at hl 1 rfl) ?_
                                refine x_get (v := .ref (h 9)) hC hI kX11_laysSeas_cX11 0 rfl rfl 11 (by decide) kX11_laysSeas_0 rfl rfl dX11_laysSeas_108 ?_
                                refine lv_iload hx hb dX11_laysSeas_111 (lv_at hl 0 rfl) ?_
                                obtain ⟨hc18, hw⟩ := hw
                                refine x_iald (f := seaFirst_54) hC hI 9 rfl hc18 dX11_laysSeas_113 ?_
                                obtain ⟨hc19, hw⟩ := hw
                                refine x_iast (f := seaFirst_54) hC hI 9 rfl hc19 dX11_laysSeas_114 (fun H locs hI => ?_)
                                have hI : wI s D A (fl [wMo K h st past acts image ipast iacts tape tmany laneOf sizeOf items (upd seaFirst_54 l2_45.toNatClampNeg (seaFirst_54 r7.toNatClampNeg)) worstOf farTo stepsTo needs nmany mat told]) H locs := hI
                                refine lv_iconst (v := (0 : Int32)) hx hb dX11_laysSeas_115 (by decide) ?_
                                refine lv_istore_n (lv' := [(1, .int (0 : Int32)), (4, .int r7), (0, .ref (h 0)), (2, .int l2_45), (3, .int l3_54)]) hx hb dX11_laysSeas_116 rfl hl (by decide) rfl (fun ls hl => ?_)
                                obtain ⟨x20, ex20⟩ : ∃ y : Int32, y = l3_54 + 1 := ⟨_, rfl⟩
                                replace hw := hw x20 ex20
                                refine lv_iinc (v := x20) (lv' := [(3, .int x20), (1, .int (0 : Int32)), (4, .int r7), (0, .ref (h 0)), (2, .int l2_45)]) hx hb dX11_laysSeas_117 hl (k := 4) rfl (by rw [ex20]; rfl) (by decide) rfl (fun ls hl => ?_)
                                refine lv_goto (tgt := 54) hx hb dX11_laysSeas_120 (by decide) ?_
                                exact ih54 (0 : Int32) x20 (upd seaFirst_54 l2_45.toNatClampNeg (seaFirst_54 r7.toNatClampNeg)) ls H locs (Nat.lt_of_lt_of_le hw.2 (Nat.le_of_lt_succ hmu54)) hw.1 hI (lv_sub hl [3, 1, 4, 0] rfl)
                    exact lp54 (mu54 l1_45 (0 : Int32) seaFirst_45 + 1) l1_45 (0 : Int32) seaFirst_45 ls H locs (Nat.lt_succ_self _) hw hI (lv_sub hl [1, 2, 3, 0] rfl)
              exact lp45 (mu45 (1 : Int32) (0 : Int32) seaFirst_37 + 1) (1 : Int32) (0 : Int32) seaFirst_37 ls H locs (Nat.lt_succ_self _) hw hI (lv_sub hl [2, 1, 0] rfl)
        exact lp37 (mu37 (0 : Int32) seaFirst_4 + 1) (0 : Int32) seaFirst_4 ls H locs (Nat.lt_succ_self _) hw hI (lv_sub hl [0, 1] rfl)
      · replace hw := hw.2 c1
        refine lv_aload_n hx hb dX11_laysSeas_11 rfl (lv_at hl 0 rfl) ?_
        refine x_get (v := .ref (h 9)) hC hI kX11_laysSeas_cX11 0 rfl rfl 11 (by decide) kX11_laysSeas_0 rfl rfl dX11_laysSeas_12 ?_
        refine lv_iload_n hx hb dX11_laysSeas_15 rfl (lv_at hl 2 rfl) ?_
        refine lv_aload_n hx hb dX11_laysSeas_16 rfl (lv_at hl 0 rfl) ?_
        refine lv_iload_n hx hb dX11_laysSeas_17 rfl (lv_at hl 2 rfl) ?_
        refine x_callWi (rest := [.int l2_4, .ref (h 9)]) hC hI (mX11_isLand l D K h _ l2_4 st past acts image ipast iacts tape tmany laneOf sizeOf items seaFirst_4 worstOf farTo stepsTo needs nmany mat told hw) (cwV 1 hts gX11_laysSeas_X11_isLand rfl rfl rfl (by decide +kernel) ⟨(Nat.le_of_ble_eq_true rfl), (Nat.le_of_ble_eq_true rfl)⟩) (fun _ => rfl) 0 9 rfl rfl rfl rfl hl.1 rfl (Nat.le_of_ble_eq_true rfl) dX11_laysSeas_18 ⟨(Nat.le_of_ble_eq_true rfl), (Nat.le_of_ble_eq_true rfl)⟩ (fun r21 u H locs hw hI => ?_)
        try dsimp only at hw
        have hI : wI s D A (fl [wMo K h st past acts image ipast iacts tape tmany laneOf sizeOf items seaFirst_4 worstOf farTo stepsTo needs nmany mat told]) H locs := hI
        refine lv_if_eq (tgt := 29) hx hb dX11_laysSeas_21 (by decide) (fun c22 => ?_) (fun c22 => ?_)
        · replace hw := hw.1 c22
          refine lv_iload_n hx hb dX11_laysSeas_29 rfl (lv_at hl 2 rfl) ?_
          obtain ⟨hc23, hw⟩ := hw
          refine x_iast (f := seaFirst_4) hC hI 9 rfl hc23 dX11_laysSeas_30 (fun H locs hI => ?_)
          have hI : wI s D A (fl [wMo K h st past acts image ipast iacts tape tmany laneOf sizeOf items (upd seaFirst_4 l2_4.toNatClampNeg l2_4) worstOf farTo stepsTo needs nmany mat told]) H locs := hI
          obtain ⟨x24, ex24⟩ : ∃ y : Int32, y = l2_4 + 1 := ⟨_, rfl⟩
          replace hw := hw x24 ex24
          refine lv_iinc (v := x24) (lv' := [(2, .int x24), (0, .ref (h 0)), (1, .int (0 : Int32))]) hx hb dX11_laysSeas_31 hl (k := 2) rfl (by rw [ex24]; rfl) (by decide) rfl (fun ls hl => ?_)
          refine lv_goto (tgt := 4) hx hb dX11_laysSeas_34 (by decide) ?_
          exact ih4 x24 (upd seaFirst_4 l2_4.toNatClampNeg l2_4) ls H locs (Nat.lt_of_lt_of_le hw.2 (Nat.le_of_lt_succ hmu4)) hw.1 hI (lv_sub hl [1, 2, 0] rfl)
        · replace hw := hw.2 c22
          refine lv_bipush (v := (-4 : Int32)) hx hb dX11_laysSeas_24 (by decide) ?_
          refine lv_goto (tgt := 30) hx hb dX11_laysSeas_26 (by decide) ?_
          obtain ⟨hc25, hw⟩ := hw
          refine x_iast (f := seaFirst_4) hC hI 9 rfl hc25 dX11_laysSeas_30 (fun H locs hI => ?_)
          have hI : wI s D A (fl [wMo K h st past acts image ipast iacts tape tmany laneOf sizeOf items (upd seaFirst_4 l2_4.toNatClampNeg (-4 : Int32)) worstOf farTo stepsTo needs nmany mat told]) H locs := hI
          obtain ⟨x26, ex26⟩ : ∃ y : Int32, y = l2_4 + 1 := ⟨_, rfl⟩
          replace hw := hw x26 ex26
          refine lv_iinc (v := x26) (lv' := [(2, .int x26), (0, .ref (h 0)), (1, .int (0 : Int32))]) hx hb dX11_laysSeas_31 hl (k := 2) rfl (by rw [ex26]; rfl) (by decide) rfl (fun ls hl => ?_)
          refine lv_goto (tgt := 4) hx hb dX11_laysSeas_34 (by decide) ?_
          exact ih4 x26 (upd seaFirst_4 l2_4.toNatClampNeg (-4 : Int32)) ls H locs (Nat.lt_of_lt_of_le hw.2 (Nat.le_of_lt_succ hmu4)) hw.1 hI (lv_sub hl [1, 2, 0] rfl)
  exact lp4 (mu4 (0 : Int32) seaFirst + 1) (0 : Int32) seaFirst ls H locs (Nat.lt_succ_self _) hw hI (lv_sub hl [2, 1, 0] rfl)

def wX11_seasAhead (a1 : Int32) (seaFirst : Nat → Int32) (post : Int32 → Prop) : Prop := (∃ (I4 : Int32 → Int32 → Prop) (mu4 : Int32 → Int32 → Nat), I4 (0 : Int32) (0 : Int32) ∧ ∀ (l2_4 : Int32) (l3_4 : Int32), I4 l2_4 l3_4 → ((a1 ≤ l3_4 → post l2_4) ∧ (¬ a1 ≤ l3_4 → vp_in l3_4 266 ∧ (((seaFirst l3_4.toNatClampNeg) = l3_4 → ∀ x6 : Int32, x6 = l2_4 + (1 : Int32) → ∀ x7 : Int32, x7 = l3_4 + 1 → (I4 x6 x7 ∧ mu4 x6 x7 < mu4 l2_4 l3_4)) ∧ (¬ (seaFirst l3_4.toNatClampNeg) = l3_4 → ∀ x4 : Int32, x4 = l2_4 + (0 : Int32) → ∀ x5 : Int32, x5 = l3_4 + 1 → (I4 x4 x5 ∧ mu4 x4 x5 < mu4 l2_4 l3_4))))))
def rmX11_seasAhead : Room := { frames := 0, cells := 0, slots := 0, locals := 0 }
theorem kX11_seasAhead_0 : Cond.fieldLink RX11 39 "GoreGlobeModel" "seaFirst" "[I" ∈ wsX11_seasAhead := List.mem_cons_of_mem _ (List.mem_append_left _ (List.mem_of_getElem? (i := 0) rfl))
theorem kX11_seasAhead_cX11 : ∀ w ∈ wsX110, w ∈ wsX11_seasAhead := fun _ h => List.mem_cons_of_mem _ (List.mem_append_right _ h)
set_option maxHeartbeats 4000000 in
set_option maxRecDepth 100000 in
theorem mX11_seasAhead (l : Launch) (D : va_G) (K : Nat → ClassId) (h : Nat → Nat) (sz : Nat) (a1 : Int32) (st : Nat → Int32) (past : Nat → Int32) (acts : Int32) (image : Nat → Int32) (ipast : Nat → Int32) (iacts : Int32) (tape : Nat → Int32) (tmany : Int32) (laneOf : Nat → Int32) (sizeOf : Nat → Int32) (items : Nat → Int64) (seaFirst : Nat → Int32) (worstOf : Nat → Int32) (farTo : Nat → Int32) (stepsTo : Nat → Int32) (needs : Nat → Int32) (nmany : Int32) (mat : Int32) (told : Nat → Int32)  {post : Int32 → Prop} (hw : wX11_seasAhead a1 seaFirst post) : Met l yX11_seasAhead wsX11_seasAhead rmX11_seasAhead (va_Pc [.ref (h 0), .int a1] (cP D K (fl [wMo K h st past acts image ipast iacts tape tmany laneOf sizeOf items seaFirst worstOf farTo stepsTo needs nmany mat told]) sz)) (va_Qi (fun (r : Int32) (u : Unit) => post r) (fun u t => cQ D K (fl [wMo K h st past acts image ipast iacts tape tmany laneOf sizeOf items seaFirst worstOf farTo stepsTo needs nmany mat told]) (va_A (fl [wMo K h st past acts image ipast iacts tape tmany laneOf sizeOf items seaFirst worstOf farTo stepsTo needs nmany mat told]) sz) t) (va_A (fl [wMo K h st past acts image ipast iacts tape tmany laneOf sizeOf items seaFirst worstOf farTo stepsTo needs nmany mat told]) sz)) 0 0 (va_A (fl [wMo K h st past acts image ipast iacts tape tmany laneOf sizeOf items seaFirst worstOf farTo stepsTo needs nmany mat told]) sz) := by
  refine x_entry (cc := cX11_seasAhead) (maxL := 4) (ret := (some .int)) (QA := fun A => va_Qi (fun (r : Int32) (u : Unit) => post r) (fun u t => cQ D K (fl [wMo K h st past acts image ipast iacts tape tmany laneOf sizeOf items seaFirst worstOf farTo stepsTo needs nmany mat told]) A t) A) (plainFor_of_name (by decide)) rfl (Nat.le_of_ble_eq_true rfl) ?_
  intro p e s m args below meth c A ls H Q hQ hC hlk hr hnm hI hl
  obtain ⟨hx, hb, hml, hown, hts, hK, hA, hZ⟩ := id hC
  obtain ⟨locs, hlocs⟩ : ∃ y : List Loc, y = [] := ⟨_, rfl⟩
  rw [← hlocs] at hI ⊢
  clear hlocs
  replace hl : lv_has ls 4 [(0, .ref (h 0)), (1, .int a1)] := hl
  replace hw : (∃ (I4 : Int32 → Int32 → Prop) (mu4 : Int32 → Int32 → Nat), I4 (0 : Int32) (0 : Int32) ∧ ∀ (l2_4 : Int32) (l3_4 : Int32), I4 l2_4 l3_4 → ((a1 ≤ l3_4 → post l2_4) ∧ (¬ a1 ≤ l3_4 → vp_in l3_4 266 ∧ (((seaFirst l3_4.toNatClampNeg) = l3_4 → ∀ x6 : Int32, x6 = l2_4 + (1 : Int32) → ∀ x7 : Int32, x7 = l3_4 + 1 → (I4 x6 x7 ∧ mu4 x6 x7 < mu4 l2_4 l3_4)) ∧ (¬ (seaFirst l3_4.toNatClampNeg) = l3_4 → ∀ x4 : Int32, x4 = l2_4 + (0 : Int32) → ∀ x5 : Int32, x5 = l3_4 + 1 → (I4 x4 x5 ∧ mu4 x4 x5 < mu4 l2_4 l3_4)))))) := hw
  refine lv_iconst (v := (0 : Int32)) hx hb dX11_seasAhead_0 (by decide) ?_
  refine lv_istore_n (lv' := [(2, .int (0 : Int32)), (0, .ref (h 0)), (1, .int a1)]) hx hb dX11_seasAhead_1 rfl hl (by decide) rfl (fun ls hl => ?_)
  refine lv_iconst (v := (0 : Int32)) hx hb dX11_seasAhead_2 (by decide) ?_
  refine lv_istore_n (lv' := [(3, .int (0 : Int32)), (2, .int (0 : Int32)), (0, .ref (h 0)), (1, .int a1)]) hx hb dX11_seasAhead_3 rfl hl (by decide) rfl (fun ls hl => ?_)
  obtain ⟨I4, mu4, hw, hb4⟩ := hw
  have lp4 : ∀ (k : Nat) (l2_4 : Int32) (l3_4 : Int32) (ls : Array Slot) (H : Heap) (locs : List Loc), mu4 l2_4 l3_4 < k → I4 l2_4 l3_4 → wI s D A (fl [wMo K h st past acts image ipast iacts tape tmany laneOf sizeOf items seaFirst worstOf farTo stepsTo needs nmany mat told]) H locs → lv_has ls 4 [(0, .ref (h 0)), (1, .int a1), (2, .int l2_4), (3, .int l3_4)] → W p l e rmX11_seasAhead s m args below meth c H locs 0 0 Q (F0 m 4 ls []) := by
    intro k
    induction k with
    | zero => intro l2_4 l3_4 ls H locs hmu; exact absurd hmu (Nat.not_lt_zero _)
    | succ k ih4 =>
      intro l2_4 l3_4 ls H locs hmu4 hw hI hl
      replace hw := hb4 l2_4 l3_4 hw
      refine lv_iload_n hx hb dX11_seasAhead_4 rfl (lv_at hl 3 rfl) ?_
      refine lv_iload_n hx hb dX11_seasAhead_5 rfl (lv_at hl 1 rfl) ?_
      refine lv_icmp_ge (tgt := 33) hx hb dX11_seasAhead_6 (by decide) (fun c1 => ?_) (fun c1 => ?_)
      · replace hw := hw.1 c1
        refine lv_iload_n hx hb dX11_seasAhead_33 rfl (lv_at hl 2 rfl) ?_
        subst hQ
        exact x_iret (u := ()) hC hI hr hlk hw rfl dX11_seasAhead_34
      · replace hw := hw.2 c1
        refine lv_iload_n hx hb dX11_seasAhead_9 rfl (lv_at hl 2 rfl) ?_
        refine lv_aload_n hx hb dX11_seasAhead_10 rfl (lv_at hl 0 rfl) ?_
        refine x_get (v := .ref (h 9)) hC hI kX11_seasAhead_cX11 0 rfl rfl 11 (by decide) kX11_seasAhead_0 rfl rfl dX11_seasAhead_11 ?_
        refine lv_iload_n hx hb dX11_seasAhead_14 rfl (lv_at hl 3 rfl) ?_
        obtain ⟨hc2, hw⟩ := hw
        refine x_iald (f := seaFirst) hC hI 9 rfl hc2 dX11_seasAhead_15 ?_
        refine lv_iload_n hx hb dX11_seasAhead_16 rfl (lv_at hl 3 rfl) ?_
        refine lv_icmp_ne (tgt := 24) hx hb dX11_seasAhead_17 (by decide) (fun c3 => ?_) (fun c3 => ?_)
        · replace hw := hw.2 c3
          refine lv_iconst (v := (0 : Int32)) hx hb dX11_seasAhead_24 (by decide) ?_
          refine lv_iadd hx hb dX11_seasAhead_25 ?_
          refine lv_topi (fun x4 ex4 => ?_)
          replace hw := hw x4 ex4
          refine lv_istore_n (lv' := [(2, .int x4), (0, .ref (h 0)), (1, .int a1), (3, .int l3_4)]) hx hb dX11_seasAhead_26 rfl hl (by decide) rfl (fun ls hl => ?_)
          obtain ⟨x5, ex5⟩ : ∃ y : Int32, y = l3_4 + 1 := ⟨_, rfl⟩
          replace hw := hw x5 ex5
          refine lv_iinc (v := x5) (lv' := [(3, .int x5), (2, .int x4), (0, .ref (h 0)), (1, .int a1)]) hx hb dX11_seasAhead_27 hl (k := 3) rfl (by rw [ex5]; rfl) (by decide) rfl (fun ls hl => ?_)
          refine lv_goto (tgt := 4) hx hb dX11_seasAhead_30 (by decide) ?_
          exact ih4 x4 x5 ls H locs (Nat.lt_of_lt_of_le hw.2 (Nat.le_of_lt_succ hmu4)) hw.1 hI (lv_sub hl [2, 3, 1, 0] rfl)
        · replace hw := hw.1 c3
          refine lv_iconst (v := (1 : Int32)) hx hb dX11_seasAhead_20 (by decide) ?_
          refine lv_goto (tgt := 25) hx hb dX11_seasAhead_21 (by decide) ?_
          refine lv_iadd hx hb dX11_seasAhead_25 ?_
          refine lv_topi (fun x6 ex6 => ?_)
          replace hw := hw x6 ex6
          refine lv_istore_n (lv' := [(2, .int x6), (0, .ref (h 0)), (1, .int a1), (3, .int l3_4)]) hx hb dX11_seasAhead_26 rfl hl (by decide) rfl (fun ls hl => ?_)
          obtain ⟨x7, ex7⟩ : ∃ y : Int32, y = l3_4 + 1 := ⟨_, rfl⟩
          replace hw := hw x7 ex7
          refine lv_iinc (v := x7) (lv' := [(3, .int x7), (2, .int x6), (0, .ref (h 0)), (1, .int a1)]) hx hb dX11_seasAhead_27 hl (k := 3) rfl (by rw [ex7]; rfl) (by decide) rfl (fun ls hl => ?_)
          refine lv_goto (tgt := 4) hx hb dX11_seasAhead_30 (by decide) ?_
          exact ih4 x6 x7 ls H locs (Nat.lt_of_lt_of_le hw.2 (Nat.le_of_lt_succ hmu4)) hw.1 hI (lv_sub hl [2, 3, 1, 0] rfl)
  exact lp4 (mu4 (0 : Int32) (0 : Int32) + 1) (0 : Int32) (0 : Int32) ls H locs (Nat.lt_succ_self _) hw hI (lv_sub hl [2, 3, 1, 0] rfl)

def wX11_seaOf (a1 : Int32) (st : Nat → Int32) (seaFirst : Nat → Int32) (post : Int32 → (Nat → Int32) → Prop) : Prop := wX11_isLand a1 st (fun (r1 : Int32) => ((r1 = 0 → wX11_laysSeas st seaFirst (fun (seaFirst_c3 : Nat → Int32) => vp_in a1 266 ∧ wX11_seasAhead (seaFirst_c3 a1.toNatClampNeg) seaFirst_c3 (fun (r5 : Int32) => post r5 seaFirst_c3))) ∧ (¬ r1 = 0 → post (-4 : Int32) seaFirst)))
def rmX11_seaOf : Room := { frames := 4, cells := 0, slots := 0, locals := 87 }
theorem kX11_seaOf_0 : Cond.fieldLink RX11 39 "GoreGlobeModel" "seaFirst" "[I" ∈ wsX11_seaOf := List.mem_cons_of_mem _ (List.mem_append_left _ (List.mem_append_left _ (List.mem_of_getElem? (i := 0) rfl)))
theorem kX11_seaOf_cX11 : ∀ w ∈ wsX110, w ∈ wsX11_seaOf := fun _ h => List.mem_cons_of_mem _ (List.mem_append_right _ h)
set_option maxHeartbeats 4000000 in
set_option maxRecDepth 100000 in
theorem mX11_seaOf (l : Launch) (D : va_G) (K : Nat → ClassId) (h : Nat → Nat) (sz : Nat) (a1 : Int32) (st : Nat → Int32) (past : Nat → Int32) (acts : Int32) (image : Nat → Int32) (ipast : Nat → Int32) (iacts : Int32) (tape : Nat → Int32) (tmany : Int32) (laneOf : Nat → Int32) (sizeOf : Nat → Int32) (items : Nat → Int64) (seaFirst : Nat → Int32) (worstOf : Nat → Int32) (farTo : Nat → Int32) (stepsTo : Nat → Int32) (needs : Nat → Int32) (nmany : Int32) (mat : Int32) (told : Nat → Int32)  {post : Int32 → (Nat → Int32) → Prop} (hw : wX11_seaOf a1 st seaFirst post) : Met l yX11_seaOf wsX11_seaOf rmX11_seaOf (va_Pc [.ref (h 0), .int a1] (cP D K (fl [wMo K h st past acts image ipast iacts tape tmany laneOf sizeOf items seaFirst worstOf farTo stepsTo needs nmany mat told]) sz)) (va_Qi (fun (r : Int32) (u : (Nat → Int32)) => post r u) (fun u t => cQ D K (fl [wMo K h st past acts image ipast iacts tape tmany laneOf sizeOf items u worstOf farTo stepsTo needs nmany mat told]) (va_A (fl [wMo K h st past acts image ipast iacts tape tmany laneOf sizeOf items seaFirst worstOf farTo stepsTo needs nmany mat told]) sz) t) (va_A (fl [wMo K h st past acts image ipast iacts tape tmany laneOf sizeOf items seaFirst worstOf farTo stepsTo needs nmany mat told]) sz)) 0 0 (va_A (fl [wMo K h st past acts image ipast iacts tape tmany laneOf sizeOf items seaFirst worstOf farTo stepsTo needs nmany mat told]) sz) := by
  refine x_entry (cc := cX11_seaOf) (maxL := 2) (ret := (some .int)) (QA := fun A => va_Qi (fun (r : Int32) (u : (Nat → Int32)) => post r u) (fun u t => cQ D K (fl [wMo K h st past acts image ipast iacts tape tmany laneOf sizeOf items u worstOf farTo stepsTo needs nmany mat told]) A t) A) (plainFor_of_name (by decide)) rfl (Nat.le_of_ble_eq_true rfl) ?_
  intro p e s m args below meth c A ls H Q hQ hC hlk hr hnm hI hl
  obtain ⟨hx, hb, hml, hown, hts, hK, hA, hZ⟩ := id hC
  obtain ⟨locs, hlocs⟩ : ∃ y : List Loc, y = [] := ⟨_, rfl⟩
  rw [← hlocs] at hI ⊢
  clear hlocs
  replace hl : lv_has ls 2 [(0, .ref (h 0)), (1, .int a1)] := hl
  replace hw : wX11_isLand a1 st (fun (r1 : Int32) => ((r1 = 0 → wX11_laysSeas st seaFirst (fun (seaFirst_c3 : Nat → Int32) => vp_in a1 266 ∧ wX11_seasAhead (seaFirst_c3 a1.toNatClampNeg) seaFirst_c3 (fun (r5 : Int32) => post r5 seaFirst_c3))) ∧ (¬ r1 = 0 → post (-4 : Int32) seaFirst))) := hw
  refine lv_aload_n hx hb dX11_seaOf_0 rfl (lv_at hl 0 rfl) ?_
  refine lv_iload_n hx hb dX11_seaOf_1 rfl (lv_at hl 1 rfl) ?_
  refine x_callWi (rest := []) hC hI (mX11_isLand l D K h _ a1 st past acts image ipast iacts tape tmany laneOf sizeOf items seaFirst worstOf farTo stepsTo needs nmany mat told hw) (cwV 1 hts gX11_seaOf_X11_isLand rfl rfl rfl (by decide +kernel) ⟨(Nat.le_of_ble_eq_true rfl), (Nat.le_of_ble_eq_true rfl)⟩) (fun _ => rfl) 0 9 rfl rfl rfl rfl hl.1 rfl (Nat.le_of_ble_eq_true rfl) dX11_seaOf_2 ⟨(Nat.le_of_ble_eq_true rfl), (Nat.le_of_ble_eq_true rfl)⟩ (fun r1 u H locs hw hI => ?_)
  try dsimp only at hw
  have hI : wI s D A (fl [wMo K h st past acts image ipast iacts tape tmany laneOf sizeOf items seaFirst worstOf farTo stepsTo needs nmany mat told]) H locs := hI
  refine lv_if_eq (tgt := 11) hx hb dX11_seaOf_5 (by decide) (fun c2 => ?_) (fun c2 => ?_)
  · replace hw := hw.1 c2
    refine lv_aload_n hx hb dX11_seaOf_11 rfl (lv_at hl 0 rfl) ?_
    refine x_callWv (rest := []) hC hI (mX11_laysSeas l D K h _ st past acts image ipast iacts tape tmany laneOf sizeOf items seaFirst worstOf farTo stepsTo needs nmany mat told hw) (cwV 0 hts gX11_seaOf_X11_laysSeas rfl rfl rfl (by decide +kernel) ⟨(Nat.le_of_ble_eq_true rfl), (Nat.le_of_ble_eq_true rfl)⟩) (fun _ => rfl) 0 9 rfl rfl rfl rfl hl.1 rfl (Nat.le_of_ble_eq_true rfl) dX11_seaOf_12 ⟨(Nat.le_of_ble_eq_true rfl), (Nat.le_of_ble_eq_true rfl)⟩ (fun seaFirst_c3 H locs hw hI => ?_)
    have hI : wI s D A (fl [wMo K h st past acts image ipast iacts tape tmany laneOf sizeOf items seaFirst_c3 worstOf farTo stepsTo needs nmany mat told]) H locs := hI
    refine lv_aload_n hx hb dX11_seaOf_15 rfl (lv_at hl 0 rfl) ?_
    refine lv_aload_n hx hb dX11_seaOf_16 rfl (lv_at hl 0 rfl) ?_
    refine x_get (v := .ref (h 9)) hC hI kX11_seaOf_cX11 0 rfl rfl 11 (by decide) kX11_seaOf_0 rfl rfl dX11_seaOf_17 ?_
    refine lv_iload_n hx hb dX11_seaOf_20 rfl (lv_at hl 1 rfl) ?_
    obtain ⟨hc4, hw⟩ := hw
    refine x_iald (f := seaFirst_c3) hC hI 9 rfl hc4 dX11_seaOf_21 ?_
    refine x_callWi (rest := []) hC hI (mX11_seasAhead l D K h _ (seaFirst_c3 a1.toNatClampNeg) st past acts image ipast iacts tape tmany laneOf sizeOf items seaFirst_c3 worstOf farTo stepsTo needs nmany mat told hw) (cwV 1 hts gX11_seaOf_X11_seasAhead rfl rfl rfl (by decide +kernel) ⟨(Nat.le_of_ble_eq_true rfl), (Nat.le_of_ble_eq_true rfl)⟩) (fun _ => rfl) 0 9 rfl rfl rfl rfl hl.1 rfl (Nat.le_of_ble_eq_true rfl) dX11_seaOf_22 ⟨(Nat.le_of_ble_eq_true rfl), (Nat.le_of_ble_eq_true rfl)⟩ (fun r5 u H locs hw hI => ?_)
    try dsimp only at hw
    have hI : wI s D A (fl [wMo K h st past acts image ipast iacts tape tmany laneOf sizeOf items seaFirst_c3 worstOf farTo stepsTo needs nmany mat told]) H locs := hI
    subst hQ
    exact x_iret (u := seaFirst_c3) hC hI hr hlk hw rfl dX11_seaOf_25
  · replace hw := hw.2 c2
    refine lv_bipush (v := (-4 : Int32)) hx hb dX11_seaOf_8 (by decide) ?_
    subst hQ
    exact x_iret (u := seaFirst) hC hI hr hlk hw rfl dX11_seaOf_10

def wX11_landMany  (st : Nat → Int32) (post : Int32 → Prop) : Prop := (∃ (I4 : Int32 → Int32 → Prop) (mu4 : Int32 → Int32 → Nat), I4 (0 : Int32) (0 : Int32) ∧ ∀ (l1_4 : Int32) (l2_4 : Int32), I4 l1_4 l2_4 → (((266 : Int32) ≤ l2_4 → post l1_4) ∧ (¬ (266 : Int32) ≤ l2_4 → vp_in l2_4 279 ∧ ∀ x3 : Int32, x3 = l1_4 + (st l2_4.toNatClampNeg) → ∀ x4 : Int32, x4 = l2_4 + 1 → (I4 x3 x4 ∧ mu4 x3 x4 < mu4 l1_4 l2_4))))
def rmX11_landMany : Room := { frames := 0, cells := 0, slots := 0, locals := 0 }
theorem kX11_landMany_0 : Cond.fieldLink RX11 7 "GoreGlobeModel" "st" "[I" ∈ wsX11_landMany := List.mem_cons_of_mem _ (List.mem_append_left _ (List.mem_of_getElem? (i := 0) rfl))
theorem kX11_landMany_cX11 : ∀ w ∈ wsX110, w ∈ wsX11_landMany := fun _ h => List.mem_cons_of_mem _ (List.mem_append_right _ h)
set_option maxHeartbeats 4000000 in
set_option maxRecDepth 100000 in
theorem mX11_landMany (l : Launch) (D : va_G) (K : Nat → ClassId) (h : Nat → Nat) (sz : Nat)  (st : Nat → Int32) (past : Nat → Int32) (acts : Int32) (image : Nat → Int32) (ipast : Nat → Int32) (iacts : Int32) (tape : Nat → Int32) (tmany : Int32) (laneOf : Nat → Int32) (sizeOf : Nat → Int32) (items : Nat → Int64) (seaFirst : Nat → Int32) (worstOf : Nat → Int32) (farTo : Nat → Int32) (stepsTo : Nat → Int32) (needs : Nat → Int32) (nmany : Int32) (mat : Int32) (told : Nat → Int32)  {post : Int32 → Prop} (hw : wX11_landMany  st post) : Met l yX11_landMany wsX11_landMany rmX11_landMany (va_Pc [.ref (h 0)] (cP D K (fl [wMo K h st past acts image ipast iacts tape tmany laneOf sizeOf items seaFirst worstOf farTo stepsTo needs nmany mat told]) sz)) (va_Qi (fun (r : Int32) (u : Unit) => post r) (fun u t => cQ D K (fl [wMo K h st past acts image ipast iacts tape tmany laneOf sizeOf items seaFirst worstOf farTo stepsTo needs nmany mat told]) (va_A (fl [wMo K h st past acts image ipast iacts tape tmany laneOf sizeOf items seaFirst worstOf farTo stepsTo needs nmany mat told]) sz) t) (va_A (fl [wMo K h st past acts image ipast iacts tape tmany laneOf sizeOf items seaFirst worstOf farTo stepsTo needs nmany mat told]) sz)) 0 0 (va_A (fl [wMo K h st past acts image ipast iacts tape tmany laneOf sizeOf items seaFirst worstOf farTo stepsTo needs nmany mat told]) sz) := by
  refine x_entry (cc := cX11_landMany) (maxL := 3) (ret := (some .int)) (QA := fun A => va_Qi (fun (r : Int32) (u : Unit) => post r) (fun u t => cQ D K (fl [wMo K h st past acts image ipast iacts tape tmany laneOf sizeOf items seaFirst worstOf farTo stepsTo needs nmany mat told]) A t) A) (plainFor_of_name (by decide)) rfl (Nat.le_of_ble_eq_true rfl) ?_
  intro p e s m args below meth c A ls H Q hQ hC hlk hr hnm hI hl
  obtain ⟨hx, hb, hml, hown, hts, hK, hA, hZ⟩ := id hC
  obtain ⟨locs, hlocs⟩ : ∃ y : List Loc, y = [] := ⟨_, rfl⟩
  rw [← hlocs] at hI ⊢
  clear hlocs
  replace hl : lv_has ls 3 [(0, .ref (h 0))] := hl
  replace hw : (∃ (I4 : Int32 → Int32 → Prop) (mu4 : Int32 → Int32 → Nat), I4 (0 : Int32) (0 : Int32) ∧ ∀ (l1_4 : Int32) (l2_4 : Int32), I4 l1_4 l2_4 → (((266 : Int32) ≤ l2_4 → post l1_4) ∧ (¬ (266 : Int32) ≤ l2_4 → vp_in l2_4 279 ∧ ∀ x3 : Int32, x3 = l1_4 + (st l2_4.toNatClampNeg) → ∀ x4 : Int32, x4 = l2_4 + 1 → (I4 x3 x4 ∧ mu4 x3 x4 < mu4 l1_4 l2_4)))) := hw
  refine lv_iconst (v := (0 : Int32)) hx hb dX11_landMany_0 (by decide) ?_
  refine lv_istore_n (lv' := [(1, .int (0 : Int32)), (0, .ref (h 0))]) hx hb dX11_landMany_1 rfl hl (by decide) rfl (fun ls hl => ?_)
  refine lv_iconst (v := (0 : Int32)) hx hb dX11_landMany_2 (by decide) ?_
  refine lv_istore_n (lv' := [(2, .int (0 : Int32)), (1, .int (0 : Int32)), (0, .ref (h 0))]) hx hb dX11_landMany_3 rfl hl (by decide) rfl (fun ls hl => ?_)
  obtain ⟨I4, mu4, hw, hb4⟩ := hw
  have lp4 : ∀ (k : Nat) (l1_4 : Int32) (l2_4 : Int32) (ls : Array Slot) (H : Heap) (locs : List Loc), mu4 l1_4 l2_4 < k → I4 l1_4 l2_4 → wI s D A (fl [wMo K h st past acts image ipast iacts tape tmany laneOf sizeOf items seaFirst worstOf farTo stepsTo needs nmany mat told]) H locs → lv_has ls 3 [(0, .ref (h 0)), (1, .int l1_4), (2, .int l2_4)] → W p l e rmX11_landMany s m args below meth c H locs 0 0 Q (F0 m 4 ls []) := by
    intro k
    induction k with
    | zero => intro l1_4 l2_4 ls H locs hmu; exact absurd hmu (Nat.not_lt_zero _)
    | succ k ih4 =>
      intro l1_4 l2_4 ls H locs hmu4 hw hI hl
      replace hw := hb4 l1_4 l2_4 hw
      refine lv_iload_n hx hb dX11_landMany_4 rfl (lv_at hl 2 rfl) ?_
      refine lv_sipush (v := (266 : Int32)) hx hb dX11_landMany_5 (by decide) ?_
      refine lv_icmp_ge (tgt := 26) hx hb dX11_landMany_8 (by decide) (fun c1 => ?_) (fun c1 => ?_)
      · replace hw := hw.1 c1
        refine lv_iload_n hx hb dX11_landMany_26 rfl (lv_at hl 1 rfl) ?_
        subst hQ
        exact x_iret (u := ()) hC hI hr hlk hw rfl dX11_landMany_27
      · replace hw := hw.2 c1
        refine lv_iload_n hx hb dX11_landMany_11 rfl (lv_at hl 1 rfl) ?_
        refine lv_aload_n hx hb dX11_landMany_12 rfl (lv_at hl 0 rfl) ?_
        refine x_get (v := .ref (h 1)) hC hI kX11_landMany_cX11 0 rfl rfl 0 (by decide) kX11_landMany_0 rfl rfl dX11_landMany_13 ?_
        refine lv_iload_n hx hb dX11_landMany_16 rfl (lv_at hl 2 rfl) ?_
        obtain ⟨hc2, hw⟩ := hw
        refine x_iald (f := st) hC hI 1 rfl hc2 dX11_landMany_17 ?_
        refine lv_iadd hx hb dX11_landMany_18 ?_
        refine lv_topi (fun x3 ex3 => ?_)
        replace hw := hw x3 ex3
        refine lv_istore_n (lv' := [(1, .int x3), (0, .ref (h 0)), (2, .int l2_4)]) hx hb dX11_landMany_19 rfl hl (by decide) rfl (fun ls hl => ?_)
        obtain ⟨x4, ex4⟩ : ∃ y : Int32, y = l2_4 + 1 := ⟨_, rfl⟩
        replace hw := hw x4 ex4
        refine lv_iinc (v := x4) (lv' := [(2, .int x4), (1, .int x3), (0, .ref (h 0))]) hx hb dX11_landMany_20 hl (k := 2) rfl (by rw [ex4]; rfl) (by decide) rfl (fun ls hl => ?_)
        refine lv_goto (tgt := 4) hx hb dX11_landMany_23 (by decide) ?_
        exact ih4 x3 x4 ls H locs (Nat.lt_of_lt_of_le hw.2 (Nat.le_of_lt_succ hmu4)) hw.1 hI (lv_sub hl [2, 1, 0] rfl)
  exact lp4 (mu4 (0 : Int32) (0 : Int32) + 1) (0 : Int32) (0 : Int32) ls H locs (Nat.lt_succ_self _) hw hI (lv_sub hl [2, 1, 0] rfl)

def wX11_place (a1 : Int32) (a2 : Int32) (a3 : Int32) (st : Nat → Int32) (seaFirst : Nat → Int32) (post : Int32 → (Nat → Int32) → Prop) : Prop := wX11_isPlace a1 a2 (fun (r1 : Int32) => ((r1 = 0 → post (-1 : Int32) seaFirst) ∧ (¬ r1 = 0 → wX11_numberOf a1 a2 (fun (r3 : Int32) => ((a3 = (0 : Int32) → post r3 seaFirst) ∧ (¬ a3 = (0 : Int32) → ((a3 = (1 : Int32) → vp_in r3 279 ∧ post (st r3.toNatClampNeg) seaFirst) ∧ (¬ a3 = (1 : Int32) → ((a3 = (2 : Int32) → wX11_seaOf r3 st seaFirst (fun (r9 : Int32) (seaFirst_c8 : Nat → Int32) => post r9 seaFirst_c8)) ∧ (¬ a3 = (2 : Int32) → ((a3 = (3 : Int32) → wX11_isOnStrips a1 st (fun (r11 : Int32) => ((r11 = 0 → post (-4 : Int32) seaFirst) ∧ (¬ r11 = 0 → wX11_stepOf r3 (fun (r13 : Int32) => wX11_wide st (fun (r14 : Int32) => ¬ r14 = 0 ∧ post (r13 / r14) seaFirst)))))) ∧ (¬ a3 = (3 : Int32) → ((a3 = (4 : Int32) → wX11_isOnCap a1 st (fun (r17 : Int32) => ((r17 = 0 → post (0 : Int32) seaFirst) ∧ (¬ r17 = 0 → post (1 : Int32) seaFirst)))) ∧ (¬ a3 = (4 : Int32) → post (-1 : Int32) seaFirst))))))))))))))
def rmX11_place : Room := { frames := 5, cells := 0, slots := 0, locals := 108 }
theorem kX11_place_0 : Cond.fieldLink RX11 7 "GoreGlobeModel" "st" "[I" ∈ wsX11_place := List.mem_cons_of_mem _ (List.mem_append_left _ (List.mem_append_left _ (List.mem_of_getElem? (i := 0) rfl)))
theorem kX11_place_cX11 : ∀ w ∈ wsX110, w ∈ wsX11_place := fun _ h => List.mem_cons_of_mem _ (List.mem_append_right _ h)
set_option maxHeartbeats 4000000 in
set_option maxRecDepth 100000 in
theorem mX11_place (l : Launch) (D : va_G) (K : Nat → ClassId) (h : Nat → Nat) (sz : Nat) (a1 : Int32) (a2 : Int32) (a3 : Int32) (st : Nat → Int32) (past : Nat → Int32) (acts : Int32) (image : Nat → Int32) (ipast : Nat → Int32) (iacts : Int32) (tape : Nat → Int32) (tmany : Int32) (laneOf : Nat → Int32) (sizeOf : Nat → Int32) (items : Nat → Int64) (seaFirst : Nat → Int32) (worstOf : Nat → Int32) (farTo : Nat → Int32) (stepsTo : Nat → Int32) (needs : Nat → Int32) (nmany : Int32) (mat : Int32) (told : Nat → Int32)  {post : Int32 → (Nat → Int32) → Prop} (hw : wX11_place a1 a2 a3 st seaFirst post) : Met l yX11_place wsX11_place rmX11_place (va_Pc [.ref (h 0), .int a1, .int a2, .int a3] (cP D K (fl [wMo K h st past acts image ipast iacts tape tmany laneOf sizeOf items seaFirst worstOf farTo stepsTo needs nmany mat told]) sz)) (va_Qi (fun (r : Int32) (u : (Nat → Int32)) => post r u) (fun u t => cQ D K (fl [wMo K h st past acts image ipast iacts tape tmany laneOf sizeOf items u worstOf farTo stepsTo needs nmany mat told]) (va_A (fl [wMo K h st past acts image ipast iacts tape tmany laneOf sizeOf items seaFirst worstOf farTo stepsTo needs nmany mat told]) sz) t) (va_A (fl [wMo K h st past acts image ipast iacts tape tmany laneOf sizeOf items seaFirst worstOf farTo stepsTo needs nmany mat told]) sz)) 0 0 (va_A (fl [wMo K h st past acts image ipast iacts tape tmany laneOf sizeOf items seaFirst worstOf farTo stepsTo needs nmany mat told]) sz) := by
  refine x_entry (cc := cX11_place) (maxL := 5) (ret := (some .int)) (QA := fun A => va_Qi (fun (r : Int32) (u : (Nat → Int32)) => post r u) (fun u t => cQ D K (fl [wMo K h st past acts image ipast iacts tape tmany laneOf sizeOf items u worstOf farTo stepsTo needs nmany mat told]) A t) A) (plainFor_of_name (by decide)) rfl (Nat.le_of_ble_eq_true rfl) ?_
  intro p e s m args below meth c A ls H Q hQ hC hlk hr hnm hI hl
  obtain ⟨hx, hb, hml, hown, hts, hK, hA, hZ⟩ := id hC
  obtain ⟨locs, hlocs⟩ : ∃ y : List Loc, y = [] := ⟨_, rfl⟩
  rw [← hlocs] at hI ⊢
  clear hlocs
  replace hl : lv_has ls 5 [(0, .ref (h 0)), (1, .int a1), (2, .int a2), (3, .int a3)] := hl
  replace hw : wX11_isPlace a1 a2 (fun (r1 : Int32) => ((r1 = 0 → post (-1 : Int32) seaFirst) ∧ (¬ r1 = 0 → wX11_numberOf a1 a2 (fun (r3 : Int32) => ((a3 = (0 : Int32) → post r3 seaFirst) ∧ (¬ a3 = (0 : Int32) → ((a3 = (1 : Int32) → vp_in r3 279 ∧ post (st r3.toNatClampNeg) seaFirst) ∧ (¬ a3 = (1 : Int32) → ((a3 = (2 : Int32) → wX11_seaOf r3 st seaFirst (fun (r9 : Int32) (seaFirst_c8 : Nat → Int32) => post r9 seaFirst_c8)) ∧ (¬ a3 = (2 : Int32) → ((a3 = (3 : Int32) → wX11_isOnStrips a1 st (fun (r11 : Int32) => ((r11 = 0 → post (-4 : Int32) seaFirst) ∧ (¬ r11 = 0 → wX11_stepOf r3 (fun (r13 : Int32) => wX11_wide st (fun (r14 : Int32) => ¬ r14 = 0 ∧ post (r13 / r14) seaFirst)))))) ∧ (¬ a3 = (3 : Int32) → ((a3 = (4 : Int32) → wX11_isOnCap a1 st (fun (r17 : Int32) => ((r17 = 0 → post (0 : Int32) seaFirst) ∧ (¬ r17 = 0 → post (1 : Int32) seaFirst)))) ∧ (¬ a3 = (4 : Int32) → post (-1 : Int32) seaFirst)))))))))))))) := hw
  refine lv_iload_n hx hb dX11_place_0 rfl (lv_at hl 1 rfl) ?_
  refine lv_iload_n hx hb dX11_place_1 rfl (lv_at hl 2 rfl) ?_
  refine x_callSi (rest := []) hC hI [] (mX11_isPlace l D K  _ a1 a2 hw) (va_cwS 2 hts gX11_place_X11_isPlace rfl rfl rfl (by decide +kernel) ⟨(Nat.le_of_ble_eq_true rfl), (Nat.le_of_ble_eq_true rfl)⟩) (by decide) rfl (fun _ => rfl) rfl hl.1 rfl (Nat.le_of_ble_eq_true rfl) dX11_place_2 ⟨(Nat.le_of_ble_eq_true rfl), (Nat.le_of_ble_eq_true rfl)⟩ (fun r1 u H locs hw hI => ?_)
  try dsimp only at hw
  have hI : wI s D A (fl [wMo K h st past acts image ipast iacts tape tmany laneOf sizeOf items seaFirst worstOf farTo stepsTo needs nmany mat told]) H locs := hI
  refine lv_if_ne (tgt := 10) hx hb dX11_place_5 (by decide) (fun c2 => ?_) (fun c2 => ?_)
  · replace hw := hw.2 c2
    refine lv_iload_n hx hb dX11_place_10 rfl (lv_at hl 1 rfl) ?_
    refine lv_iload_n hx hb dX11_place_11 rfl (lv_at hl 2 rfl) ?_
    refine x_callSi (rest := []) hC hI [] (mX11_numberOf l D K  _ a1 a2 hw) (va_cwS 2 hts gX11_place_X11_numberOf rfl rfl rfl (by decide +kernel) ⟨(Nat.le_of_ble_eq_true rfl), (Nat.le_of_ble_eq_true rfl)⟩) (by decide) rfl (fun _ => rfl) rfl hl.1 rfl (Nat.le_of_ble_eq_true rfl) dX11_place_12 ⟨(Nat.le_of_ble_eq_true rfl), (Nat.le_of_ble_eq_true rfl)⟩ (fun r3 u H locs hw hI => ?_)
    try dsimp only at hw
    have hI : wI s D A (fl [wMo K h st past acts image ipast iacts tape tmany laneOf sizeOf items seaFirst worstOf farTo stepsTo needs nmany mat told]) H locs := hI
    refine lv_istore (lv' := [(4, .int r3), (0, .ref (h 0)), (1, .int a1), (2, .int a2), (3, .int a3)]) hx hb dX11_place_15 hl (by decide) rfl (fun ls hl => ?_)
    refine lv_iload_n hx hb dX11_place_17 rfl (lv_at hl 4 rfl) ?_
    by_cases c4 : a3 = (0 : Int32)
    · replace hw := hw.1 c4
      refine lv_tableIn (off := 34) (tgt := 52) hx hb dX11_place_18 (by rw [c4]; decide) (by rw [c4]; decide) (by rw [c4]; rfl) (by decide) ?_
      refine lv_iload hx hb dX11_place_52 (lv_at hl 0 rfl) ?_
      subst hQ
      exact x_iret (u := seaFirst) hC hI hr hlk hw rfl dX11_place_54
    · replace hw := hw.2 c4
      by_cases c5 : a3 = (1 : Int32)
      · replace hw := hw.1 c5
        refine lv_tableIn (off := 37) (tgt := 55) hx hb dX11_place_18 (by rw [c5]; decide) (by rw [c5]; decide) (by rw [c5]; rfl) (by decide) ?_
        refine lv_aload_n hx hb dX11_place_55 rfl (lv_at hl 1 rfl) ?_
        refine x_get (v := .ref (h 1)) hC hI kX11_place_cX11 0 rfl rfl 0 (by decide) kX11_place_0 rfl rfl dX11_place_56 ?_
        refine lv_iload hx hb dX11_place_59 (lv_at hl 0 rfl) ?_
        obtain ⟨hc6, hw⟩ := hw
        refine x_iald (f := st) hC hI 1 rfl hc6 dX11_place_61 ?_
        subst hQ
        exact x_iret (u := seaFirst) hC hI hr hlk hw rfl dX11_place_62
      · replace hw := hw.2 c5
        by_cases c7 : a3 = (2 : Int32)
        · replace hw := hw.1 c7
          refine lv_tableIn (off := 45) (tgt := 63) hx hb dX11_place_18 (by rw [c7]; decide) (by rw [c7]; decide) (by rw [c7]; rfl) (by decide) ?_
          refine lv_aload_n hx hb dX11_place_63 rfl (lv_at hl 1 rfl) ?_
          refine lv_iload hx hb dX11_place_64 (lv_at hl 0 rfl) ?_
          refine x_callWi (rest := []) hC hI (mX11_seaOf l D K h _ r3 st past acts image ipast iacts tape tmany laneOf sizeOf items seaFirst worstOf farTo stepsTo needs nmany mat told hw) (cwV 1 hts gX11_place_X11_seaOf rfl rfl rfl (by decide +kernel) ⟨(Nat.le_of_ble_eq_true rfl), (Nat.le_of_ble_eq_true rfl)⟩) (fun _ => rfl) 0 9 rfl rfl rfl rfl hl.1 rfl (Nat.le_of_ble_eq_true rfl) dX11_place_66 ⟨(Nat.le_of_ble_eq_true rfl), (Nat.le_of_ble_eq_true rfl)⟩ (fun r9 seaFirst_c8 H locs hw hI => ?_)
          have hI : wI s D A (fl [wMo K h st past acts image ipast iacts tape tmany laneOf sizeOf items seaFirst_c8 worstOf farTo stepsTo needs nmany mat told]) H locs := hI
          subst hQ
          exact x_iret (u := seaFirst_c8) hC hI hr hlk hw rfl dX11_place_69
        · replace hw := hw.2 c7
          by_cases c10 : a3 = (3 : Int32)
          · replace hw := hw.1 c10
            refine lv_tableIn (off := 52) (tgt := 70) hx hb dX11_place_18 (by rw [c10]; decide) (by rw [c10]; decide) (by rw [c10]; rfl) (by decide) ?_
            refine lv_aload_n hx hb dX11_place_70 rfl (lv_at hl 1 rfl) ?_
            refine lv_iload_n hx hb dX11_place_71 rfl (lv_at hl 2 rfl) ?_
            refine x_callWi (rest := []) hC hI (mX11_isOnStrips l D K h _ a1 st past acts image ipast iacts tape tmany laneOf sizeOf items seaFirst worstOf farTo stepsTo needs nmany mat told hw) (cwV 1 hts gX11_place_X11_isOnStrips rfl rfl rfl (by decide +kernel) ⟨(Nat.le_of_ble_eq_true rfl), (Nat.le_of_ble_eq_true rfl)⟩) (fun _ => rfl) 0 9 rfl rfl rfl rfl hl.1 rfl (Nat.le_of_ble_eq_true rfl) dX11_place_72 ⟨(Nat.le_of_ble_eq_true rfl), (Nat.le_of_ble_eq_true rfl)⟩ (fun r11 u H locs hw hI => ?_)
            try dsimp only at hw
            have hI : wI s D A (fl [wMo K h st past acts image ipast iacts tape tmany laneOf sizeOf items seaFirst worstOf farTo stepsTo needs nmany mat told]) H locs := hI
            refine lv_if_eq (tgt := 91) hx hb dX11_place_75 (by decide) (fun c12 => ?_) (fun c12 => ?_)
            · replace hw := hw.1 c12
              refine lv_bipush (v := (-4 : Int32)) hx hb dX11_place_91 (by decide) ?_
              subst hQ
              exact x_iret (u := seaFirst) hC hI hr hlk hw rfl dX11_place_93
            · replace hw := hw.2 c12
              refine lv_iload hx hb dX11_place_78 (lv_at hl 0 rfl) ?_
              refine x_callSi (rest := []) hC hI [] (mX11_stepOf l D K  _ r3 hw) (va_cwS 1 hts gX11_place_X11_stepOf rfl rfl rfl (by decide +kernel) ⟨(Nat.le_of_ble_eq_true rfl), (Nat.le_of_ble_eq_true rfl)⟩) (by decide) rfl (fun _ => rfl) rfl hl.1 rfl (Nat.le_of_ble_eq_true rfl) dX11_place_80 ⟨(Nat.le_of_ble_eq_true rfl), (Nat.le_of_ble_eq_true rfl)⟩ (fun r13 u H locs hw hI => ?_)
              try dsimp only at hw
              have hI : wI s D A (fl [wMo K h st past acts image ipast iacts tape tmany laneOf sizeOf items seaFirst worstOf farTo stepsTo needs nmany mat told]) H locs := hI
              refine lv_aload_n hx hb dX11_place_83 rfl (lv_at hl 1 rfl) ?_
              refine x_callWi (rest := [.int r13]) hC hI (mX11_wide l D K h _ st past acts image ipast iacts tape tmany laneOf sizeOf items seaFirst worstOf farTo stepsTo needs nmany mat told hw) (cwV 0 hts gX11_place_X11_wide rfl rfl rfl (by decide +kernel) ⟨(Nat.le_of_ble_eq_true rfl), (Nat.le_of_ble_eq_true rfl)⟩) (fun _ => rfl) 0 9 rfl rfl rfl rfl hl.1 rfl (Nat.le_of_ble_eq_true rfl) dX11_place_84 ⟨(Nat.le_of_ble_eq_true rfl), (Nat.le_of_ble_eq_true rfl)⟩ (fun r14 u H locs hw hI => ?_)
              try dsimp only at hw
              have hI : wI s D A (fl [wMo K h st past acts image ipast iacts tape tmany laneOf sizeOf items seaFirst worstOf farTo stepsTo needs nmany mat told]) H locs := hI
              obtain ⟨hc15, hw⟩ := hw
              refine lv_idiv hx hb dX11_place_87 hc15 ?_
              refine lv_goto (tgt := 93) hx hb dX11_place_88 (by decide) ?_
              subst hQ
              exact x_iret (u := seaFirst) hC hI hr hlk hw rfl dX11_place_93
          · replace hw := hw.2 c10
            by_cases c16 : a3 = (4 : Int32)
            · replace hw := hw.1 c16
              refine lv_tableIn (off := 76) (tgt := 94) hx hb dX11_place_18 (by rw [c16]; decide) (by rw [c16]; decide) (by rw [c16]; rfl) (by decide) ?_
              refine lv_aload_n hx hb dX11_place_94 rfl (lv_at hl 1 rfl) ?_
              refine lv_iload_n hx hb dX11_place_95 rfl (lv_at hl 2 rfl) ?_
              refine x_callWi (rest := []) hC hI (mX11_isOnCap l D K h _ a1 st past acts image ipast iacts tape tmany laneOf sizeOf items seaFirst worstOf farTo stepsTo needs nmany mat told hw) (cwV 1 hts gX11_place_X11_isOnCap rfl rfl rfl (by decide +kernel) ⟨(Nat.le_of_ble_eq_true rfl), (Nat.le_of_ble_eq_true rfl)⟩) (fun _ => rfl) 0 9 rfl rfl rfl rfl hl.1 rfl (Nat.le_of_ble_eq_true rfl) dX11_place_96 ⟨(Nat.le_of_ble_eq_true rfl), (Nat.le_of_ble_eq_true rfl)⟩ (fun r17 u H locs hw hI => ?_)
              try dsimp only at hw
              have hI : wI s D A (fl [wMo K h st past acts image ipast iacts tape tmany laneOf sizeOf items seaFirst worstOf farTo stepsTo needs nmany mat told]) H locs := hI
              refine lv_if_eq (tgt := 106) hx hb dX11_place_99 (by decide) (fun c18 => ?_) (fun c18 => ?_)
              · replace hw := hw.1 c18
                refine lv_iconst (v := (0 : Int32)) hx hb dX11_place_106 (by decide) ?_
                subst hQ
                exact x_iret (u := seaFirst) hC hI hr hlk hw rfl dX11_place_107
              · replace hw := hw.2 c18
                refine lv_iconst (v := (1 : Int32)) hx hb dX11_place_102 (by decide) ?_
                refine lv_goto (tgt := 107) hx hb dX11_place_103 (by decide) ?_
                subst hQ
                exact x_iret (u := seaFirst) hC hI hr hlk hw rfl dX11_place_107
            · replace hw := hw.2 c16
              refine lv_tableOut (tgt := 108) hx hb dX11_place_18 (by have nc4 := lv_neT c4 (a := 0) rfl; have nc5 := lv_neT c5 (a := 1) rfl; have nc7 := lv_neT c7 (a := 2) rfl; have nc10 := lv_neT c10 (a := 3) rfl; have nc16 := lv_neT c16 (a := 4) rfl; omega) (by decide) ?_
              refine lv_iconst (v := (-1 : Int32)) hx hb dX11_place_108 (by decide) ?_
              subst hQ
              exact x_iret (u := seaFirst) hC hI hr hlk hw rfl dX11_place_109
  · replace hw := hw.1 c2
    refine lv_iconst (v := (-1 : Int32)) hx hb dX11_place_8 (by decide) ?_
    subst hQ
    exact x_iret (u := seaFirst) hC hI hr hlk hw rfl dX11_place_9

def wX11_flatOf (a1 : Int32) (a2 : Int32) (st : Nat → Int32) (post : Int32 → Prop) : Prop := ((a2 = (0 : Int32) → wX11_xOf a1 st (fun (r2 : Int32) => post r2)) ∧ (¬ a2 = (0 : Int32) → ((a2 = (1 : Int32) → wX11_rowOf a1 (fun (r4 : Int32) => wX11_yOf r4 st (fun (r5 : Int32) => post r5))) ∧ (¬ a2 = (1 : Int32) → ((a2 = (2 : Int32) → wX11_isCut a1 st (fun (r7 : Int32) => ((r7 = 0 → post (-4 : Int32)) ∧ (¬ r7 = 0 → wX11_twinX a1 st (fun (r9 : Int32) => post r9))))) ∧ (¬ a2 = (2 : Int32) → ((a2 = (3 : Int32) → wX11_capX a1 st (fun (r11 : Int32) => post r11)) ∧ (¬ a2 = (3 : Int32) → wX11_capY a1 st (fun (r12 : Int32) => post r12)))))))))
def rmX11_flatOf : Room := { frames := 7, cells := 0, slots := 0, locals := 151 }
set_option maxHeartbeats 4000000 in
set_option maxRecDepth 100000 in
theorem mX11_flatOf (l : Launch) (D : va_G) (K : Nat → ClassId) (h : Nat → Nat) (sz : Nat) (a1 : Int32) (a2 : Int32) (st : Nat → Int32) (past : Nat → Int32) (acts : Int32) (image : Nat → Int32) (ipast : Nat → Int32) (iacts : Int32) (tape : Nat → Int32) (tmany : Int32) (laneOf : Nat → Int32) (sizeOf : Nat → Int32) (items : Nat → Int64) (seaFirst : Nat → Int32) (worstOf : Nat → Int32) (farTo : Nat → Int32) (stepsTo : Nat → Int32) (needs : Nat → Int32) (nmany : Int32) (mat : Int32) (told : Nat → Int32)  {post : Int32 → Prop} (hw : wX11_flatOf a1 a2 st post) : Met l yX11_flatOf wsX11_flatOf rmX11_flatOf (va_Pc [.ref (h 0), .int a1, .int a2] (cP D K (fl [wMo K h st past acts image ipast iacts tape tmany laneOf sizeOf items seaFirst worstOf farTo stepsTo needs nmany mat told]) sz)) (va_Qi (fun (r : Int32) (u : Unit) => post r) (fun u t => cQ D K (fl [wMo K h st past acts image ipast iacts tape tmany laneOf sizeOf items seaFirst worstOf farTo stepsTo needs nmany mat told]) (va_A (fl [wMo K h st past acts image ipast iacts tape tmany laneOf sizeOf items seaFirst worstOf farTo stepsTo needs nmany mat told]) sz) t) (va_A (fl [wMo K h st past acts image ipast iacts tape tmany laneOf sizeOf items seaFirst worstOf farTo stepsTo needs nmany mat told]) sz)) 0 0 (va_A (fl [wMo K h st past acts image ipast iacts tape tmany laneOf sizeOf items seaFirst worstOf farTo stepsTo needs nmany mat told]) sz) := by
  refine x_entry (cc := cX11_flatOf) (maxL := 3) (ret := (some .int)) (QA := fun A => va_Qi (fun (r : Int32) (u : Unit) => post r) (fun u t => cQ D K (fl [wMo K h st past acts image ipast iacts tape tmany laneOf sizeOf items seaFirst worstOf farTo stepsTo needs nmany mat told]) A t) A) (plainFor_of_name (by decide)) rfl (Nat.le_of_ble_eq_true rfl) ?_
  intro p e s m args below meth c A ls H Q hQ hC hlk hr hnm hI hl
  obtain ⟨hx, hb, hml, hown, hts, hK, hA, hZ⟩ := id hC
  obtain ⟨locs, hlocs⟩ : ∃ y : List Loc, y = [] := ⟨_, rfl⟩
  rw [← hlocs] at hI ⊢
  clear hlocs
  replace hl : lv_has ls 3 [(0, .ref (h 0)), (1, .int a1), (2, .int a2)] := hl
  replace hw : ((a2 = (0 : Int32) → wX11_xOf a1 st (fun (r2 : Int32) => post r2)) ∧ (¬ a2 = (0 : Int32) → ((a2 = (1 : Int32) → wX11_rowOf a1 (fun (r4 : Int32) => wX11_yOf r4 st (fun (r5 : Int32) => post r5))) ∧ (¬ a2 = (1 : Int32) → ((a2 = (2 : Int32) → wX11_isCut a1 st (fun (r7 : Int32) => ((r7 = 0 → post (-4 : Int32)) ∧ (¬ r7 = 0 → wX11_twinX a1 st (fun (r9 : Int32) => post r9))))) ∧ (¬ a2 = (2 : Int32) → ((a2 = (3 : Int32) → wX11_capX a1 st (fun (r11 : Int32) => post r11)) ∧ (¬ a2 = (3 : Int32) → wX11_capY a1 st (fun (r12 : Int32) => post r12))))))))) := hw
  refine lv_iload_n hx hb dX11_flatOf_0 rfl (lv_at hl 2 rfl) ?_
  by_cases c1 : a2 = (0 : Int32)
  · replace hw := hw.1 c1
    refine lv_tableIn (off := 31) (tgt := 32) hx hb dX11_flatOf_1 (by rw [c1]; decide) (by rw [c1]; decide) (by rw [c1]; rfl) (by decide) ?_
    refine lv_aload_n hx hb dX11_flatOf_32 rfl (lv_at hl 0 rfl) ?_
    refine lv_iload_n hx hb dX11_flatOf_33 rfl (lv_at hl 1 rfl) ?_
    refine x_callWi (rest := []) hC hI (mX11_xOf l D K h _ a1 st past acts image ipast iacts tape tmany laneOf sizeOf items seaFirst worstOf farTo stepsTo needs nmany mat told hw) (cwV 1 hts gX11_flatOf_X11_xOf rfl rfl rfl (by decide +kernel) ⟨(Nat.le_of_ble_eq_true rfl), (Nat.le_of_ble_eq_true rfl)⟩) (fun _ => rfl) 0 9 rfl rfl rfl rfl hl.1 rfl (Nat.le_of_ble_eq_true rfl) dX11_flatOf_34 ⟨(Nat.le_of_ble_eq_true rfl), (Nat.le_of_ble_eq_true rfl)⟩ (fun r2 u H locs hw hI => ?_)
    try dsimp only at hw
    have hI : wI s D A (fl [wMo K h st past acts image ipast iacts tape tmany laneOf sizeOf items seaFirst worstOf farTo stepsTo needs nmany mat told]) H locs := hI
    subst hQ
    exact x_iret (u := ()) hC hI hr hlk hw rfl dX11_flatOf_37
  · replace hw := hw.2 c1
    by_cases c3 : a2 = (1 : Int32)
    · replace hw := hw.1 c3
      refine lv_tableIn (off := 37) (tgt := 38) hx hb dX11_flatOf_1 (by rw [c3]; decide) (by rw [c3]; decide) (by rw [c3]; rfl) (by decide) ?_
      refine lv_aload_n hx hb dX11_flatOf_38 rfl (lv_at hl 0 rfl) ?_
      refine lv_iload_n hx hb dX11_flatOf_39 rfl (lv_at hl 1 rfl) ?_
      refine x_callSi (rest := [.ref (h 0)]) hC hI [] (mX11_rowOf l D K  _ a1 hw) (va_cwS 1 hts gX11_flatOf_X11_rowOf rfl rfl rfl (by decide +kernel) ⟨(Nat.le_of_ble_eq_true rfl), (Nat.le_of_ble_eq_true rfl)⟩) (by decide) rfl (fun _ => rfl) rfl hl.1 rfl (Nat.le_of_ble_eq_true rfl) dX11_flatOf_40 ⟨(Nat.le_of_ble_eq_true rfl), (Nat.le_of_ble_eq_true rfl)⟩ (fun r4 u H locs hw hI => ?_)
      try dsimp only at hw
      have hI : wI s D A (fl [wMo K h st past acts image ipast iacts tape tmany laneOf sizeOf items seaFirst worstOf farTo stepsTo needs nmany mat told]) H locs := hI
      refine x_callWi (rest := []) hC hI (mX11_yOf l D K h _ r4 st past acts image ipast iacts tape tmany laneOf sizeOf items seaFirst worstOf farTo stepsTo needs nmany mat told hw) (cwV 1 hts gX11_flatOf_X11_yOf rfl rfl rfl (by decide +kernel) ⟨(Nat.le_of_ble_eq_true rfl), (Nat.le_of_ble_eq_true rfl)⟩) (fun _ => rfl) 0 9 rfl rfl rfl rfl hl.1 rfl (Nat.le_of_ble_eq_true rfl) dX11_flatOf_43 ⟨(Nat.le_of_ble_eq_true rfl), (Nat.le_of_ble_eq_true rfl)⟩ (fun r5 u H locs hw hI => ?_)
      try dsimp only at hw
      have hI : wI s D A (fl [wMo K h st past acts image ipast iacts tape tmany laneOf sizeOf items seaFirst worstOf farTo stepsTo needs nmany mat told]) H locs := hI
      subst hQ
      exact x_iret (u := ()) hC hI hr hlk hw rfl dX11_flatOf_46
    · replace hw := hw.2 c3
      by_cases c6 : a2 = (2 : Int32)
      · replace hw := hw.1 c6
        refine lv_tableIn (off := 46) (tgt := 47) hx hb dX11_flatOf_1 (by rw [c6]; decide) (by rw [c6]; decide) (by rw [c6]; rfl) (by decide) ?_
        refine lv_aload_n hx hb dX11_flatOf_47 rfl (lv_at hl 0 rfl) ?_
        refine lv_iload_n hx hb dX11_flatOf_48 rfl (lv_at hl 1 rfl) ?_
        refine x_callWi (rest := []) hC hI (mX11_isCut l D K h _ a1 st past acts image ipast iacts tape tmany laneOf sizeOf items seaFirst worstOf farTo stepsTo needs nmany mat told hw) (cwV 1 hts gX11_flatOf_X11_isCut rfl rfl rfl (by decide +kernel) ⟨(Nat.le_of_ble_eq_true rfl), (Nat.le_of_ble_eq_true rfl)⟩) (fun _ => rfl) 0 9 rfl rfl rfl rfl hl.1 rfl (Nat.le_of_ble_eq_true rfl) dX11_flatOf_49 ⟨(Nat.le_of_ble_eq_true rfl), (Nat.le_of_ble_eq_true rfl)⟩ (fun r7 u H locs hw hI => ?_)
        try dsimp only at hw
        have hI : wI s D A (fl [wMo K h st past acts image ipast iacts tape tmany laneOf sizeOf items seaFirst worstOf farTo stepsTo needs nmany mat told]) H locs := hI
        refine lv_if_eq (tgt := 63) hx hb dX11_flatOf_52 (by decide) (fun c8 => ?_) (fun c8 => ?_)
        · replace hw := hw.1 c8
          refine lv_bipush (v := (-4 : Int32)) hx hb dX11_flatOf_63 (by decide) ?_
          subst hQ
          exact x_iret (u := ()) hC hI hr hlk hw rfl dX11_flatOf_65
        · replace hw := hw.2 c8
          refine lv_aload_n hx hb dX11_flatOf_55 rfl (lv_at hl 0 rfl) ?_
          refine lv_iload_n hx hb dX11_flatOf_56 rfl (lv_at hl 1 rfl) ?_
          refine x_callWi (rest := []) hC hI (mX11_twinX l D K h _ a1 st past acts image ipast iacts tape tmany laneOf sizeOf items seaFirst worstOf farTo stepsTo needs nmany mat told hw) (cwV 1 hts gX11_flatOf_X11_twinX rfl rfl rfl (by decide +kernel) ⟨(Nat.le_of_ble_eq_true rfl), (Nat.le_of_ble_eq_true rfl)⟩) (fun _ => rfl) 0 9 rfl rfl rfl rfl hl.1 rfl (Nat.le_of_ble_eq_true rfl) dX11_flatOf_57 ⟨(Nat.le_of_ble_eq_true rfl), (Nat.le_of_ble_eq_true rfl)⟩ (fun r9 u H locs hw hI => ?_)
          try dsimp only at hw
          have hI : wI s D A (fl [wMo K h st past acts image ipast iacts tape tmany laneOf sizeOf items seaFirst worstOf farTo stepsTo needs nmany mat told]) H locs := hI
          refine lv_goto (tgt := 65) hx hb dX11_flatOf_60 (by decide) ?_
          subst hQ
          exact x_iret (u := ()) hC hI hr hlk hw rfl dX11_flatOf_65
      · replace hw := hw.2 c6
        by_cases c10 : a2 = (3 : Int32)
        · replace hw := hw.1 c10
          refine lv_tableIn (off := 65) (tgt := 66) hx hb dX11_flatOf_1 (by rw [c10]; decide) (by rw [c10]; decide) (by rw [c10]; rfl) (by decide) ?_
          refine lv_aload_n hx hb dX11_flatOf_66 rfl (lv_at hl 0 rfl) ?_
          refine lv_iload_n hx hb dX11_flatOf_67 rfl (lv_at hl 1 rfl) ?_
          refine x_callWi (rest := []) hC hI (mX11_capX l D K h _ a1 st past acts image ipast iacts tape tmany laneOf sizeOf items seaFirst worstOf farTo stepsTo needs nmany mat told hw) (cwV 1 hts gX11_flatOf_X11_capX rfl rfl rfl (by decide +kernel) ⟨(Nat.le_of_ble_eq_true rfl), (Nat.le_of_ble_eq_true rfl)⟩) (fun _ => rfl) 0 9 rfl rfl rfl rfl hl.1 rfl (Nat.le_of_ble_eq_true rfl) dX11_flatOf_68 ⟨(Nat.le_of_ble_eq_true rfl), (Nat.le_of_ble_eq_true rfl)⟩ (fun r11 u H locs hw hI => ?_)
          try dsimp only at hw
          have hI : wI s D A (fl [wMo K h st past acts image ipast iacts tape tmany laneOf sizeOf items seaFirst worstOf farTo stepsTo needs nmany mat told]) H locs := hI
          subst hQ
          exact x_iret (u := ()) hC hI hr hlk hw rfl dX11_flatOf_71
        · replace hw := hw.2 c10
          refine lv_tableOut (tgt := 72) hx hb dX11_flatOf_1 (by have nc1 := lv_neT c1 (a := 0) rfl; have nc3 := lv_neT c3 (a := 1) rfl; have nc6 := lv_neT c6 (a := 2) rfl; have nc10 := lv_neT c10 (a := 3) rfl; omega) (by decide) ?_
          refine lv_aload_n hx hb dX11_flatOf_72 rfl (lv_at hl 0 rfl) ?_
          refine lv_iload_n hx hb dX11_flatOf_73 rfl (lv_at hl 1 rfl) ?_
          refine x_callWi (rest := []) hC hI (mX11_capY l D K h _ a1 st past acts image ipast iacts tape tmany laneOf sizeOf items seaFirst worstOf farTo stepsTo needs nmany mat told hw) (cwV 1 hts gX11_flatOf_X11_capY rfl rfl rfl (by decide +kernel) ⟨(Nat.le_of_ble_eq_true rfl), (Nat.le_of_ble_eq_true rfl)⟩) (fun _ => rfl) 0 9 rfl rfl rfl rfl hl.1 rfl (Nat.le_of_ble_eq_true rfl) dX11_flatOf_74 ⟨(Nat.le_of_ble_eq_true rfl), (Nat.le_of_ble_eq_true rfl)⟩ (fun r12 u H locs hw hI => ?_)
          try dsimp only at hw
          have hI : wI s D A (fl [wMo K h st past acts image ipast iacts tape tmany laneOf sizeOf items seaFirst worstOf farTo stepsTo needs nmany mat told]) H locs := hI
          subst hQ
          exact x_iret (u := ()) hC hI hr hlk hw rfl dX11_flatOf_77
