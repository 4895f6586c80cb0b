def wX11_drift (a1 : Int32) (st : Nat → Int32) (past : Nat → Int32) (acts : Int32) (post : Int32 → (Nat → Int32) → (Nat → Int32) → Int32 → Prop) : Prop := wX11_in a1 (1 : Int32) (40 : Int32) (fun (r1 : Int32) => ((r1 = 0 → post (-1 : Int32) st past acts) ∧ (¬ r1 = 0 → (∃ (I14 : Int32 → (Nat → Int32) → (Nat → Int32) → Int32 → Prop) (mu14 : Int32 → (Nat → Int32) → (Nat → Int32) → Int32 → Nat), I14 (0 : Int32) st past acts ∧ ∀ (l2_14 : Int32) (st_14 : Nat → Int32) (past_14 : Nat → Int32) (acts_14 : Int32), I14 l2_14 st_14 past_14 acts_14 → ((a1 ≤ l2_14 → wX11_landMany st_14 (fun (r4 : Int32) => post r4 st_14 past_14 acts_14)) ∧ (¬ a1 ≤ l2_14 → wX11_turnsOnce st_14 past_14 acts_14 (fun (st_c5 : Nat → Int32) (past_c6 : Nat → Int32) (acts_c7 : Int32) => ∀ x8 : Int32, x8 = l2_14 + 1 → (I14 x8 st_c5 past_c6 acts_c7 ∧ mu14 x8 st_c5 past_c6 acts_c7 < mu14 l2_14 st_14 past_14 acts_14))))))))
def rmX11_drift : Room := { frames := 3, cells := 0, slots := 0, locals := 68 }
set_option maxHeartbeats 4000000 in
set_option maxRecDepth 100000 in
theorem mX11_drift (l : Launch) (D : va_G) (K : Nat → ClassId) (h : Nat → Nat) (sz : Nat) (a1 : Int32) (st : Nat → Int32) (past : Nat → Int32) (acts : Int32) (image : Nat → Int32) (ipast : Nat → Int32) (iacts : Int32) (tape : Nat → Int32) (tmany : Int32) (laneOf : Nat → Int32) (sizeOf : Nat → Int32) (items : Nat → Int64) (seaFirst : Nat → Int32) (worstOf : Nat → Int32) (farTo : Nat → Int32) (stepsTo : Nat → Int32) (needs : Nat → Int32) (nmany : Int32) (mat : Int32) (told : Nat → Int32)  {post : Int32 → (Nat → Int32) → (Nat → Int32) → Int32 → Prop} (hw : wX11_drift a1 st past acts post) : Met l yX11_drift wsX11_drift rmX11_drift (va_Pc [.ref (h 0), .int a1] (cP D K (fl [wMo K h st past acts image ipast iacts tape tmany laneOf sizeOf items seaFirst worstOf farTo stepsTo needs nmany mat told]) sz)) (va_Qi (fun (r : Int32) (u : (Nat → Int32) × (Nat → Int32) × Int32) => post r u.1 u.2.1 u.2.2) (fun u t => cQ D K (fl [wMo K h u.1 u.2.1 u.2.2 image ipast iacts tape tmany laneOf sizeOf items seaFirst worstOf farTo stepsTo needs nmany mat told]) (va_A (fl [wMo K h st past acts image ipast iacts tape tmany laneOf sizeOf items seaFirst worstOf farTo stepsTo needs nmany mat told]) sz) t) (va_A (fl [wMo K h st past acts image ipast iacts tape tmany laneOf sizeOf items seaFirst worstOf farTo stepsTo needs nmany mat told]) sz)) 0 0 (va_A (fl [wMo K h st past acts image ipast iacts tape tmany laneOf sizeOf items seaFirst worstOf farTo stepsTo needs nmany mat told]) sz) := by
  refine x_entry (cc := cX11_drift) (maxL := 3) (ret := (some .int)) (QA := fun A => va_Qi (fun (r : Int32) (u : (Nat → Int32) × (Nat → Int32) × Int32) => post r u.1 u.2.1 u.2.2) (fun u t => cQ D K (fl [wMo K h u.1 u.2.1 u.2.2 image ipast iacts tape tmany laneOf sizeOf items seaFirst worstOf farTo stepsTo needs nmany mat told]) A t) A) (plainFor_of_name (by decide)) rfl (Nat.le_of_ble_eq_true rfl) ?_
  intro p e s m args below meth c A ls H Q hQ hC hlk hr hnm hI hl
  obtain ⟨hx, hb, hml, hown, hts, hK, hA, hZ⟩ := id hC
  obtain ⟨locs, hlocs⟩ : ∃ y : List Loc, y = [] := ⟨_, rfl⟩
  rw [← hlocs] at hI ⊢
  clear hlocs
  replace hl : lv_has ls 3 [(0, .ref (h 0)), (1, .int a1)] := hl
  replace hw : wX11_in a1 (1 : Int32) (40 : Int32) (fun (r1 : Int32) => ((r1 = 0 → post (-1 : Int32) st past acts) ∧ (¬ r1 = 0 → (∃ (I14 : Int32 → (Nat → Int32) → (Nat → Int32) → Int32 → Prop) (mu14 : Int32 → (Nat → Int32) → (Nat → Int32) → Int32 → Nat), I14 (0 : Int32) st past acts ∧ ∀ (l2_14 : Int32) (st_14 : Nat → Int32) (past_14 : Nat → Int32) (acts_14 : Int32), I14 l2_14 st_14 past_14 acts_14 → ((a1 ≤ l2_14 → wX11_landMany st_14 (fun (r4 : Int32) => post r4 st_14 past_14 acts_14)) ∧ (¬ a1 ≤ l2_14 → wX11_turnsOnce st_14 past_14 acts_14 (fun (st_c5 : Nat → Int32) (past_c6 : Nat → Int32) (acts_c7 : Int32) => ∀ x8 : Int32, x8 = l2_14 + 1 → (I14 x8 st_c5 past_c6 acts_c7 ∧ mu14 x8 st_c5 past_c6 acts_c7 < mu14 l2_14 st_14 past_14 acts_14)))))))) := hw
  refine lv_iload_n hx hb dX11_drift_0 rfl (lv_at hl 1 rfl) ?_
  refine lv_iconst (v := (1 : Int32)) hx hb dX11_drift_1 (by decide) ?_
  refine lv_bipush (v := (40 : Int32)) hx hb dX11_drift_2 (by decide) ?_
  refine x_callSi (rest := []) hC hI [] (mX11_in l D K  _ a1 (1 : Int32) (40 : Int32) hw) (va_cwS 3 hts gX11_drift_X11_in rfl rfl rfl (by decide +kernel) ⟨(Nat.le_of_ble_eq_true rfl), (Nat.le_of_ble_eq_true rfl)⟩) (by decide) rfl (fun _ => rfl) rfl hl.1 rfl (Nat.le_of_ble_eq_true rfl) dX11_drift_4 ⟨(Nat.le_of_ble_eq_true rfl), (Nat.le_of_ble_eq_true rfl)⟩ (fun r1 u H locs hw hI => ?_)
  try dsimp only at hw
  have hI : wI s D A (fl [wMo K h st past acts image ipast iacts tape tmany laneOf sizeOf items seaFirst worstOf farTo stepsTo needs nmany mat told]) H locs := hI
  refine lv_if_ne (tgt := 12) hx hb dX11_drift_7 (by decide) (fun c2 => ?_) (fun c2 => ?_)
  · replace hw := hw.2 c2
    refine lv_iconst (v := (0 : Int32)) hx hb dX11_drift_12 (by decide) ?_
    refine lv_istore_n (lv' := [(2, .int (0 : Int32)), (0, .ref (h 0)), (1, .int a1)]) hx hb dX11_drift_13 rfl hl (by decide) rfl (fun ls hl => ?_)
    obtain ⟨I14, mu14, hw, hb14⟩ := hw
    have lp14 : ∀ (k : Nat) (l2_14 : Int32) (st_14 : Nat → Int32) (past_14 : Nat → Int32) (acts_14 : Int32) (ls : Array Slot) (H : Heap) (locs : List Loc), mu14 l2_14 st_14 past_14 acts_14 < k → I14 l2_14 st_14 past_14 acts_14 → wI s D A (fl [wMo K h st_14 past_14 acts_14 image ipast iacts tape tmany laneOf sizeOf items seaFirst worstOf farTo stepsTo needs nmany mat told]) H locs → lv_has ls 3 [(0, .ref (h 0)), (1, .int a1), (2, .int l2_14)] → W p l e rmX11_drift s m args below meth c H locs 0 0 Q (F0 m 14 ls []) := by
      intro k
      induction k with
      | zero => intro l2_14 st_14 past_14 acts_14 ls H locs hmu; exact absurd hmu (Nat.not_lt_zero _)
      | succ k ih14 =>
        intro l2_14 st_14 past_14 acts_14 ls H locs hmu14 hw hI hl
        replace hw := hb14 l2_14 st_14 past_14 acts_14 hw
        refine lv_iload_n hx hb dX11_drift_14 rfl (lv_at hl 2 rfl) ?_
        refine lv_iload_n hx hb dX11_drift_15 rfl (lv_at hl 1 rfl) ?_
        refine lv_icmp_ge (tgt := 29) hx hb dX11_drift_16 (by decide) (fun c3 => ?_) (fun c3 => ?_)
        · replace hw := hw.1 c3
          refine lv_aload_n hx hb dX11_drift_29 rfl (lv_at hl 0 rfl) ?_
          refine x_callWi (rest := []) hC hI (mX11_landMany l D K h _ st_14 past_14 acts_14 image ipast iacts tape tmany laneOf sizeOf items seaFirst worstOf farTo stepsTo needs nmany mat told hw) (cwV 0 hts gX11_drift_X11_landMany rfl rfl rfl (by decide +kernel) ⟨(Nat.le_of_ble_eq_true rfl), (Nat.le_of_ble_eq_true rfl)⟩) (fun _ => rfl) 0 9 rfl rfl rfl rfl hl.1 rfl (Nat.le_of_ble_eq_true rfl) dX11_drift_30 ⟨(Nat.le_of_ble_eq_true rfl), (Nat.le_of_ble_eq_true rfl)⟩ (fun r4 u H locs hw hI => ?_)
          try dsimp only at hw
          have hI : wI s D A (fl [wMo K h st_14 past_14 acts_14 image ipast iacts tape tmany laneOf sizeOf items seaFirst worstOf farTo stepsTo needs nmany mat told]) H locs := hI
          subst hQ
          exact x_iret (u := (st_14, past_14, acts_14)) hC hI hr hlk hw rfl dX11_drift_33
        · replace hw := hw.2 c3
          refine lv_aload_n hx hb dX11_drift_19 rfl (lv_at hl 0 rfl) ?_
          refine x_callWv (rest := []) hC hI (mX11_turnsOnce l D K h _ st_14 past_14 acts_14 image ipast iacts tape tmany laneOf sizeOf items seaFirst worstOf farTo stepsTo needs nmany mat told hw) (cwV 0 hts gX11_drift_X11_turnsOnce rfl rfl rfl (by decide +kernel) ⟨(Nat.le_of_ble_eq_true rfl), (Nat.le_of_ble_eq_true rfl)⟩) (fun _ => rfl) 0 9 rfl rfl rfl rfl hl.1 rfl (Nat.le_of_ble_eq_true rfl) dX11_drift_20 ⟨(Nat.le_of_ble_eq_true rfl), (Nat.le_of_ble_eq_true rfl)⟩ (fun u H locs hw hI => ?_)
          obtain ⟨st_c5, past_c6, acts_c7⟩ := u
          try dsimp only at hw
          have hI : wI s D A (fl [wMo K h st_c5 past_c6 acts_c7 image ipast iacts tape tmany laneOf sizeOf items seaFirst worstOf farTo stepsTo needs nmany mat told]) H locs := hI
          obtain ⟨x8, ex8⟩ : ∃ y : Int32, y = l2_14 + 1 := ⟨_, rfl⟩
          replace hw := hw x8 ex8
          refine lv_iinc (v := x8) (lv' := [(2, .int x8), (0, .ref (h 0)), (1, .int a1)]) hx hb dX11_drift_23 hl (k := 2) rfl (by rw [ex8]; rfl) (by decide) rfl (fun ls hl => ?_)
          refine lv_goto (tgt := 14) hx hb dX11_drift_26 (by decide) ?_
          exact ih14 x8 st_c5 past_c6 acts_c7 ls H locs (Nat.lt_of_lt_of_le hw.2 (Nat.le_of_lt_succ hmu14)) hw.1 hI (lv_sub hl [1, 2, 0] rfl)
    exact lp14 (mu14 (0 : Int32) st past acts + 1) (0 : Int32) st past acts ls H locs (Nat.lt_succ_self _) hw hI (lv_sub hl [1, 2, 0] rfl)
  · replace hw := hw.1 c2
    refine lv_iconst (v := (-1 : Int32)) hx hb dX11_drift_10 (by decide) ?_
    subst hQ
    exact x_iret (u := (st, past, acts)) hC hI hr hlk hw rfl dX11_drift_11

def wX11_undo  (st : Nat → Int32) (past : Nat → Int32) (acts : Int32) (post : Int32 → (Nat → Int32) → Int32 → Prop) : Prop := ((acts = 0 → post (-4 : Int32) st acts) ∧ (¬ acts = 0 → ∀ x2 : Int32, x2 = acts - (1 : Int32) → wX11_bring ((279 : Int32) * x2) (0 : Int32) (279 : Int32) past st 1674 279 (fun (arr_c3 : Nat → Int32) => post x2 arr_c3 x2)))
def rmX11_undo : Room := { frames := 1, cells := 0, slots := 0, locals := 25 }
theorem kX11_undo_0 : Cond.fieldLink RX11 230 "GoreGlobeModel" "acts" "I" ∈ wsX11_undo := List.mem_cons_of_mem _ (List.mem_append_left _ (List.mem_of_getElem? (i := 0) rfl))
theorem kX11_undo_cX11 : ∀ w ∈ wsX110, w ∈ wsX11_undo := fun _ h => List.mem_cons_of_mem _ (List.mem_append_right _ h)
theorem kX11_undo_2 : Cond.fieldLink RX11 13 "GoreGlobeModel" "past" "[I" ∈ wsX11_undo := List.mem_cons_of_mem _ (List.mem_append_left _ (List.mem_of_getElem? (i := 1) rfl))
theorem kX11_undo_3 : Cond.fieldLink RX11 7 "GoreGlobeModel" "st" "[I" ∈ wsX11_undo := List.mem_cons_of_mem _ (List.mem_append_left _ (List.mem_of_getElem? (i := 2) rfl))
set_option maxHeartbeats 4000000 in
set_option maxRecDepth 100000 in
theorem mX11_undo (l : Launch) (D : va_G) (K : Nat → ClassId) (h : Nat → Nat) (sz : Nat)  (st : Nat → Int32) (past : Nat → Int32) (acts : Int32) (image : Nat → Int32) (ipast : Nat → Int32) (iacts : Int32) (tape : Nat → Int32) (tmany : Int32) (laneOf : Nat → Int32) (sizeOf : Nat → Int32) (items : Nat → Int64) (seaFirst : Nat → Int32) (worstOf : Nat → Int32) (farTo : Nat → Int32) (stepsTo : Nat → Int32) (needs : Nat → Int32) (nmany : Int32) (mat : Int32) (told : Nat → Int32)  {post : Int32 → (Nat → Int32) → Int32 → Prop} (hw : wX11_undo  st past acts post) : Met l yX11_undo wsX11_undo rmX11_undo (va_Pc [.ref (h 0)] (cP D K (fl [wMo K h st past acts image ipast iacts tape tmany laneOf sizeOf items seaFirst worstOf farTo stepsTo needs nmany mat told]) sz)) (va_Qi (fun (r : Int32) (u : (Nat → Int32) × Int32) => post r u.1 u.2) (fun u t => cQ D K (fl [wMo K h u.1 past u.2 image ipast iacts tape tmany laneOf sizeOf items seaFirst worstOf farTo stepsTo needs nmany mat told]) (va_A (fl [wMo K h st past acts image ipast iacts tape tmany laneOf sizeOf items seaFirst worstOf farTo stepsTo needs nmany mat told]) sz) t) (va_A (fl [wMo K h st past acts image ipast iacts tape tmany laneOf sizeOf items seaFirst worstOf farTo stepsTo needs nmany mat told]) sz)) 0 0 (va_A (fl [wMo K h st past acts image ipast iacts tape tmany laneOf sizeOf items seaFirst worstOf farTo stepsTo needs nmany mat told]) sz) := by
  refine x_entry (cc := cX11_undo) (maxL := 1) (ret := (some .int)) (QA := fun A => va_Qi (fun (r : Int32) (u : (Nat → Int32) × Int32) => post r u.1 u.2) (fun u t => cQ D K (fl [wMo K h u.1 past u.2 image ipast iacts tape tmany laneOf sizeOf items seaFirst worstOf farTo stepsTo needs nmany mat told]) A t) A) (plainFor_of_name (by decide)) rfl (Nat.le_of_ble_eq_true rfl) ?_
  intro p e s m args below meth c A ls H Q hQ hC hlk hr hnm hI hl
  obtain ⟨hx, hb, hml, hown, hts, hK, hA, hZ⟩ := id hC
  obtain ⟨locs, hlocs⟩ : ∃ y : List Loc, y = [] := ⟨_, rfl⟩
  rw [← hlocs] at hI ⊢
  clear hlocs
  replace hl : lv_has ls 1 [(0, .ref (h 0))] := hl
  replace hw : ((acts = 0 → post (-4 : Int32) st acts) ∧ (¬ acts = 0 → ∀ x2 : Int32, x2 = acts - (1 : Int32) → wX11_bring ((279 : Int32) * x2) (0 : Int32) (279 : Int32) past st 1674 279 (fun (arr_c3 : Nat → Int32) => post x2 arr_c3 x2))) := hw
  refine lv_aload_n hx hb dX11_undo_0 rfl (lv_at hl 0 rfl) ?_
  refine x_get (v := .int acts) hC hI kX11_undo_cX11 0 rfl rfl 2 (by decide) kX11_undo_0 rfl rfl dX11_undo_1 ?_
  refine lv_if_ne (tgt := 10) hx hb dX11_undo_4 (by decide) (fun c1 => ?_) (fun c1 => ?_)
  · replace hw := hw.2 c1
    refine lv_aload_n hx hb dX11_undo_10 rfl (lv_at hl 0 rfl) ?_
    refine lv_dup hx hb dX11_undo_11 rfl ?_
    refine x_get (v := .int acts) hC hI kX11_undo_cX11 0 rfl rfl 2 (by decide) kX11_undo_0 rfl rfl dX11_undo_12 ?_
    refine lv_iconst (v := (1 : Int32)) hx hb dX11_undo_15 (by decide) ?_
    refine lv_isub hx hb dX11_undo_16 ?_
    refine lv_topi (fun x2 ex2 => ?_)
    replace hw := hw x2 ex2
    refine x_put (v := .int x2) hC hI kX11_undo_cX11 tyX11 tyX11_ok nmX11 0 rfl rfl 2 (by decide) kX11_undo_0 rfl rfl rfl rfl (Nat.le_of_ble_eq_true rfl) dX11_undo_17 (fun H locs hI => ?_)
    have hI : wI s D A (fl [wMo K h st past x2 image ipast iacts tape tmany laneOf sizeOf items seaFirst worstOf farTo stepsTo needs nmany mat told]) H locs := hI
    refine lv_aload_n hx hb dX11_undo_20 rfl (lv_at hl 0 rfl) ?_
    refine x_get (v := .ref (h 2)) hC hI kX11_undo_cX11 0 rfl rfl 1 (by decide) kX11_undo_2 rfl rfl dX11_undo_21 ?_
    refine lv_sipush (v := (279 : Int32)) hx hb dX11_undo_24 (by decide) ?_
    refine lv_aload_n hx hb dX11_undo_27 rfl (lv_at hl 0 rfl) ?_
    refine x_get (v := .int x2) hC hI kX11_undo_cX11 0 rfl rfl 2 (by decide) kX11_undo_0 rfl rfl dX11_undo_28 ?_
    refine lv_imul hx hb dX11_undo_31 ?_
    refine lv_aload_n hx hb dX11_undo_32 rfl (lv_at hl 0 rfl) ?_
    refine x_get (v := .ref (h 1)) hC hI kX11_undo_cX11 0 rfl rfl 0 (by decide) kX11_undo_3 rfl rfl dX11_undo_33 ?_
    refine lv_iconst (v := (0 : Int32)) hx hb dX11_undo_36 (by decide) ?_
    refine lv_sipush (v := (279 : Int32)) hx hb dX11_undo_37 (by decide) ?_
    refine x_callSv (L := List.map (fun c => [c]) (fl [wMo K h st past x2 image ipast iacts tape tmany laneOf sizeOf items seaFirst worstOf farTo stepsTo needs nmany mat told])) (rest := []) hC (by rw [fl_single]; exact hI) [2, 1] (mX11_bring l D K (fun _ => (h 2)) (fun _ => (h 1)) _ ((279 : Int32) * x2) (0 : Int32) (279 : Int32) past st 1674 279 hw) (va_cwS 5 hts gX11_undo_X11_bring rfl rfl rfl (by decide +kernel) ⟨(Nat.le_of_ble_eq_true rfl), (Nat.le_of_ble_eq_true rfl)⟩) (by decide) rfl (fun _ => rfl) rfl hl.1 rfl (Nat.le_of_ble_eq_true rfl) dX11_undo_40 ⟨(Nat.le_of_ble_eq_true rfl), (Nat.le_of_ble_eq_true rfl)⟩ (fun arr_c3 H locs hw hI => ?_)
    have hI : wI s D A (fl [wMo K h arr_c3 past x2 image ipast iacts tape tmany laneOf sizeOf items seaFirst worstOf farTo stepsTo needs nmany mat told]) H locs := hI
    refine lv_aload_n hx hb dX11_undo_43 rfl (lv_at hl 0 rfl) ?_
    refine x_get (v := .int x2) hC hI kX11_undo_cX11 0 rfl rfl 2 (by decide) kX11_undo_0 rfl rfl dX11_undo_44 ?_
    subst hQ
    exact x_iret (u := (arr_c3, x2)) hC hI hr hlk hw rfl dX11_undo_47
  · replace hw := hw.1 c1
    refine lv_bipush (v := (-4 : Int32)) hx hb dX11_undo_7 (by decide) ?_
    subst hQ
    exact x_iret (u := (st, acts)) hC hI hr hlk hw rfl dX11_undo_9

def wX11_seed (a1 : Int32) (st : Nat → Int32) (post : Int32 → (Nat → Int32) → Prop) : Prop := ((0 ≤ a1 → ∀ x2 : Int32, x2 = st 278 → post x2 (upd st 278 a1)) ∧ (¬ 0 ≤ a1 → post (-1 : Int32) st))
def rmX11_seed : Room := { frames := 0, cells := 0, slots := 0, locals := 0 }
theorem kX11_seed_0 : Cond.fieldLink RX11 7 "GoreGlobeModel" "st" "[I" ∈ wsX11_seed := List.mem_cons_of_mem _ (List.mem_append_left _ (List.mem_of_getElem? (i := 0) rfl))
theorem kX11_seed_cX11 : ∀ w ∈ wsX110, w ∈ wsX11_seed := fun _ h => List.mem_cons_of_mem _ (List.mem_append_right _ h)
set_option maxHeartbeats 4000000 in
set_option maxRecDepth 100000 in
theorem mX11_seed (l : Launch) (D : va_G) (K : Nat → ClassId) (h : Nat → Nat) (sz : Nat) (a1 : Int32) (st : Nat → Int32) (past : Nat → Int32) (acts : Int32) (image : Nat → Int32) (ipast : Nat → Int32) (iacts : Int32) (tape : Nat → Int32) (tmany : Int32) (laneOf : Nat → Int32) (sizeOf : Nat → Int32) (items : Nat → Int64) (seaFirst : Nat → Int32) (worstOf : Nat → Int32) (farTo : Nat → Int32) (stepsTo : Nat → Int32) (needs : Nat → Int32) (nmany : Int32) (mat : Int32) (told : Nat → Int32)  {post : Int32 → (Nat → Int32) → Prop} (hw : wX11_seed a1 st post) : Met l yX11_seed wsX11_seed rmX11_seed (va_Pc [.ref (h 0), .int a1] (cP D K (fl [wMo K h st past acts image ipast iacts tape tmany laneOf sizeOf items seaFirst worstOf farTo stepsTo needs nmany mat told]) sz)) (va_Qi (fun (r : Int32) (u : (Nat → Int32)) => post r u) (fun u t => cQ D K (fl [wMo K h u past acts image ipast iacts tape tmany laneOf sizeOf items seaFirst worstOf farTo stepsTo needs nmany mat told]) (va_A (fl [wMo K h st past acts image ipast iacts tape tmany laneOf sizeOf items seaFirst worstOf farTo stepsTo needs nmany mat told]) sz) t) (va_A (fl [wMo K h st past acts image ipast iacts tape tmany laneOf sizeOf items seaFirst worstOf farTo stepsTo needs nmany mat told]) sz)) 0 0 (va_A (fl [wMo K h st past acts image ipast iacts tape tmany laneOf sizeOf items seaFirst worstOf farTo stepsTo needs nmany mat told]) sz) := by
  refine x_entry (cc := cX11_seed) (maxL := 3) (ret := (some .int)) (QA := fun A => va_Qi (fun (r : Int32) (u : (Nat → Int32)) => post r u) (fun u t => cQ D K (fl [wMo K h u past acts image ipast iacts tape tmany laneOf sizeOf items seaFirst worstOf farTo stepsTo needs nmany mat told]) A t) A) (plainFor_of_name (by decide)) rfl (Nat.le_of_ble_eq_true rfl) ?_
  intro p e s m args below meth c A ls H Q hQ hC hlk hr hnm hI hl
  obtain ⟨hx, hb, hml, hown, hts, hK, hA, hZ⟩ := id hC
  obtain ⟨locs, hlocs⟩ : ∃ y : List Loc, y = [] := ⟨_, rfl⟩
  rw [← hlocs] at hI ⊢
  clear hlocs
  replace hl : lv_has ls 3 [(0, .ref (h 0)), (1, .int a1)] := hl
  replace hw : ((0 ≤ a1 → ∀ x2 : Int32, x2 = st 278 → post x2 (upd st 278 a1)) ∧ (¬ 0 ≤ a1 → post (-1 : Int32) st)) := hw
  refine lv_iload_n hx hb dX11_seed_0 rfl (lv_at hl 1 rfl) ?_
  refine lv_if_ge (tgt := 6) hx hb dX11_seed_1 (by decide) (fun c1 => ?_) (fun c1 => ?_)
  · replace hw := hw.1 c1
    refine lv_aload_n hx hb dX11_seed_6 rfl (lv_at hl 0 rfl) ?_
    refine x_get (v := .ref (h 1)) hC hI kX11_seed_cX11 0 rfl rfl 0 (by decide) kX11_seed_0 rfl rfl dX11_seed_7 ?_
    refine lv_sipush (v := (278 : Int32)) hx hb dX11_seed_10 (by decide) ?_
    refine x_iald (f := st) hC hI 1 rfl (by unfold vp_in; decide) dX11_seed_13 ?_
    refine lv_topi (fun x2 ex2 => ?_)
    replace hw := hw x2 ex2
    refine lv_istore_n (lv' := [(2, .int x2), (0, .ref (h 0)), (1, .int a1)]) hx hb dX11_seed_14 rfl hl (by decide) rfl (fun ls hl => ?_)
    refine lv_aload_n hx hb dX11_seed_15 rfl (lv_at hl 1 rfl) ?_
    refine x_get (v := .ref (h 1)) hC hI kX11_seed_cX11 0 rfl rfl 0 (by decide) kX11_seed_0 rfl rfl dX11_seed_16 ?_
    refine lv_sipush (v := (278 : Int32)) hx hb dX11_seed_19 (by decide) ?_
    refine lv_iload_n hx hb dX11_seed_22 rfl (lv_at hl 2 rfl) ?_
    refine x_iast (f := st) hC hI 1 rfl (by unfold vp_in; decide) dX11_seed_23 (fun H locs hI => ?_)
    have hI : wI s D A (fl [wMo K h (upd st 278 a1) past acts image ipast iacts tape tmany laneOf sizeOf items seaFirst worstOf farTo stepsTo needs nmany mat told]) H locs := hI
    refine lv_iload_n hx hb dX11_seed_24 rfl (lv_at hl 0 rfl) ?_
    subst hQ
    exact x_iret (u := (upd st 278 a1)) hC hI hr hlk hw rfl dX11_seed_25
  · replace hw := hw.2 c1
    refine lv_iconst (v := (-1 : Int32)) hx hb dX11_seed_4 (by decide) ?_
    subst hQ
    exact x_iret (u := st) hC hI hr hlk hw rfl dX11_seed_5

def wX11_image  (st : Nat → Int32) (past : Nat → Int32) (acts : Int32) (image : Nat → Int32) (ipast : Nat → Int32) (post : Int32 → (Nat → Int32) → (Nat → Int32) → Int32 → Prop) : Prop := wX11_bring (0 : Int32) (0 : Int32) (279 : Int32) st image 279 279 (fun (arr_c1 : Nat → Int32) => wX11_bring (0 : Int32) (0 : Int32) (1674 : Int32) past ipast 1674 1674 (fun (arr_c2 : Nat → Int32) => post (1 : Int32) arr_c1 arr_c2 acts))
def rmX11_image : Room := { frames := 1, cells := 0, slots := 0, locals := 25 }
theorem kX11_image_0 : Cond.fieldLink RX11 7 "GoreGlobeModel" "st" "[I" ∈ wsX11_image := List.mem_cons_of_mem _ (List.mem_append_left _ (List.mem_of_getElem? (i := 0) rfl))
theorem kX11_image_cX11 : ∀ w ∈ wsX110, w ∈ wsX11_image := fun _ h => List.mem_cons_of_mem _ (List.mem_append_right _ h)
theorem kX11_image_2 : Cond.fieldLink RX11 16 "GoreGlobeModel" "image" "[I" ∈ wsX11_image := List.mem_cons_of_mem _ (List.mem_append_left _ (List.mem_of_getElem? (i := 1) rfl))
theorem kX11_image_3 : Cond.fieldLink RX11 13 "GoreGlobeModel" "past" "[I" ∈ wsX11_image := List.mem_cons_of_mem _ (List.mem_append_left _ (List.mem_of_getElem? (i := 2) rfl))
theorem kX11_image_4 : Cond.fieldLink RX11 19 "GoreGlobeModel" "imagePast" "[I" ∈ wsX11_image := List.mem_cons_of_mem _ (List.mem_append_left _ (List.mem_of_getElem? (i := 3) rfl))
theorem kX11_image_5 : Cond.fieldLink RX11 230 "GoreGlobeModel" "acts" "I" ∈ wsX11_image := List.mem_cons_of_mem _ (List.mem_append_left _ (List.mem_of_getElem? (i := 4) rfl))
theorem kX11_image_6 : Cond.fieldLink RX11 22 "GoreGlobeModel" "imageActs" "I" ∈ wsX11_image := List.mem_cons_of_mem _ (List.mem_append_left _ (List.mem_of_getElem? (i := 5) rfl))
set_option maxHeartbeats 4000000 in
set_option maxRecDepth 100000 in
theorem mX11_image (l : Launch) (D : va_G) (K : Nat → ClassId) (h : Nat → Nat) (sz : Nat)  (st : Nat → Int32) (past : Nat → Int32) (acts : Int32) (image : Nat → Int32) (ipast : Nat → Int32) (iacts : Int32) (tape : Nat → Int32) (tmany : Int32) (laneOf : Nat → Int32) (sizeOf : Nat → Int32) (items : Nat → Int64) (seaFirst : Nat → Int32) (worstOf : Nat → Int32) (farTo : Nat → Int32) (stepsTo : Nat → Int32) (needs : Nat → Int32) (nmany : Int32) (mat : Int32) (told : Nat → Int32)  {post : Int32 → (Nat → Int32) → (Nat → Int32) → Int32 → Prop} (hw : wX11_image  st past acts image ipast post) : Met l yX11_image wsX11_image rmX11_image (va_Pc [.ref (h 0)] (cP D K (fl [wMo K h st past acts image ipast iacts tape tmany laneOf sizeOf items seaFirst worstOf farTo stepsTo needs nmany mat told]) sz)) (va_Qi (fun (r : Int32) (u : (Nat → Int32) × (Nat → Int32) × Int32) => post r u.1 u.2.1 u.2.2) (fun u t => cQ D K (fl [wMo K h st past acts u.1 u.2.1 u.2.2 tape tmany laneOf sizeOf items seaFirst worstOf farTo stepsTo needs nmany mat told]) (va_A (fl [wMo K h st past acts image ipast iacts tape tmany laneOf sizeOf items seaFirst worstOf farTo stepsTo needs nmany mat told]) sz) t) (va_A (fl [wMo K h st past acts image ipast iacts tape tmany laneOf sizeOf items seaFirst worstOf farTo stepsTo needs nmany mat told]) sz)) 0 0 (va_A (fl [wMo K h st past acts image ipast iacts tape tmany laneOf sizeOf items seaFirst worstOf farTo stepsTo needs nmany mat told]) sz) := by
  refine x_entry (cc := cX11_image) (maxL := 1) (ret := (some .int)) (QA := fun A => va_Qi (fun (r : Int32) (u : (Nat → Int32) × (Nat → Int32) × Int32) => post r u.1 u.2.1 u.2.2) (fun u t => cQ D K (fl [wMo K h st past acts u.1 u.2.1 u.2.2 tape tmany laneOf sizeOf items seaFirst worstOf farTo stepsTo needs nmany mat told]) A t) A) (plainFor_of_name (by decide)) rfl (Nat.le_of_ble_eq_true rfl) ?_
  intro p e s m args below meth c A ls H Q hQ hC hlk hr hnm hI hl
  obtain ⟨hx, hb, hml, hown, hts, hK, hA, hZ⟩ := id hC
  obtain ⟨locs, hlocs⟩ : ∃ y : List Loc, y = [] := ⟨_, rfl⟩
  rw [← hlocs] at hI ⊢
  clear hlocs
  replace hl : lv_has ls 1 [(0, .ref (h 0))] := hl
  replace hw : wX11_bring (0 : Int32) (0 : Int32) (279 : Int32) st image 279 279 (fun (arr_c1 : Nat → Int32) => wX11_bring (0 : Int32) (0 : Int32) (1674 : Int32) past ipast 1674 1674 (fun (arr_c2 : Nat → Int32) => post (1 : Int32) arr_c1 arr_c2 acts)) := hw
  refine lv_aload_n hx hb dX11_image_0 rfl (lv_at hl 0 rfl) ?_
  refine x_get (v := .ref (h 1)) hC hI kX11_image_cX11 0 rfl rfl 0 (by decide) kX11_image_0 rfl rfl dX11_image_1 ?_
  refine lv_iconst (v := (0 : Int32)) hx hb dX11_image_4 (by decide) ?_
  refine lv_aload_n hx hb dX11_image_5 rfl (lv_at hl 0 rfl) ?_
  refine x_get (v := .ref (h 3)) hC hI kX11_image_cX11 0 rfl rfl 3 (by decide) kX11_image_2 rfl rfl dX11_image_6 ?_
  refine lv_iconst (v := (0 : Int32)) hx hb dX11_image_9 (by decide) ?_
  refine lv_sipush (v := (279 : Int32)) hx hb dX11_image_10 (by decide) ?_
  refine x_callSv (L := List.map (fun c => [c]) (fl [wMo K h st past acts image ipast iacts tape tmany laneOf sizeOf items seaFirst worstOf farTo stepsTo needs nmany mat told])) (rest := []) hC (by rw [fl_single]; exact hI) [1, 3] (mX11_bring l D K (fun _ => (h 1)) (fun _ => (h 3)) _ (0 : Int32) (0 : Int32) (279 : Int32) st image 279 279 hw) (va_cwS 5 hts gX11_image_X11_bring rfl rfl rfl (by decide +kernel) ⟨(Nat.le_of_ble_eq_true rfl), (Nat.le_of_ble_eq_true rfl)⟩) (by decide) rfl (fun _ => rfl) rfl hl.1 rfl (Nat.le_of_ble_eq_true rfl) dX11_image_13 ⟨(Nat.le_of_ble_eq_true rfl), (Nat.le_of_ble_eq_true rfl)⟩ (fun arr_c1 H locs hw hI => ?_)
  have hI : wI s D A (fl [wMo K h st past acts arr_c1 ipast iacts tape tmany laneOf sizeOf items seaFirst worstOf farTo stepsTo needs nmany mat told]) H locs := hI
  refine lv_aload_n hx hb dX11_image_16 rfl (lv_at hl 0 rfl) ?_
  refine x_get (v := .ref (h 2)) hC hI kX11_image_cX11 0 rfl rfl 1 (by decide) kX11_image_3 rfl rfl dX11_image_17 ?_
  refine lv_iconst (v := (0 : Int32)) hx hb dX11_image_20 (by decide) ?_
  refine lv_aload_n hx hb dX11_image_21 rfl (lv_at hl 0 rfl) ?_
  refine x_get (v := .ref (h 4)) hC hI kX11_image_cX11 0 rfl rfl 4 (by decide) kX11_image_4 rfl rfl dX11_image_22 ?_
  refine lv_iconst (v := (0 : Int32)) hx hb dX11_image_25 (by decide) ?_
  refine lv_sipush (v := (1674 : Int32)) hx hb dX11_image_26 (by decide) ?_
  refine x_callSv (L := List.map (fun c => [c]) (fl [wMo K h st past acts arr_c1 ipast iacts tape tmany laneOf sizeOf items seaFirst worstOf farTo stepsTo needs nmany mat told])) (rest := []) hC (by rw [fl_single]; exact hI) [2, 4] (mX11_bring l D K (fun _ => (h 2)) (fun _ => (h 4)) _ (0 : Int32) (0 : Int32) (1674 : Int32) past ipast 1674 1674 hw) (va_cwS 5 hts gX11_image_X11_bring rfl rfl rfl (by decide +kernel) ⟨(Nat.le_of_ble_eq_true rfl), (Nat.le_of_ble_eq_true rfl)⟩) (by decide) rfl (fun _ => rfl) rfl hl.1 rfl (Nat.le_of_ble_eq_true rfl) dX11_image_29 ⟨(Nat.le_of_ble_eq_true rfl), (Nat.le_of_ble_eq_true rfl)⟩ (fun arr_c2 H locs hw hI => ?_)
  have hI : wI s D A (fl [wMo K h st past acts arr_c1 arr_c2 iacts tape tmany laneOf sizeOf items seaFirst worstOf farTo stepsTo needs nmany mat told]) H locs := hI
  refine lv_aload_n hx hb dX11_image_32 rfl (lv_at hl 0 rfl) ?_
  refine lv_aload_n hx hb dX11_image_33 rfl (lv_at hl 0 rfl) ?_
  refine x_get (v := .int acts) hC hI kX11_image_cX11 0 rfl rfl 2 (by decide) kX11_image_5 rfl rfl dX11_image_34 ?_
  refine x_put (v := .int acts) hC hI kX11_image_cX11 tyX11 tyX11_ok nmX11 0 rfl rfl 5 (by decide) kX11_image_6 rfl rfl rfl rfl (Nat.le_of_ble_eq_true rfl) dX11_image_37 (fun H locs hI => ?_)
  have hI : wI s D A (fl [wMo K h st past acts arr_c1 arr_c2 acts tape tmany laneOf sizeOf items seaFirst worstOf farTo stepsTo needs nmany mat told]) H locs := hI
  refine lv_iconst (v := (1 : Int32)) hx hb dX11_image_40 (by decide) ?_
  subst hQ
  exact x_iret (u := (arr_c1, arr_c2, acts)) hC hI hr hlk hw rfl dX11_image_41

def wX11_restore  (st : Nat → Int32) (past : Nat → Int32) (acts : Int32) (image : Nat → Int32) (ipast : Nat → Int32) (iacts : Int32) (post : Int32 → (Nat → Int32) → (Nat → Int32) → Int32 → Prop) : Prop := ((0 ≤ iacts → wX11_bring (0 : Int32) (0 : Int32) (279 : Int32) image st 279 279 (fun (arr_c2 : Nat → Int32) => wX11_bring (0 : Int32) (0 : Int32) (1674 : Int32) ipast past 1674 1674 (fun (arr_c3 : Nat → Int32) => post (1 : Int32) arr_c2 arr_c3 iacts))) ∧ (¬ 0 ≤ iacts → post (-4 : Int32) st past acts))
def rmX11_restore : Room := { frames := 1, cells := 0, slots := 0, locals := 25 }
theorem kX11_restore_0 : Cond.fieldLink RX11 22 "GoreGlobeModel" "imageActs" "I" ∈ wsX11_restore := List.mem_cons_of_mem _ (List.mem_append_left _ (List.mem_of_getElem? (i := 0) rfl))
theorem kX11_restore_cX11 : ∀ w ∈ wsX110, w ∈ wsX11_restore := fun _ h => List.mem_cons_of_mem _ (List.mem_append_right _ h)
theorem kX11_restore_2 : Cond.fieldLink RX11 16 "GoreGlobeModel" "image" "[I" ∈ wsX11_restore := List.mem_cons_of_mem _ (List.mem_append_left _ (List.mem_of_getElem? (i := 1) rfl))
theorem kX11_restore_3 : Cond.fieldLink RX11 7 "GoreGlobeModel" "st" "[I" ∈ wsX11_restore := List.mem_cons_of_mem _ (List.mem_append_left _ (List.mem_of_getElem? (i := 2) rfl))
theorem kX11_restore_4 : Cond.fieldLink RX11 19 "GoreGlobeModel" "imagePast" "[I" ∈ wsX11_restore := List.mem_cons_of_mem _ (List.mem_append_left _ (List.mem_of_getElem? (i := 3) rfl))
theorem kX11_restore_5 : Cond.fieldLink RX11 13 "GoreGlobeModel" "past" "[I" ∈ wsX11_restore := List.mem_cons_of_mem _ (List.mem_append_left _ (List.mem_of_getElem? (i := 4) rfl))
theorem kX11_restore_6 : Cond.fieldLink RX11 230 "GoreGlobeModel" "acts" "I" ∈ wsX11_restore := List.mem_cons_of_mem _ (List.mem_append_left _ (List.mem_of_getElem? (i := 5) rfl))
set_option maxHeartbeats 4000000 in
set_option maxRecDepth 100000 in
theorem mX11_restore (l : Launch) (D : va_G) (K : Nat → ClassId) (h : Nat → Nat) (sz : Nat)  (st : Nat → Int32) (past : Nat → Int32) (acts : Int32) (image : Nat → Int32) (ipast : Nat → Int32) (iacts : Int32) (tape : Nat → Int32) (tmany : Int32) (laneOf : Nat → Int32) (sizeOf : Nat → Int32) (items : Nat → Int64) (seaFirst : Nat → Int32) (worstOf : Nat → Int32) (farTo : Nat → Int32) (stepsTo : Nat → Int32) (needs : Nat → Int32) (nmany : Int32) (mat : Int32) (told : Nat → Int32)  {post : Int32 → (Nat → Int32) → (Nat → Int32) → Int32 → Prop} (hw : wX11_restore  st past acts image ipast iacts post) : Met l yX11_restore wsX11_restore rmX11_restore (va_Pc [.ref (h 0)] (cP D K (fl [wMo K h st past acts image ipast iacts tape tmany laneOf sizeOf items seaFirst worstOf farTo stepsTo needs nmany mat told]) sz)) (va_Qi (fun (r : Int32) (u : (Nat → Int32) × (Nat → Int32) × Int32) => post r u.1 u.2.1 u.2.2) (fun u t => cQ D K (fl [wMo K h u.1 u.2.1 u.2.2 image ipast iacts tape tmany laneOf sizeOf items seaFirst worstOf farTo stepsTo needs nmany mat told]) (va_A (fl [wMo K h st past acts image ipast iacts tape tmany laneOf sizeOf items seaFirst worstOf farTo stepsTo needs nmany mat told]) sz) t) (va_A (fl [wMo K h st past acts image ipast iacts tape tmany laneOf sizeOf items seaFirst worstOf farTo stepsTo needs nmany mat told]) sz)) 0 0 (va_A (fl [wMo K h st past acts image ipast iacts tape tmany laneOf sizeOf items seaFirst worstOf farTo stepsTo needs nmany mat told]) sz) := by
  refine x_entry (cc := cX11_restore) (maxL := 1) (ret := (some .int)) (QA := fun A => va_Qi (fun (r : Int32) (u : (Nat → Int32) × (Nat → Int32) × Int32) => post r u.1 u.2.1 u.2.2) (fun u t => cQ D K (fl [wMo K h u.1 u.2.1 u.2.2 image ipast iacts tape tmany laneOf sizeOf items seaFirst worstOf farTo stepsTo needs nmany mat told]) A t) A) (plainFor_of_name (by decide)) rfl (Nat.le_of_ble_eq_true rfl) ?_
  intro p e s m args below meth c A ls H Q hQ hC hlk hr hnm hI hl
  obtain ⟨hx, hb, hml, hown, hts, hK, hA, hZ⟩ := id hC
  obtain ⟨locs, hlocs⟩ : ∃ y : List Loc, y = [] := ⟨_, rfl⟩
  rw [← hlocs] at hI ⊢
  clear hlocs
  replace hl : lv_has ls 1 [(0, .ref (h 0))] := hl
  replace hw : ((0 ≤ iacts → wX11_bring (0 : Int32) (0 : Int32) (279 : Int32) image st 279 279 (fun (arr_c2 : Nat → Int32) => wX11_bring (0 : Int32) (0 : Int32) (1674 : Int32) ipast past 1674 1674 (fun (arr_c3 : Nat → Int32) => post (1 : Int32) arr_c2 arr_c3 iacts))) ∧ (¬ 0 ≤ iacts → post (-4 : Int32) st past acts)) := hw
  refine lv_aload_n hx hb dX11_restore_0 rfl (lv_at hl 0 rfl) ?_
  refine x_get (v := .int iacts) hC hI kX11_restore_cX11 0 rfl rfl 5 (by decide) kX11_restore_0 rfl rfl dX11_restore_1 ?_
  refine lv_if_ge (tgt := 10) hx hb dX11_restore_4 (by decide) (fun c1 => ?_) (fun c1 => ?_)
  · replace hw := hw.1 c1
    refine lv_aload_n hx hb dX11_restore_10 rfl (lv_at hl 0 rfl) ?_
    refine x_get (v := .ref (h 3)) hC hI kX11_restore_cX11 0 rfl rfl 3 (by decide) kX11_restore_2 rfl rfl dX11_restore_11 ?_
    refine lv_iconst (v := (0 : Int32)) hx hb dX11_restore_14 (by decide) ?_
    refine lv_aload_n hx hb dX11_restore_15 rfl (lv_at hl 0 rfl) ?_
    refine x_get (v := .ref (h 1)) hC hI kX11_restore_cX11 0 rfl rfl 0 (by decide) kX11_restore_3 rfl rfl dX11_restore_16 ?_
    refine lv_iconst (v := (0 : Int32)) hx hb dX11_restore_19 (by decide) ?_
    refine lv_sipush (v := (279 : Int32)) hx hb dX11_restore_20 (by decide) ?_
    refine x_callSv (L := List.map (fun c => [c]) (fl [wMo K h st past acts image ipast iacts tape tmany laneOf sizeOf items seaFirst worstOf farTo stepsTo needs nmany mat told])) (rest := []) hC (by rw [fl_single]; exact hI) [3, 1] (mX11_bring l D K (fun _ => (h 3)) (fun _ => (h 1)) _ (0 : Int32) (0 : Int32) (279 : Int32) image st 279 279 hw) (va_cwS 5 hts gX11_restore_X11_bring rfl rfl rfl (by decide +kernel) ⟨(Nat.le_of_ble_eq_true rfl), (Nat.le_of_ble_eq_true rfl)⟩) (by decide) rfl (fun _ => rfl) rfl hl.1 rfl (Nat.le_of_ble_eq_true rfl) dX11_restore_23 ⟨(Nat.le_of_ble_eq_true rfl), (Nat.le_of_ble_eq_true rfl)⟩ (fun arr_c2 H locs hw hI => ?_)
    have hI : wI s D A (fl [wMo K h arr_c2 past acts image ipast iacts tape tmany laneOf sizeOf items seaFirst worstOf farTo stepsTo needs nmany mat told]) H locs := hI
    refine lv_aload_n hx hb dX11_restore_26 rfl (lv_at hl 0 rfl) ?_
    refine x_get (v := .ref (h 4)) hC hI kX11_restore_cX11 0 rfl rfl 4 (by decide) kX11_restore_4 rfl rfl dX11_restore_27 ?_
    refine lv_iconst (v := (0 : Int32)) hx hb dX11_restore_30 (by decide) ?_
    refine lv_aload_n hx hb dX11_restore_31 rfl (lv_at hl 0 rfl) ?_
    refine x_get (v := .ref (h 2)) hC hI kX11_restore_cX11 0 rfl rfl 1 (by decide) kX11_restore_5 rfl rfl dX11_restore_32 ?_
    refine lv_iconst (v := (0 : Int32)) hx hb dX11_restore_35 (by decide) ?_
    refine lv_sipush (v := (1674 : Int32)) hx hb dX11_restore_36 (by decide) ?_
    refine x_callSv (L := List.map (fun c => [c]) (fl [wMo K h arr_c2 past acts image ipast iacts tape tmany laneOf sizeOf items seaFirst worstOf farTo stepsTo needs nmany mat told])) (rest := []) hC (by rw [fl_single]; exact hI) [4, 2] (mX11_bring l D K (fun _ => (h 4)) (fun _ => (h 2)) _ (0 : Int32) (0 : Int32) (1674 : Int32) ipast past 1674 1674 hw) (va_cwS 5 hts gX11_restore_X11_bring rfl rfl rfl (by decide +kernel) ⟨(Nat.le_of_ble_eq_true rfl), (Nat.le_of_ble_eq_true rfl)⟩) (by decide) rfl (fun _ => rfl) rfl hl.1 rfl (Nat.le_of_ble_eq_true rfl) dX11_restore_39 ⟨(Nat.le_of_ble_eq_true rfl), (Nat.le_of_ble_eq_true rfl)⟩ (fun arr_c3 H locs hw hI => ?_)
    have hI : wI s D A (fl [wMo K h arr_c2 arr_c3 acts image ipast iacts tape tmany laneOf sizeOf items seaFirst worstOf farTo stepsTo needs nmany mat told]) H locs := hI
    refine lv_aload_n hx hb dX11_restore_42 rfl (lv_at hl 0 rfl) ?_
    refine lv_aload_n hx hb dX11_restore_43 rfl (lv_at hl 0 rfl) ?_
    refine x_get (v := .int iacts) hC hI kX11_restore_cX11 0 rfl rfl 5 (by decide) kX11_restore_0 rfl rfl dX11_restore_44 ?_
    refine x_put (v := .int iacts) hC hI kX11_restore_cX11 tyX11 tyX11_ok nmX11 0 rfl rfl 2 (by decide) kX11_restore_6 rfl rfl rfl rfl (Nat.le_of_ble_eq_true rfl) dX11_restore_47 (fun H locs hI => ?_)
    have hI : wI s D A (fl [wMo K h arr_c2 arr_c3 iacts image ipast iacts tape tmany laneOf sizeOf items seaFirst worstOf farTo stepsTo needs nmany mat told]) H locs := hI
    refine lv_iconst (v := (1 : Int32)) hx hb dX11_restore_50 (by decide) ?_
    subst hQ
    exact x_iret (u := (arr_c2, arr_c3, iacts)) hC hI hr hlk hw rfl dX11_restore_51
  · replace hw := hw.2 c1
    refine lv_bipush (v := (-4 : Int32)) hx hb dX11_restore_7 (by decide) ?_
    subst hQ
    exact x_iret (u := (st, past, acts)) hC hI hr hlk hw rfl dX11_restore_9

def wX11_isSheet (a0 : Int32) (a1 : Int32)  (post : Int32 → Prop) : Prop := wX11_in a0 (0 : Int32) (3 : Int32) (fun (r1 : Int32) => ((r1 = 0 → post (0 : Int32)) ∧ (¬ r1 = 0 → wX11_in a1 (0 : Int32) (3 : Int32) (fun (r3 : Int32) => ((r3 = 0 → post (0 : Int32)) ∧ (¬ r3 = 0 → post (1 : Int32)))))))
def rmX11_isSheet : Room := { frames := 1, cells := 0, slots := 0, locals := 22 }
set_option maxHeartbeats 4000000 in
set_option maxRecDepth 100000 in
theorem mX11_isSheet (l : Launch) (D : va_G) (K : Nat → ClassId)  (sz : Nat) (a0 : Int32) (a1 : Int32)   {post : Int32 → Prop} (hw : wX11_isSheet a0 a1  post) : Met l yX11_isSheet wsX11_isSheet rmX11_isSheet (va_Pc [.int a0, .int a1] (cP D K (fl []) sz)) (va_Qi (fun (r : Int32) (u : Unit) => post r) (fun u t => cQ D K (fl []) (va_A (fl []) sz) t) (va_A (fl []) sz)) 0 0 (va_A (fl []) sz) := by
  refine x_entry (cc := cX11_isSheet) (maxL := 2) (ret := (some .boolean)) (QA := fun A => va_Qi (fun (r : Int32) (u : Unit) => post r) (fun u t => cQ D K (fl []) A t) A) (plainFor_of_name (by decide)) rfl (Nat.le_of_ble_eq_true rfl) ?_
  intro p e s m args below meth c A ls H Q hQ hC hlk hr hnm hI hl
  obtain ⟨hx, hb, hml, hown, hts, hK, hA, hZ⟩ := id hC
  obtain ⟨locs, hlocs⟩ : ∃ y : List Loc, y = [] := ⟨_, rfl⟩
  rw [← hlocs] at hI ⊢
  clear hlocs
  replace hl : lv_has ls 2 [(0, .int a0), (1, .int a1)] := hl
  replace hw : wX11_in a0 (0 : Int32) (3 : Int32) (fun (r1 : Int32) => ((r1 = 0 → post (0 : Int32)) ∧ (¬ r1 = 0 → wX11_in a1 (0 : Int32) (3 : Int32) (fun (r3 : Int32) => ((r3 = 0 → post (0 : Int32)) ∧ (¬ r3 = 0 → post (1 : Int32))))))) := hw
  refine lv_iload_n hx hb dX11_isSheet_0 rfl (lv_at hl 0 rfl) ?_
  refine lv_iconst (v := (0 : Int32)) hx hb dX11_isSheet_1 (by decide) ?_
  refine lv_iconst (v := (3 : Int32)) hx hb dX11_isSheet_2 (by decide) ?_
  refine x_callSi (rest := []) hC hI [] (mX11_in l D K  _ a0 (0 : Int32) (3 : Int32) hw) (va_cwS 3 hts gX11_isSheet_X11_in rfl rfl rfl (by decide +kernel) ⟨(Nat.le_of_ble_eq_true rfl), (Nat.le_of_ble_eq_true rfl)⟩) (by decide) rfl (fun _ => rfl) rfl hl.1 rfl (Nat.le_of_ble_eq_true rfl) dX11_isSheet_3 ⟨(Nat.le_of_ble_eq_true rfl), (Nat.le_of_ble_eq_true rfl)⟩ (fun r1 u H locs hw hI => ?_)
  try dsimp only at hw
  have hI : wI s D A (fl []) H locs := hI
  refine lv_if_eq (tgt := 22) hx hb dX11_isSheet_6 (by decide) (fun c2 => ?_) (fun c2 => ?_)
  · replace hw := hw.1 c2
    refine lv_iconst (v := (0 : Int32)) hx hb dX11_isSheet_22 (by decide) ?_
    subst hQ
    exact x_zret (u := ()) hC hI hr hlk hw rfl (Or.inl rfl) dX11_isSheet_23
  · replace hw := hw.2 c2
    refine lv_iload_n hx hb dX11_isSheet_9 rfl (lv_at hl 1 rfl) ?_
    refine lv_iconst (v := (0 : Int32)) hx hb dX11_isSheet_10 (by decide) ?_
    refine lv_iconst (v := (3 : Int32)) hx hb dX11_isSheet_11 (by decide) ?_
    refine x_callSi (rest := []) hC hI [] (mX11_in l D K  _ a1 (0 : Int32) (3 : Int32) hw) (va_cwS 3 hts gX11_isSheet_X11_in rfl rfl rfl (by decide +kernel) ⟨(Nat.le_of_ble_eq_true rfl), (Nat.le_of_ble_eq_true rfl)⟩) (by decide) rfl (fun _ => rfl) rfl hl.1 rfl (Nat.le_of_ble_eq_true rfl) dX11_isSheet_12 ⟨(Nat.le_of_ble_eq_true rfl), (Nat.le_of_ble_eq_true rfl)⟩ (fun r3 u H locs hw hI => ?_)
    try dsimp only at hw
    have hI : wI s D A (fl []) H locs := hI
    refine lv_if_eq (tgt := 22) hx hb dX11_isSheet_15 (by decide) (fun c4 => ?_) (fun c4 => ?_)
    · replace hw := hw.1 c4
      refine lv_iconst (v := (0 : Int32)) hx hb dX11_isSheet_22 (by decide) ?_
      subst hQ
      exact x_zret (u := ()) hC hI hr hlk hw rfl (Or.inl rfl) dX11_isSheet_23
    · replace hw := hw.2 c4
      refine lv_iconst (v := (1 : Int32)) hx hb dX11_isSheet_18 (by decide) ?_
      refine lv_goto (tgt := 23) hx hb dX11_isSheet_19 (by decide) ?_
      subst hQ
      exact x_zret (u := ()) hC hI hr hlk hw rfl (Or.inr rfl) dX11_isSheet_23

def wX11_found (a1 : Int32) (a2 : Int32) (a3 : Int32) (a4 : Int32) (laneOf : Nat → Int32) (sizeOf : Nat → Int32) (post : Int32 → Prop) : Prop := vp_in a1 4 ∧ ((0 ≤ (laneOf a1.toNatClampNeg) → vp_in a1 4 ∧ (((laneOf a1.toNatClampNeg) = a2 → ((a3 < 0 → post (-13 : Int32)) ∧ (¬ a3 < 0 → vp_in a1 4 ∧ ((a3 ≤ ((sizeOf a1.toNatClampNeg) - a4) → post (0 : Int32)) ∧ (¬ a3 ≤ ((sizeOf a1.toNatClampNeg) - a4) → post (-13 : Int32)))))) ∧ (¬ (laneOf a1.toNatClampNeg) = a2 → post (-12 : Int32)))) ∧ (¬ 0 ≤ (laneOf a1.toNatClampNeg) → post (-11 : Int32)))
def rmX11_found : Room := { frames := 0, cells := 0, slots := 0, locals := 0 }
theorem kX11_found_0 : Cond.fieldLink RX11 29 "GoreGlobeModel" "laneOf" "[I" ∈ wsX11_found := List.mem_cons_of_mem _ (List.mem_append_left _ (List.mem_of_getElem? (i := 0) rfl))
theorem kX11_found_cX11 : ∀ w ∈ wsX110, w ∈ wsX11_found := fun _ h => List.mem_cons_of_mem _ (List.mem_append_right _ h)
theorem kX11_found_2 : Cond.fieldLink RX11 32 "GoreGlobeModel" "sizeOf" "[I" ∈ wsX11_found := List.mem_cons_of_mem _ (List.mem_append_left _ (List.mem_of_getElem? (i := 1) rfl))
set_option maxHeartbeats 4000000 in
set_option maxRecDepth 100000 in
theorem mX11_found (l : Launch) (D : va_G) (K : Nat → ClassId) (h : Nat → Nat) (sz : Nat) (a1 : Int32) (a2 : Int32) (a3 : Int32) (a4 : Int32) (st : Nat → Int32) (past : Nat → Int32) (acts : Int32) (image : Nat → Int32) (ipast : Nat → Int32) (iacts : Int32) (tape : Nat → Int32) (tmany : Int32) (laneOf : Nat → Int32) (sizeOf : Nat → Int32) (items : Nat → Int64) (seaFirst : Nat → Int32) (worstOf : Nat → Int32) (farTo : Nat → Int32) (stepsTo : Nat → Int32) (needs : Nat → Int32) (nmany : Int32) (mat : Int32) (told : Nat → Int32)  {post : Int32 → Prop} (hw : wX11_found a1 a2 a3 a4 laneOf sizeOf post) : Met l yX11_found wsX11_found rmX11_found (va_Pc [.ref (h 0), .int a1, .int a2, .int a3, .int a4] (cP D K (fl [wMo K h st past acts image ipast iacts tape tmany laneOf sizeOf items seaFirst worstOf farTo stepsTo needs nmany mat told]) sz)) (va_Qi (fun (r : Int32) (u : Unit) => post r) (fun u t => cQ D K (fl [wMo K h st past acts image ipast iacts tape tmany laneOf sizeOf items seaFirst worstOf farTo stepsTo needs nmany mat told]) (va_A (fl [wMo K h st past acts image ipast iacts tape tmany laneOf sizeOf items seaFirst worstOf farTo stepsTo needs nmany mat told]) sz) t) (va_A (fl [wMo K h st past acts image ipast iacts tape tmany laneOf sizeOf items seaFirst worstOf farTo stepsTo needs nmany mat told]) sz)) 0 0 (va_A (fl [wMo K h st past acts image ipast iacts tape tmany laneOf sizeOf items seaFirst worstOf farTo stepsTo needs nmany mat told]) sz) := by
  refine x_entry (cc := cX11_found) (maxL := 5) (ret := (some .int)) (QA := fun A => va_Qi (fun (r : Int32) (u : Unit) => post r) (fun u t => cQ D K (fl [wMo K h st past acts image ipast iacts tape tmany laneOf sizeOf items seaFirst worstOf farTo stepsTo needs nmany mat told]) A t) A) (plainFor_of_name (by decide)) rfl (Nat.le_of_ble_eq_true rfl) ?_
  intro p e s m args below meth c A ls H Q hQ hC hlk hr hnm hI hl
  obtain ⟨hx, hb, hml, hown, hts, hK, hA, hZ⟩ := id hC
  obtain ⟨locs, hlocs⟩ : ∃ y : List Loc, y = [] := ⟨_, rfl⟩
  rw [← hlocs] at hI ⊢
  clear hlocs
  replace hl : lv_has ls 5 [(0, .ref (h 0)), (1, .int a1), (2, .int a2), (3, .int a3), (4, .int a4)] := hl
  replace hw : vp_in a1 4 ∧ ((0 ≤ (laneOf a1.toNatClampNeg) → vp_in a1 4 ∧ (((laneOf a1.toNatClampNeg) = a2 → ((a3 < 0 → post (-13 : Int32)) ∧ (¬ a3 < 0 → vp_in a1 4 ∧ ((a3 ≤ ((sizeOf a1.toNatClampNeg) - a4) → post (0 : Int32)) ∧ (¬ a3 ≤ ((sizeOf a1.toNatClampNeg) - a4) → post (-13 : Int32)))))) ∧ (¬ (laneOf a1.toNatClampNeg) = a2 → post (-12 : Int32)))) ∧ (¬ 0 ≤ (laneOf a1.toNatClampNeg) → post (-11 : Int32))) := hw
  refine lv_aload_n hx hb dX11_found_0 rfl (lv_at hl 0 rfl) ?_
  refine x_get (v := .ref (h 6)) hC hI kX11_found_cX11 0 rfl rfl 8 (by decide) kX11_found_0 rfl rfl dX11_found_1 ?_
  refine lv_iload_n hx hb dX11_found_4 rfl (lv_at hl 1 rfl) ?_
  obtain ⟨hc1, hw⟩ := hw
  refine x_iald (f := laneOf) hC hI 6 rfl hc1 dX11_found_5 ?_
  refine lv_if_ge (tgt := 12) hx hb dX11_found_6 (by decide) (fun c2 => ?_) (fun c2 => ?_)
  · replace hw := hw.1 c2
    refine lv_aload_n hx hb dX11_found_12 rfl (lv_at hl 0 rfl) ?_
    refine x_get (v := .ref (h 6)) hC hI kX11_found_cX11 0 rfl rfl 8 (by decide) kX11_found_0 rfl rfl dX11_found_13 ?_
    refine lv_iload_n hx hb dX11_found_16 rfl (lv_at hl 1 rfl) ?_
    obtain ⟨hc3, hw⟩ := hw
    refine x_iald (f := laneOf) hC hI 6 rfl hc3 dX11_found_17 ?_
    refine lv_iload_n hx hb dX11_found_18 rfl (lv_at hl 2 rfl) ?_
    refine lv_icmp_eq (tgt := 25) hx hb dX11_found_19 (by decide) (fun c4 => ?_) (fun c4 => ?_)
    · replace hw := hw.1 c4
      refine lv_iload_n hx hb dX11_found_25 rfl (lv_at hl 3 rfl) ?_
      refine lv_if_lt (tgt := 42) hx hb dX11_found_26 (by decide) (fun c5 => ?_) (fun c5 => ?_)
      · replace hw := hw.1 c5
        refine lv_bipush (v := (-13 : Int32)) hx hb dX11_found_42 (by decide) ?_
        refine lv_goto (tgt := 48) hx hb dX11_found_44 (by decide) ?_
        subst hQ
        exact x_iret (u := ()) hC hI hr hlk hw rfl dX11_found_48
      · replace hw := hw.2 c5
        refine lv_iload_n hx hb dX11_found_29 rfl (lv_at hl 3 rfl) ?_
        refine lv_aload_n hx hb dX11_found_30 rfl (lv_at hl 0 rfl) ?_
        refine x_get (v := .ref (h 7)) hC hI kX11_found_cX11 0 rfl rfl 9 (by decide) kX11_found_2 rfl rfl dX11_found_31 ?_
        refine lv_iload_n hx hb dX11_found_34 rfl (lv_at hl 1 rfl) ?_
        obtain ⟨hc6, hw⟩ := hw
        refine x_iald (f := sizeOf) hC hI 7 rfl hc6 dX11_found_35 ?_
        refine lv_iload hx hb dX11_found_36 (lv_at hl 4 rfl) ?_
        refine lv_isub hx hb dX11_found_38 ?_
        refine lv_icmp_le (tgt := 47) hx hb dX11_found_39 (by decide) (fun c7 => ?_) (fun c7 => ?_)
        · replace hw := hw.1 c7
          refine lv_iconst (v := (0 : Int32)) hx hb dX11_found_47 (by decide) ?_
          subst hQ
          exact x_iret (u := ()) hC hI hr hlk hw rfl dX11_found_48
        · replace hw := hw.2 c7
          refine lv_bipush (v := (-13 : Int32)) hx hb dX11_found_42 (by decide) ?_
          refine lv_goto (tgt := 48) hx hb dX11_found_44 (by decide) ?_
          subst hQ
          exact x_iret (u := ()) hC hI hr hlk hw rfl dX11_found_48
    · replace hw := hw.2 c4
      refine lv_bipush (v := (-12 : Int32)) hx hb dX11_found_22 (by decide) ?_
      subst hQ
      exact x_iret (u := ()) hC hI hr hlk hw rfl dX11_found_24
  · replace hw := hw.2 c2
    refine lv_bipush (v := (-11 : Int32)) hx hb dX11_found_9 (by decide) ?_
    subst hQ
    exact x_iret (u := ()) hC hI hr hlk hw rfl dX11_found_11

def wX11_seenX (a1 : Int32) (a2 : Int32) (a3 : Int32) (st : Nat → Int32) (post : Int32 → Prop) : Prop := ¬ a1 = 0 ∧ ∀ x2 : Int32, x2 = (24 : Int32) / a1 → wX11_size a2 (fun (r3 : Int32) => ∃ J20 : Int32 → Prop, (∀ (t_20 : Int32), J20 t_20 → ¬ x2 = 0 ∧ ¬ x2 = 0 ∧ wX11_acrossBy x2 (t_20 / x2) (t_20 - t_20 / x2 * x2) a2 st (fun (r6 : Int32) => post r6)) ∧ ((r3 = (6 : Int32) → J20 (0 : Int32)) ∧ (¬ r3 = (6 : Int32) → J20 a3)))
def rmX11_seenX : Room := { frames := 5, cells := 0, slots := 0, locals := 106 }
set_option maxHeartbeats 4000000 in
set_option maxRecDepth 100000 in
theorem mX11_seenX (l : Launch) (D : va_G) (K : Nat → ClassId) (h : Nat → Nat) (sz : Nat) (a1 : Int32) (a2 : Int32) (a3 : Int32) (st : Nat → Int32) (past : Nat → Int32) (acts : Int32) (image : Nat → Int32) (ipast : Nat → Int32) (iacts : Int32) (tape : Nat → Int32) (tmany : Int32) (laneOf : Nat → Int32) (sizeOf : Nat → Int32) (items : Nat → Int64) (seaFirst : Nat → Int32) (worstOf : Nat → Int32) (farTo : Nat → Int32) (stepsTo : Nat → Int32) (needs : Nat → Int32) (nmany : Int32) (mat : Int32) (told : Nat → Int32)  {post : Int32 → Prop} (hw : wX11_seenX a1 a2 a3 st post) : Met l yX11_seenX wsX11_seenX rmX11_seenX (va_Pc [.ref (h 0), .int a1, .int a2, .int a3] (cP D K (fl [wMo K h st past acts image ipast iacts tape tmany laneOf sizeOf items seaFirst worstOf farTo stepsTo needs nmany mat told]) sz)) (va_Qi (fun (r : Int32) (u : Unit) => post r) (fun u t => cQ D K (fl [wMo K h st past acts image ipast iacts tape tmany laneOf sizeOf items seaFirst worstOf farTo stepsTo needs nmany mat told]) (va_A (fl [wMo K h st past acts image ipast iacts tape tmany laneOf sizeOf items seaFirst worstOf farTo stepsTo needs nmany mat told]) sz) t) (va_A (fl [wMo K h st past acts image ipast iacts tape tmany laneOf sizeOf items seaFirst worstOf farTo stepsTo needs nmany mat told]) sz)) 0 0 (va_A (fl [wMo K h st past acts image ipast iacts tape tmany laneOf sizeOf items seaFirst worstOf farTo stepsTo needs nmany mat told]) sz) := by
  refine x_entry (cc := cX11_seenX) (maxL := 6) (ret := (some .int)) (QA := fun A => va_Qi (fun (r : Int32) (u : Unit) => post r) (fun u t => cQ D K (fl [wMo K h st past acts image ipast iacts tape tmany laneOf sizeOf items seaFirst worstOf farTo stepsTo needs nmany mat told]) A t) A) (plainFor_of_name (by decide)) rfl (Nat.le_of_ble_eq_true rfl) ?_
  intro p e s m args below meth c A ls H Q hQ hC hlk hr hnm hI hl
  obtain ⟨hx, hb, hml, hown, hts, hK, hA, hZ⟩ := id hC
  obtain ⟨locs, hlocs⟩ : ∃ y : List Loc, y = [] := ⟨_, rfl⟩
  rw [← hlocs] at hI ⊢
  clear hlocs
  replace hl : lv_has ls 6 [(0, .ref (h 0)), (1, .int a1), (2, .int a2), (3, .int a3)] := hl
  replace hw : ¬ a1 = 0 ∧ ∀ x2 : Int32, x2 = (24 : Int32) / a1 → wX11_size a2 (fun (r3 : Int32) => ∃ J20 : Int32 → Prop, (∀ (t_20 : Int32), J20 t_20 → ¬ x2 = 0 ∧ ¬ x2 = 0 ∧ wX11_acrossBy x2 (t_20 / x2) (t_20 - t_20 / x2 * x2) a2 st (fun (r6 : Int32) => post r6)) ∧ ((r3 = (6 : Int32) → J20 (0 : Int32)) ∧ (¬ r3 = (6 : Int32) → J20 a3))) := hw
  refine lv_bipush (v := (24 : Int32)) hx hb dX11_seenX_0 (by decide) ?_
  refine lv_iload_n hx hb dX11_seenX_2 rfl (lv_at hl 1 rfl) ?_
  obtain ⟨hc1, hw⟩ := hw
  refine lv_idiv hx hb dX11_seenX_3 hc1 ?_
  refine lv_topi (fun x2 ex2 => ?_)
  replace hw := hw x2 ex2
  refine lv_istore (lv' := [(4, .int x2), (0, .ref (h 0)), (1, .int a1), (2, .int a2), (3, .int a3)]) hx hb dX11_seenX_4 hl (by decide) rfl (fun ls hl => ?_)
  refine lv_iload_n hx hb dX11_seenX_6 rfl (lv_at hl 3 rfl) ?_
  refine x_callSi (rest := []) hC hI [] (mX11_size l D K  _ a2 hw) (va_cwS 1 hts gX11_seenX_X11_size rfl rfl rfl (by decide +kernel) ⟨(Nat.le_of_ble_eq_true rfl), (Nat.le_of_ble_eq_true rfl)⟩) (by decide) rfl (fun _ => rfl) rfl hl.1 rfl (Nat.le_of_ble_eq_true rfl) dX11_seenX_7 ⟨(Nat.le_of_ble_eq_true rfl), (Nat.le_of_ble_eq_true rfl)⟩ (fun r3 u H locs hw hI => ?_)
  try dsimp only at hw
  have hI : wI s D A (fl [wMo K h st past acts image ipast iacts tape tmany laneOf sizeOf items seaFirst worstOf farTo stepsTo needs nmany mat told]) H locs := hI
  refine lv_bipush (v := (6 : Int32)) hx hb dX11_seenX_10 (by decide) ?_
  obtain ⟨J20, hJ20, hw⟩ := hw
  have jn20 : ∀ (t_20 : Int32) (ls : Array Slot) (H : Heap) (locs : List Loc), J20 t_20 → wI s D A (fl [wMo K h st past acts image ipast iacts tape tmany laneOf sizeOf items seaFirst worstOf farTo stepsTo needs nmany mat told]) H locs → lv_has ls 6 [(0, .ref (h 0)), (2, .int a2), (4, .int x2)] → W p l e rmX11_seenX s m args below meth c H locs 0 0 Q (F0 m 20 ls [.int t_20]) := by
    intro t_20 ls H locs hw hI hl
    replace hw := hJ20 t_20 hw
    refine lv_istore (lv' := [(5, .int t_20), (0, .ref (h 0)), (2, .int a2), (4, .int x2)]) hx hb dX11_seenX_20 hl (by decide) rfl (fun ls hl => ?_)
    refine lv_aload_n hx hb dX11_seenX_22 rfl (lv_at hl 1 rfl) ?_
    refine lv_iload hx hb dX11_seenX_23 (lv_at hl 3 rfl) ?_
    refine lv_iload hx hb dX11_seenX_25 (lv_at hl 0 rfl) ?_
    refine lv_iload hx hb dX11_seenX_27 (lv_at hl 3 rfl) ?_
    obtain ⟨hc4, hw⟩ := hw
    refine lv_idiv hx hb dX11_seenX_29 hc4 ?_
    refine lv_iload hx hb dX11_seenX_30 (lv_at hl 0 rfl) ?_
    refine lv_iload hx hb dX11_seenX_32 (lv_at hl 3 rfl) ?_
    obtain ⟨hc5, hw⟩ := hw
    refine lv_irem hx hb dX11_seenX_34 hc5 ?_
    refine lv_iload_n hx hb dX11_seenX_35 rfl (lv_at hl 2 rfl) ?_
    refine x_callWi (rest := []) hC hI (mX11_acrossBy l D K h _ x2 (t_20 / x2) (t_20 - t_20 / x2 * x2) a2 st past acts image ipast iacts tape tmany laneOf sizeOf items seaFirst worstOf farTo stepsTo needs nmany mat told hw) (cwV 4 hts gX11_seenX_X11_acrossBy rfl rfl rfl (by decide +kernel) ⟨(Nat.le_of_ble_eq_true rfl), (Nat.le_of_ble_eq_true rfl)⟩) (fun _ => rfl) 0 9 rfl rfl rfl rfl hl.1 rfl (Nat.le_of_ble_eq_true rfl) dX11_seenX_36 ⟨(Nat.le_of_ble_eq_true rfl), (Nat.le_of_ble_eq_true rfl)⟩ (fun r6 u H locs hw hI => ?_)
    try dsimp only at hw
    have hI : wI s D A (fl [wMo K h st past acts image ipast iacts tape tmany laneOf sizeOf items seaFirst worstOf farTo stepsTo needs nmany mat told]) H locs := hI
    subst hQ
    exact x_iret (u := ()) hC hI hr hlk hw rfl dX11_seenX_39
  refine lv_icmp_ne (tgt := 19) hx hb dX11_seenX_12 (by decide) (fun c7 => ?_) (fun c7 => ?_)
  · replace hw := hw.2 c7
    refine lv_iload_n hx hb dX11_seenX_19 rfl (lv_at hl 4 rfl) ?_
    exact jn20 a3 ls H locs hw hI (lv_sub hl [1, 3, 0] rfl)
  · replace hw := hw.1 c7
    refine lv_iconst (v := (0 : Int32)) hx hb dX11_seenX_15 (by decide) ?_
    refine lv_goto (tgt := 20) hx hb dX11_seenX_16 (by decide) ?_
    exact jn20 (0 : Int32) ls H locs hw hI (lv_sub hl [1, 3, 0] rfl)

def wX11_isSeen (a1 : Int32) (a2 : Int32) (a3 : Int32) (st : Nat → Int32) (items : Nat → Int64) (post : Int32 → Prop) : Prop := (∃ (I6 : Int32 → Int32 → Prop) (mu6 : Int32 → Int32 → Nat), I6 (1 : Int32) (0 : Int32) ∧ ∀ (l4_6 : Int32) (l5_6 : Int32), I6 l4_6 l5_6 → ((a3 ≤ l5_6 → (l4_6 = 0 ∨ l4_6 = 1) ∧ post l4_6) ∧ (¬ a3 ≤ l5_6 → vp_in (a2 + ((3 : Int32) * l5_6)) 120 ∧ ∀ x4 : Int32, x4 = (items (a2 + ((3 : Int32) * l5_6)).toNatClampNeg).toInt32 → vp_in ((a2 + ((3 : Int32) * l5_6)) + (1 : Int32)) 120 ∧ ∀ x6 : Int32, x6 = (items ((a2 + ((3 : Int32) * l5_6)) + (1 : Int32)).toNatClampNeg).toInt32 → ((l4_6 = 0 → ∀ x8 : Int32, x8 = l5_6 + 1 → (I6 (0 : Int32) x8 ∧ mu6 (0 : Int32) x8 < mu6 l4_6 l5_6)) ∧ (¬ l4_6 = 0 → wX11_seenX a1 x4 x6 st (fun (r9 : Int32) => vp_in ((a2 + ((3 : Int32) * l5_6)) + (2 : Int32)) 120 ∧ (((lg_cmp r9.toInt64 (items ((a2 + ((3 : Int32) * l5_6)) + (2 : Int32)).toNatClampNeg)) = 0 → ∀ x13 : Int32, x13 = l5_6 + 1 → (I6 (1 : Int32) x13 ∧ mu6 (1 : Int32) x13 < mu6 l4_6 l5_6)) ∧ (¬ (lg_cmp r9.toInt64 (items ((a2 + ((3 : Int32) * l5_6)) + (2 : Int32)).toNatClampNeg)) = 0 → ∀ x12 : Int32, x12 = l5_6 + 1 → (I6 (0 : Int32) x12 ∧ mu6 (0 : Int32) x12 < mu6 l4_6 l5_6)))))))))
def rmX11_isSeen : Room := { frames := 6, cells := 0, slots := 0, locals := 131 }
theorem kX11_isSeen_0 : Cond.fieldLink RX11 35 "GoreGlobeModel" "items" "[J" ∈ wsX11_isSeen := List.mem_cons_of_mem _ (List.mem_append_left _ (List.mem_append_left _ (List.mem_of_getElem? (i := 0) rfl)))
theorem kX11_isSeen_cX11 : ∀ w ∈ wsX110, w ∈ wsX11_isSeen := fun _ h => List.mem_cons_of_mem _ (List.mem_append_right _ h)
set_option maxHeartbeats 4000000 in
set_option maxRecDepth 100000 in
theorem mX11_isSeen (l : Launch) (D : va_G) (K : Nat → ClassId) (h : Nat → Nat) (sz : Nat) (a1 : Int32) (a2 : Int32) (a3 : Int32) (st : Nat → Int32) (past : Nat → Int32) (acts : Int32) (image : Nat → Int32) (ipast : Nat → Int32) (iacts : Int32) (tape : Nat → Int32) (tmany : Int32) (laneOf : Nat → Int32) (sizeOf : Nat → Int32) (items : Nat → Int64) (seaFirst : Nat → Int32) (worstOf : Nat → Int32) (farTo : Nat → Int32) (stepsTo : Nat → Int32) (needs : Nat → Int32) (nmany : Int32) (mat : Int32) (told : Nat → Int32)  {post : Int32 → Prop} (hw : wX11_isSeen a1 a2 a3 st items post) : Met l yX11_isSeen wsX11_isSeen rmX11_isSeen (va_Pc [.ref (h 0), .int a1, .int a2, .int a3] (cP D K (fl [wMo K h st past acts image ipast iacts tape tmany laneOf sizeOf items seaFirst worstOf farTo stepsTo needs nmany mat told]) sz)) (va_Qi (fun (r : Int32) (u : Unit) => post r) (fun u t => cQ D K (fl [wMo K h st past acts image ipast iacts tape tmany laneOf sizeOf items seaFirst worstOf farTo stepsTo needs nmany mat told]) (va_A (fl [wMo K h st past acts image ipast iacts tape tmany laneOf sizeOf items seaFirst worstOf farTo stepsTo needs nmany mat told]) sz) t) (va_A (fl [wMo K h st past acts image ipast iacts tape tmany laneOf sizeOf items seaFirst worstOf farTo stepsTo needs nmany mat told]) sz)) 0 0 (va_A (fl [wMo K h st past acts image ipast iacts tape tmany laneOf sizeOf items seaFirst worstOf farTo stepsTo needs nmany mat told]) sz) := by
  refine x_entry (cc := cX11_isSeen) (maxL := 8) (ret := (some .boolean)) (QA := fun A => va_Qi (fun (r : Int32) (u : Unit) => post r) (fun u t => cQ D K (fl [wMo K h st past acts image ipast iacts tape tmany laneOf sizeOf items seaFirst worstOf farTo stepsTo needs nmany mat told]) A t) A) (plainFor_of_name (by decide)) rfl (Nat.le_of_ble_eq_true rfl) ?_
  intro p e s m args below meth c A ls H Q hQ hC hlk hr hnm hI hl
  obtain ⟨hx, hb, hml, hown, hts, hK, hA, hZ⟩ := id hC
  obtain ⟨locs, hlocs⟩ : ∃ y : List Loc, y = [] := ⟨_, rfl⟩
  rw [← hlocs] at hI ⊢
  clear hlocs
  replace hl : lv_has ls 8 [(0, .ref (h 0)), (1, .int a1), (2, .int a2), (3, .int a3)] := hl
  replace hw : (∃ (I6 : Int32 → Int32 → Prop) (mu6 : Int32 → Int32 → Nat), I6 (1 : Int32) (0 : Int32) ∧ ∀ (l4_6 : Int32) (l5_6 : Int32), I6 l4_6 l5_6 → ((a3 ≤ l5_6 → (l4_6 = 0 ∨ l4_6 = 1) ∧ post l4_6) ∧ (¬ a3 ≤ l5_6 → vp_in (a2 + ((3 : Int32) * l5_6)) 120 ∧ ∀ x4 : Int32, x4 = (items (a2 + ((3 : Int32) * l5_6)).toNatClampNeg).toInt32 → vp_in ((a2 + ((3 : Int32) * l5_6)) + (1 : Int32)) 120 ∧ ∀ x6 : Int32, x6 = (items ((a2 + ((3 : Int32) * l5_6)) + (1 : Int32)).toNatClampNeg).toInt32 → ((l4_6 = 0 → ∀ x8 : Int32, x8 = l5_6 + 1 → (I6 (0 : Int32) x8 ∧ mu6 (0 : Int32) x8 < mu6 l4_6 l5_6)) ∧ (¬ l4_6 = 0 → wX11_seenX a1 x4 x6 st (fun (r9 : Int32) => vp_in ((a2 + ((3 : Int32) * l5_6)) + (2 : Int32)) 120 ∧ (((lg_cmp r9.toInt64 (items ((a2 + ((3 : Int32) * l5_6)) + (2 : Int32)).toNatClampNeg)) = 0 → ∀ x13 : Int32, x13 = l5_6 + 1 → (I6 (1 : Int32) x13 ∧ mu6 (1 : Int32) x13 < mu6 l4_6 l5_6)) ∧ (¬ (lg_cmp r9.toInt64 (items ((a2 + ((3 : Int32) * l5_6)) + (2 : Int32)).toNatClampNeg)) = 0 → ∀ x12 : Int32, x12 = l5_6 + 1 → (I6 (0 : Int32) x12 ∧ mu6 (0 : Int32) x12 < mu6 l4_6 l5_6))))))))) := hw
  refine lv_iconst (v := (1 : Int32)) hx hb dX11_isSeen_0 (by decide) ?_
  refine lv_istore (lv' := [(4, .int (1 : Int32)), (0, .ref (h 0)), (1, .int a1), (2, .int a2), (3, .int a3)]) hx hb dX11_isSeen_1 hl (by decide) rfl (fun ls hl => ?_)
  refine lv_iconst (v := (0 : Int32)) hx hb dX11_isSeen_3 (by decide) ?_
  refine lv_istore (lv' := [(5, .int (0 : Int32)), (4, .int (1 : Int32)), (0, .ref (h 0)), (1, .int a1), (2, .int a2), (3, .int a3)]) hx hb dX11_isSeen_4 hl (by decide) rfl (fun ls hl => ?_)
  obtain ⟨I6, mu6, hw, hb6⟩ := hw
  have lp6 : ∀ (k : Nat) (l4_6 : Int32) (l5_6 : Int32) (ls : Array Slot) (H : Heap) (locs : List Loc), mu6 l4_6 l5_6 < k → I6 l4_6 l5_6 → wI s D A (fl [wMo K h st past acts image ipast iacts tape tmany laneOf sizeOf items seaFirst worstOf farTo stepsTo needs nmany mat told]) H locs → lv_has ls 8 [(0, .ref (h 0)), (1, .int a1), (2, .int a2), (3, .int a3), (4, .int l4_6), (5, .int l5_6)] → W p l e rmX11_isSeen s m args below meth c H locs 0 0 Q (F0 m 6 ls []) := by
    intro k
    induction k with
    | zero => intro l4_6 l5_6 ls H locs hmu; exact absurd hmu (Nat.not_lt_zero _)
    | succ k ih6 =>
      intro l4_6 l5_6 ls H locs hmu6 hw hI hl
      replace hw := hb6 l4_6 l5_6 hw
      refine lv_iload hx hb dX11_isSeen_6 (lv_at hl 5 rfl) ?_
      refine lv_iload_n hx hb dX11_isSeen_8 rfl (lv_at hl 3 rfl) ?_
      refine lv_icmp_ge (tgt := 87) hx hb dX11_isSeen_9 (by decide) (fun c1 => ?_) (fun c1 => ?_)
      · replace hw := hw.1 c1
        refine lv_iload hx hb dX11_isSeen_87 (lv_at hl 4 rfl) ?_
        obtain ⟨hc2, hw⟩ := hw
        subst hQ
        exact x_zret (u := ()) hC hI hr hlk hw rfl hc2 dX11_isSeen_89
      · replace hw := hw.2 c1
        refine lv_aload_n hx hb dX11_isSeen_12 rfl (lv_at hl 0 rfl) ?_
        refine x_get (v := .ref (h 8)) hC hI kX11_isSeen_cX11 0 rfl rfl 10 (by decide) kX11_isSeen_0 rfl rfl dX11_isSeen_13 ?_
        refine lv_iload_n hx hb dX11_isSeen_16 rfl (lv_at hl 2 rfl) ?_
        refine lv_iconst (v := (3 : Int32)) hx hb dX11_isSeen_17 (by decide) ?_
        refine lv_iload hx hb dX11_isSeen_18 (lv_at hl 5 rfl) ?_
        refine lv_imul hx hb dX11_isSeen_20 ?_
        refine lv_iadd hx hb dX11_isSeen_21 ?_
        obtain ⟨hc3, hw⟩ := hw
        refine x_lald (f := items) hC hI 8 rfl hc3 dX11_isSeen_22 ?_
        refine lv_l2i (v := (items (a2 + ((3 : Int32) * l5_6)).toNatClampNeg).toInt32) hx hb dX11_isSeen_23 rfl ?_
        refine lv_topi (fun x4 ex4 => ?_)
        replace hw := hw x4 ex4
        refine lv_istore (lv' := [(6, .int x4), (0, .ref (h 0)), (1, .int a1), (2, .int a2), (3, .int a3), (4, .int l4_6), (5, .int l5_6)]) hx hb dX11_isSeen_24 hl (by decide) rfl (fun ls hl => ?_)
        refine lv_aload_n hx hb dX11_isSeen_26 rfl (lv_at hl 1 rfl) ?_
        refine x_get (v := .ref (h 8)) hC hI kX11_isSeen_cX11 0 rfl rfl 10 (by decide) kX11_isSeen_0 rfl rfl dX11_isSeen_27 ?_
        refine lv_iload_n hx hb dX11_isSeen_30 rfl (lv_at hl 3 rfl) ?_
        refine lv_iconst (v := (3 : Int32)) hx hb dX11_isSeen_31 (by decide) ?_
        refine lv_iload hx hb dX11_isSeen_32 (lv_at hl 6 rfl) ?_
        refine lv_imul hx hb dX11_isSeen_34 ?_
        refine lv_iadd hx hb dX11_isSeen_35 ?_
        refine lv_iconst (v := (1 : Int32)) hx hb dX11_isSeen_36 (by decide) ?_
        refine lv_iadd hx hb dX11_isSeen_37 ?_
        obtain ⟨hc5, hw⟩ := hw
        refine x_lald (f := items) hC hI 8 rfl hc5 dX11_isSeen_38 ?_
        refine lv_l2i (v := (items ((a2 + ((3 : Int32) * l5_6)) + (1 : Int32)).toNatClampNeg).toInt32) hx hb dX11_isSeen_39 rfl ?_
        refine lv_topi (fun x6 ex6 => ?_)
        replace hw := hw x6 ex6
        refine lv_istore (lv' := [(7, .int x6), (6, .int x4), (0, .ref (h 0)), (1, .int a1), (2, .int a2), (3, .int a3), (4, .int l4_6), (5, .int l5_6)]) hx hb dX11_isSeen_40 hl (by decide) rfl (fun ls hl => ?_)
        refine lv_iload hx hb dX11_isSeen_42 (lv_at hl 6 rfl) ?_
        refine lv_if_eq (tgt := 78) hx hb dX11_isSeen_44 (by decide) (fun c7 => ?_) (fun c7 => ?_)
        · replace hw := hw.1 c7
          refine lv_iconst (v := (0 : Int32)) hx hb dX11_isSeen_78 (by decide) ?_
          refine lv_istore (lv' := [(4, .int (0 : Int32)), (7, .int x6), (6, .int x4), (0, .ref (h 0)), (1, .int a1), (2, .int a2), (3, .int a3), (5, .int l5_6)]) hx hb dX11_isSeen_79 hl (by decide) rfl (fun ls hl => ?_)
          obtain ⟨x8, ex8⟩ : ∃ y : Int32, y = l5_6 + 1 := ⟨_, rfl⟩
          replace hw := hw x8 ex8
          refine lv_iinc (v := x8) (lv' := [(5, .int x8), (4, .int (0 : Int32)), (7, .int x6), (6, .int x4), (0, .ref (h 0)), (1, .int a1), (2, .int a2), (3, .int a3)]) hx hb dX11_isSeen_81 hl (k := 7) rfl (by rw [ex8]; rfl) (by decide) rfl (fun ls hl => ?_)
          refine lv_goto (tgt := 6) hx hb dX11_isSeen_84 (by decide) ?_
          exact ih6 (0 : Int32) x8 ls H locs (Nat.lt_of_lt_of_le hw.2 (Nat.le_of_lt_succ hmu6)) hw.1 hI (lv_sub hl [4, 5, 6, 7, 1, 0] rfl)
        · replace hw := hw.2 c7
          refine lv_aload_n hx hb dX11_isSeen_47 rfl (lv_at hl 2 rfl) ?_
          refine lv_iload_n hx hb dX11_isSeen_48 rfl (lv_at hl 3 rfl) ?_
          refine lv_iload hx hb dX11_isSeen_49 (lv_at hl 1 rfl) ?_
          refine lv_iload hx hb dX11_isSeen_51 (lv_at hl 0 rfl) ?_
          refine x_callWi (rest := []) hC hI (mX11_seenX l D K h _ a1 x4 x6 st past acts image ipast iacts tape tmany laneOf sizeOf items seaFirst worstOf farTo stepsTo needs nmany mat told hw) (cwV 3 hts gX11_isSeen_X11_seenX rfl rfl rfl (by decide +kernel) ⟨(Nat.le_of_ble_eq_true rfl), (Nat.le_of_ble_eq_true rfl)⟩) (fun _ => rfl) 0 9 rfl rfl rfl rfl hl.1 rfl (Nat.le_of_ble_eq_true rfl) dX11_isSeen_53 ⟨(Nat.le_of_ble_eq_true rfl), (Nat.le_of_ble_eq_true rfl)⟩ (fun r9 u H locs hw hI => ?_)
          try dsimp only at hw
          have hI : wI s D A (fl [wMo K h st past acts image ipast iacts tape tmany laneOf sizeOf items seaFirst worstOf farTo stepsTo needs nmany mat told]) H locs := hI
          refine lv_i2l (v := r9.toInt64) hx hb dX11_isSeen_56 rfl ?_
          refine lv_aload_n hx hb dX11_isSeen_57 rfl (lv_at hl 2 rfl) ?_
          refine x_get (v := .ref (h 8)) hC hI kX11_isSeen_cX11 0 rfl rfl 10 (by decide) kX11_isSeen_0 rfl rfl dX11_isSeen_58 ?_
          refine lv_iload_n hx hb dX11_isSeen_61 rfl (lv_at hl 4 rfl) ?_
          refine lv_iconst (v := (3 : Int32)) hx hb dX11_isSeen_62 (by decide) ?_
          refine lv_iload hx hb dX11_isSeen_63 (lv_at hl 7 rfl) ?_
          refine lv_imul hx hb dX11_isSeen_65 ?_
          refine lv_iadd hx hb dX11_isSeen_66 ?_
          refine lv_iconst (v := (2 : Int32)) hx hb dX11_isSeen_67 (by decide) ?_
          refine lv_iadd hx hb dX11_isSeen_68 ?_
          obtain ⟨hc10, hw⟩ := hw
          refine x_lald (f := items) hC hI 8 rfl hc10 dX11_isSeen_69 ?_
          refine W.lcmp hx hb dX11_isSeen_70 ?_
          refine lv_if_ne (tgt := 78) hx hb dX11_isSeen_71 (by decide) (fun c11 => ?_) (fun c11 => ?_)
          · replace hw := hw.2 c11
            refine lv_iconst (v := (0 : Int32)) hx hb dX11_isSeen_78 (by decide) ?_
            refine lv_istore (lv' := [(4, .int (0 : Int32)), (7, .int x6), (6, .int x4), (0, .ref (h 0)), (1, .int a1), (2, .int a2), (3, .int a3), (5, .int l5_6)]) hx hb dX11_isSeen_79 hl (by decide) rfl (fun ls hl => ?_)
            obtain ⟨x12, ex12⟩ : ∃ y : Int32, y = l5_6 + 1 := ⟨_, rfl⟩
            replace hw := hw x12 ex12
            refine lv_iinc (v := x12) (lv' := [(5, .int x12), (4, .int (0 : Int32)), (7, .int x6), (6, .int x4), (0, .ref (h 0)), (1, .int a1), (2, .int a2), (3, .int a3)]) hx hb dX11_isSeen_81 hl (k := 7) rfl (by rw [ex12]; rfl) (by decide) rfl (fun ls hl => ?_)
            refine lv_goto (tgt := 6) hx hb dX11_isSeen_84 (by decide) ?_
            exact ih6 (0 : Int32) x12 ls H locs (Nat.lt_of_lt_of_le hw.2 (Nat.le_of_lt_succ hmu6)) hw.1 hI (lv_sub hl [4, 5, 6, 7, 1, 0] rfl)
          · replace hw := hw.1 c11
            refine lv_iconst (v := (1 : Int32)) hx hb dX11_isSeen_74 (by decide) ?_
            refine lv_goto (tgt := 79) hx hb dX11_isSeen_75 (by decide) ?_
            refine lv_istore (lv' := [(4, .int (1 : Int32)), (7, .int x6), (6, .int x4), (0, .ref (h 0)), (1, .int a1), (2, .int a2), (3, .int a3), (5, .int l5_6)]) hx hb dX11_isSeen_79 hl (by decide) rfl (fun ls hl => ?_)
            obtain ⟨x13, ex13⟩ : ∃ y : Int32, y = l5_6 + 1 := ⟨_, rfl⟩
            replace hw := hw x13 ex13
            refine lv_iinc (v := x13) (lv' := [(5, .int x13), (4, .int (1 : Int32)), (7, .int x6), (6, .int x4), (0, .ref (h 0)), (1, .int a1), (2, .int a2), (3, .int a3)]) hx hb dX11_isSeen_81 hl (k := 7) rfl (by rw [ex13]; rfl) (by decide) rfl (fun ls hl => ?_)
            refine lv_goto (tgt := 6) hx hb dX11_isSeen_84 (by decide) ?_
            exact ih6 (1 : Int32) x13 ls H locs (Nat.lt_of_lt_of_le hw.2 (Nat.le_of_lt_succ hmu6)) hw.1 hI (lv_sub hl [4, 5, 6, 7, 1, 0] rfl)
  exact lp6 (mu6 (1 : Int32) (0 : Int32) + 1) (1 : Int32) (0 : Int32) ls H locs (Nat.lt_succ_self _) hw hI (lv_sub hl [2, 3, 4, 5, 1, 0] rfl)

def wX11_seen (a1 : Int32) (a2 : Int32) (a3 : Int32) (a4 : Int32) (st : Nat → Int32) (laneOf : Nat → Int32) (sizeOf : Nat → Int32) (items : Nat → Int64) (post : Int32 → Prop) : Prop := wX11_isSheet a1 a2 (fun (r1 : Int32) => ((r1 = 0 → post (-1 : Int32)) ∧ (¬ r1 = 0 → wX11_in a4 (1 : Int32) (8 : Int32) (fun (r3 : Int32) => ((r3 = 0 → post (-1 : Int32)) ∧ (¬ r3 = 0 → wX11_found a1 a2 a3 ((3 : Int32) * a4) laneOf sizeOf (fun (r5 : Int32) => ((r5 = 0 → ∀ x7 : Int32, x7 = ((30 : Int32) * a1) + a3 → (∃ (I53 : Int32 → Prop) (mu53 : Int32 → Nat), I53 (0 : Int32) ∧ ∀ (l7_53 : Int32), I53 l7_53 → ((a4 ≤ l7_53 → (∃ (I139 : Int32 → Int32 → Prop) (mu139 : Int32 → Int32 → Nat), I139 (0 : Int32) (0 : Int32) ∧ ∀ (l7_139 : Int32) (l8_139 : Int32), I139 l7_139 l8_139 → (((6 : Int32) ≤ l8_139 → post l7_139) ∧ (¬ (6 : Int32) ≤ l8_139 → wX11_cutsOf l8_139 (fun (r10 : Int32) => wX11_isSeen r10 x7 a4 st items (fun (r11 : Int32) => ((r11 = 0 → ∀ x13 : Int32, x13 = l7_139 ||| (0 : Int32) → ∀ x14 : Int32, x14 = l8_139 + 1 → (I139 x13 x14 ∧ mu139 x13 x14 < mu139 l7_139 l8_139)) ∧ (¬ r11 = 0 → ∀ x15 : Int32, x15 = l7_139 ||| ((1 : Int32) <<< (l8_139 &&& 31)) → ∀ x16 : Int32, x16 = l8_139 + 1 → (I139 x15 x16 ∧ mu139 x15 x16 < mu139 l7_139 l8_139))))))))) ∧ (¬ a4 ≤ l7_53 → vp_in (x7 + ((3 : Int32) * l7_53)) 120 ∧ ∀ x18 : Int64, x18 = items (x7 + ((3 : Int32) * l7_53)).toNatClampNeg → vp_in ((x7 + ((3 : Int32) * l7_53)) + (1 : Int32)) 120 ∧ ∀ x20 : Int64, x20 = items ((x7 + ((3 : Int32) * l7_53)) + (1 : Int32)).toNatClampNeg → (((lg_cmp x18 (-6 : Int64)) < 0 → post (-2 : Int32)) ∧ (¬ (lg_cmp x18 (-6 : Int64)) < 0 → ((0 < (lg_cmp x18 (6 : Int64)) → post (-2 : Int32)) ∧ (¬ 0 < (lg_cmp x18 (6 : Int64)) → (((lg_cmp x20 (0 : Int64)) < 0 → post (-2 : Int32)) ∧ (¬ (lg_cmp x20 (0 : Int64)) < 0 → (((lg_cmp x20 (23 : Int64)) ≤ 0 → ∀ x25 : Int32, x25 = l7_53 + 1 → (I53 x25 ∧ mu53 x25 < mu53 l7_53)) ∧ (¬ (lg_cmp x20 (23 : Int64)) ≤ 0 → post (-2 : Int32))))))))))))) ∧ (¬ r5 = 0 → post r5)))))))))
def rmX11_seen : Room := { frames := 7, cells := 0, slots := 0, locals := 158 }
theorem kX11_seen_0 : Cond.fieldLink RX11 35 "GoreGlobeModel" "items" "[J" ∈ wsX11_seen := List.mem_cons_of_mem _ (List.mem_append_left _ (List.mem_append_left _ (List.mem_of_getElem? (i := 0) rfl)))
theorem kX11_seen_cX11 : ∀ w ∈ wsX110, w ∈ wsX11_seen := fun _ h => List.mem_cons_of_mem _ (List.mem_append_right _ h)
theorem kX11_seen_2 : Cond.constantLong RX11 303 (-6) ∈ wsX11_seen := List.mem_cons_of_mem _ (List.mem_append_left _ (List.mem_append_left _ (List.mem_of_getElem? (i := 1) rfl)))
theorem kX11_seen_3 : Cond.constantLong RX11 305 (6) ∈ wsX11_seen := List.mem_cons_of_mem _ (List.mem_append_left _ (List.mem_append_left _ (List.mem_of_getElem? (i := 2) rfl)))
theorem kX11_seen_4 : Cond.constantLong RX11 307 (23) ∈ wsX11_seen := List.mem_cons_of_mem _ (List.mem_append_left _ (List.mem_append_left _ (List.mem_of_getElem? (i := 3) rfl)))
set_option maxHeartbeats 4000000 in
set_option maxRecDepth 100000 in
theorem mX11_seen (l : Launch) (D : va_G) (K : Nat → ClassId) (h : Nat → Nat) (sz : Nat) (a1 : Int32) (a2 : Int32) (a3 : Int32) (a4 : Int32) (st : Nat → Int32) (past : Nat → Int32) (acts : Int32) (image : Nat → Int32) (ipast : Nat → Int32) (iacts : Int32) (tape : Nat → Int32) (tmany : Int32) (laneOf : Nat → Int32) (sizeOf : Nat → Int32) (items : Nat → Int64) (seaFirst : Nat → Int32) (worstOf : Nat → Int32) (farTo : Nat → Int32) (stepsTo : Nat → Int32) (needs : Nat → Int32) (nmany : Int32) (mat : Int32) (told : Nat → Int32)  {post : Int32 → Prop} (hw : wX11_seen a1 a2 a3 a4 st laneOf sizeOf items post) : Met l yX11_seen wsX11_seen rmX11_seen (va_Pc [.ref (h 0), .int a1, .int a2, .int a3, .int a4] (cP D K (fl [wMo K h st past acts image ipast iacts tape tmany laneOf sizeOf items seaFirst worstOf farTo stepsTo needs nmany mat told]) sz)) (va_Qi (fun (r : Int32) (u : Unit) => post r) (fun u t => cQ D K (fl [wMo K h st past acts image ipast iacts tape tmany laneOf sizeOf items seaFirst worstOf farTo stepsTo needs nmany mat told]) (va_A (fl [wMo K h st past acts image ipast iacts tape tmany laneOf sizeOf items seaFirst worstOf farTo stepsTo needs nmany mat told]) sz) t) (va_A (fl [wMo K h st past acts image ipast iacts tape tmany laneOf sizeOf items seaFirst worstOf farTo stepsTo needs nmany mat told]) sz)) 0 0 (va_A (fl [wMo K h st past acts image ipast iacts tape tmany laneOf sizeOf items seaFirst worstOf farTo stepsTo needs nmany mat told]) sz) := by
  refine x_entry (cc := cX11_seen) (maxL := 12) (ret := (some .int)) (QA := fun A => va_Qi (fun (r : Int32) (u : Unit) => post r) (fun u t => cQ D K (fl [wMo K h st past acts image ipast iacts tape tmany laneOf sizeOf items seaFirst worstOf farTo stepsTo needs nmany mat told]) A t) A) (plainFor_of_name (by decide)) rfl (Nat.le_of_ble_eq_true rfl) ?_
  intro p e s m args below meth c A ls H Q hQ hC hlk hr hnm hI hl
  obtain ⟨hx, hb, hml, hown, hts, hK, hA, hZ⟩ := id hC
  obtain ⟨locs, hlocs⟩ : ∃ y : List Loc, y = [] := ⟨_, rfl⟩
  rw [← hlocs] at hI ⊢
  clear hlocs
  replace hl : lv_has ls 12 [(0, .ref (h 0)), (1, .int a1), (2, .int a2), (3, .int a3), (4, .int a4)] := hl
  replace hw : wX11_isSheet a1 a2 (fun (r1 : Int32) => ((r1 = 0 → post (-1 : Int32)) ∧ (¬ r1 = 0 → wX11_in a4 (1 : Int32) (8 : Int32) (fun (r3 : Int32) => ((r3 = 0 → post (-1 : Int32)) ∧ (¬ r3 = 0 → wX11_found a1 a2 a3 ((3 : Int32) * a4) laneOf sizeOf (fun (r5 : Int32) => ((r5 = 0 → ∀ x7 : Int32, x7 = ((30 : Int32) * a1) + a3 → (∃ (I53 : Int32 → Prop) (mu53 : Int32 → Nat), I53 (0 : Int32) ∧ ∀ (l7_53 : Int32), I53 l7_53 → ((a4 ≤ l7_53 → (∃ (I139 : Int32 → Int32 → Prop) (mu139 : Int32 → Int32 → Nat), I139 (0 : Int32) (0 : Int32) ∧ ∀ (l7_139 : Int32) (l8_139 : Int32), I139 l7_139 l8_139 → (((6 : Int32) ≤ l8_139 → post l7_139) ∧ (¬ (6 : Int32) ≤ l8_139 → wX11_cutsOf l8_139 (fun (r10 : Int32) => wX11_isSeen r10 x7 a4 st items (fun (r11 : Int32) => ((r11 = 0 → ∀ x13 : Int32, x13 = l7_139 ||| (0 : Int32) → ∀ x14 : Int32, x14 = l8_139 + 1 → (I139 x13 x14 ∧ mu139 x13 x14 < mu139 l7_139 l8_139)) ∧ (¬ r11 = 0 → ∀ x15 : Int32, x15 = l7_139 ||| ((1 : Int32) <<< (l8_139 &&& 31)) → ∀ x16 : Int32, x16 = l8_139 + 1 → (I139 x15 x16 ∧ mu139 x15 x16 < mu139 l7_139 l8_139))))))))) ∧ (¬ a4 ≤ l7_53 → vp_in (x7 + ((3 : Int32) * l7_53)) 120 ∧ ∀ x18 : Int64, x18 = items (x7 + ((3 : Int32) * l7_53)).toNatClampNeg → vp_in ((x7 + ((3 : Int32) * l7_53)) + (1 : Int32)) 120 ∧ ∀ x20 : Int64, x20 = items ((x7 + ((3 : Int32) * l7_53)) + (1 : Int32)).toNatClampNeg → (((lg_cmp x18 (-6 : Int64)) < 0 → post (-2 : Int32)) ∧ (¬ (lg_cmp x18 (-6 : Int64)) < 0 → ((0 < (lg_cmp x18 (6 : Int64)) → post (-2 : Int32)) ∧ (¬ 0 < (lg_cmp x18 (6 : Int64)) → (((lg_cmp x20 (0 : Int64)) < 0 → post (-2 : Int32)) ∧ (¬ (lg_cmp x20 (0 : Int64)) < 0 → (((lg_cmp x20 (23 : Int64)) ≤ 0 → ∀ x25 : Int32, x25 = l7_53 + 1 → (I53 x25 ∧ mu53 x25 < mu53 l7_53)) ∧ (¬ (lg_cmp x20 (23 : Int64)) ≤ 0 → post (-2 : Int32))))))))))))) ∧ (¬ r5 = 0 → post r5))))))))) := hw
  refine lv_iload_n hx hb dX11_seen_0 rfl (lv_at hl 1 rfl) ?_
  refine lv_iload_n hx hb dX11_seen_1 rfl (lv_at hl 2 rfl) ?_
  refine x_callSi (rest := []) hC hI [] (mX11_isSheet l D K  _ a1 a2 hw) (va_cwS 2 hts gX11_seen_X11_isSheet rfl rfl rfl (by decide +kernel) ⟨(Nat.le_of_ble_eq_true rfl), (Nat.le_of_ble_eq_true rfl)⟩) (by decide) rfl (fun _ => rfl) rfl hl.1 rfl (Nat.le_of_ble_eq_true rfl) dX11_seen_2 ⟨(Nat.le_of_ble_eq_true rfl), (Nat.le_of_ble_eq_true rfl)⟩ (fun r1 u H locs hw hI => ?_)
  try dsimp only at hw
  have hI : wI s D A (fl [wMo K h st past acts image ipast iacts tape tmany laneOf sizeOf items seaFirst worstOf farTo stepsTo needs nmany mat told]) H locs := hI
  refine lv_if_eq (tgt := 19) hx hb dX11_seen_5 (by decide) (fun c2 => ?_) (fun c2 => ?_)
  · replace hw := hw.1 c2
    refine lv_iconst (v := (-1 : Int32)) hx hb dX11_seen_19 (by decide) ?_
    subst hQ
    exact x_iret (u := ()) hC hI hr hlk hw rfl dX11_seen_20
  · replace hw := hw.2 c2
    refine lv_iload hx hb dX11_seen_8 (lv_at hl 4 rfl) ?_
    refine lv_iconst (v := (1 : Int32)) hx hb dX11_seen_10 (by decide) ?_
    refine lv_bipush (v := (8 : Int32)) hx hb dX11_seen_11 (by decide) ?_
    refine x_callSi (rest := []) hC hI [] (mX11_in l D K  _ a4 (1 : Int32) (8 : Int32) hw) (va_cwS 3 hts gX11_seen_X11_in rfl rfl rfl (by decide +kernel) ⟨(Nat.le_of_ble_eq_true rfl), (Nat.le_of_ble_eq_true rfl)⟩) (by decide) rfl (fun _ => rfl) rfl hl.1 rfl (Nat.le_of_ble_eq_true rfl) dX11_seen_13 ⟨(Nat.le_of_ble_eq_true rfl), (Nat.le_of_ble_eq_true rfl)⟩ (fun r3 u H locs hw hI => ?_)
    try dsimp only at hw
    have hI : wI s D A (fl [wMo K h st past acts image ipast iacts tape tmany laneOf sizeOf items seaFirst worstOf farTo stepsTo needs nmany mat told]) H locs := hI
    refine lv_if_ne (tgt := 21) hx hb dX11_seen_16 (by decide) (fun c4 => ?_) (fun c4 => ?_)
    · replace hw := hw.2 c4
      refine lv_aload_n hx hb dX11_seen_21 rfl (lv_at hl 0 rfl) ?_
      refine lv_iload_n hx hb dX11_seen_22 rfl (lv_at hl 1 rfl) ?_
      refine lv_iload_n hx hb dX11_seen_23 rfl (lv_at hl 2 rfl) ?_
      refine lv_iload_n hx hb dX11_seen_24 rfl (lv_at hl 3 rfl) ?_
      refine lv_iconst (v := (3 : Int32)) hx hb dX11_seen_25 (by decide) ?_
      refine lv_iload hx hb dX11_seen_26 (lv_at hl 4 rfl) ?_
      refine lv_imul hx hb dX11_seen_28 ?_
      refine x_callWi (rest := []) hC hI (mX11_found l D K h _ a1 a2 a3 ((3 : Int32) * a4) st past acts image ipast iacts tape tmany laneOf sizeOf items seaFirst worstOf farTo stepsTo needs nmany mat told hw) (cwV 4 hts gX11_seen_X11_found rfl rfl rfl (by decide +kernel) ⟨(Nat.le_of_ble_eq_true rfl), (Nat.le_of_ble_eq_true rfl)⟩) (fun _ => rfl) 0 9 rfl rfl rfl rfl hl.1 rfl (Nat.le_of_ble_eq_true rfl) dX11_seen_29 ⟨(Nat.le_of_ble_eq_true rfl), (Nat.le_of_ble_eq_true rfl)⟩ (fun r5 u H locs hw hI => ?_)
      try dsimp only at hw
      have hI : wI s D A (fl [wMo K h st past acts image ipast iacts tape tmany laneOf sizeOf items seaFirst worstOf farTo stepsTo needs nmany mat told]) H locs := hI
      refine lv_istore (lv' := [(5, .int r5), (0, .ref (h 0)), (1, .int a1), (2, .int a2), (3, .int a3), (4, .int a4)]) hx hb dX11_seen_32 hl (by decide) rfl (fun ls hl => ?_)
      refine lv_iload hx hb dX11_seen_34 (lv_at hl 0 rfl) ?_
      refine lv_if_eq (tgt := 42) hx hb dX11_seen_36 (by decide) (fun c6 => ?_) (fun c6 => ?_)
      · replace hw := hw.1 c6
        refine lv_bipush (v := (30 : Int32)) hx hb dX11_seen_42 (by decide) ?_
        refine lv_iload_n hx hb dX11_seen_44 rfl (lv_at hl 2 rfl) ?_
        refine lv_imul hx hb dX11_seen_45 ?_
        refine lv_iload_n hx hb dX11_seen_46 rfl (lv_at hl 4 rfl) ?_
        refine lv_iadd hx hb dX11_seen_47 ?_
        refine lv_topi (fun x7 ex7 => ?_)
        replace hw := hw x7 ex7
        refine lv_istore (lv' := [(6, .int x7), (5, .int r5), (0, .ref (h 0)), (1, .int a1), (2, .int a2), (3, .int a3), (4, .int a4)]) hx hb dX11_seen_48 hl (by decide) rfl (fun ls hl => ?_)
        refine lv_iconst (v := (0 : Int32)) hx hb dX11_seen_50 (by decide) ?_
        refine lv_istore (lv' := [(7, .int (0 : Int32)), (6, .int x7), (5, .int r5), (0, .ref (h 0)), (1, .int a1), (2, .int a2), (3, .int a3), (4, .int a4)]) hx hb dX11_seen_51 hl (by decide) rfl (fun ls hl => ?_)
        obtain ⟨I53, mu53, hw, hb53⟩ := hw
        have lp53 : ∀ (k : Nat) (l7_53 : Int32) (ls : Array Slot) (H : Heap) (locs : List Loc), mu53 l7_53 < k → I53 l7_53 → wI s D A (fl [wMo K h st past acts image ipast iacts tape tmany laneOf sizeOf items seaFirst worstOf farTo stepsTo needs nmany mat told]) H locs → lv_has ls 12 [(0, .ref (h 0)), (4, .int a4), (6, .int x7), (7, .int l7_53)] → W p l e rmX11_seen s m args below meth c H locs 0 0 Q (F0 m 53 ls []) := by
          intro k
          induction k with
          | zero => intro l7_53 ls H locs hmu; exact absurd hmu (Nat.not_lt_zero _)
          | succ k ih53 =>
            intro l7_53 ls H locs hmu53 hw hI hl
            replace hw := hb53 l7_53 hw
            refine lv_iload hx hb dX11_seen_53 (lv_at hl 3 rfl) ?_
            refine lv_iload hx hb dX11_seen_55 (lv_at hl 1 rfl) ?_
            refine lv_icmp_ge (tgt := 133) hx hb dX11_seen_57 (by decide) (fun c8 => ?_) (fun c8 => ?_)
            · replace hw := hw.1 c8
              refine lv_iconst (v := (0 : Int32)) hx hb dX11_seen_133 (by decide) ?_
              refine lv_istore (lv' := [(7, .int (0 : Int32)), (0, .ref (h 0)), (4, .int a4), (6, .int x7)]) hx hb dX11_seen_134 hl (by decide) rfl (fun ls hl => ?_)
              refine lv_iconst (v := (0 : Int32)) hx hb dX11_seen_136 (by decide) ?_
              refine lv_istore (lv' := [(8, .int (0 : Int32)), (7, .int (0 : Int32)), (0, .ref (h 0)), (4, .int a4), (6, .int x7)]) hx hb dX11_seen_137 hl (by decide) rfl (fun ls hl => ?_)
              obtain ⟨I139, mu139, hw, hb139⟩ := hw
              have lp139 : ∀ (k : Nat) (l7_139 : Int32) (l8_139 : Int32) (ls : Array Slot) (H : Heap) (locs : List Loc), mu139 l7_139 l8_139 < k → I139 l7_139 l8_139 → wI s D A (fl [wMo K h st past acts image ipast iacts tape tmany laneOf sizeOf items seaFirst worstOf farTo stepsTo needs nmany mat told]) H locs → lv_has ls 12 [(0, .ref (h 0)), (4, .int a4), (6, .int x7), (7, .int l7_139), (8, .int l8_139)] → W p l e rmX11_seen s m args below meth c H locs 0 0 Q (F0 m 139 ls []) := by
                intro k
                induction k with
                | zero => intro l7_139 l8_139 ls H locs hmu; exact absurd hmu (Nat.not_lt_zero _)
                | succ k ih139 =>
                  intro l7_139 l8_139 ls H locs hmu139 hw hI hl
                  replace hw := hb139 l7_139 l8_139 hw
                  refine lv_iload hx hb dX11_seen_139 (lv_at hl 4 rfl) ?_
                  refine lv_bipush (v := (6 : Int32)) hx hb dX11_seen_141 (by decide) ?_
                  refine lv_icmp_ge (tgt := 181) hx hb dX11_seen_143 (by decide) (fun c9 => ?_) (fun c9 => ?_)
                  · replace hw := hw.1 c9
                    refine lv_iload hx hb dX11_seen_181 (lv_at hl 3 rfl) ?_
                    subst hQ
                    exact x_iret (u := ()) hC hI hr hlk hw rfl dX11_seen_183
                  · replace hw := hw.2 c9
                    refine lv_iload hx hb dX11_seen_146 (lv_at hl 3 rfl) ?_
                    refine lv_aload_n hx hb dX11_seen_148 rfl (lv_at hl 0 rfl) ?_
                    refine lv_iload hx hb dX11_seen_149 (lv_at hl 4 rfl) ?_
                    refine x_callSi (rest := [.ref (h 0), .int l7_139]) hC hI [] (mX11_cutsOf l D K  _ l8_139 hw) (va_cwS 1 hts gX11_seen_X11_cutsOf rfl rfl rfl (by decide +kernel) ⟨(Nat.le_of_ble_eq_true rfl), (Nat.le_of_ble_eq_true rfl)⟩) (by decide) rfl (fun _ => rfl) rfl hl.1 rfl (Nat.le_of_ble_eq_true rfl) dX11_seen_151 ⟨(Nat.le_of_ble_eq_true rfl), (Nat.le_of_ble_eq_true rfl)⟩ (fun r10 u H locs hw hI => ?_)
                    try dsimp only at hw
                    have hI : wI s D A (fl [wMo K h st past acts image ipast iacts tape tmany laneOf sizeOf items seaFirst worstOf farTo stepsTo needs nmany mat told]) H locs := hI
                    refine lv_iload hx hb dX11_seen_154 (lv_at hl 2 rfl) ?_
                    refine lv_iload hx hb dX11_seen_156 (lv_at hl 1 rfl) ?_
                    refine x_callWi (rest := [.int l7_139]) hC hI (mX11_isSeen l D K h _ r10 x7 a4 st past acts image ipast iacts tape tmany laneOf sizeOf items seaFirst worstOf farTo stepsTo needs nmany mat told hw) (cwV 3 hts gX11_seen_X11_isSeen rfl rfl rfl (by decide +kernel) ⟨(Nat.le_of_ble_eq_true rfl), (Nat.le_of_ble_eq_true rfl)⟩) (fun _ => rfl) 0 9 rfl rfl rfl rfl hl.1 rfl (Nat.le_of_ble_eq_true rfl) dX11_seen_158 ⟨(Nat.le_of_ble_eq_true rfl), (Nat.le_of_ble_eq_true rfl)⟩ (fun r11 u H locs hw hI => ?_)
                    try dsimp only at hw
                    have hI : wI s D A (fl [wMo K h st past acts image ipast iacts tape tmany laneOf sizeOf items seaFirst worstOf farTo stepsTo needs nmany mat told]) H locs := hI
                    refine lv_if_eq (tgt := 171) hx hb dX11_seen_161 (by decide) (fun c12 => ?_) (fun c12 => ?_)
                    · replace hw := hw.1 c12
                      refine lv_iconst (v := (0 : Int32)) hx hb dX11_seen_171 (by decide) ?_
                      refine lv_ior hx hb dX11_seen_172 ?_
                      refine lv_topi (fun x13 ex13 => ?_)
                      replace hw := hw x13 ex13
                      refine lv_istore (lv' := [(7, .int x13), (0, .ref (h 0)), (4, .int a4), (6, .int x7), (8, .int l8_139)]) hx hb dX11_seen_173 hl (by decide) rfl (fun ls hl => ?_)
                      obtain ⟨x14, ex14⟩ : ∃ y : Int32, y = l8_139 + 1 := ⟨_, rfl⟩
                      replace hw := hw x14 ex14
                      refine lv_iinc (v := x14) (lv' := [(8, .int x14), (7, .int x13), (0, .ref (h 0)), (4, .int a4), (6, .int x7)]) hx hb dX11_seen_175 hl (k := 4) rfl (by rw [ex14]; rfl) (by decide) rfl (fun ls hl => ?_)
                      refine lv_goto (tgt := 139) hx hb dX11_seen_178 (by decide) ?_
                      exact ih139 x13 x14 ls H locs (Nat.lt_of_lt_of_le hw.2 (Nat.le_of_lt_succ hmu139)) hw.1 hI (lv_sub hl [2, 3, 4, 1, 0] rfl)
                    · replace hw := hw.2 c12
                      refine lv_iconst (v := (1 : Int32)) hx hb dX11_seen_164 (by decide) ?_
                      refine lv_iload hx hb dX11_seen_165 (lv_at hl 4 rfl) ?_
                      refine lv_ishl hx hb dX11_seen_167 ?_
                      refine lv_goto (tgt := 172) hx hb dX11_seen_168 (by decide) ?_
                      refine lv_ior hx hb dX11_seen_172 ?_
                      refine lv_topi (fun x15 ex15 => ?_)
                      replace hw := hw x15 ex15
                      refine lv_istore (lv' := [(7, .int x15), (0, .ref (h 0)), (4, .int a4), (6, .int x7), (8, .int l8_139)]) hx hb dX11_seen_173 hl (by decide) rfl (fun ls hl => ?_)
                      obtain ⟨x16, ex16⟩ : ∃ y : Int32, y = l8_139 + 1 := ⟨_, rfl⟩
                      replace hw := hw x16 ex16
                      refine lv_iinc (v := x16) (lv' := [(8, .int x16), (7, .int x15), (0, .ref (h 0)), (4, .int a4), (6, .int x7)]) hx hb dX11_seen_175 hl (k := 4) rfl (by rw [ex16]; rfl) (by decide) rfl (fun ls hl => ?_)
                      refine lv_goto (tgt := 139) hx hb dX11_seen_178 (by decide) ?_
                      exact ih139 x15 x16 ls H locs (Nat.lt_of_lt_of_le hw.2 (Nat.le_of_lt_succ hmu139)) hw.1 hI (lv_sub hl [2, 3, 4, 1, 0] rfl)
              exact lp139 (mu139 (0 : Int32) (0 : Int32) + 1) (0 : Int32) (0 : Int32) ls H locs (Nat.lt_succ_self _) hw hI (lv_sub hl [2, 3, 4, 1, 0] rfl)
            · replace hw := hw.2 c8
              refine lv_aload_n hx hb dX11_seen_60 rfl (lv_at hl 0 rfl) ?_
              refine x_get (v := .ref (h 8)) hC hI kX11_seen_cX11 0 rfl rfl 10 (by decide) kX11_seen_0 rfl rfl dX11_seen_61 ?_
              refine lv_iload hx hb dX11_seen_64 (lv_at hl 2 rfl) ?_
              refine lv_iconst (v := (3 : Int32)) hx hb dX11_seen_66 (by decide) ?_
              refine lv_iload hx hb dX11_seen_67 (lv_at hl 3 rfl) ?_
              refine lv_imul hx hb dX11_seen_69 ?_
              refine lv_iadd hx hb dX11_seen_70 ?_
              obtain ⟨hc17, hw⟩ := hw
              refine x_lald (f := items) hC hI 8 rfl hc17 dX11_seen_71 ?_
              refine lv_topl (fun x18 ex18 => ?_)
              replace hw := hw x18 ex18
              refine lv_lstore (lv' := [(8, .long x18), (0, .ref (h 0)), (4, .int a4), (6, .int x7), (7, .int l7_53)]) hx hb dX11_seen_72 hl (by decide) rfl (fun ls hl => ?_)
              refine lv_aload_n hx hb dX11_seen_74 rfl (lv_at hl 1 rfl) ?_
              refine x_get (v := .ref (h 8)) hC hI kX11_seen_cX11 0 rfl rfl 10 (by decide) kX11_seen_0 rfl rfl dX11_seen_75 ?_
              refine lv_iload hx hb dX11_seen_78 (lv_at hl 3 rfl) ?_
              refine lv_iconst (v := (3 : Int32)) hx hb dX11_seen_80 (by decide) ?_
              refine lv_iload hx hb dX11_seen_81 (lv_at hl 4 rfl) ?_
              refine lv_imul hx hb dX11_seen_83 ?_
              refine lv_iadd hx hb dX11_seen_84 ?_
              refine lv_iconst (v := (1 : Int32)) hx hb dX11_seen_85 (by decide) ?_
              refine lv_iadd hx hb dX11_seen_86 ?_
              obtain ⟨hc19, hw⟩ := hw
              refine x_lald (f := items) hC hI 8 rfl hc19 dX11_seen_87 ?_
              refine lv_topl (fun x20 ex20 => ?_)
              replace hw := hw x20 ex20
              refine lv_lstore (lv' := [(10, .long x20), (8, .long x18), (0, .ref (h 0)), (4, .int a4), (6, .int x7), (7, .int l7_53)]) hx hb dX11_seen_88 hl (by decide) rfl (fun ls hl => ?_)
              refine lv_lload hx hb dX11_seen_90 (lv_at hl 1 rfl) ?_
              refine lv_ldc2 (v := (-6 : Int64)) hx hb hown (hts _ kX11_seen_2) dX11_seen_92 ?_
              refine W.lcmp hx hb dX11_seen_95 ?_
              refine lv_if_lt (tgt := 124) hx hb dX11_seen_96 (by decide) (fun c21 => ?_) (fun c21 => ?_)
              · replace hw := hw.1 c21
                refine lv_bipush (v := (-2 : Int32)) hx hb dX11_seen_124 (by decide) ?_
                subst hQ
                exact x_iret (u := ()) hC hI hr hlk hw rfl dX11_seen_126
              · replace hw := hw.2 c21
                refine lv_lload hx hb dX11_seen_99 (lv_at hl 1 rfl) ?_
                refine lv_ldc2 (v := (6 : Int64)) hx hb hown (hts _ kX11_seen_3) dX11_seen_101 ?_
                refine W.lcmp hx hb dX11_seen_104 ?_
                refine lv_if_gt (tgt := 124) hx hb dX11_seen_105 (by decide) (fun c22 => ?_) (fun c22 => ?_)
                · replace hw := hw.1 c22
                  refine lv_bipush (v := (-2 : Int32)) hx hb dX11_seen_124 (by decide) ?_
                  subst hQ
                  exact x_iret (u := ()) hC hI hr hlk hw rfl dX11_seen_126
                · replace hw := hw.2 c22
                  refine lv_lload hx hb dX11_seen_108 (lv_at hl 0 rfl) ?_
                  refine lv_lconst (v := (0 : Int64)) hx hb dX11_seen_110 (by decide) ?_
                  refine W.lcmp hx hb dX11_seen_111 ?_
                  refine lv_if_lt (tgt := 124) hx hb dX11_seen_112 (by decide) (fun c23 => ?_) (fun c23 => ?_)
                  · replace hw := hw.1 c23
                    refine lv_bipush (v := (-2 : Int32)) hx hb dX11_seen_124 (by decide) ?_
                    subst hQ
                    exact x_iret (u := ()) hC hI hr hlk hw rfl dX11_seen_126
                  · replace hw := hw.2 c23
                    refine lv_lload hx hb dX11_seen_115 (lv_at hl 0 rfl) ?_
                    refine lv_ldc2 (v := (23 : Int64)) hx hb hown (hts _ kX11_seen_4) dX11_seen_117 ?_
                    refine W.lcmp hx hb dX11_seen_120 ?_
                    refine lv_if_le (tgt := 127) hx hb dX11_seen_121 (by decide) (fun c24 => ?_) (fun c24 => ?_)
                    · replace hw := hw.1 c24
                      obtain ⟨x25, ex25⟩ : ∃ y : Int32, y = l7_53 + 1 := ⟨_, rfl⟩
                      replace hw := hw x25 ex25
                      refine lv_iinc (v := x25) (lv' := [(7, .int x25), (10, .long x20), (8, .long x18), (0, .ref (h 0)), (4, .int a4), (6, .int x7)]) hx hb dX11_seen_127 hl (k := 5) rfl (by rw [ex25]; rfl) (by decide) rfl (fun ls hl => ?_)
                      refine lv_goto (tgt := 53) hx hb dX11_seen_130 (by decide) ?_
                      exact ih53 x25 ls H locs (Nat.lt_of_lt_of_le hw.2 (Nat.le_of_lt_succ hmu53)) hw.1 hI (lv_sub hl [3, 4, 5, 0] rfl)
                    · replace hw := hw.2 c24
                      refine lv_bipush (v := (-2 : Int32)) hx hb dX11_seen_124 (by decide) ?_
                      subst hQ
                      exact x_iret (u := ()) hC hI hr hlk hw rfl dX11_seen_126
        exact lp53 (mu53 (0 : Int32) + 1) (0 : Int32) ls H locs (Nat.lt_succ_self _) hw hI (lv_sub hl [3, 7, 1, 0] rfl)
      · replace hw := hw.2 c6
        refine lv_iload hx hb dX11_seen_39 (lv_at hl 0 rfl) ?_
        subst hQ
        exact x_iret (u := ()) hC hI hr hlk hw rfl dX11_seen_41
    · replace hw := hw.1 c4
      refine lv_iconst (v := (-1 : Int32)) hx hb dX11_seen_19 (by decide) ?_
      subst hQ
      exact x_iret (u := ()) hC hI hr hlk hw rfl dX11_seen_20

def wX11_lowest (a0 : Int64) (a2 : Int32)  (post : Int64 → Prop) : Prop := ((a2 = 0 → post ((a0 <<< ((56 : Int32).toInt64 &&& 63)) >>> ((56 : Int32).toInt64 &&& 63))) ∧ (¬ a2 = 0 → ((a2 = (1 : Int32) → post ((a0 <<< ((48 : Int32).toInt64 &&& 63)) >>> ((48 : Int32).toInt64 &&& 63))) ∧ (¬ a2 = (1 : Int32) → ((a2 = (2 : Int32) → post ((a0 <<< ((32 : Int32).toInt64 &&& 63)) >>> ((32 : Int32).toInt64 &&& 63))) ∧ (¬ a2 = (2 : Int32) → post a0))))))
def rmX11_lowest : Room := { frames := 0, cells := 0, slots := 0, locals := 0 }
set_option maxHeartbeats 4000000 in
set_option maxRecDepth 100000 in
theorem mX11_lowest (l : Launch) (D : va_G) (K : Nat → ClassId)  (sz : Nat) (a0 : Int64) (a2 : Int32)   {post : Int64 → Prop} (hw : wX11_lowest a0 a2  post) : Met l yX11_lowest wsX11_lowest rmX11_lowest (va_Pc [.long a0, .int a2] (cP D K (fl []) sz)) (va_Ql (fun (r : Int64) (u : Unit) => post r) (fun u t => cQ D K (fl []) (va_A (fl []) sz) t) (va_A (fl []) sz)) 0 0 (va_A (fl []) sz) := by
  refine x_entry (cc := cX11_lowest) (maxL := 3) (ret := (some .long)) (QA := fun A => va_Ql (fun (r : Int64) (u : Unit) => post r) (fun u t => cQ D K (fl []) A t) A) (plainFor_of_name (by decide)) rfl (Nat.le_of_ble_eq_true rfl) ?_
  intro p e s m args below meth c A ls H Q hQ hC hlk hr hnm hI hl
  obtain ⟨hx, hb, hml, hown, hts, hK, hA, hZ⟩ := id hC
  obtain ⟨locs, hlocs⟩ : ∃ y : List Loc, y = [] := ⟨_, rfl⟩
  rw [← hlocs] at hI ⊢
  clear hlocs
  replace hl : lv_has ls 3 [(0, .long a0), (2, .int a2)] := hl
  replace hw : ((a2 = 0 → post ((a0 <<< ((56 : Int32).toInt64 &&& 63)) >>> ((56 : Int32).toInt64 &&& 63))) ∧ (¬ a2 = 0 → ((a2 = (1 : Int32) → post ((a0 <<< ((48 : Int32).toInt64 &&& 63)) >>> ((48 : Int32).toInt64 &&& 63))) ∧ (¬ a2 = (1 : Int32) → ((a2 = (2 : Int32) → post ((a0 <<< ((32 : Int32).toInt64 &&& 63)) >>> ((32 : Int32).toInt64 &&& 63))) ∧ (¬ a2 = (2 : Int32) → post a0)))))) := hw
  refine lv_iload_n hx hb dX11_lowest_0 rfl (lv_at hl 1 rfl) ?_
  refine lv_if_ne (tgt := 14) hx hb dX11_lowest_1 (by decide) (fun c1 => ?_) (fun c1 => ?_)
  · replace hw := hw.2 c1
    refine lv_iload_n hx hb dX11_lowest_14 rfl (lv_at hl 1 rfl) ?_
    refine lv_iconst (v := (1 : Int32)) hx hb dX11_lowest_15 (by decide) ?_
    refine lv_icmp_ne (tgt := 29) hx hb dX11_lowest_16 (by decide) (fun c2 => ?_) (fun c2 => ?_)
    · replace hw := hw.2 c2
      refine lv_iload_n hx hb dX11_lowest_29 rfl (lv_at hl 1 rfl) ?_
      refine lv_iconst (v := (2 : Int32)) hx hb dX11_lowest_30 (by decide) ?_
      refine lv_icmp_ne (tgt := 44) hx hb dX11_lowest_31 (by decide) (fun c3 => ?_) (fun c3 => ?_)
      · replace hw := hw.2 c3
        refine lv_lload_n hx hb dX11_lowest_44 rfl (lv_at hl 0 rfl) ?_
        subst hQ
        exact x_lret (u := ()) hC hI hr hlk hw rfl dX11_lowest_45
      · replace hw := hw.1 c3
        refine lv_lload_n hx hb dX11_lowest_34 rfl (lv_at hl 0 rfl) ?_
        refine lv_bipush (v := (32 : Int32)) hx hb dX11_lowest_35 (by decide) ?_
        refine lv_lshl (v := (a0 <<< ((32 : Int32).toInt64 &&& 63))) hx hb dX11_lowest_37 rfl ?_
        refine lv_bipush (v := (32 : Int32)) hx hb dX11_lowest_38 (by decide) ?_
        refine lv_lshr (v := ((a0 <<< ((32 : Int32).toInt64 &&& 63)) >>> ((32 : Int32).toInt64 &&& 63))) hx hb dX11_lowest_40 rfl ?_
        refine lv_goto (tgt := 45) hx hb dX11_lowest_41 (by decide) ?_
        subst hQ
        exact x_lret (u := ()) hC hI hr hlk hw rfl dX11_lowest_45
    · replace hw := hw.1 c2
      refine lv_lload_n hx hb dX11_lowest_19 rfl (lv_at hl 0 rfl) ?_
      refine lv_bipush (v := (48 : Int32)) hx hb dX11_lowest_20 (by decide) ?_
      refine lv_lshl (v := (a0 <<< ((48 : Int32).toInt64 &&& 63))) hx hb dX11_lowest_22 rfl ?_
      refine lv_bipush (v := (48 : Int32)) hx hb dX11_lowest_23 (by decide) ?_
      refine lv_lshr (v := ((a0 <<< ((48 : Int32).toInt64 &&& 63)) >>> ((48 : Int32).toInt64 &&& 63))) hx hb dX11_lowest_25 rfl ?_
      refine lv_goto (tgt := 45) hx hb dX11_lowest_26 (by decide) ?_
      subst hQ
      exact x_lret (u := ()) hC hI hr hlk hw rfl dX11_lowest_45
  · replace hw := hw.1 c1
    refine lv_lload_n hx hb dX11_lowest_4 rfl (lv_at hl 0 rfl) ?_
    refine lv_bipush (v := (56 : Int32)) hx hb dX11_lowest_5 (by decide) ?_
    refine lv_lshl (v := (a0 <<< ((56 : Int32).toInt64 &&& 63))) hx hb dX11_lowest_7 rfl ?_
    refine lv_bipush (v := (56 : Int32)) hx hb dX11_lowest_8 (by decide) ?_
    refine lv_lshr (v := ((a0 <<< ((56 : Int32).toInt64 &&& 63)) >>> ((56 : Int32).toInt64 &&& 63))) hx hb dX11_lowest_10 rfl ?_
    refine lv_goto (tgt := 45) hx hb dX11_lowest_11 (by decide) ?_
    subst hQ
    exact x_lret (u := ()) hC hI hr hlk hw rfl dX11_lowest_45
