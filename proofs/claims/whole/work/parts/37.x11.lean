def wX11_sign  (tape : Nat → Int32) (tmany : Int32) (mat : Int32) (post : Int32 → Int32 → Prop) : Prop := (∃ (I0 : Int32 → Prop) (mu0 : Int32 → Nat), I0 mat ∧ ∀ (mat_0 : Int32), I0 mat_0 → wX11_here tape tmany mat_0 (fun (r1 : Int32) => ((r1 = (32 : Int32) → ∀ x4 : Int32, x4 = mat_0 + (1 : Int32) → (I0 x4 ∧ mu0 x4 < mu0 mat_0)) ∧ (¬ r1 = (32 : Int32) → wX11_here tape tmany mat_0 (fun (r3 : Int32) => post r3 mat_0)))))
def rmX11_sign : Room := { frames := 1, cells := 0, slots := 0, locals := 20 }
theorem kX11_sign_0 : Cond.fieldLink RX11 252 "GoreGlobeModel" "at" "I" ∈ wsX11_sign := List.mem_cons_of_mem _ (List.mem_append_left _ (List.mem_of_getElem? (i := 0) rfl))
theorem kX11_sign_cX11 : ∀ w ∈ wsX110, w ∈ wsX11_sign := fun _ h => List.mem_cons_of_mem _ (List.mem_append_right _ h)
set_option maxHeartbeats 4000000 in
set_option maxRecDepth 100000 in
theorem mX11_sign (l : Launch) (D : va_G) (K : Nat → ClassId) (h : Nat → Nat) (sz : Nat)  (st : Nat → Int32) (past : Nat → Int32) (acts : Int32) (image : Nat → Int32) (ipast : Nat → Int32) (iacts : Int32) (tape : Nat → Int32) (tmany : Int32) (laneOf : Nat → Int32) (sizeOf : Nat → Int32) (items : Nat → Int64) (seaFirst : Nat → Int32) (worstOf : Nat → Int32) (farTo : Nat → Int32) (stepsTo : Nat → Int32) (needs : Nat → Int32) (nmany : Int32) (mat : Int32) (told : Nat → Int32)  {post : Int32 → Int32 → Prop} (hw : wX11_sign  tape tmany mat post) : Met l yX11_sign wsX11_sign rmX11_sign (va_Pc [.ref (h 0)] (cP D K (fl [wMo K h st past acts image ipast iacts tape tmany laneOf sizeOf items seaFirst worstOf farTo stepsTo needs nmany mat told]) sz)) (va_Qi (fun (r : Int32) (u : Int32) => post r u) (fun u t => cQ D K (fl [wMo K h st past acts image ipast iacts tape tmany laneOf sizeOf items seaFirst worstOf farTo stepsTo needs nmany u told]) (va_A (fl [wMo K h st past acts image ipast iacts tape tmany laneOf sizeOf items seaFirst worstOf farTo stepsTo needs nmany mat told]) sz) t) (va_A (fl [wMo K h st past acts image ipast iacts tape tmany laneOf sizeOf items seaFirst worstOf farTo stepsTo needs nmany mat told]) sz)) 0 0 (va_A (fl [wMo K h st past acts image ipast iacts tape tmany laneOf sizeOf items seaFirst worstOf farTo stepsTo needs nmany mat told]) sz) := by
  refine x_entry (cc := cX11_sign) (maxL := 1) (ret := (some .int)) (QA := fun A => va_Qi (fun (r : Int32) (u : Int32) => post r u) (fun u t => cQ D K (fl [wMo K h st past acts image ipast iacts tape tmany laneOf sizeOf items seaFirst worstOf farTo stepsTo needs nmany u told]) A t) A) (plainFor_of_name (by decide)) rfl (Nat.le_of_ble_eq_true rfl) ?_
  intro p e s m args below meth c A ls H Q hQ hC hlk hr hnm hI hl
  obtain ⟨hx, hb, hml, hown, hts, hK, hA, hZ⟩ := id hC
  obtain ⟨locs, hlocs⟩ : ∃ y : List Loc, y = [] := ⟨_, rfl⟩
  rw [← hlocs] at hI ⊢
  clear hlocs
  replace hl : lv_has ls 1 [(0, .ref (h 0))] := hl
  replace hw : (∃ (I0 : Int32 → Prop) (mu0 : Int32 → Nat), I0 mat ∧ ∀ (mat_0 : Int32), I0 mat_0 → wX11_here tape tmany mat_0 (fun (r1 : Int32) => ((r1 = (32 : Int32) → ∀ x4 : Int32, x4 = mat_0 + (1 : Int32) → (I0 x4 ∧ mu0 x4 < mu0 mat_0)) ∧ (¬ r1 = (32 : Int32) → wX11_here tape tmany mat_0 (fun (r3 : Int32) => post r3 mat_0))))) := hw
  obtain ⟨I0, mu0, hw, hb0⟩ := hw
  have lp0 : ∀ (k : Nat) (mat_0 : Int32) (ls : Array Slot) (H : Heap) (locs : List Loc), mu0 mat_0 < k → I0 mat_0 → wI s D A (fl [wMo K h st past acts image ipast iacts tape tmany laneOf sizeOf items seaFirst worstOf farTo stepsTo needs nmany mat_0 told]) H locs → lv_has ls 1 [(0, .ref (h 0))] → W p l e rmX11_sign s m args below meth c H locs 0 0 Q (F0 m 0 ls []) := by
    intro k
    induction k with
    | zero => intro mat_0 ls H locs hmu; exact absurd hmu (Nat.not_lt_zero _)
    | succ k ih0 =>
      intro mat_0 ls H locs hmu0 hw hI hl
      replace hw := hb0 mat_0 hw
      refine lv_aload_n hx hb dX11_sign_0 rfl (lv_at hl 0 rfl) ?_
      refine x_callWi (rest := []) hC hI (mX11_here l D K h _ st past acts image ipast iacts tape tmany laneOf sizeOf items seaFirst worstOf farTo stepsTo needs nmany mat_0 told hw) (cwV 0 hts gX11_sign_X11_here rfl rfl rfl (by decide +kernel) ⟨(Nat.le_of_ble_eq_true rfl), (Nat.le_of_ble_eq_true rfl)⟩) (fun _ => rfl) 0 9 rfl rfl rfl rfl hl.1 rfl (Nat.le_of_ble_eq_true rfl) dX11_sign_1 ⟨(Nat.le_of_ble_eq_true rfl), (Nat.le_of_ble_eq_true rfl)⟩ (fun r1 u H locs hw hI => ?_)
      try dsimp only at hw
      have hI : wI s D A (fl [wMo K h st past acts image ipast iacts tape tmany laneOf sizeOf items seaFirst worstOf farTo stepsTo needs nmany mat_0 told]) H locs := hI
      refine lv_bipush (v := (32 : Int32)) hx hb dX11_sign_4 (by decide) ?_
      refine lv_icmp_ne (tgt := 22) hx hb dX11_sign_6 (by decide) (fun c2 => ?_) (fun c2 => ?_)
      · replace hw := hw.2 c2
        refine lv_aload_n hx hb dX11_sign_22 rfl (lv_at hl 0 rfl) ?_
        refine x_callWi (rest := []) hC hI (mX11_here l D K h _ st past acts image ipast iacts tape tmany laneOf sizeOf items seaFirst worstOf farTo stepsTo needs nmany mat_0 told hw) (cwV 0 hts gX11_sign_X11_here rfl rfl rfl (by decide +kernel) ⟨(Nat.le_of_ble_eq_true rfl), (Nat.le_of_ble_eq_true rfl)⟩) (fun _ => rfl) 0 9 rfl rfl rfl rfl hl.1 rfl (Nat.le_of_ble_eq_true rfl) dX11_sign_23 ⟨(Nat.le_of_ble_eq_true rfl), (Nat.le_of_ble_eq_true rfl)⟩ (fun r3 u H locs hw hI => ?_)
        try dsimp only at hw
        have hI : wI s D A (fl [wMo K h st past acts image ipast iacts tape tmany laneOf sizeOf items seaFirst worstOf farTo stepsTo needs nmany mat_0 told]) H locs := hI
        subst hQ
        exact x_iret (u := mat_0) hC hI hr hlk hw rfl dX11_sign_26
      · replace hw := hw.1 c2
        refine lv_aload_n hx hb dX11_sign_9 rfl (lv_at hl 0 rfl) ?_
        refine lv_dup hx hb dX11_sign_10 rfl ?_
        refine x_get (v := .int mat_0) hC hI kX11_sign_cX11 0 rfl rfl 17 (by decide) kX11_sign_0 rfl rfl dX11_sign_11 ?_
        refine lv_iconst (v := (1 : Int32)) hx hb dX11_sign_14 (by decide) ?_
        refine lv_iadd hx hb dX11_sign_15 ?_
        refine lv_topi (fun x4 ex4 => ?_)
        replace hw := hw x4 ex4
        refine x_put (v := .int x4) hC hI kX11_sign_cX11 tyX11 tyX11_ok nmX11 0 rfl rfl 17 (by decide) kX11_sign_0 rfl rfl rfl rfl (Nat.le_of_ble_eq_true rfl) dX11_sign_16 (fun H locs hI => ?_)
        have hI : wI s D A (fl [wMo K h st past acts image ipast iacts tape tmany laneOf sizeOf items seaFirst worstOf farTo stepsTo needs nmany x4 told]) H locs := hI
        refine lv_goto (tgt := 0) hx hb dX11_sign_19 (by decide) ?_
        exact ih0 x4 ls H locs (Nat.lt_of_lt_of_le hw.2 (Nat.le_of_lt_succ hmu0)) hw.1 hI (lv_sub hl [0] rfl)
  exact lp0 (mu0 mat + 1) mat ls H locs (Nat.lt_succ_self _) hw hI (lv_sub hl [0] rfl)

def wX11_isFigure (a0 : Int32)  (post : Int32 → Prop) : Prop := ((a0 < (48 : Int32) → post (0 : Int32)) ∧ (¬ a0 < (48 : Int32) → (((57 : Int32) < a0 → post (0 : Int32)) ∧ (¬ (57 : Int32) < a0 → post (1 : Int32)))))
def rmX11_isFigure : Room := { frames := 0, cells := 0, slots := 0, locals := 0 }
set_option maxHeartbeats 4000000 in
set_option maxRecDepth 100000 in
theorem mX11_isFigure (l : Launch) (D : va_G) (K : Nat → ClassId)  (sz : Nat) (a0 : Int32)   {post : Int32 → Prop} (hw : wX11_isFigure a0  post) : Met l yX11_isFigure wsX11_isFigure rmX11_isFigure (va_Pc [.int a0] (cP D K (fl []) sz)) (va_Qi (fun (r : Int32) (u : Unit) => post r) (fun u t => cQ D K (fl []) (va_A (fl []) sz) t) (va_A (fl []) sz)) 0 0 (va_A (fl []) sz) := by
  refine x_entry (cc := cX11_isFigure) (maxL := 1) (ret := (some .boolean)) (QA := fun A => va_Qi (fun (r : Int32) (u : Unit) => post r) (fun u t => cQ D K (fl []) A t) A) (plainFor_of_name (by decide)) rfl (Nat.le_of_ble_eq_true rfl) ?_
  intro p e s m args below meth c A ls H Q hQ hC hlk hr hnm hI hl
  obtain ⟨hx, hb, hml, hown, hts, hK, hA, hZ⟩ := id hC
  obtain ⟨locs, hlocs⟩ : ∃ y : List Loc, y = [] := ⟨_, rfl⟩
  rw [← hlocs] at hI ⊢
  clear hlocs
  replace hl : lv_has ls 1 [(0, .int a0)] := hl
  replace hw : ((a0 < (48 : Int32) → post (0 : Int32)) ∧ (¬ a0 < (48 : Int32) → (((57 : Int32) < a0 → post (0 : Int32)) ∧ (¬ (57 : Int32) < a0 → post (1 : Int32))))) := hw
  refine lv_iload_n hx hb dX11_isFigure_0 rfl (lv_at hl 0 rfl) ?_
  refine lv_bipush (v := (48 : Int32)) hx hb dX11_isFigure_1 (by decide) ?_
  refine lv_icmp_lt (tgt := 16) hx hb dX11_isFigure_3 (by decide) (fun c1 => ?_) (fun c1 => ?_)
  · replace hw := hw.1 c1
    refine lv_iconst (v := (0 : Int32)) hx hb dX11_isFigure_16 (by decide) ?_
    subst hQ
    exact x_zret (u := ()) hC hI hr hlk hw rfl (Or.inl rfl) dX11_isFigure_17
  · replace hw := hw.2 c1
    refine lv_iload_n hx hb dX11_isFigure_6 rfl (lv_at hl 0 rfl) ?_
    refine lv_bipush (v := (57 : Int32)) hx hb dX11_isFigure_7 (by decide) ?_
    refine lv_icmp_gt (tgt := 16) hx hb dX11_isFigure_9 (by decide) (fun c2 => ?_) (fun c2 => ?_)
    · replace hw := hw.1 c2
      refine lv_iconst (v := (0 : Int32)) hx hb dX11_isFigure_16 (by decide) ?_
      subst hQ
      exact x_zret (u := ()) hC hI hr hlk hw rfl (Or.inl rfl) dX11_isFigure_17
    · replace hw := hw.2 c2
      refine lv_iconst (v := (1 : Int32)) hx hb dX11_isFigure_12 (by decide) ?_
      refine lv_goto (tgt := 17) hx hb dX11_isFigure_13 (by decide) ?_
      subst hQ
      exact x_zret (u := ()) hC hI hr hlk hw rfl (Or.inr rfl) dX11_isFigure_17

def wX11_takes (a1 : Int32) (tape : Nat → Int32) (tmany : Int32) (mat : Int32) (post : Int32 → Int32 → Prop) : Prop := wX11_sign tape tmany mat (fun (r2 : Int32) (mat_c1 : Int32) => ∃ J13 : Int32 → Prop, (∀ (t_13 : Int32), J13 t_13 → ((t_13 = 0 → ∀ x4 : Int32, x4 = mat_c1 + (0 : Int32) → (t_13 = 0 ∨ t_13 = 1) ∧ post t_13 x4) ∧ (¬ t_13 = 0 → ∀ x6 : Int32, x6 = mat_c1 + (1 : Int32) → (t_13 = 0 ∨ t_13 = 1) ∧ post t_13 x6))) ∧ ((r2 = a1 → J13 (1 : Int32)) ∧ (¬ r2 = a1 → J13 (0 : Int32))))
def rmX11_takes : Room := { frames := 2, cells := 0, slots := 0, locals := 40 }
theorem kX11_takes_0 : Cond.fieldLink RX11 252 "GoreGlobeModel" "at" "I" ∈ wsX11_takes := List.mem_cons_of_mem _ (List.mem_append_left _ (List.mem_of_getElem? (i := 0) rfl))
theorem kX11_takes_cX11 : ∀ w ∈ wsX110, w ∈ wsX11_takes := fun _ h => List.mem_cons_of_mem _ (List.mem_append_right _ h)
set_option maxHeartbeats 4000000 in
set_option maxRecDepth 100000 in
theorem mX11_takes (l : Launch) (D : va_G) (K : Nat → ClassId) (h : Nat → Nat) (sz : Nat) (a1 : Int32) (st : Nat → Int32) (past : Nat → Int32) (acts : Int32) (image : Nat → Int32) (ipast : Nat → Int32) (iacts : Int32) (tape : Nat → Int32) (tmany : Int32) (laneOf : Nat → Int32) (sizeOf : Nat → Int32) (items : Nat → Int64) (seaFirst : Nat → Int32) (worstOf : Nat → Int32) (farTo : Nat → Int32) (stepsTo : Nat → Int32) (needs : Nat → Int32) (nmany : Int32) (mat : Int32) (told : Nat → Int32)  {post : Int32 → Int32 → Prop} (hw : wX11_takes a1 tape tmany mat post) : Met l yX11_takes wsX11_takes rmX11_takes (va_Pc [.ref (h 0), .int a1] (cP D K (fl [wMo K h st past acts image ipast iacts tape tmany laneOf sizeOf items seaFirst worstOf farTo stepsTo needs nmany mat told]) sz)) (va_Qi (fun (r : Int32) (u : Int32) => post r u) (fun u t => cQ D K (fl [wMo K h st past acts image ipast iacts tape tmany laneOf sizeOf items seaFirst worstOf farTo stepsTo needs nmany u told]) (va_A (fl [wMo K h st past acts image ipast iacts tape tmany laneOf sizeOf items seaFirst worstOf farTo stepsTo needs nmany mat told]) sz) t) (va_A (fl [wMo K h st past acts image ipast iacts tape tmany laneOf sizeOf items seaFirst worstOf farTo stepsTo needs nmany mat told]) sz)) 0 0 (va_A (fl [wMo K h st past acts image ipast iacts tape tmany laneOf sizeOf items seaFirst worstOf farTo stepsTo needs nmany mat told]) sz) := by
  refine x_entry (cc := cX11_takes) (maxL := 3) (ret := (some .boolean)) (QA := fun A => va_Qi (fun (r : Int32) (u : Int32) => post r u) (fun u t => cQ D K (fl [wMo K h st past acts image ipast iacts tape tmany laneOf sizeOf items seaFirst worstOf farTo stepsTo needs nmany u told]) A t) A) (plainFor_of_name (by decide)) rfl (Nat.le_of_ble_eq_true rfl) ?_
  intro p e s m args below meth c A ls H Q hQ hC hlk hr hnm hI hl
  obtain ⟨hx, hb, hml, hown, hts, hK, hA, hZ⟩ := id hC
  obtain ⟨locs, hlocs⟩ : ∃ y : List Loc, y = [] := ⟨_, rfl⟩
  rw [← hlocs] at hI ⊢
  clear hlocs
  replace hl : lv_has ls 3 [(0, .ref (h 0)), (1, .int a1)] := hl
  replace hw : wX11_sign tape tmany mat (fun (r2 : Int32) (mat_c1 : Int32) => ∃ J13 : Int32 → Prop, (∀ (t_13 : Int32), J13 t_13 → ((t_13 = 0 → ∀ x4 : Int32, x4 = mat_c1 + (0 : Int32) → (t_13 = 0 ∨ t_13 = 1) ∧ post t_13 x4) ∧ (¬ t_13 = 0 → ∀ x6 : Int32, x6 = mat_c1 + (1 : Int32) → (t_13 = 0 ∨ t_13 = 1) ∧ post t_13 x6))) ∧ ((r2 = a1 → J13 (1 : Int32)) ∧ (¬ r2 = a1 → J13 (0 : Int32)))) := hw
  refine lv_aload_n hx hb dX11_takes_0 rfl (lv_at hl 0 rfl) ?_
  refine x_callWi (rest := []) hC hI (mX11_sign l D K h _ st past acts image ipast iacts tape tmany laneOf sizeOf items seaFirst worstOf farTo stepsTo needs nmany mat told hw) (cwV 0 hts gX11_takes_X11_sign rfl rfl rfl (by decide +kernel) ⟨(Nat.le_of_ble_eq_true rfl), (Nat.le_of_ble_eq_true rfl)⟩) (fun _ => rfl) 0 9 rfl rfl rfl rfl hl.1 rfl (Nat.le_of_ble_eq_true rfl) dX11_takes_1 ⟨(Nat.le_of_ble_eq_true rfl), (Nat.le_of_ble_eq_true rfl)⟩ (fun r2 mat_c1 H locs hw hI => ?_)
  have hI : wI s D A (fl [wMo K h st past acts image ipast iacts tape tmany laneOf sizeOf items seaFirst worstOf farTo stepsTo needs nmany mat_c1 told]) H locs := hI
  refine lv_iload_n hx hb dX11_takes_4 rfl (lv_at hl 1 rfl) ?_
  obtain ⟨J13, hJ13, hw⟩ := hw
  have jn13 : ∀ (t_13 : Int32) (ls : Array Slot) (H : Heap) (locs : List Loc), J13 t_13 → wI s D A (fl [wMo K h st past acts image ipast iacts tape tmany laneOf sizeOf items seaFirst worstOf farTo stepsTo needs nmany mat_c1 told]) H locs → lv_has ls 3 [(0, .ref (h 0))] → W p l e rmX11_takes s m args below meth c H locs 0 0 Q (F0 m 13 ls [.int t_13]) := by
    intro t_13 ls H locs hw hI hl
    replace hw := hJ13 t_13 hw
    refine lv_istore_n (lv' := [(2, .int t_13), (0, .ref (h 0))]) hx hb dX11_takes_13 rfl hl (by decide) rfl (fun ls hl => ?_)
    refine lv_aload_n hx hb dX11_takes_14 rfl (lv_at hl 1 rfl) ?_
    refine lv_dup hx hb dX11_takes_15 rfl ?_
    refine x_get (v := .int mat_c1) hC hI kX11_takes_cX11 0 rfl rfl 17 (by decide) kX11_takes_0 rfl rfl dX11_takes_16 ?_
    refine lv_iload_n hx hb dX11_takes_19 rfl (lv_at hl 0 rfl) ?_
    refine lv_if_eq (tgt := 27) hx hb dX11_takes_20 (by decide) (fun c3 => ?_) (fun c3 => ?_)
    · replace hw := hw.1 c3
      refine lv_iconst (v := (0 : Int32)) hx hb dX11_takes_27 (by decide) ?_
      refine lv_iadd hx hb dX11_takes_28 ?_
      refine lv_topi (fun x4 ex4 => ?_)
      replace hw := hw x4 ex4
      refine x_put (v := .int x4) hC hI kX11_takes_cX11 tyX11 tyX11_ok nmX11 0 rfl rfl 17 (by decide) kX11_takes_0 rfl rfl rfl rfl (Nat.le_of_ble_eq_true rfl) dX11_takes_29 (fun H locs hI => ?_)
      have hI : wI s D A (fl [wMo K h st past acts image ipast iacts tape tmany laneOf sizeOf items seaFirst worstOf farTo stepsTo needs nmany x4 told]) H locs := hI
      refine lv_iload_n hx hb dX11_takes_32 rfl (lv_at hl 0 rfl) ?_
      obtain ⟨hc5, hw⟩ := hw
      subst hQ
      exact x_zret (u := x4) hC hI hr hlk hw rfl hc5 dX11_takes_33
    · replace hw := hw.2 c3
      refine lv_iconst (v := (1 : Int32)) hx hb dX11_takes_23 (by decide) ?_
      refine lv_goto (tgt := 28) hx hb dX11_takes_24 (by decide) ?_
      refine lv_iadd hx hb dX11_takes_28 ?_
      refine lv_topi (fun x6 ex6 => ?_)
      replace hw := hw x6 ex6
      refine x_put (v := .int x6) hC hI kX11_takes_cX11 tyX11 tyX11_ok nmX11 0 rfl rfl 17 (by decide) kX11_takes_0 rfl rfl rfl rfl (Nat.le_of_ble_eq_true rfl) dX11_takes_29 (fun H locs hI => ?_)
      have hI : wI s D A (fl [wMo K h st past acts image ipast iacts tape tmany laneOf sizeOf items seaFirst worstOf farTo stepsTo needs nmany x6 told]) H locs := hI
      refine lv_iload_n hx hb dX11_takes_32 rfl (lv_at hl 0 rfl) ?_
      obtain ⟨hc7, hw⟩ := hw
      subst hQ
      exact x_zret (u := x6) hC hI hr hlk hw rfl hc7 dX11_takes_33
  refine lv_icmp_ne (tgt := 12) hx hb dX11_takes_5 (by decide) (fun c8 => ?_) (fun c8 => ?_)
  · replace hw := hw.2 c8
    refine lv_iconst (v := (0 : Int32)) hx hb dX11_takes_12 (by decide) ?_
    exact jn13 (0 : Int32) ls H locs hw hI (lv_sub hl [0] rfl)
  · replace hw := hw.1 c8
    refine lv_iconst (v := (1 : Int32)) hx hb dX11_takes_8 (by decide) ?_
    refine lv_goto (tgt := 13) hx hb dX11_takes_9 (by decide) ?_
    exact jn13 (1 : Int32) ls H locs hw hI (lv_sub hl [0] rfl)

def wX11_readsNumber  (tape : Nat → Int32) (tmany : Int32) (mat : Int32) (post : Int32 → Int32 → Prop) : Prop := wX11_sign tape tmany mat (fun (r2 : Int32) (mat_c1 : Int32) => wX11_isFigure r2 (fun (r3 : Int32) => ((r3 = 0 → post (-4 : Int32) mat_c1) ∧ (¬ r3 = 0 → wX11_here tape tmany mat_c1 (fun (r5 : Int32) => ∀ x6 : Int32, x6 = r5 - (48 : Int32) → ∃ J56 : Int32 → Prop, (∀ (t_56 : Int32), J56 t_56 → ∃ J81 : Int32 → Prop, (∀ (j1_81 : Int32), J81 j1_81 → ((j1_81 ≤ (23 : Int32) → ∃ J104 : Int32 → Prop, (∀ (t_104 : Int32), J104 t_104 → ∀ x8 : Int32, x8 = mat_c1 + t_104 → wX11_here tape tmany x8 (fun (r9 : Int32) => wX11_isFigure r9 (fun (r10 : Int32) => ((r10 = 0 → post j1_81 x8) ∧ (¬ r10 = 0 → post (-4 : Int32) x8))))) ∧ ((t_56 = 0 → J104 (1 : Int32)) ∧ (¬ t_56 = 0 → J104 (2 : Int32)))) ∧ (¬ j1_81 ≤ (23 : Int32) → post (-4 : Int32) mat_c1))) ∧ ((t_56 = 0 → J81 x6) ∧ (¬ t_56 = 0 → vp_in (mat_c1 + (1 : Int32)) 90 ∧ ∀ x15 : Int32, x15 = (((10 : Int32) * x6) + (tape (mat_c1 + (1 : Int32)).toNatClampNeg)) - (48 : Int32) → J81 x15))) ∧ ∃ J55 : Prop, (J55 → J56 (0 : Int32)) ∧ ((tmany ≤ (mat_c1 + (1 : Int32)) → J55) ∧ (¬ tmany ≤ (mat_c1 + (1 : Int32)) → vp_in (mat_c1 + (1 : Int32)) 90 ∧ wX11_isFigure (tape (mat_c1 + (1 : Int32)).toNatClampNeg) (fun (r18 : Int32) => ((r18 = 0 → J55) ∧ (¬ r18 = 0 → J56 (1 : Int32)))))))))))
def rmX11_readsNumber : Room := { frames := 2, cells := 0, slots := 0, locals := 40 }
theorem kX11_readsNumber_0 : Cond.fieldLink RX11 252 "GoreGlobeModel" "at" "I" ∈ wsX11_readsNumber := List.mem_cons_of_mem _ (List.mem_append_left _ (List.mem_of_getElem? (i := 0) rfl))
theorem kX11_readsNumber_cX11 : ∀ w ∈ wsX110, w ∈ wsX11_readsNumber := fun _ h => List.mem_cons_of_mem _ (List.mem_append_right _ h)
theorem kX11_readsNumber_2 : Cond.fieldLink RX11 249 "GoreGlobeModel" "tapeMany" "I" ∈ wsX11_readsNumber := List.mem_cons_of_mem _ (List.mem_append_left _ (List.mem_of_getElem? (i := 1) rfl))
theorem kX11_readsNumber_3 : Cond.fieldLink RX11 26 "GoreGlobeModel" "tape" "[I" ∈ wsX11_readsNumber := List.mem_cons_of_mem _ (List.mem_append_left _ (List.mem_of_getElem? (i := 2) rfl))
set_option maxHeartbeats 4000000 in
set_option maxRecDepth 100000 in
theorem mX11_readsNumber (l : Launch) (D : va_G) (K : Nat → ClassId) (h : Nat → Nat) (sz : Nat)  (st : Nat → Int32) (past : Nat → Int32) (acts : Int32) (image : Nat → Int32) (ipast : Nat → Int32) (iacts : Int32) (tape : Nat → Int32) (tmany : Int32) (laneOf : Nat → Int32) (sizeOf : Nat → Int32) (items : Nat → Int64) (seaFirst : Nat → Int32) (worstOf : Nat → Int32) (farTo : Nat → Int32) (stepsTo : Nat → Int32) (needs : Nat → Int32) (nmany : Int32) (mat : Int32) (told : Nat → Int32)  {post : Int32 → Int32 → Prop} (hw : wX11_readsNumber  tape tmany mat post) : Met l yX11_readsNumber wsX11_readsNumber rmX11_readsNumber (va_Pc [.ref (h 0)] (cP D K (fl [wMo K h st past acts image ipast iacts tape tmany laneOf sizeOf items seaFirst worstOf farTo stepsTo needs nmany mat told]) sz)) (va_Qi (fun (r : Int32) (u : Int32) => post r u) (fun u t => cQ D K (fl [wMo K h st past acts image ipast iacts tape tmany laneOf sizeOf items seaFirst worstOf farTo stepsTo needs nmany u told]) (va_A (fl [wMo K h st past acts image ipast iacts tape tmany laneOf sizeOf items seaFirst worstOf farTo stepsTo needs nmany mat told]) sz) t) (va_A (fl [wMo K h st past acts image ipast iacts tape tmany laneOf sizeOf items seaFirst worstOf farTo stepsTo needs nmany mat told]) sz)) 0 0 (va_A (fl [wMo K h st past acts image ipast iacts tape tmany laneOf sizeOf items seaFirst worstOf farTo stepsTo needs nmany mat told]) sz) := by
  refine x_entry (cc := cX11_readsNumber) (maxL := 3) (ret := (some .int)) (QA := fun A => va_Qi (fun (r : Int32) (u : Int32) => post r u) (fun u t => cQ D K (fl [wMo K h st past acts image ipast iacts tape tmany laneOf sizeOf items seaFirst worstOf farTo stepsTo needs nmany u told]) A t) A) (plainFor_of_name (by decide)) rfl (Nat.le_of_ble_eq_true rfl) ?_
  intro p e s m args below meth c A ls H Q hQ hC hlk hr hnm hI hl
  obtain ⟨hx, hb, hml, hown, hts, hK, hA, hZ⟩ := id hC
  obtain ⟨locs, hlocs⟩ : ∃ y : List Loc, y = [] := ⟨_, rfl⟩
  rw [← hlocs] at hI ⊢
  clear hlocs
  replace hl : lv_has ls 3 [(0, .ref (h 0))] := hl
  replace hw : wX11_sign tape tmany mat (fun (r2 : Int32) (mat_c1 : Int32) => wX11_isFigure r2 (fun (r3 : Int32) => ((r3 = 0 → post (-4 : Int32) mat_c1) ∧ (¬ r3 = 0 → wX11_here tape tmany mat_c1 (fun (r5 : Int32) => ∀ x6 : Int32, x6 = r5 - (48 : Int32) → ∃ J56 : Int32 → Prop, (∀ (t_56 : Int32), J56 t_56 → ∃ J81 : Int32 → Prop, (∀ (j1_81 : Int32), J81 j1_81 → ((j1_81 ≤ (23 : Int32) → ∃ J104 : Int32 → Prop, (∀ (t_104 : Int32), J104 t_104 → ∀ x8 : Int32, x8 = mat_c1 + t_104 → wX11_here tape tmany x8 (fun (r9 : Int32) => wX11_isFigure r9 (fun (r10 : Int32) => ((r10 = 0 → post j1_81 x8) ∧ (¬ r10 = 0 → post (-4 : Int32) x8))))) ∧ ((t_56 = 0 → J104 (1 : Int32)) ∧ (¬ t_56 = 0 → J104 (2 : Int32)))) ∧ (¬ j1_81 ≤ (23 : Int32) → post (-4 : Int32) mat_c1))) ∧ ((t_56 = 0 → J81 x6) ∧ (¬ t_56 = 0 → vp_in (mat_c1 + (1 : Int32)) 90 ∧ ∀ x15 : Int32, x15 = (((10 : Int32) * x6) + (tape (mat_c1 + (1 : Int32)).toNatClampNeg)) - (48 : Int32) → J81 x15))) ∧ ∃ J55 : Prop, (J55 → J56 (0 : Int32)) ∧ ((tmany ≤ (mat_c1 + (1 : Int32)) → J55) ∧ (¬ tmany ≤ (mat_c1 + (1 : Int32)) → vp_in (mat_c1 + (1 : Int32)) 90 ∧ wX11_isFigure (tape (mat_c1 + (1 : Int32)).toNatClampNeg) (fun (r18 : Int32) => ((r18 = 0 → J55) ∧ (¬ r18 = 0 → J56 (1 : Int32))))))))))) := hw
  refine lv_aload_n hx hb dX11_readsNumber_0 rfl (lv_at hl 0 rfl) ?_
  refine x_callWi (rest := []) hC hI (mX11_sign l D K h _ st past acts image ipast iacts tape tmany laneOf sizeOf items seaFirst worstOf farTo stepsTo needs nmany mat told hw) (cwV 0 hts gX11_readsNumber_X11_sign rfl rfl rfl (by decide +kernel) ⟨(Nat.le_of_ble_eq_true rfl), (Nat.le_of_ble_eq_true rfl)⟩) (fun _ => rfl) 0 9 rfl rfl rfl rfl hl.1 rfl (Nat.le_of_ble_eq_true rfl) dX11_readsNumber_1 ⟨(Nat.le_of_ble_eq_true rfl), (Nat.le_of_ble_eq_true rfl)⟩ (fun r2 mat_c1 H locs hw hI => ?_)
  have hI : wI s D A (fl [wMo K h st past acts image ipast iacts tape tmany laneOf sizeOf items seaFirst worstOf farTo stepsTo needs nmany mat_c1 told]) H locs := hI
  refine x_callSi (rest := []) hC hI [] (mX11_isFigure l D K  _ r2 hw) (va_cwS 1 hts gX11_readsNumber_X11_isFigure rfl rfl rfl (by decide +kernel) ⟨(Nat.le_of_ble_eq_true rfl), (Nat.le_of_ble_eq_true rfl)⟩) (by decide) rfl (fun _ => rfl) rfl hl.1 rfl (Nat.le_of_ble_eq_true rfl) dX11_readsNumber_4 ⟨(Nat.le_of_ble_eq_true rfl), (Nat.le_of_ble_eq_true rfl)⟩ (fun r3 u H locs hw hI => ?_)
  try dsimp only at hw
  have hI : wI s D A (fl [wMo K h st past acts image ipast iacts tape tmany laneOf sizeOf items seaFirst worstOf farTo stepsTo needs nmany mat_c1 told]) H locs := hI
  refine lv_if_ne (tgt := 13) hx hb dX11_readsNumber_7 (by decide) (fun c4 => ?_) (fun c4 => ?_)
  · replace hw := hw.2 c4
    refine lv_aload_n hx hb dX11_readsNumber_13 rfl (lv_at hl 0 rfl) ?_
    refine x_callWi (rest := []) hC hI (mX11_here l D K h _ st past acts image ipast iacts tape tmany laneOf sizeOf items seaFirst worstOf farTo stepsTo needs nmany mat_c1 told hw) (cwV 0 hts gX11_readsNumber_X11_here rfl rfl rfl (by decide +kernel) ⟨(Nat.le_of_ble_eq_true rfl), (Nat.le_of_ble_eq_true rfl)⟩) (fun _ => rfl) 0 9 rfl rfl rfl rfl hl.1 rfl (Nat.le_of_ble_eq_true rfl) dX11_readsNumber_14 ⟨(Nat.le_of_ble_eq_true rfl), (Nat.le_of_ble_eq_true rfl)⟩ (fun r5 u H locs hw hI => ?_)
    try dsimp only at hw
    have hI : wI s D A (fl [wMo K h st past acts image ipast iacts tape tmany laneOf sizeOf items seaFirst worstOf farTo stepsTo needs nmany mat_c1 told]) H locs := hI
    refine lv_bipush (v := (48 : Int32)) hx hb dX11_readsNumber_17 (by decide) ?_
    refine lv_isub hx hb dX11_readsNumber_19 ?_
    refine lv_topi (fun x6 ex6 => ?_)
    replace hw := hw x6 ex6
    refine lv_istore_n (lv' := [(1, .int x6), (0, .ref (h 0))]) hx hb dX11_readsNumber_20 rfl hl (by decide) rfl (fun ls hl => ?_)
    refine lv_aload_n hx hb dX11_readsNumber_21 rfl (lv_at hl 1 rfl) ?_
    refine x_get (v := .int mat_c1) hC hI kX11_readsNumber_cX11 0 rfl rfl 17 (by decide) kX11_readsNumber_0 rfl rfl dX11_readsNumber_22 ?_
    refine lv_iconst (v := (1 : Int32)) hx hb dX11_readsNumber_25 (by decide) ?_
    refine lv_iadd hx hb dX11_readsNumber_26 ?_
    refine lv_aload_n hx hb dX11_readsNumber_27 rfl (lv_at hl 1 rfl) ?_
    refine x_get (v := .int tmany) hC hI kX11_readsNumber_cX11 0 rfl rfl 7 (by decide) kX11_readsNumber_2 rfl rfl dX11_readsNumber_28 ?_
    obtain ⟨J56, hJ56, hw⟩ := hw
    have jn56 : ∀ (t_56 : Int32) (ls : Array Slot) (H : Heap) (locs : List Loc), J56 t_56 → wI s D A (fl [wMo K h st past acts image ipast iacts tape tmany laneOf sizeOf items seaFirst worstOf farTo stepsTo needs nmany mat_c1 told]) H locs → lv_has ls 3 [(0, .ref (h 0)), (1, .int x6)] → W p l e rmX11_readsNumber s m args below meth c H locs 0 0 Q (F0 m 56 ls [.int t_56]) := by
      intro t_56 ls H locs hw hI hl
      replace hw := hJ56 t_56 hw
      refine lv_istore_n (lv' := [(2, .int t_56), (0, .ref (h 0)), (1, .int x6)]) hx hb dX11_readsNumber_56 rfl hl (by decide) rfl (fun ls hl => ?_)
      refine lv_iload_n hx hb dX11_readsNumber_57 rfl (lv_at hl 0 rfl) ?_
      obtain ⟨J81, hJ81, hw⟩ := hw
      have jn81 : ∀ (j1_81 : Int32) (ls : Array Slot) (H : Heap) (locs : List Loc), J81 j1_81 → wI s D A (fl [wMo K h st past acts image ipast iacts tape tmany laneOf sizeOf items seaFirst worstOf farTo stepsTo needs nmany mat_c1 told]) H locs → lv_has ls 3 [(0, .ref (h 0)), (1, .int j1_81), (2, .int t_56)] → W p l e rmX11_readsNumber s m args below meth c H locs 0 0 Q (F0 m 81 ls []) := by
        intro j1_81 ls H locs hw hI hl
        replace hw := hJ81 j1_81 hw
        refine lv_iload_n hx hb dX11_readsNumber_81 rfl (lv_at hl 1 rfl) ?_
        refine lv_bipush (v := (23 : Int32)) hx hb dX11_readsNumber_82 (by decide) ?_
        refine lv_icmp_le (tgt := 90) hx hb dX11_readsNumber_84 (by decide) (fun c7 => ?_) (fun c7 => ?_)
        · replace hw := hw.1 c7
          refine lv_aload_n hx hb dX11_readsNumber_90 rfl (lv_at hl 0 rfl) ?_
          refine lv_dup hx hb dX11_readsNumber_91 rfl ?_
          refine x_get (v := .int mat_c1) hC hI kX11_readsNumber_cX11 0 rfl rfl 17 (by decide) kX11_readsNumber_0 rfl rfl dX11_readsNumber_92 ?_
          refine lv_iload_n hx hb dX11_readsNumber_95 rfl (lv_at hl 2 rfl) ?_
          obtain ⟨J104, hJ104, hw⟩ := hw
          have jn104 : ∀ (t_104 : Int32) (ls : Array Slot) (H : Heap) (locs : List Loc), J104 t_104 → wI s D A (fl [wMo K h st past acts image ipast iacts tape tmany laneOf sizeOf items seaFirst worstOf farTo stepsTo needs nmany mat_c1 told]) H locs → lv_has ls 3 [(0, .ref (h 0)), (1, .int j1_81)] → W p l e rmX11_readsNumber s m args below meth c H locs 0 0 Q (F0 m 104 ls [.int t_104, .int mat_c1, .ref (h 0)]) := by
            intro t_104 ls H locs hw hI hl
            replace hw := hJ104 t_104 hw
            refine lv_iadd hx hb dX11_readsNumber_104 ?_
            refine lv_topi (fun x8 ex8 => ?_)
            replace hw := hw x8 ex8
            refine x_put (v := .int x8) hC hI kX11_readsNumber_cX11 tyX11 tyX11_ok nmX11 0 rfl rfl 17 (by decide) kX11_readsNumber_0 rfl rfl rfl rfl (Nat.le_of_ble_eq_true rfl) dX11_readsNumber_105 (fun H locs hI => ?_)
            have hI : wI s D A (fl [wMo K h st past acts image ipast iacts tape tmany laneOf sizeOf items seaFirst worstOf farTo stepsTo needs nmany x8 told]) H locs := hI
            refine lv_aload_n hx hb dX11_readsNumber_108 rfl (lv_at hl 0 rfl) ?_
            refine x_callWi (rest := []) hC hI (mX11_here l D K h _ st past acts image ipast iacts tape tmany laneOf sizeOf items seaFirst worstOf farTo stepsTo needs nmany x8 told hw) (cwV 0 hts gX11_readsNumber_X11_here rfl rfl rfl (by decide +kernel) ⟨(Nat.le_of_ble_eq_true rfl), (Nat.le_of_ble_eq_true rfl)⟩) (fun _ => rfl) 0 9 rfl rfl rfl rfl hl.1 rfl (Nat.le_of_ble_eq_true rfl) dX11_readsNumber_109 ⟨(Nat.le_of_ble_eq_true rfl), (Nat.le_of_ble_eq_true rfl)⟩ (fun r9 u H locs hw hI => ?_)
            try dsimp only at hw
            have hI : wI s D A (fl [wMo K h st past acts image ipast iacts tape tmany laneOf sizeOf items seaFirst worstOf farTo stepsTo needs nmany x8 told]) H locs := hI
            refine x_callSi (rest := []) hC hI [] (mX11_isFigure l D K  _ r9 hw) (va_cwS 1 hts gX11_readsNumber_X11_isFigure rfl rfl rfl (by decide +kernel) ⟨(Nat.le_of_ble_eq_true rfl), (Nat.le_of_ble_eq_true rfl)⟩) (by decide) rfl (fun _ => rfl) rfl hl.1 rfl (Nat.le_of_ble_eq_true rfl) dX11_readsNumber_112 ⟨(Nat.le_of_ble_eq_true rfl), (Nat.le_of_ble_eq_true rfl)⟩ (fun r10 u H locs hw hI => ?_)
            try dsimp only at hw
            have hI : wI s D A (fl [wMo K h st past acts image ipast iacts tape tmany laneOf sizeOf items seaFirst worstOf farTo stepsTo needs nmany x8 told]) H locs := hI
            refine lv_if_eq (tgt := 123) hx hb dX11_readsNumber_115 (by decide) (fun c11 => ?_) (fun c11 => ?_)
            · replace hw := hw.1 c11
              refine lv_iload_n hx hb dX11_readsNumber_123 rfl (lv_at hl 1 rfl) ?_
              subst hQ
              exact x_iret (u := x8) hC hI hr hlk hw rfl dX11_readsNumber_124
            · replace hw := hw.2 c11
              refine lv_bipush (v := (-4 : Int32)) hx hb dX11_readsNumber_118 (by decide) ?_
              refine lv_goto (tgt := 124) hx hb dX11_readsNumber_120 (by decide) ?_
              subst hQ
              exact x_iret (u := x8) hC hI hr hlk hw rfl dX11_readsNumber_124
          refine lv_if_eq (tgt := 103) hx hb dX11_readsNumber_96 (by decide) (fun c12 => ?_) (fun c12 => ?_)
          · replace hw := hw.1 c12
            refine lv_iconst (v := (1 : Int32)) hx hb dX11_readsNumber_103 (by decide) ?_
            exact jn104 (1 : Int32) ls H locs hw hI (lv_sub hl [0, 1] rfl)
          · replace hw := hw.2 c12
            refine lv_iconst (v := (2 : Int32)) hx hb dX11_readsNumber_99 (by decide) ?_
            refine lv_goto (tgt := 104) hx hb dX11_readsNumber_100 (by decide) ?_
            exact jn104 (2 : Int32) ls H locs hw hI (lv_sub hl [0, 1] rfl)
        · replace hw := hw.2 c7
          refine lv_bipush (v := (-4 : Int32)) hx hb dX11_readsNumber_87 (by decide) ?_
          subst hQ
          exact x_iret (u := mat_c1) hC hI hr hlk hw rfl dX11_readsNumber_89
      refine lv_if_eq (tgt := 81) hx hb dX11_readsNumber_58 (by decide) (fun c13 => ?_) (fun c13 => ?_)
      · replace hw := hw.1 c13
        exact jn81 x6 ls H locs hw hI (lv_sub hl [1, 2, 0] rfl)
      · replace hw := hw.2 c13
        refine lv_bipush (v := (10 : Int32)) hx hb dX11_readsNumber_61 (by decide) ?_
        refine lv_iload_n hx hb dX11_readsNumber_63 rfl (lv_at hl 2 rfl) ?_
        refine lv_imul hx hb dX11_readsNumber_64 ?_
        refine lv_aload_n hx hb dX11_readsNumber_65 rfl (lv_at hl 1 rfl) ?_
        refine x_get (v := .ref (h 5)) hC hI kX11_readsNumber_cX11 0 rfl rfl 6 (by decide) kX11_readsNumber_3 rfl rfl dX11_readsNumber_66 ?_
        refine lv_aload_n hx hb dX11_readsNumber_69 rfl (lv_at hl 1 rfl) ?_
        refine x_get (v := .int mat_c1) hC hI kX11_readsNumber_cX11 0 rfl rfl 17 (by decide) kX11_readsNumber_0 rfl rfl dX11_readsNumber_70 ?_
        refine lv_iconst (v := (1 : Int32)) hx hb dX11_readsNumber_73 (by decide) ?_
        refine lv_iadd hx hb dX11_readsNumber_74 ?_
        obtain ⟨hc14, hw⟩ := hw
        refine x_iald (f := tape) hC hI 5 rfl hc14 dX11_readsNumber_75 ?_
        refine lv_iadd hx hb dX11_readsNumber_76 ?_
        refine lv_bipush (v := (48 : Int32)) hx hb dX11_readsNumber_77 (by decide) ?_
        refine lv_isub hx hb dX11_readsNumber_79 ?_
        refine lv_topi (fun x15 ex15 => ?_)
        replace hw := hw x15 ex15
        refine lv_istore_n (lv' := [(1, .int x15), (2, .int t_56), (0, .ref (h 0))]) hx hb dX11_readsNumber_80 rfl hl (by decide) rfl (fun ls hl => ?_)
        exact jn81 x15 ls H locs hw hI (lv_sub hl [2, 0, 1] rfl)
    obtain ⟨J55, hJ55, hw⟩ := hw
    have jn55 : ∀  (ls : Array Slot) (H : Heap) (locs : List Loc), J55  → wI s D A (fl [wMo K h st past acts image ipast iacts tape tmany laneOf sizeOf items seaFirst worstOf farTo stepsTo needs nmany mat_c1 told]) H locs → lv_has ls 3 [(0, .ref (h 0)), (1, .int x6)] → W p l e rmX11_readsNumber s m args below meth c H locs 0 0 Q (F0 m 55 ls []) := by
      intro  ls H locs hw hI hl
      replace hw := hJ55 hw
      refine lv_iconst (v := (0 : Int32)) hx hb dX11_readsNumber_55 (by decide) ?_
      exact jn56 (0 : Int32) ls H locs hw hI (lv_sub hl [0, 1] rfl)
    refine lv_icmp_ge (tgt := 55) hx hb dX11_readsNumber_31 (by decide) (fun c16 => ?_) (fun c16 => ?_)
    · replace hw := hw.1 c16
      exact jn55 ls H locs hw hI (lv_sub hl [1, 0] rfl)
    · replace hw := hw.2 c16
      refine lv_aload_n hx hb dX11_readsNumber_34 rfl (lv_at hl 1 rfl) ?_
      refine x_get (v := .ref (h 5)) hC hI kX11_readsNumber_cX11 0 rfl rfl 6 (by decide) kX11_readsNumber_3 rfl rfl dX11_readsNumber_35 ?_
      refine lv_aload_n hx hb dX11_readsNumber_38 rfl (lv_at hl 1 rfl) ?_
      refine x_get (v := .int mat_c1) hC hI kX11_readsNumber_cX11 0 rfl rfl 17 (by decide) kX11_readsNumber_0 rfl rfl dX11_readsNumber_39 ?_
      refine lv_iconst (v := (1 : Int32)) hx hb dX11_readsNumber_42 (by decide) ?_
      refine lv_iadd hx hb dX11_readsNumber_43 ?_
      obtain ⟨hc17, hw⟩ := hw
      refine x_iald (f := tape) hC hI 5 rfl hc17 dX11_readsNumber_44 ?_
      refine x_callSi (rest := []) hC hI [] (mX11_isFigure l D K  _ (tape (mat_c1 + (1 : Int32)).toNatClampNeg) hw) (va_cwS 1 hts gX11_readsNumber_X11_isFigure rfl rfl rfl (by decide +kernel) ⟨(Nat.le_of_ble_eq_true rfl), (Nat.le_of_ble_eq_true rfl)⟩) (by decide) rfl (fun _ => rfl) rfl hl.1 rfl (Nat.le_of_ble_eq_true rfl) dX11_readsNumber_45 ⟨(Nat.le_of_ble_eq_true rfl), (Nat.le_of_ble_eq_true rfl)⟩ (fun r18 u H locs hw hI => ?_)
      try dsimp only at hw
      have hI : wI s D A (fl [wMo K h st past acts image ipast iacts tape tmany laneOf sizeOf items seaFirst worstOf farTo stepsTo needs nmany mat_c1 told]) H locs := hI
      refine lv_if_eq (tgt := 55) hx hb dX11_readsNumber_48 (by decide) (fun c19 => ?_) (fun c19 => ?_)
      · replace hw := hw.1 c19
        exact jn55 ls H locs hw hI (lv_sub hl [1, 0] rfl)
      · replace hw := hw.2 c19
        refine lv_iconst (v := (1 : Int32)) hx hb dX11_readsNumber_51 (by decide) ?_
        refine lv_goto (tgt := 56) hx hb dX11_readsNumber_52 (by decide) ?_
        exact jn56 (1 : Int32) ls H locs hw hI (lv_sub hl [1, 0] rfl)
  · replace hw := hw.1 c4
    refine lv_bipush (v := (-4 : Int32)) hx hb dX11_readsNumber_10 (by decide) ?_
    subst hQ
    exact x_iret (u := mat_c1) hC hI hr hlk hw rfl dX11_readsNumber_12

def wX11_marks (a1 : Int32) (a2 : Int32) (a3 : Int32) (told : Nat → Int32) (post : (Nat → Int32) → Prop) : Prop := wX11_numberOf a1 a2 (fun (r1 : Int32) => vp_in r1 266 ∧ (∃ (I15 : Int32 → (Nat → Int32) → Prop) (mu15 : Int32 → (Nat → Int32) → Nat), I15 a2 (upd told r1.toNatClampNeg (1 : Int32)) ∧ ∀ (l4_15 : Int32) (told_15 : Nat → Int32), I15 l4_15 told_15 → ((l4_15 = a3 → post told_15) ∧ (¬ l4_15 = a3 → ∀ x4 : Int32, x4 = (l4_15 + (1 : Int32)) - (l4_15 + (1 : Int32)) / (24 : Int32) * (24 : Int32) → wX11_numberOf a1 x4 (fun (r5 : Int32) => vp_in r5 266 ∧ (I15 x4 (upd told_15 r5.toNatClampNeg (1 : Int32)) ∧ mu15 x4 (upd told_15 r5.toNatClampNeg (1 : Int32)) < mu15 l4_15 told_15))))))
def rmX11_marks : Room := { frames := 1, cells := 0, slots := 0, locals := 21 }
theorem kX11_marks_0 : Cond.fieldLink RX11 54 "GoreGlobeModel" "told" "[I" ∈ wsX11_marks := List.mem_cons_of_mem _ (List.mem_append_left _ (List.mem_of_getElem? (i := 0) rfl))
theorem kX11_marks_cX11 : ∀ w ∈ wsX110, w ∈ wsX11_marks := fun _ h => List.mem_cons_of_mem _ (List.mem_append_right _ h)
set_option maxHeartbeats 4000000 in
set_option maxRecDepth 100000 in
theorem mX11_marks (l : Launch) (D : va_G) (K : Nat → ClassId) (h : Nat → Nat) (sz : Nat) (a1 : Int32) (a2 : Int32) (a3 : Int32) (st : Nat → Int32) (past : Nat → Int32) (acts : Int32) (image : Nat → Int32) (ipast : Nat → Int32) (iacts : Int32) (tape : Nat → Int32) (tmany : Int32) (laneOf : Nat → Int32) (sizeOf : Nat → Int32) (items : Nat → Int64) (seaFirst : Nat → Int32) (worstOf : Nat → Int32) (farTo : Nat → Int32) (stepsTo : Nat → Int32) (needs : Nat → Int32) (nmany : Int32) (mat : Int32) (told : Nat → Int32)  {post : (Nat → Int32) → Prop} (hw : wX11_marks a1 a2 a3 told post) : Met l yX11_marks wsX11_marks rmX11_marks (va_Pc [.ref (h 0), .int a1, .int a2, .int a3] (cP D K (fl [wMo K h st past acts image ipast iacts tape tmany laneOf sizeOf items seaFirst worstOf farTo stepsTo needs nmany mat told]) sz)) (va_Qv (fun (u : (Nat → Int32)) => post u) (fun u t => cQ D K (fl [wMo K h st past acts image ipast iacts tape tmany laneOf sizeOf items seaFirst worstOf farTo stepsTo needs nmany mat u]) (va_A (fl [wMo K h st past acts image ipast iacts tape tmany laneOf sizeOf items seaFirst worstOf farTo stepsTo needs nmany mat told]) sz) t) (va_A (fl [wMo K h st past acts image ipast iacts tape tmany laneOf sizeOf items seaFirst worstOf farTo stepsTo needs nmany mat told]) sz)) 0 0 (va_A (fl [wMo K h st past acts image ipast iacts tape tmany laneOf sizeOf items seaFirst worstOf farTo stepsTo needs nmany mat told]) sz) := by
  refine x_entry (cc := cX11_marks) (maxL := 5) (ret := none) (QA := fun A => va_Qv (fun (u : (Nat → Int32)) => post u) (fun u t => cQ D K (fl [wMo K h st past acts image ipast iacts tape tmany laneOf sizeOf items seaFirst worstOf farTo stepsTo needs nmany mat u]) A t) A) (plainFor_of_name (by decide)) rfl (Nat.le_of_ble_eq_true rfl) ?_
  intro p e s m args below meth c A ls H Q hQ hC hlk hr hnm hI hl
  obtain ⟨hx, hb, hml, hown, hts, hK, hA, hZ⟩ := id hC
  obtain ⟨locs, hlocs⟩ : ∃ y : List Loc, y = [] := ⟨_, rfl⟩
  rw [← hlocs] at hI ⊢
  clear hlocs
  replace hl : lv_has ls 5 [(0, .ref (h 0)), (1, .int a1), (2, .int a2), (3, .int a3)] := hl
  replace hw : wX11_numberOf a1 a2 (fun (r1 : Int32) => vp_in r1 266 ∧ (∃ (I15 : Int32 → (Nat → Int32) → Prop) (mu15 : Int32 → (Nat → Int32) → Nat), I15 a2 (upd told r1.toNatClampNeg (1 : Int32)) ∧ ∀ (l4_15 : Int32) (told_15 : Nat → Int32), I15 l4_15 told_15 → ((l4_15 = a3 → post told_15) ∧ (¬ l4_15 = a3 → ∀ x4 : Int32, x4 = (l4_15 + (1 : Int32)) - (l4_15 + (1 : Int32)) / (24 : Int32) * (24 : Int32) → wX11_numberOf a1 x4 (fun (r5 : Int32) => vp_in r5 266 ∧ (I15 x4 (upd told_15 r5.toNatClampNeg (1 : Int32)) ∧ mu15 x4 (upd told_15 r5.toNatClampNeg (1 : Int32)) < mu15 l4_15 told_15)))))) := hw
  refine lv_iload_n hx hb dX11_marks_0 rfl (lv_at hl 2 rfl) ?_
  refine lv_istore (lv' := [(4, .int a2), (0, .ref (h 0)), (1, .int a1), (2, .int a2), (3, .int a3)]) hx hb dX11_marks_1 hl (by decide) rfl (fun ls hl => ?_)
  refine lv_aload_n hx hb dX11_marks_3 rfl (lv_at hl 1 rfl) ?_
  refine x_get (v := .ref (h 14)) hC hI kX11_marks_cX11 0 rfl rfl 18 (by decide) kX11_marks_0 rfl rfl dX11_marks_4 ?_
  refine lv_iload_n hx hb dX11_marks_7 rfl (lv_at hl 2 rfl) ?_
  refine lv_iload hx hb dX11_marks_8 (lv_at hl 0 rfl) ?_
  refine x_callSi (rest := [.ref (h 14)]) hC hI [] (mX11_numberOf l D K  _ a1 a2 hw) (va_cwS 2 hts gX11_marks_X11_numberOf rfl rfl rfl (by decide +kernel) ⟨(Nat.le_of_ble_eq_true rfl), (Nat.le_of_ble_eq_true rfl)⟩) (by decide) rfl (fun _ => rfl) rfl hl.1 rfl (Nat.le_of_ble_eq_true rfl) dX11_marks_10 ⟨(Nat.le_of_ble_eq_true rfl), (Nat.le_of_ble_eq_true rfl)⟩ (fun r1 u H locs hw hI => ?_)
  try dsimp only at hw
  have hI : wI s D A (fl [wMo K h st past acts image ipast iacts tape tmany laneOf sizeOf items seaFirst worstOf farTo stepsTo needs nmany mat told]) H locs := hI
  refine lv_iconst (v := (1 : Int32)) hx hb dX11_marks_13 (by decide) ?_
  obtain ⟨hc2, hw⟩ := hw
  refine x_iast (f := told) hC hI 14 rfl hc2 dX11_marks_14 (fun H locs hI => ?_)
  have hI : wI s D A (fl [wMo K h st past acts image ipast iacts tape tmany laneOf sizeOf items seaFirst worstOf farTo stepsTo needs nmany mat (upd told r1.toNatClampNeg (1 : Int32))]) H locs := hI
  obtain ⟨I15, mu15, hw, hb15⟩ := hw
  have lp15 : ∀ (k : Nat) (l4_15 : Int32) (told_15 : Nat → Int32) (ls : Array Slot) (H : Heap) (locs : List Loc), mu15 l4_15 told_15 < k → I15 l4_15 told_15 → wI s D A (fl [wMo K h st past acts image ipast iacts tape tmany laneOf sizeOf items seaFirst worstOf farTo stepsTo needs nmany mat told_15]) H locs → lv_has ls 5 [(0, .ref (h 0)), (1, .int a1), (3, .int a3), (4, .int l4_15)] → W p l e rmX11_marks s m args below meth c H locs 0 0 Q (F0 m 15 ls []) := by
    intro k
    induction k with
    | zero => intro l4_15 told_15 ls H locs hmu; exact absurd hmu (Nat.not_lt_zero _)
    | succ k ih15 =>
      intro l4_15 told_15 ls H locs hmu15 hw hI hl
      replace hw := hb15 l4_15 told_15 hw
      refine lv_iload hx hb dX11_marks_15 (lv_at hl 3 rfl) ?_
      refine lv_iload_n hx hb dX11_marks_17 rfl (lv_at hl 2 rfl) ?_
      refine lv_icmp_eq (tgt := 45) hx hb dX11_marks_18 (by decide) (fun c3 => ?_) (fun c3 => ?_)
      · replace hw := hw.1 c3
        subst hQ
        exact x_vret (u := told_15) hC hI hr hlk hw rfl dX11_marks_45
      · replace hw := hw.2 c3
        refine lv_iload hx hb dX11_marks_21 (lv_at hl 3 rfl) ?_
        refine lv_iconst (v := (1 : Int32)) hx hb dX11_marks_23 (by decide) ?_
        refine lv_iadd hx hb dX11_marks_24 ?_
        refine lv_bipush (v := (24 : Int32)) hx hb dX11_marks_25 (by decide) ?_
        refine lv_irem hx hb dX11_marks_27 (by decide) ?_
        refine lv_topi (fun x4 ex4 => ?_)
        replace hw := hw x4 ex4
        refine lv_istore (lv' := [(4, .int x4), (0, .ref (h 0)), (1, .int a1), (3, .int a3)]) hx hb dX11_marks_28 hl (by decide) rfl (fun ls hl => ?_)
        refine lv_aload_n hx hb dX11_marks_30 rfl (lv_at hl 1 rfl) ?_
        refine x_get (v := .ref (h 14)) hC hI kX11_marks_cX11 0 rfl rfl 18 (by decide) kX11_marks_0 rfl rfl dX11_marks_31 ?_
        refine lv_iload_n hx hb dX11_marks_34 rfl (lv_at hl 2 rfl) ?_
        refine lv_iload hx hb dX11_marks_35 (lv_at hl 0 rfl) ?_
        refine x_callSi (rest := [.ref (h 14)]) hC hI [] (mX11_numberOf l D K  _ a1 x4 hw) (va_cwS 2 hts gX11_marks_X11_numberOf rfl rfl rfl (by decide +kernel) ⟨(Nat.le_of_ble_eq_true rfl), (Nat.le_of_ble_eq_true rfl)⟩) (by decide) rfl (fun _ => rfl) rfl hl.1 rfl (Nat.le_of_ble_eq_true rfl) dX11_marks_37 ⟨(Nat.le_of_ble_eq_true rfl), (Nat.le_of_ble_eq_true rfl)⟩ (fun r5 u H locs hw hI => ?_)
        try dsimp only at hw
        have hI : wI s D A (fl [wMo K h st past acts image ipast iacts tape tmany laneOf sizeOf items seaFirst worstOf farTo stepsTo needs nmany mat told_15]) H locs := hI
        refine lv_iconst (v := (1 : Int32)) hx hb dX11_marks_40 (by decide) ?_
        obtain ⟨hc6, hw⟩ := hw
        refine x_iast (f := told_15) hC hI 14 rfl hc6 dX11_marks_41 (fun H locs hI => ?_)
        have hI : wI s D A (fl [wMo K h st past acts image ipast iacts tape tmany laneOf sizeOf items seaFirst worstOf farTo stepsTo needs nmany mat (upd told_15 r5.toNatClampNeg (1 : Int32))]) H locs := hI
        refine lv_goto (tgt := 15) hx hb dX11_marks_42 (by decide) ?_
        exact ih15 x4 (upd told_15 r5.toNatClampNeg (1 : Int32)) ls H locs (Nat.lt_of_lt_of_le hw.2 (Nat.le_of_lt_succ hmu15)) hw.1 hI (lv_sub hl [1, 2, 3, 0] rfl)
  exact lp15 (mu15 a2 (upd told r1.toNatClampNeg (1 : Int32)) + 1) a2 (upd told r1.toNatClampNeg (1 : Int32)) ls H locs (Nat.lt_succ_self _) hw hI (lv_sub hl [1, 2, 4, 0] rfl)

def wX11_readsRun (a1 : Int32) (tape : Nat → Int32) (tmany : Int32) (mat : Int32) (told : Nat → Int32) (post : Int32 → Int32 → (Nat → Int32) → Prop) : Prop := wX11_readsNumber tape tmany mat (fun (r2 : Int32) (mat_c1 : Int32) => ((0 ≤ r2 → wX11_takes (45 : Int32) tape tmany mat_c1 (fun (r5 : Int32) (mat_c4 : Int32) => ∃ J27 : Int32 → Int32 → Prop, (∀ (j3_27 : Int32) (mat_27 : Int32), J27 j3_27 mat_27 → ((0 ≤ j3_27 → wX11_marks a1 r2 j3_27 told (fun (told_c7 : Nat → Int32) => post (1 : Int32) mat_27 told_c7)) ∧ (¬ 0 ≤ j3_27 → post (0 : Int32) mat_27 told))) ∧ ((r5 = 0 → J27 r2 mat_c4) ∧ (¬ r5 = 0 → wX11_readsNumber tape tmany mat_c4 (fun (r10 : Int32) (mat_c9 : Int32) => J27 r10 mat_c9))))) ∧ (¬ 0 ≤ r2 → post (0 : Int32) mat_c1 told)))
def rmX11_readsRun : Room := { frames := 3, cells := 0, slots := 0, locals := 62 }
set_option maxHeartbeats 4000000 in
set_option maxRecDepth 100000 in
theorem mX11_readsRun (l : Launch) (D : va_G) (K : Nat → ClassId) (h : Nat → Nat) (sz : Nat) (a1 : Int32) (st : Nat → Int32) (past : Nat → Int32) (acts : Int32) (image : Nat → Int32) (ipast : Nat → Int32) (iacts : Int32) (tape : Nat → Int32) (tmany : Int32) (laneOf : Nat → Int32) (sizeOf : Nat → Int32) (items : Nat → Int64) (seaFirst : Nat → Int32) (worstOf : Nat → Int32) (farTo : Nat → Int32) (stepsTo : Nat → Int32) (needs : Nat → Int32) (nmany : Int32) (mat : Int32) (told : Nat → Int32)  {post : Int32 → Int32 → (Nat → Int32) → Prop} (hw : wX11_readsRun a1 tape tmany mat told post) : Met l yX11_readsRun wsX11_readsRun rmX11_readsRun (va_Pc [.ref (h 0), .int a1] (cP D K (fl [wMo K h st past acts image ipast iacts tape tmany laneOf sizeOf items seaFirst worstOf farTo stepsTo needs nmany mat told]) sz)) (va_Qi (fun (r : Int32) (u : Int32 × (Nat → Int32)) => post r u.1 u.2) (fun u t => cQ D K (fl [wMo K h st past acts image ipast iacts tape tmany laneOf sizeOf items seaFirst worstOf farTo stepsTo needs nmany u.1 u.2]) (va_A (fl [wMo K h st past acts image ipast iacts tape tmany laneOf sizeOf items seaFirst worstOf farTo stepsTo needs nmany mat told]) sz) t) (va_A (fl [wMo K h st past acts image ipast iacts tape tmany laneOf sizeOf items seaFirst worstOf farTo stepsTo needs nmany mat told]) sz)) 0 0 (va_A (fl [wMo K h st past acts image ipast iacts tape tmany laneOf sizeOf items seaFirst worstOf farTo stepsTo needs nmany mat told]) sz) := by
  refine x_entry (cc := cX11_readsRun) (maxL := 4) (ret := (some .boolean)) (QA := fun A => va_Qi (fun (r : Int32) (u : Int32 × (Nat → Int32)) => post r u.1 u.2) (fun u t => cQ D K (fl [wMo K h st past acts image ipast iacts tape tmany laneOf sizeOf items seaFirst worstOf farTo stepsTo needs nmany u.1 u.2]) A t) A) (plainFor_of_name (by decide)) rfl (Nat.le_of_ble_eq_true rfl) ?_
  intro p e s m args below meth c A ls H Q hQ hC hlk hr hnm hI hl
  obtain ⟨hx, hb, hml, hown, hts, hK, hA, hZ⟩ := id hC
  obtain ⟨locs, hlocs⟩ : ∃ y : List Loc, y = [] := ⟨_, rfl⟩
  rw [← hlocs] at hI ⊢
  clear hlocs
  replace hl : lv_has ls 4 [(0, .ref (h 0)), (1, .int a1)] := hl
  replace hw : wX11_readsNumber tape tmany mat (fun (r2 : Int32) (mat_c1 : Int32) => ((0 ≤ r2 → wX11_takes (45 : Int32) tape tmany mat_c1 (fun (r5 : Int32) (mat_c4 : Int32) => ∃ J27 : Int32 → Int32 → Prop, (∀ (j3_27 : Int32) (mat_27 : Int32), J27 j3_27 mat_27 → ((0 ≤ j3_27 → wX11_marks a1 r2 j3_27 told (fun (told_c7 : Nat → Int32) => post (1 : Int32) mat_27 told_c7)) ∧ (¬ 0 ≤ j3_27 → post (0 : Int32) mat_27 told))) ∧ ((r5 = 0 → J27 r2 mat_c4) ∧ (¬ r5 = 0 → wX11_readsNumber tape tmany mat_c4 (fun (r10 : Int32) (mat_c9 : Int32) => J27 r10 mat_c9))))) ∧ (¬ 0 ≤ r2 → post (0 : Int32) mat_c1 told))) := hw
  refine lv_aload_n hx hb dX11_readsRun_0 rfl (lv_at hl 0 rfl) ?_
  refine x_callWi (rest := []) hC hI (mX11_readsNumber l D K h _ st past acts image ipast iacts tape tmany laneOf sizeOf items seaFirst worstOf farTo stepsTo needs nmany mat told hw) (cwV 0 hts gX11_readsRun_X11_readsNumber rfl rfl rfl (by decide +kernel) ⟨(Nat.le_of_ble_eq_true rfl), (Nat.le_of_ble_eq_true rfl)⟩) (fun _ => rfl) 0 9 rfl rfl rfl rfl hl.1 rfl (Nat.le_of_ble_eq_true rfl) dX11_readsRun_1 ⟨(Nat.le_of_ble_eq_true rfl), (Nat.le_of_ble_eq_true rfl)⟩ (fun r2 mat_c1 H locs hw hI => ?_)
  have hI : wI s D A (fl [wMo K h st past acts image ipast iacts tape tmany laneOf sizeOf items seaFirst worstOf farTo stepsTo needs nmany mat_c1 told]) H locs := hI
  refine lv_istore_n (lv' := [(2, .int r2), (0, .ref (h 0)), (1, .int a1)]) hx hb dX11_readsRun_4 rfl hl (by decide) rfl (fun ls hl => ?_)
  refine lv_iload_n hx hb dX11_readsRun_5 rfl (lv_at hl 0 rfl) ?_
  refine lv_if_ge (tgt := 11) hx hb dX11_readsRun_6 (by decide) (fun c3 => ?_) (fun c3 => ?_)
  · replace hw := hw.1 c3
    refine lv_iload_n hx hb dX11_readsRun_11 rfl (lv_at hl 0 rfl) ?_
    refine lv_istore_n (lv' := [(3, .int r2), (2, .int r2), (0, .ref (h 0)), (1, .int a1)]) hx hb dX11_readsRun_12 rfl hl (by decide) rfl (fun ls hl => ?_)
    refine lv_aload_n hx hb dX11_readsRun_13 rfl (lv_at hl 2 rfl) ?_
    refine lv_bipush (v := (45 : Int32)) hx hb dX11_readsRun_14 (by decide) ?_
    refine x_callWi (rest := []) hC hI (mX11_takes l D K h _ (45 : Int32) st past acts image ipast iacts tape tmany laneOf sizeOf items seaFirst worstOf farTo stepsTo needs nmany mat_c1 told hw) (cwV 1 hts gX11_readsRun_X11_takes rfl rfl rfl (by decide +kernel) ⟨(Nat.le_of_ble_eq_true rfl), (Nat.le_of_ble_eq_true rfl)⟩) (fun _ => rfl) 0 9 rfl rfl rfl rfl hl.1 rfl (Nat.le_of_ble_eq_true rfl) dX11_readsRun_16 ⟨(Nat.le_of_ble_eq_true rfl), (Nat.le_of_ble_eq_true rfl)⟩ (fun r5 mat_c4 H locs hw hI => ?_)
    have hI : wI s D A (fl [wMo K h st past acts image ipast iacts tape tmany laneOf sizeOf items seaFirst worstOf farTo stepsTo needs nmany mat_c4 told]) H locs := hI
    obtain ⟨J27, hJ27, hw⟩ := hw
    have jn27 : ∀ (j3_27 : Int32) (mat_27 : Int32) (ls : Array Slot) (H : Heap) (locs : List Loc), J27 j3_27 mat_27 → wI s D A (fl [wMo K h st past acts image ipast iacts tape tmany laneOf sizeOf items seaFirst worstOf farTo stepsTo needs nmany mat_27 told]) H locs → lv_has ls 4 [(0, .ref (h 0)), (1, .int a1), (2, .int r2), (3, .int j3_27)] → W p l e rmX11_readsRun s m args below meth c H locs 0 0 Q (F0 m 27 ls []) := by
      intro j3_27 mat_27 ls H locs hw hI hl
      replace hw := hJ27 j3_27 mat_27 hw
      refine lv_iload_n hx hb dX11_readsRun_27 rfl (lv_at hl 3 rfl) ?_
      refine lv_if_ge (tgt := 33) hx hb dX11_readsRun_28 (by decide) (fun c6 => ?_) (fun c6 => ?_)
      · replace hw := hw.1 c6
        refine lv_aload_n hx hb dX11_readsRun_33 rfl (lv_at hl 0 rfl) ?_
        refine lv_iload_n hx hb dX11_readsRun_34 rfl (lv_at hl 1 rfl) ?_
        refine lv_iload_n hx hb dX11_readsRun_35 rfl (lv_at hl 2 rfl) ?_
        refine lv_iload_n hx hb dX11_readsRun_36 rfl (lv_at hl 3 rfl) ?_
        refine x_callWv (rest := []) hC hI (mX11_marks l D K h _ a1 r2 j3_27 st past acts image ipast iacts tape tmany laneOf sizeOf items seaFirst worstOf farTo stepsTo needs nmany mat_27 told hw) (cwV 3 hts gX11_readsRun_X11_marks rfl rfl rfl (by decide +kernel) ⟨(Nat.le_of_ble_eq_true rfl), (Nat.le_of_ble_eq_true rfl)⟩) (fun _ => rfl) 0 9 rfl rfl rfl rfl hl.1 rfl (Nat.le_of_ble_eq_true rfl) dX11_readsRun_37 ⟨(Nat.le_of_ble_eq_true rfl), (Nat.le_of_ble_eq_true rfl)⟩ (fun told_c7 H locs hw hI => ?_)
        have hI : wI s D A (fl [wMo K h st past acts image ipast iacts tape tmany laneOf sizeOf items seaFirst worstOf farTo stepsTo needs nmany mat_27 told_c7]) H locs := hI
        refine lv_iconst (v := (1 : Int32)) hx hb dX11_readsRun_40 (by decide) ?_
        subst hQ
        exact x_zret (u := (mat_27, told_c7)) hC hI hr hlk hw rfl (Or.inr rfl) dX11_readsRun_41
      · replace hw := hw.2 c6
        refine lv_iconst (v := (0 : Int32)) hx hb dX11_readsRun_31 (by decide) ?_
        subst hQ
        exact x_zret (u := (mat_27, told)) hC hI hr hlk hw rfl (Or.inl rfl) dX11_readsRun_32
    refine lv_if_eq (tgt := 27) hx hb dX11_readsRun_19 (by decide) (fun c8 => ?_) (fun c8 => ?_)
    · replace hw := hw.1 c8
      exact jn27 r2 mat_c4 ls H locs hw hI (lv_sub hl [2, 3, 1, 0] rfl)
    · replace hw := hw.2 c8
      refine lv_aload_n hx hb dX11_readsRun_22 rfl (lv_at hl 2 rfl) ?_
      refine x_callWi (rest := []) hC hI (mX11_readsNumber l D K h _ st past acts image ipast iacts tape tmany laneOf sizeOf items seaFirst worstOf farTo stepsTo needs nmany mat_c4 told hw) (cwV 0 hts gX11_readsRun_X11_readsNumber rfl rfl rfl (by decide +kernel) ⟨(Nat.le_of_ble_eq_true rfl), (Nat.le_of_ble_eq_true rfl)⟩) (fun _ => rfl) 0 9 rfl rfl rfl rfl hl.1 rfl (Nat.le_of_ble_eq_true rfl) dX11_readsRun_23 ⟨(Nat.le_of_ble_eq_true rfl), (Nat.le_of_ble_eq_true rfl)⟩ (fun r10 mat_c9 H locs hw hI => ?_)
      have hI : wI s D A (fl [wMo K h st past acts image ipast iacts tape tmany laneOf sizeOf items seaFirst worstOf farTo stepsTo needs nmany mat_c9 told]) H locs := hI
      refine lv_istore_n (lv' := [(3, .int r10), (2, .int r2), (0, .ref (h 0)), (1, .int a1)]) hx hb dX11_readsRun_26 rfl hl (by decide) rfl (fun ls hl => ?_)
      exact jn27 r10 mat_c9 ls H locs hw hI (lv_sub hl [2, 3, 1, 0] rfl)
  · replace hw := hw.2 c3
    refine lv_iconst (v := (0 : Int32)) hx hb dX11_readsRun_9 (by decide) ?_
    subst hQ
    exact x_zret (u := (mat_c1, told)) hC hI hr hlk hw rfl (Or.inl rfl) dX11_readsRun_10

def wX11_readsRow  (tape : Nat → Int32) (tmany : Int32) (mat : Int32) (told : Nat → Int32) (post : Int32 → Int32 → (Nat → Int32) → Prop) : Prop := wX11_takes (45 : Int32) tape tmany mat (fun (r2 : Int32) (mat_c1 : Int32) => wX11_sign tape tmany mat_c1 (fun (r4 : Int32) (mat_c3 : Int32) => wX11_in r4 (48 : Int32) (54 : Int32) (fun (r5 : Int32) => ((r5 = 0 → post (0 : Int32) mat_c3 told) ∧ (¬ r5 = 0 → ∀ x7 : Int32, x7 = mat_c3 + (1 : Int32) → ∃ J50 : Int32 → Prop, (∀ (t_50 : Int32), J50 t_50 → wX11_takes (58 : Int32) tape tmany x7 (fun (r9 : Int32) (mat_c8 : Int32) => ((r9 = 0 → post (0 : Int32) mat_c8 told) ∧ (¬ r9 = 0 → wX11_readsRun t_50 tape tmany mat_c8 told (fun (r13 : Int32) (mat_c11 : Int32) (told_c12 : Nat → Int32) => (∃ (I69 : Int32 → Int32 → (Nat → Int32) → Prop) (mu69 : Int32 → Int32 → (Nat → Int32) → Nat), I69 r13 mat_c11 told_c12 ∧ ∀ (l4_69 : Int32) (mat_69 : Int32) (told_69 : Nat → Int32), I69 l4_69 mat_69 told_69 → ((l4_69 = 0 → (l4_69 = 0 ∨ l4_69 = 1) ∧ post l4_69 mat_69 told_69) ∧ (¬ l4_69 = 0 → wX11_takes (44 : Int32) tape tmany mat_69 (fun (r17 : Int32) (mat_c16 : Int32) => ((r17 = 0 → (l4_69 = 0 ∨ l4_69 = 1) ∧ post l4_69 mat_c16 told_69) ∧ (¬ r17 = 0 → wX11_readsRun t_50 tape tmany mat_c16 told_69 (fun (r22 : Int32) (mat_c20 : Int32) (told_c21 : Nat → Int32) => (I69 r22 mat_c20 told_c21 ∧ mu69 r22 mat_c20 told_c21 < mu69 l4_69 mat_69 told_69))))))))))))) ∧ ((r2 = 0 → J50 (r4 - (48 : Int32))) ∧ (¬ r2 = 0 → J50 ((48 : Int32) - r4))))))))
def rmX11_readsRow : Room := { frames := 4, cells := 0, slots := 0, locals := 85 }
theorem kX11_readsRow_0 : Cond.fieldLink RX11 252 "GoreGlobeModel" "at" "I" ∈ wsX11_readsRow := List.mem_cons_of_mem _ (List.mem_append_left _ (List.mem_append_left _ (List.mem_of_getElem? (i := 0) rfl)))
theorem kX11_readsRow_cX11 : ∀ w ∈ wsX110, w ∈ wsX11_readsRow := fun _ h => List.mem_cons_of_mem _ (List.mem_append_right _ h)
set_option maxHeartbeats 4000000 in
set_option maxRecDepth 100000 in
theorem mX11_readsRow (l : Launch) (D : va_G) (K : Nat → ClassId) (h : Nat → Nat) (sz : Nat)  (st : Nat → Int32) (past : Nat → Int32) (acts : Int32) (image : Nat → Int32) (ipast : Nat → Int32) (iacts : Int32) (tape : Nat → Int32) (tmany : Int32) (laneOf : Nat → Int32) (sizeOf : Nat → Int32) (items : Nat → Int64) (seaFirst : Nat → Int32) (worstOf : Nat → Int32) (farTo : Nat → Int32) (stepsTo : Nat → Int32) (needs : Nat → Int32) (nmany : Int32) (mat : Int32) (told : Nat → Int32)  {post : Int32 → Int32 → (Nat → Int32) → Prop} (hw : wX11_readsRow  tape tmany mat told post) : Met l yX11_readsRow wsX11_readsRow rmX11_readsRow (va_Pc [.ref (h 0)] (cP D K (fl [wMo K h st past acts image ipast iacts tape tmany laneOf sizeOf items seaFirst worstOf farTo stepsTo needs nmany mat told]) sz)) (va_Qi (fun (r : Int32) (u : Int32 × (Nat → Int32)) => post r u.1 u.2) (fun u t => cQ D K (fl [wMo K h st past acts image ipast iacts tape tmany laneOf sizeOf items seaFirst worstOf farTo stepsTo needs nmany u.1 u.2]) (va_A (fl [wMo K h st past acts image ipast iacts tape tmany laneOf sizeOf items seaFirst worstOf farTo stepsTo needs nmany mat told]) sz) t) (va_A (fl [wMo K h st past acts image ipast iacts tape tmany laneOf sizeOf items seaFirst worstOf farTo stepsTo needs nmany mat told]) sz)) 0 0 (va_A (fl [wMo K h st past acts image ipast iacts tape tmany laneOf sizeOf items seaFirst worstOf farTo stepsTo needs nmany mat told]) sz) := by
  refine x_entry (cc := cX11_readsRow) (maxL := 5) (ret := (some .boolean)) (QA := fun A => va_Qi (fun (r : Int32) (u : Int32 × (Nat → Int32)) => post r u.1 u.2) (fun u t => cQ D K (fl [wMo K h st past acts image ipast iacts tape tmany laneOf sizeOf items seaFirst worstOf farTo stepsTo needs nmany u.1 u.2]) A t) A) (plainFor_of_name (by decide)) rfl (Nat.le_of_ble_eq_true rfl) ?_
  intro p e s m args below meth c A ls H Q hQ hC hlk hr hnm hI hl
  obtain ⟨hx, hb, hml, hown, hts, hK, hA, hZ⟩ := id hC
  obtain ⟨locs, hlocs⟩ : ∃ y : List Loc, y = [] := ⟨_, rfl⟩
  rw [← hlocs] at hI ⊢
  clear hlocs
  replace hl : lv_has ls 5 [(0, .ref (h 0))] := hl
  replace hw : wX11_takes (45 : Int32) tape tmany mat (fun (r2 : Int32) (mat_c1 : Int32) => wX11_sign tape tmany mat_c1 (fun (r4 : Int32) (mat_c3 : Int32) => wX11_in r4 (48 : Int32) (54 : Int32) (fun (r5 : Int32) => ((r5 = 0 → post (0 : Int32) mat_c3 told) ∧ (¬ r5 = 0 → ∀ x7 : Int32, x7 = mat_c3 + (1 : Int32) → ∃ J50 : Int32 → Prop, (∀ (t_50 : Int32), J50 t_50 → wX11_takes (58 : Int32) tape tmany x7 (fun (r9 : Int32) (mat_c8 : Int32) => ((r9 = 0 → post (0 : Int32) mat_c8 told) ∧ (¬ r9 = 0 → wX11_readsRun t_50 tape tmany mat_c8 told (fun (r13 : Int32) (mat_c11 : Int32) (told_c12 : Nat → Int32) => (∃ (I69 : Int32 → Int32 → (Nat → Int32) → Prop) (mu69 : Int32 → Int32 → (Nat → Int32) → Nat), I69 r13 mat_c11 told_c12 ∧ ∀ (l4_69 : Int32) (mat_69 : Int32) (told_69 : Nat → Int32), I69 l4_69 mat_69 told_69 → ((l4_69 = 0 → (l4_69 = 0 ∨ l4_69 = 1) ∧ post l4_69 mat_69 told_69) ∧ (¬ l4_69 = 0 → wX11_takes (44 : Int32) tape tmany mat_69 (fun (r17 : Int32) (mat_c16 : Int32) => ((r17 = 0 → (l4_69 = 0 ∨ l4_69 = 1) ∧ post l4_69 mat_c16 told_69) ∧ (¬ r17 = 0 → wX11_readsRun t_50 tape tmany mat_c16 told_69 (fun (r22 : Int32) (mat_c20 : Int32) (told_c21 : Nat → Int32) => (I69 r22 mat_c20 told_c21 ∧ mu69 r22 mat_c20 told_c21 < mu69 l4_69 mat_69 told_69))))))))))))) ∧ ((r2 = 0 → J50 (r4 - (48 : Int32))) ∧ (¬ r2 = 0 → J50 ((48 : Int32) - r4)))))))) := hw
  refine lv_aload_n hx hb dX11_readsRow_0 rfl (lv_at hl 0 rfl) ?_
  refine lv_bipush (v := (45 : Int32)) hx hb dX11_readsRow_1 (by decide) ?_
  refine x_callWi (rest := []) hC hI (mX11_takes l D K h _ (45 : Int32) st past acts image ipast iacts tape tmany laneOf sizeOf items seaFirst worstOf farTo stepsTo needs nmany mat told hw) (cwV 1 hts gX11_readsRow_X11_takes rfl rfl rfl (by decide +kernel) ⟨(Nat.le_of_ble_eq_true rfl), (Nat.le_of_ble_eq_true rfl)⟩) (fun _ => rfl) 0 9 rfl rfl rfl rfl hl.1 rfl (Nat.le_of_ble_eq_true rfl) dX11_readsRow_3 ⟨(Nat.le_of_ble_eq_true rfl), (Nat.le_of_ble_eq_true rfl)⟩ (fun r2 mat_c1 H locs hw hI => ?_)
  have hI : wI s D A (fl [wMo K h st past acts image ipast iacts tape tmany laneOf sizeOf items seaFirst worstOf farTo stepsTo needs nmany mat_c1 told]) H locs := hI
  refine lv_istore_n (lv' := [(1, .int r2), (0, .ref (h 0))]) hx hb dX11_readsRow_6 rfl hl (by decide) rfl (fun ls hl => ?_)
  refine lv_aload_n hx hb dX11_readsRow_7 rfl (lv_at hl 1 rfl) ?_
  refine x_callWi (rest := []) hC hI (mX11_sign l D K h _ st past acts image ipast iacts tape tmany laneOf sizeOf items seaFirst worstOf farTo stepsTo needs nmany mat_c1 told hw) (cwV 0 hts gX11_readsRow_X11_sign rfl rfl rfl (by decide +kernel) ⟨(Nat.le_of_ble_eq_true rfl), (Nat.le_of_ble_eq_true rfl)⟩) (fun _ => rfl) 0 9 rfl rfl rfl rfl hl.1 rfl (Nat.le_of_ble_eq_true rfl) dX11_readsRow_8 ⟨(Nat.le_of_ble_eq_true rfl), (Nat.le_of_ble_eq_true rfl)⟩ (fun r4 mat_c3 H locs hw hI => ?_)
  have hI : wI s D A (fl [wMo K h st past acts image ipast iacts tape tmany laneOf sizeOf items seaFirst worstOf farTo stepsTo needs nmany mat_c3 told]) H locs := hI
  refine lv_istore_n (lv' := [(2, .int r4), (1, .int r2), (0, .ref (h 0))]) hx hb dX11_readsRow_11 rfl hl (by decide) rfl (fun ls hl => ?_)
  refine lv_iload_n hx hb dX11_readsRow_12 rfl (lv_at hl 0 rfl) ?_
  refine lv_bipush (v := (48 : Int32)) hx hb dX11_readsRow_13 (by decide) ?_
  refine lv_bipush (v := (54 : Int32)) hx hb dX11_readsRow_15 (by decide) ?_
  refine x_callSi (rest := []) hC hI [] (mX11_in l D K  _ r4 (48 : Int32) (54 : Int32) hw) (va_cwS 3 hts gX11_readsRow_X11_in rfl rfl rfl (by decide +kernel) ⟨(Nat.le_of_ble_eq_true rfl), (Nat.le_of_ble_eq_true rfl)⟩) (by decide) rfl (fun _ => rfl) rfl hl.1 rfl (Nat.le_of_ble_eq_true rfl) dX11_readsRow_17 ⟨(Nat.le_of_ble_eq_true rfl), (Nat.le_of_ble_eq_true rfl)⟩ (fun r5 u H locs hw hI => ?_)
  try dsimp only at hw
  have hI : wI s D A (fl [wMo K h st past acts image ipast iacts tape tmany laneOf sizeOf items seaFirst worstOf farTo stepsTo needs nmany mat_c3 told]) H locs := hI
  refine lv_if_ne (tgt := 25) hx hb dX11_readsRow_20 (by decide) (fun c6 => ?_) (fun c6 => ?_)
  · replace hw := hw.2 c6
    refine lv_aload_n hx hb dX11_readsRow_25 rfl (lv_at hl 2 rfl) ?_
    refine lv_dup hx hb dX11_readsRow_26 rfl ?_
    refine x_get (v := .int mat_c3) hC hI kX11_readsRow_cX11 0 rfl rfl 17 (by decide) kX11_readsRow_0 rfl rfl dX11_readsRow_27 ?_
    refine lv_iconst (v := (1 : Int32)) hx hb dX11_readsRow_30 (by decide) ?_
    refine lv_iadd hx hb dX11_readsRow_31 ?_
    refine lv_topi (fun x7 ex7 => ?_)
    replace hw := hw x7 ex7
    refine x_put (v := .int x7) hC hI kX11_readsRow_cX11 tyX11 tyX11_ok nmX11 0 rfl rfl 17 (by decide) kX11_readsRow_0 rfl rfl rfl rfl (Nat.le_of_ble_eq_true rfl) dX11_readsRow_32 (fun H locs hI => ?_)
    have hI : wI s D A (fl [wMo K h st past acts image ipast iacts tape tmany laneOf sizeOf items seaFirst worstOf farTo stepsTo needs nmany x7 told]) H locs := hI
    refine lv_iload_n hx hb dX11_readsRow_35 rfl (lv_at hl 1 rfl) ?_
    obtain ⟨J50, hJ50, hw⟩ := hw
    have jn50 : ∀ (t_50 : Int32) (ls : Array Slot) (H : Heap) (locs : List Loc), J50 t_50 → wI s D A (fl [wMo K h st past acts image ipast iacts tape tmany laneOf sizeOf items seaFirst worstOf farTo stepsTo needs nmany x7 told]) H locs → lv_has ls 5 [(0, .ref (h 0))] → W p l e rmX11_readsRow s m args below meth c H locs 0 0 Q (F0 m 50 ls [.int t_50]) := by
      intro t_50 ls H locs hw hI hl
      replace hw := hJ50 t_50 hw
      refine lv_istore_n (lv' := [(3, .int t_50), (0, .ref (h 0))]) hx hb dX11_readsRow_50 rfl hl (by decide) rfl (fun ls hl => ?_)
      refine lv_aload_n hx hb dX11_readsRow_51 rfl (lv_at hl 1 rfl) ?_
      refine lv_bipush (v := (58 : Int32)) hx hb dX11_readsRow_52 (by decide) ?_
      refine x_callWi (rest := []) hC hI (mX11_takes l D K h _ (58 : Int32) st past acts image ipast iacts tape tmany laneOf sizeOf items seaFirst worstOf farTo stepsTo needs nmany x7 told hw) (cwV 1 hts gX11_readsRow_X11_takes rfl rfl rfl (by decide +kernel) ⟨(Nat.le_of_ble_eq_true rfl), (Nat.le_of_ble_eq_true rfl)⟩) (fun _ => rfl) 0 9 rfl rfl rfl rfl hl.1 rfl (Nat.le_of_ble_eq_true rfl) dX11_readsRow_54 ⟨(Nat.le_of_ble_eq_true rfl), (Nat.le_of_ble_eq_true rfl)⟩ (fun r9 mat_c8 H locs hw hI => ?_)
      have hI : wI s D A (fl [wMo K h st past acts image ipast iacts tape tmany laneOf sizeOf items seaFirst worstOf farTo stepsTo needs nmany mat_c8 told]) H locs := hI
      refine lv_if_ne (tgt := 62) hx hb dX11_readsRow_57 (by decide) (fun c10 => ?_) (fun c10 => ?_)
      · replace hw := hw.2 c10
        refine lv_aload_n hx hb dX11_readsRow_62 rfl (lv_at hl 1 rfl) ?_
        refine lv_iload_n hx hb dX11_readsRow_63 rfl (lv_at hl 0 rfl) ?_
        refine x_callWi (rest := []) hC hI (mX11_readsRun l D K h _ t_50 st past acts image ipast iacts tape tmany laneOf sizeOf items seaFirst worstOf farTo stepsTo needs nmany mat_c8 told hw) (cwV 1 hts gX11_readsRow_X11_readsRun rfl rfl rfl (by decide +kernel) ⟨(Nat.le_of_ble_eq_true rfl), (Nat.le_of_ble_eq_true rfl)⟩) (fun _ => rfl) 0 9 rfl rfl rfl rfl hl.1 rfl (Nat.le_of_ble_eq_true rfl) dX11_readsRow_64 ⟨(Nat.le_of_ble_eq_true rfl), (Nat.le_of_ble_eq_true rfl)⟩ (fun r13 u H locs hw hI => ?_)
        obtain ⟨mat_c11, told_c12⟩ := u
        try dsimp only at hw
        have hI : wI s D A (fl [wMo K h st past acts image ipast iacts tape tmany laneOf sizeOf items seaFirst worstOf farTo stepsTo needs nmany mat_c11 told_c12]) H locs := hI
        refine lv_istore (lv' := [(4, .int r13), (3, .int t_50), (0, .ref (h 0))]) hx hb dX11_readsRow_67 hl (by decide) rfl (fun ls hl => ?_)
        obtain ⟨I69, mu69, hw, hb69⟩ := hw
        have lp69 : ∀ (k : Nat) (l4_69 : Int32) (mat_69 : Int32) (told_69 : Nat → Int32) (ls : Array Slot) (H : Heap) (locs : List Loc), mu69 l4_69 mat_69 told_69 < k → I69 l4_69 mat_69 told_69 → wI s D A (fl [wMo K h st past acts image ipast iacts tape tmany laneOf sizeOf items seaFirst worstOf farTo stepsTo needs nmany mat_69 told_69]) H locs → lv_has ls 5 [(0, .ref (h 0)), (3, .int t_50), (4, .int l4_69)] → W p l e rmX11_readsRow s m args below meth c H locs 0 0 Q (F0 m 69 ls []) := by
          intro k
          induction k with
          | zero => intro l4_69 mat_69 told_69 ls H locs hmu; exact absurd hmu (Nat.not_lt_zero _)
          | succ k ih69 =>
            intro l4_69 mat_69 told_69 ls H locs hmu69 hw hI hl
            replace hw := hb69 l4_69 mat_69 told_69 hw
            refine lv_iload hx hb dX11_readsRow_69 (lv_at hl 2 rfl) ?_
            refine lv_if_eq (tgt := 93) hx hb dX11_readsRow_71 (by decide) (fun c14 => ?_) (fun c14 => ?_)
            · replace hw := hw.1 c14
              refine lv_iload hx hb dX11_readsRow_93 (lv_at hl 2 rfl) ?_
              obtain ⟨hc15, hw⟩ := hw
              subst hQ
              exact x_zret (u := (mat_69, told_69)) hC hI hr hlk hw rfl hc15 dX11_readsRow_95
            · replace hw := hw.2 c14
              refine lv_aload_n hx hb dX11_readsRow_74 rfl (lv_at hl 0 rfl) ?_
              refine lv_bipush (v := (44 : Int32)) hx hb dX11_readsRow_75 (by decide) ?_
              refine x_callWi (rest := []) hC hI (mX11_takes l D K h _ (44 : Int32) st past acts image ipast iacts tape tmany laneOf sizeOf items seaFirst worstOf farTo stepsTo needs nmany mat_69 told_69 hw) (cwV 1 hts gX11_readsRow_X11_takes rfl rfl rfl (by decide +kernel) ⟨(Nat.le_of_ble_eq_true rfl), (Nat.le_of_ble_eq_true rfl)⟩) (fun _ => rfl) 0 9 rfl rfl rfl rfl hl.1 rfl (Nat.le_of_ble_eq_true rfl) dX11_readsRow_77 ⟨(Nat.le_of_ble_eq_true rfl), (Nat.le_of_ble_eq_true rfl)⟩ (fun r17 mat_c16 H locs hw hI => ?_)
              have hI : wI s D A (fl [wMo K h st past acts image ipast iacts tape tmany laneOf sizeOf items seaFirst worstOf farTo stepsTo needs nmany mat_c16 told_69]) H locs := hI
              refine lv_if_eq (tgt := 93) hx hb dX11_readsRow_80 (by decide) (fun c18 => ?_) (fun c18 => ?_)
              · replace hw := hw.1 c18
                refine lv_iload hx hb dX11_readsRow_93 (lv_at hl 2 rfl) ?_
                obtain ⟨hc19, hw⟩ := hw
                subst hQ
                exact x_zret (u := (mat_c16, told_69)) hC hI hr hlk hw rfl hc19 dX11_readsRow_95
              · replace hw := hw.2 c18
                refine lv_aload_n hx hb dX11_readsRow_83 rfl (lv_at hl 0 rfl) ?_
                refine lv_iload_n hx hb dX11_readsRow_84 rfl (lv_at hl 1 rfl) ?_
                refine x_callWi (rest := []) hC hI (mX11_readsRun l D K h _ t_50 st past acts image ipast iacts tape tmany laneOf sizeOf items seaFirst worstOf farTo stepsTo needs nmany mat_c16 told_69 hw) (cwV 1 hts gX11_readsRow_X11_readsRun rfl rfl rfl (by decide +kernel) ⟨(Nat.le_of_ble_eq_true rfl), (Nat.le_of_ble_eq_true rfl)⟩) (fun _ => rfl) 0 9 rfl rfl rfl rfl hl.1 rfl (Nat.le_of_ble_eq_true rfl) dX11_readsRow_85 ⟨(Nat.le_of_ble_eq_true rfl), (Nat.le_of_ble_eq_true rfl)⟩ (fun r22 u H locs hw hI => ?_)
                obtain ⟨mat_c20, told_c21⟩ := u
                try dsimp only at hw
                have hI : wI s D A (fl [wMo K h st past acts image ipast iacts tape tmany laneOf sizeOf items seaFirst worstOf farTo stepsTo needs nmany mat_c20 told_c21]) H locs := hI
                refine lv_istore (lv' := [(4, .int r22), (0, .ref (h 0)), (3, .int t_50)]) hx hb dX11_readsRow_88 hl (by decide) rfl (fun ls hl => ?_)
                refine lv_goto (tgt := 69) hx hb dX11_readsRow_90 (by decide) ?_
                exact ih69 r22 mat_c20 told_c21 ls H locs (Nat.lt_of_lt_of_le hw.2 (Nat.le_of_lt_succ hmu69)) hw.1 hI (lv_sub hl [1, 2, 0] rfl)
        exact lp69 (mu69 r13 mat_c11 told_c12 + 1) r13 mat_c11 told_c12 ls H locs (Nat.lt_succ_self _) hw hI (lv_sub hl [2, 1, 0] rfl)
      · replace hw := hw.1 c10
        refine lv_iconst (v := (0 : Int32)) hx hb dX11_readsRow_60 (by decide) ?_
        subst hQ
        exact x_zret (u := (mat_c8, told)) hC hI hr hlk hw rfl (Or.inl rfl) dX11_readsRow_61
    refine lv_if_eq (tgt := 46) hx hb dX11_readsRow_36 (by decide) (fun c23 => ?_) (fun c23 => ?_)
    · replace hw := hw.1 c23
      refine lv_iload_n hx hb dX11_readsRow_46 rfl (lv_at hl 0 rfl) ?_
      refine lv_bipush (v := (48 : Int32)) hx hb dX11_readsRow_47 (by decide) ?_
      refine lv_isub hx hb dX11_readsRow_49 ?_
      exact jn50 (r4 - (48 : Int32)) ls H locs hw hI (lv_sub hl [2] rfl)
    · replace hw := hw.2 c23
      refine lv_bipush (v := (48 : Int32)) hx hb dX11_readsRow_39 (by decide) ?_
      refine lv_iload_n hx hb dX11_readsRow_41 rfl (lv_at hl 0 rfl) ?_
      refine lv_isub hx hb dX11_readsRow_42 ?_
      refine lv_goto (tgt := 50) hx hb dX11_readsRow_43 (by decide) ?_
      exact jn50 ((48 : Int32) - r4) ls H locs hw hI (lv_sub hl [2] rfl)
  · replace hw := hw.1 c6
    refine lv_iconst (v := (0 : Int32)) hx hb dX11_readsRow_23 (by decide) ?_
    subst hQ
    exact x_zret (u := (mat_c3, told)) hC hI hr hlk hw rfl (Or.inl rfl) dX11_readsRow_24

def wX11_reads  (tape : Nat → Int32) (tmany : Int32) (told : Nat → Int32) (post : Int32 → Int32 → (Nat → Int32) → Prop) : Prop := (∃ (I7 : Int32 → (Nat → Int32) → Prop) (mu7 : Int32 → (Nat → Int32) → Nat), I7 (0 : Int32) told ∧ ∀ (l1_7 : Int32) (told_7 : Nat → Int32), I7 l1_7 told_7 → (((266 : Int32) ≤ l1_7 → wX11_readsRow tape tmany (0 : Int32) told_7 (fun (r4 : Int32) (mat_c2 : Int32) (told_c3 : Nat → Int32) => (∃ (I32 : Int32 → Int32 → (Nat → Int32) → Prop) (mu32 : Int32 → Int32 → (Nat → Int32) → Nat), I32 r4 mat_c2 told_c3 ∧ ∀ (l1_32 : Int32) (mat_32 : Int32) (told_32 : Nat → Int32), I32 l1_32 mat_32 told_32 → ∃ J53 : Int32 → Prop, (∀ (mat_53 : Int32), J53 mat_53 → ((l1_32 = 0 → post (0 : Int32) mat_53 told_32) ∧ (¬ l1_32 = 0 → wX11_sign tape tmany mat_53 (fun (r7 : Int32) (mat_c6 : Int32) => ((r7 = 0 → post (1 : Int32) mat_c6 told_32) ∧ (¬ r7 = 0 → post (0 : Int32) mat_c6 told_32)))))) ∧ ((l1_32 = 0 → J53 mat_32) ∧ (¬ l1_32 = 0 → wX11_takes (59 : Int32) tape tmany mat_32 (fun (r11 : Int32) (mat_c10 : Int32) => ((r11 = 0 → J53 mat_c10) ∧ (¬ r11 = 0 → wX11_readsRow tape tmany mat_c10 told_32 (fun (r15 : Int32) (mat_c13 : Int32) (told_c14 : Nat → Int32) => (I32 r15 mat_c13 told_c14 ∧ mu32 r15 mat_c13 told_c14 < mu32 l1_32 mat_32 told_32)))))))))) ∧ (¬ (266 : Int32) ≤ l1_7 → vp_in l1_7 266 ∧ ∀ x17 : Int32, x17 = l1_7 + 1 → (I7 x17 (upd told_7 l1_7.toNatClampNeg (0 : Int32)) ∧ mu7 x17 (upd told_7 l1_7.toNatClampNeg (0 : Int32)) < mu7 l1_7 told_7))))
def rmX11_reads : Room := { frames := 5, cells := 0, slots := 0, locals := 109 }
theorem kX11_reads_0 : Cond.fieldLink RX11 252 "GoreGlobeModel" "at" "I" ∈ wsX11_reads := List.mem_cons_of_mem _ (List.mem_append_left _ (List.mem_append_left _ (List.mem_of_getElem? (i := 0) rfl)))
theorem kX11_reads_cX11 : ∀ w ∈ wsX110, w ∈ wsX11_reads := fun _ h => List.mem_cons_of_mem _ (List.mem_append_right _ h)
theorem kX11_reads_2 : Cond.fieldLink RX11 54 "GoreGlobeModel" "told" "[I" ∈ wsX11_reads := List.mem_cons_of_mem _ (List.mem_append_left _ (List.mem_append_left _ (List.mem_of_getElem? (i := 1) rfl)))
set_option maxHeartbeats 4000000 in
set_option maxRecDepth 100000 in
theorem mX11_reads (l : Launch) (D : va_G) (K : Nat → ClassId) (h : Nat → Nat) (sz : Nat)  (st : Nat → Int32) (past : Nat → Int32) (acts : Int32) (image : Nat → Int32) (ipast : Nat → Int32) (iacts : Int32) (tape : Nat → Int32) (tmany : Int32) (laneOf : Nat → Int32) (sizeOf : Nat → Int32) (items : Nat → Int64) (seaFirst : Nat → Int32) (worstOf : Nat → Int32) (farTo : Nat → Int32) (stepsTo : Nat → Int32) (needs : Nat → Int32) (nmany : Int32) (mat : Int32) (told : Nat → Int32)  {post : Int32 → Int32 → (Nat → Int32) → Prop} (hw : wX11_reads  tape tmany told post) : Met l yX11_reads wsX11_reads rmX11_reads (va_Pc [.ref (h 0)] (cP D K (fl [wMo K h st past acts image ipast iacts tape tmany laneOf sizeOf items seaFirst worstOf farTo stepsTo needs nmany mat told]) sz)) (va_Qi (fun (r : Int32) (u : Int32 × (Nat → Int32)) => post r u.1 u.2) (fun u t => cQ D K (fl [wMo K h st past acts image ipast iacts tape tmany laneOf sizeOf items seaFirst worstOf farTo stepsTo needs nmany u.1 u.2]) (va_A (fl [wMo K h st past acts image ipast iacts tape tmany laneOf sizeOf items seaFirst worstOf farTo stepsTo needs nmany mat told]) sz) t) (va_A (fl [wMo K h st past acts image ipast iacts tape tmany laneOf sizeOf items seaFirst worstOf farTo stepsTo needs nmany mat told]) sz)) 0 0 (va_A (fl [wMo K h st past acts image ipast iacts tape tmany laneOf sizeOf items seaFirst worstOf farTo stepsTo needs nmany mat told]) sz) := by
  refine x_entry (cc := cX11_reads) (maxL := 2) (ret := (some .boolean)) (QA := fun A => va_Qi (fun (r : Int32) (u : Int32 × (Nat → Int32)) => post r u.1 u.2) (fun u t => cQ D K (fl [wMo K h st past acts image ipast iacts tape tmany laneOf sizeOf items seaFirst worstOf farTo stepsTo needs nmany u.1 u.2]) A t) A) (plainFor_of_name (by decide)) rfl (Nat.le_of_ble_eq_true rfl) ?_
  intro p e s m args below meth c A ls H Q hQ hC hlk hr hnm hI hl
  obtain ⟨hx, hb, hml, hown, hts, hK, hA, hZ⟩ := id hC
  obtain ⟨locs, hlocs⟩ : ∃ y : List Loc, y = [] := ⟨_, rfl⟩
  rw [← hlocs] at hI ⊢
  clear hlocs
  replace hl : lv_has ls 2 [(0, .ref (h 0))] := hl
  replace hw : (∃ (I7 : Int32 → (Nat → Int32) → Prop) (mu7 : Int32 → (Nat → Int32) → Nat), I7 (0 : Int32) told ∧ ∀ (l1_7 : Int32) (told_7 : Nat → Int32), I7 l1_7 told_7 → (((266 : Int32) ≤ l1_7 → wX11_readsRow tape tmany (0 : Int32) told_7 (fun (r4 : Int32) (mat_c2 : Int32) (told_c3 : Nat → Int32) => (∃ (I32 : Int32 → Int32 → (Nat → Int32) → Prop) (mu32 : Int32 → Int32 → (Nat → Int32) → Nat), I32 r4 mat_c2 told_c3 ∧ ∀ (l1_32 : Int32) (mat_32 : Int32) (told_32 : Nat → Int32), I32 l1_32 mat_32 told_32 → ∃ J53 : Int32 → Prop, (∀ (mat_53 : Int32), J53 mat_53 → ((l1_32 = 0 → post (0 : Int32) mat_53 told_32) ∧ (¬ l1_32 = 0 → wX11_sign tape tmany mat_53 (fun (r7 : Int32) (mat_c6 : Int32) => ((r7 = 0 → post (1 : Int32) mat_c6 told_32) ∧ (¬ r7 = 0 → post (0 : Int32) mat_c6 told_32)))))) ∧ ((l1_32 = 0 → J53 mat_32) ∧ (¬ l1_32 = 0 → wX11_takes (59 : Int32) tape tmany mat_32 (fun (r11 : Int32) (mat_c10 : Int32) => ((r11 = 0 → J53 mat_c10) ∧ (¬ r11 = 0 → wX11_readsRow tape tmany mat_c10 told_32 (fun (r15 : Int32) (mat_c13 : Int32) (told_c14 : Nat → Int32) => (I32 r15 mat_c13 told_c14 ∧ mu32 r15 mat_c13 told_c14 < mu32 l1_32 mat_32 told_32)))))))))) ∧ (¬ (266 : Int32) ≤ l1_7 → vp_in l1_7 266 ∧ ∀ x17 : Int32, x17 = l1_7 + 1 → (I7 x17 (upd told_7 l1_7.toNatClampNeg (0 : Int32)) ∧ mu7 x17 (upd told_7 l1_7.toNatClampNeg (0 : Int32)) < mu7 l1_7 told_7)))) := hw
  refine lv_aload_n hx hb dX11_reads_0 rfl (lv_at hl 0 rfl) ?_
  refine lv_iconst (v := (0 : Int32)) hx hb dX11_reads_1 (by decide) ?_
  refine x_put (v := .int (0 : Int32)) hC hI kX11_reads_cX11 tyX11 tyX11_ok nmX11 0 rfl rfl 17 (by decide) kX11_reads_0 rfl rfl rfl rfl (Nat.le_of_ble_eq_true rfl) dX11_reads_2 (fun H locs hI => ?_)
  have hI : wI s D A (fl [wMo K h st past acts image ipast iacts tape tmany laneOf sizeOf items seaFirst worstOf farTo stepsTo needs nmany (0 : Int32) told]) H locs := hI
  refine lv_iconst (v := (0 : Int32)) hx hb dX11_reads_5 (by decide) ?_
  refine lv_istore_n (lv' := [(1, .int (0 : Int32)), (0, .ref (h 0))]) hx hb dX11_reads_6 rfl hl (by decide) rfl (fun ls hl => ?_)
  obtain ⟨I7, mu7, hw, hb7⟩ := hw
  have lp7 : ∀ (k : Nat) (l1_7 : Int32) (told_7 : Nat → Int32) (ls : Array Slot) (H : Heap) (locs : List Loc), mu7 l1_7 told_7 < k → I7 l1_7 told_7 → wI s D A (fl [wMo K h st past acts image ipast iacts tape tmany laneOf sizeOf items seaFirst worstOf farTo stepsTo needs nmany (0 : Int32) told_7]) H locs → lv_has ls 2 [(0, .ref (h 0)), (1, .int l1_7)] → W p l e rmX11_reads s m args below meth c H locs 0 0 Q (F0 m 7 ls []) := by
    intro k
    induction k with
    | zero => intro l1_7 told_7 ls H locs hmu; exact absurd hmu (Nat.not_lt_zero _)
    | succ k ih7 =>
      intro l1_7 told_7 ls H locs hmu7 hw hI hl
      replace hw := hb7 l1_7 told_7 hw
      refine lv_iload_n hx hb dX11_reads_7 rfl (lv_at hl 1 rfl) ?_
      refine lv_sipush (v := (266 : Int32)) hx hb dX11_reads_8 (by decide) ?_
      refine lv_icmp_ge (tgt := 27) hx hb dX11_reads_11 (by decide) (fun c1 => ?_) (fun c1 => ?_)
      · replace hw := hw.1 c1
        refine lv_aload_n hx hb dX11_reads_27 rfl (lv_at hl 0 rfl) ?_
        refine x_callWi (rest := []) hC hI (mX11_readsRow l D K h _ st past acts image ipast iacts tape tmany laneOf sizeOf items seaFirst worstOf farTo stepsTo needs nmany (0 : Int32) told_7 hw) (cwV 0 hts gX11_reads_X11_readsRow rfl rfl rfl (by decide +kernel) ⟨(Nat.le_of_ble_eq_true rfl), (Nat.le_of_ble_eq_true rfl)⟩) (fun _ => rfl) 0 9 rfl rfl rfl rfl hl.1 rfl (Nat.le_of_ble_eq_true rfl) dX11_reads_28 ⟨(Nat.le_of_ble_eq_true rfl), (Nat.le_of_ble_eq_true rfl)⟩ (fun r4 u H locs hw hI => ?_)
        obtain ⟨mat_c2, told_c3⟩ := u
        try dsimp only at hw
        have hI : wI s D A (fl [wMo K h st past acts image ipast iacts tape tmany laneOf sizeOf items seaFirst worstOf farTo stepsTo needs nmany mat_c2 told_c3]) H locs := hI
        refine lv_istore_n (lv' := [(1, .int r4), (0, .ref (h 0))]) hx hb dX11_reads_31 rfl hl (by decide) rfl (fun ls hl => ?_)
        obtain ⟨I32, mu32, hw, hb32⟩ := hw
        have lp32 : ∀ (k : Nat) (l1_32 : Int32) (mat_32 : Int32) (told_32 : Nat → Int32) (ls : Array Slot) (H : Heap) (locs : List Loc), mu32 l1_32 mat_32 told_32 < k → I32 l1_32 mat_32 told_32 → wI s D A (fl [wMo K h st past acts image ipast iacts tape tmany laneOf sizeOf items seaFirst worstOf farTo stepsTo needs nmany mat_32 told_32]) H locs → lv_has ls 2 [(0, .ref (h 0)), (1, .int l1_32)] → W p l e rmX11_reads s m args below meth c H locs 0 0 Q (F0 m 32 ls []) := by
          intro k
          induction k with
          | zero => intro l1_32 mat_32 told_32 ls H locs hmu; exact absurd hmu (Nat.not_lt_zero _)
          | succ k ih32 =>
            intro l1_32 mat_32 told_32 ls H locs hmu32 hw hI hl
            replace hw := hb32 l1_32 mat_32 told_32 hw
            refine lv_iload_n hx hb dX11_reads_32 rfl (lv_at hl 1 rfl) ?_
            obtain ⟨J53, hJ53, hw⟩ := hw
            have jn53 : ∀ (mat_53 : Int32) (ls : Array Slot) (H : Heap) (locs : List Loc), J53 mat_53 → wI s D A (fl [wMo K h st past acts image ipast iacts tape tmany laneOf sizeOf items seaFirst worstOf farTo stepsTo needs nmany mat_53 told_32]) H locs → lv_has ls 2 [(0, .ref (h 0)), (1, .int l1_32)] → W p l e rmX11_reads s m args below meth c H locs 0 0 Q (F0 m 53 ls []) := by
              intro mat_53 ls H locs hw hI hl
              replace hw := hJ53 mat_53 hw
              refine lv_iload_n hx hb dX11_reads_53 rfl (lv_at hl 1 rfl) ?_
              refine lv_if_eq (tgt := 68) hx hb dX11_reads_54 (by decide) (fun c5 => ?_) (fun c5 => ?_)
              · replace hw := hw.1 c5
                refine lv_iconst (v := (0 : Int32)) hx hb dX11_reads_68 (by decide) ?_
                subst hQ
                exact x_zret (u := (mat_53, told_32)) hC hI hr hlk hw rfl (Or.inl rfl) dX11_reads_69
              · replace hw := hw.2 c5
                refine lv_aload_n hx hb dX11_reads_57 rfl (lv_at hl 0 rfl) ?_
                refine x_callWi (rest := []) hC hI (mX11_sign l D K h _ st past acts image ipast iacts tape tmany laneOf sizeOf items seaFirst worstOf farTo stepsTo needs nmany mat_53 told_32 hw) (cwV 0 hts gX11_reads_X11_sign rfl rfl rfl (by decide +kernel) ⟨(Nat.le_of_ble_eq_true rfl), (Nat.le_of_ble_eq_true rfl)⟩) (fun _ => rfl) 0 9 rfl rfl rfl rfl hl.1 rfl (Nat.le_of_ble_eq_true rfl) dX11_reads_58 ⟨(Nat.le_of_ble_eq_true rfl), (Nat.le_of_ble_eq_true rfl)⟩ (fun r7 mat_c6 H locs hw hI => ?_)
                have hI : wI s D A (fl [wMo K h st past acts image ipast iacts tape tmany laneOf sizeOf items seaFirst worstOf farTo stepsTo needs nmany mat_c6 told_32]) H locs := hI
                refine lv_if_ne (tgt := 68) hx hb dX11_reads_61 (by decide) (fun c8 => ?_) (fun c8 => ?_)
                · replace hw := hw.2 c8
                  refine lv_iconst (v := (0 : Int32)) hx hb dX11_reads_68 (by decide) ?_
                  subst hQ
                  exact x_zret (u := (mat_c6, told_32)) hC hI hr hlk hw rfl (Or.inl rfl) dX11_reads_69
                · replace hw := hw.1 c8
                  refine lv_iconst (v := (1 : Int32)) hx hb dX11_reads_64 (by decide) ?_
                  refine lv_goto (tgt := 69) hx hb dX11_reads_65 (by decide) ?_
                  subst hQ
                  exact x_zret (u := (mat_c6, told_32)) hC hI hr hlk hw rfl (Or.inr rfl) dX11_reads_69
            refine lv_if_eq (tgt := 53) hx hb dX11_reads_33 (by decide) (fun c9 => ?_) (fun c9 => ?_)
            · replace hw := hw.1 c9
              exact jn53 mat_32 ls H locs hw hI (lv_sub hl [0, 1] rfl)
            · replace hw := hw.2 c9
              refine lv_aload_n hx hb dX11_reads_36 rfl (lv_at hl 0 rfl) ?_
              refine lv_bipush (v := (59 : Int32)) hx hb dX11_reads_37 (by decide) ?_
              refine x_callWi (rest := []) hC hI (mX11_takes l D K h _ (59 : Int32) st past acts image ipast iacts tape tmany laneOf sizeOf items seaFirst worstOf farTo stepsTo needs nmany mat_32 told_32 hw) (cwV 1 hts gX11_reads_X11_takes rfl rfl rfl (by decide +kernel) ⟨(Nat.le_of_ble_eq_true rfl), (Nat.le_of_ble_eq_true rfl)⟩) (fun _ => rfl) 0 9 rfl rfl rfl rfl hl.1 rfl (Nat.le_of_ble_eq_true rfl) dX11_reads_39 ⟨(Nat.le_of_ble_eq_true rfl), (Nat.le_of_ble_eq_true rfl)⟩ (fun r11 mat_c10 H locs hw hI => ?_)
              have hI : wI s D A (fl [wMo K h st past acts image ipast iacts tape tmany laneOf sizeOf items seaFirst worstOf farTo stepsTo needs nmany mat_c10 told_32]) H locs := hI
              refine lv_if_eq (tgt := 53) hx hb dX11_reads_42 (by decide) (fun c12 => ?_) (fun c12 => ?_)
              · replace hw := hw.1 c12
                exact jn53 mat_c10 ls H locs hw hI (lv_sub hl [0, 1] rfl)
              · replace hw := hw.2 c12
                refine lv_aload_n hx hb dX11_reads_45 rfl (lv_at hl 0 rfl) ?_
                refine x_callWi (rest := []) hC hI (mX11_readsRow l D K h _ st past acts image ipast iacts tape tmany laneOf sizeOf items seaFirst worstOf farTo stepsTo needs nmany mat_c10 told_32 hw) (cwV 0 hts gX11_reads_X11_readsRow rfl rfl rfl (by decide +kernel) ⟨(Nat.le_of_ble_eq_true rfl), (Nat.le_of_ble_eq_true rfl)⟩) (fun _ => rfl) 0 9 rfl rfl rfl rfl hl.1 rfl (Nat.le_of_ble_eq_true rfl) dX11_reads_46 ⟨(Nat.le_of_ble_eq_true rfl), (Nat.le_of_ble_eq_true rfl)⟩ (fun r15 u H locs hw hI => ?_)
                obtain ⟨mat_c13, told_c14⟩ := u
                try dsimp only at hw
                have hI : wI s D A (fl [wMo K h st past acts image ipast iacts tape tmany laneOf sizeOf items seaFirst worstOf farTo stepsTo needs nmany mat_c13 told_c14]) H locs := hI
                refine lv_istore_n (lv' := [(1, .int r15), (0, .ref (h 0))]) hx hb dX11_reads_49 rfl hl (by decide) rfl (fun ls hl => ?_)
                refine lv_goto (tgt := 32) hx hb dX11_reads_50 (by decide) ?_
                exact ih32 r15 mat_c13 told_c14 ls H locs (Nat.lt_of_lt_of_le hw.2 (Nat.le_of_lt_succ hmu32)) hw.1 hI (lv_sub hl [1, 0] rfl)
        exact lp32 (mu32 r4 mat_c2 told_c3 + 1) r4 mat_c2 told_c3 ls H locs (Nat.lt_succ_self _) hw hI (lv_sub hl [1, 0] rfl)
      · replace hw := hw.2 c1
        refine lv_aload_n hx hb dX11_reads_14 rfl (lv_at hl 0 rfl) ?_
        refine x_get (v := .ref (h 14)) hC hI kX11_reads_cX11 0 rfl rfl 18 (by decide) kX11_reads_2 rfl rfl dX11_reads_15 ?_
        refine lv_iload_n hx hb dX11_reads_18 rfl (lv_at hl 1 rfl) ?_
        refine lv_iconst (v := (0 : Int32)) hx hb dX11_reads_19 (by decide) ?_
        obtain ⟨hc16, hw⟩ := hw
        refine x_iast (f := told_7) hC hI 14 rfl hc16 dX11_reads_20 (fun H locs hI => ?_)
        have hI : wI s D A (fl [wMo K h st past acts image ipast iacts tape tmany laneOf sizeOf items seaFirst worstOf farTo stepsTo needs nmany (0 : Int32) (upd told_7 l1_7.toNatClampNeg (0 : Int32))]) H locs := hI
        obtain ⟨x17, ex17⟩ : ∃ y : Int32, y = l1_7 + 1 := ⟨_, rfl⟩
        replace hw := hw x17 ex17
        refine lv_iinc (v := x17) (lv' := [(1, .int x17), (0, .ref (h 0))]) hx hb dX11_reads_21 hl (k := 1) rfl (by rw [ex17]; rfl) (by decide) rfl (fun ls hl => ?_)
        refine lv_goto (tgt := 7) hx hb dX11_reads_24 (by decide) ?_
        exact ih7 x17 (upd told_7 l1_7.toNatClampNeg (0 : Int32)) ls H locs (Nat.lt_of_lt_of_le hw.2 (Nat.le_of_lt_succ hmu7)) hw.1 hI (lv_sub hl [1, 0] rfl)
  exact lp7 (mu7 (0 : Int32) told + 1) (0 : Int32) told ls H locs (Nat.lt_succ_self _) hw hI (lv_sub hl [1, 0] rfl)

def wX11_read  (st : Nat → Int32) (past : Nat → Int32) (acts : Int32) (tape : Nat → Int32) (tmany : Int32) (told : Nat → Int32) (post : Int32 → (Nat → Int32) → (Nat → Int32) → Int32 → Int32 → Int32 → (Nat → Int32) → Prop) : Prop := wX11_reads tape tmany told (fun (r3 : Int32) (mat_c1 : Int32) (told_c2 : Nat → Int32) => ((r3 = 0 → post ((-20 : Int32) - mat_c1) st past acts (0 : Int32) mat_c1 told_c2) ∧ (¬ r3 = 0 → wX11_notes st past acts (fun (past_c5 : Nat → Int32) (acts_c6 : Int32) => wX11_bring (0 : Int32) (0 : Int32) (266 : Int32) told_c2 st 266 279 (fun (arr_c7 : Nat → Int32) => wX11_landMany arr_c7 (fun (r8 : Int32) => post r8 arr_c7 past_c5 acts_c6 (0 : Int32) mat_c1 told_c2))))))
def rmX11_read : Room := { frames := 6, cells := 0, slots := 0, locals := 130 }
theorem kX11_read_0 : Cond.fieldLink RX11 249 "GoreGlobeModel" "tapeMany" "I" ∈ wsX11_read := List.mem_cons_of_mem _ (List.mem_append_left _ (List.mem_append_left _ (List.mem_of_getElem? (i := 0) rfl)))
theorem kX11_read_cX11 : ∀ w ∈ wsX110, w ∈ wsX11_read := fun _ h => List.mem_cons_of_mem _ (List.mem_append_right _ h)
theorem kX11_read_2 : Cond.fieldLink RX11 54 "GoreGlobeModel" "told" "[I" ∈ wsX11_read := List.mem_cons_of_mem _ (List.mem_append_left _ (List.mem_append_left _ (List.mem_of_getElem? (i := 2) rfl)))
theorem kX11_read_3 : Cond.fieldLink RX11 7 "GoreGlobeModel" "st" "[I" ∈ wsX11_read := List.mem_cons_of_mem _ (List.mem_append_left _ (List.mem_append_left _ (List.mem_of_getElem? (i := 3) rfl)))
theorem kX11_read_4 : Cond.fieldLink RX11 252 "GoreGlobeModel" "at" "I" ∈ wsX11_read := List.mem_cons_of_mem _ (List.mem_append_left _ (List.mem_append_left _ (List.mem_of_getElem? (i := 1) rfl)))
set_option maxHeartbeats 4000000 in
set_option maxRecDepth 100000 in
theorem mX11_read (l : Launch) (D : va_G) (K : Nat → ClassId) (h : Nat → Nat) (sz : Nat)  (st : Nat → Int32) (past : Nat → Int32) (acts : Int32) (image : Nat → Int32) (ipast : Nat → Int32) (iacts : Int32) (tape : Nat → Int32) (tmany : Int32) (laneOf : Nat → Int32) (sizeOf : Nat → Int32) (items : Nat → Int64) (seaFirst : Nat → Int32) (worstOf : Nat → Int32) (farTo : Nat → Int32) (stepsTo : Nat → Int32) (needs : Nat → Int32) (nmany : Int32) (mat : Int32) (told : Nat → Int32)  {post : Int32 → (Nat → Int32) → (Nat → Int32) → Int32 → Int32 → Int32 → (Nat → Int32) → Prop} (hw : wX11_read  st past acts tape tmany told post) : Met l yX11_read wsX11_read rmX11_read (va_Pc [.ref (h 0)] (cP D K (fl [wMo K h st past acts image ipast iacts tape tmany laneOf sizeOf items seaFirst worstOf farTo stepsTo needs nmany mat told]) sz)) (va_Qi (fun (r : Int32) (u : (Nat → Int32) × (Nat → Int32) × Int32 × Int32 × Int32 × (Nat → Int32)) => post r u.1 u.2.1 u.2.2.1 u.2.2.2.1 u.2.2.2.2.1 u.2.2.2.2.2) (fun u t => cQ D K (fl [wMo K h u.1 u.2.1 u.2.2.1 image ipast iacts tape u.2.2.2.1 laneOf sizeOf items seaFirst worstOf farTo stepsTo needs nmany u.2.2.2.2.1 u.2.2.2.2.2]) (va_A (fl [wMo K h st past acts image ipast iacts tape tmany laneOf sizeOf items seaFirst worstOf farTo stepsTo needs nmany mat told]) sz) t) (va_A (fl [wMo K h st past acts image ipast iacts tape tmany laneOf sizeOf items seaFirst worstOf farTo stepsTo needs nmany mat told]) sz)) 0 0 (va_A (fl [wMo K h st past acts image ipast iacts tape tmany laneOf sizeOf items seaFirst worstOf farTo stepsTo needs nmany mat told]) sz) := by
  refine x_entry (cc := cX11_read) (maxL := 2) (ret := (some .int)) (QA := fun A => va_Qi (fun (r : Int32) (u : (Nat → Int32) × (Nat → Int32) × Int32 × Int32 × Int32 × (Nat → Int32)) => post r u.1 u.2.1 u.2.2.1 u.2.2.2.1 u.2.2.2.2.1 u.2.2.2.2.2) (fun u t => cQ D K (fl [wMo K h u.1 u.2.1 u.2.2.1 image ipast iacts tape u.2.2.2.1 laneOf sizeOf items seaFirst worstOf farTo stepsTo needs nmany u.2.2.2.2.1 u.2.2.2.2.2]) A t) A) (plainFor_of_name (by decide)) rfl (Nat.le_of_ble_eq_true rfl) ?_
  intro p e s m args below meth c A ls H Q hQ hC hlk hr hnm hI hl
  obtain ⟨hx, hb, hml, hown, hts, hK, hA, hZ⟩ := id hC
  obtain ⟨locs, hlocs⟩ : ∃ y : List Loc, y = [] := ⟨_, rfl⟩
  rw [← hlocs] at hI ⊢
  clear hlocs
  replace hl : lv_has ls 2 [(0, .ref (h 0))] := hl
  replace hw : wX11_reads tape tmany told (fun (r3 : Int32) (mat_c1 : Int32) (told_c2 : Nat → Int32) => ((r3 = 0 → post ((-20 : Int32) - mat_c1) st past acts (0 : Int32) mat_c1 told_c2) ∧ (¬ r3 = 0 → wX11_notes st past acts (fun (past_c5 : Nat → Int32) (acts_c6 : Int32) => wX11_bring (0 : Int32) (0 : Int32) (266 : Int32) told_c2 st 266 279 (fun (arr_c7 : Nat → Int32) => wX11_landMany arr_c7 (fun (r8 : Int32) => post r8 arr_c7 past_c5 acts_c6 (0 : Int32) mat_c1 told_c2)))))) := hw
  refine lv_aload_n hx hb dX11_read_0 rfl (lv_at hl 0 rfl) ?_
  refine x_callWi (rest := []) hC hI (mX11_reads l D K h _ st past acts image ipast iacts tape tmany laneOf sizeOf items seaFirst worstOf farTo stepsTo needs nmany mat told hw) (cwV 0 hts gX11_read_X11_reads rfl rfl rfl (by decide +kernel) ⟨(Nat.le_of_ble_eq_true rfl), (Nat.le_of_ble_eq_true rfl)⟩) (fun _ => rfl) 0 9 rfl rfl rfl rfl hl.1 rfl (Nat.le_of_ble_eq_true rfl) dX11_read_1 ⟨(Nat.le_of_ble_eq_true rfl), (Nat.le_of_ble_eq_true rfl)⟩ (fun r3 u H locs hw hI => ?_)
  obtain ⟨mat_c1, told_c2⟩ := u
  try dsimp only at hw
  have hI : wI s D A (fl [wMo K h st past acts image ipast iacts tape tmany laneOf sizeOf items seaFirst worstOf farTo stepsTo needs nmany mat_c1 told_c2]) H locs := hI
  refine lv_istore_n (lv' := [(1, .int r3), (0, .ref (h 0))]) hx hb dX11_read_4 rfl hl (by decide) rfl (fun ls hl => ?_)
  refine lv_aload_n hx hb dX11_read_5 rfl (lv_at hl 1 rfl) ?_
  refine lv_iconst (v := (0 : Int32)) hx hb dX11_read_6 (by decide) ?_
  refine x_put (v := .int (0 : Int32)) hC hI kX11_read_cX11 tyX11 tyX11_ok nmX11 0 rfl rfl 7 (by decide) kX11_read_0 rfl rfl rfl rfl (Nat.le_of_ble_eq_true rfl) dX11_read_7 (fun H locs hI => ?_)
  have hI : wI s D A (fl [wMo K h st past acts image ipast iacts tape (0 : Int32) laneOf sizeOf items seaFirst worstOf farTo stepsTo needs nmany mat_c1 told_c2]) H locs := hI
  refine lv_iload_n hx hb dX11_read_10 rfl (lv_at hl 0 rfl) ?_
  refine lv_if_ne (tgt := 22) hx hb dX11_read_11 (by decide) (fun c4 => ?_) (fun c4 => ?_)
  · replace hw := hw.2 c4
    refine lv_aload_n hx hb dX11_read_22 rfl (lv_at hl 1 rfl) ?_
    refine x_callWv (rest := []) hC hI (mX11_notes l D K h _ st past acts image ipast iacts tape (0 : Int32) laneOf sizeOf items seaFirst worstOf farTo stepsTo needs nmany mat_c1 told_c2 hw) (cwV 0 hts gX11_read_X11_notes rfl rfl rfl (by decide +kernel) ⟨(Nat.le_of_ble_eq_true rfl), (Nat.le_of_ble_eq_true rfl)⟩) (fun _ => rfl) 0 9 rfl rfl rfl rfl hl.1 rfl (Nat.le_of_ble_eq_true rfl) dX11_read_23 ⟨(Nat.le_of_ble_eq_true rfl), (Nat.le_of_ble_eq_true rfl)⟩ (fun u H locs hw hI => ?_)
    obtain ⟨past_c5, acts_c6⟩ := u
    try dsimp only at hw
    have hI : wI s D A (fl [wMo K h st past_c5 acts_c6 image ipast iacts tape (0 : Int32) laneOf sizeOf items seaFirst worstOf farTo stepsTo needs nmany mat_c1 told_c2]) H locs := hI
    refine lv_aload_n hx hb dX11_read_26 rfl (lv_at hl 1 rfl) ?_
    refine x_get (v := .ref (h 14)) hC hI kX11_read_cX11 0 rfl rfl 18 (by decide) kX11_read_2 rfl rfl dX11_read_27 ?_
    refine lv_iconst (v := (0 : Int32)) hx hb dX11_read_30 (by decide) ?_
    refine lv_aload_n hx hb dX11_read_31 rfl (lv_at hl 1 rfl) ?_
    refine x_get (v := .ref (h 1)) hC hI kX11_read_cX11 0 rfl rfl 0 (by decide) kX11_read_3 rfl rfl dX11_read_32 ?_
    refine lv_iconst (v := (0 : Int32)) hx hb dX11_read_35 (by decide) ?_
    refine lv_sipush (v := (266 : Int32)) hx hb dX11_read_36 (by decide) ?_
    refine x_callSv (L := List.map (fun c => [c]) (fl [wMo K h st past_c5 acts_c6 image ipast iacts tape (0 : Int32) laneOf sizeOf items seaFirst worstOf farTo stepsTo needs nmany mat_c1 told_c2])) (rest := []) hC (by rw [fl_single]; exact hI) [14, 1] (mX11_bring l D K (fun _ => (h 14)) (fun _ => (h 1)) _ (0 : Int32) (0 : Int32) (266 : Int32) told_c2 st 266 279 hw) (va_cwS 5 hts gX11_read_X11_bring rfl rfl rfl (by decide +kernel) ⟨(Nat.le_of_ble_eq_true rfl), (Nat.le_of_ble_eq_true rfl)⟩) (by decide) rfl (fun _ => rfl) rfl hl.1 rfl (Nat.le_of_ble_eq_true rfl) dX11_read_39 ⟨(Nat.le_of_ble_eq_true rfl), (Nat.le_of_ble_eq_true rfl)⟩ (fun arr_c7 H locs hw hI => ?_)
    have hI : wI s D A (fl [wMo K h arr_c7 past_c5 acts_c6 image ipast iacts tape (0 : Int32) laneOf sizeOf items seaFirst worstOf farTo stepsTo needs nmany mat_c1 told_c2]) H locs := hI
    refine lv_aload_n hx hb dX11_read_42 rfl (lv_at hl 1 rfl) ?_
    refine x_callWi (rest := []) hC hI (mX11_landMany l D K h _ arr_c7 past_c5 acts_c6 image ipast iacts tape (0 : Int32) laneOf sizeOf items seaFirst worstOf farTo stepsTo needs nmany mat_c1 told_c2 hw) (cwV 0 hts gX11_read_X11_landMany rfl rfl rfl (by decide +kernel) ⟨(Nat.le_of_ble_eq_true rfl), (Nat.le_of_ble_eq_true rfl)⟩) (fun _ => rfl) 0 9 rfl rfl rfl rfl hl.1 rfl (Nat.le_of_ble_eq_true rfl) dX11_read_43 ⟨(Nat.le_of_ble_eq_true rfl), (Nat.le_of_ble_eq_true rfl)⟩ (fun r8 u H locs hw hI => ?_)
    try dsimp only at hw
    have hI : wI s D A (fl [wMo K h arr_c7 past_c5 acts_c6 image ipast iacts tape (0 : Int32) laneOf sizeOf items seaFirst worstOf farTo stepsTo needs nmany mat_c1 told_c2]) H locs := hI
    subst hQ
    exact x_iret (u := (arr_c7, past_c5, acts_c6, (0 : Int32), mat_c1, told_c2)) hC hI hr hlk hw rfl dX11_read_46
  · replace hw := hw.1 c4
    refine lv_bipush (v := (-20 : Int32)) hx hb dX11_read_14 (by decide) ?_
    refine lv_aload_n hx hb dX11_read_16 rfl (lv_at hl 1 rfl) ?_
    refine x_get (v := .int mat_c1) hC hI kX11_read_cX11 0 rfl rfl 17 (by decide) kX11_read_4 rfl rfl dX11_read_17 ?_
    refine lv_isub hx hb dX11_read_20 ?_
    subst hQ
    exact x_iret (u := (st, past, acts, (0 : Int32), mat_c1, told_c2)) hC hI hr hlk hw rfl dX11_read_21

def wX11_turnsOnce  (st : Nat → Int32) (past : Nat → Int32) (acts : Int32) (post : (Nat → Int32) → (Nat → Int32) → Int32 → Prop) : Prop := wX11_notes st past acts (fun (past_c1 : Nat → Int32) (acts_c2 : Int32) => ∀ x3 : Int64, x3 = (((st 278).toInt64) * (1103515245 : Int64)) + (12345 : Int64) → ∀ x4 : Int32, x4 = (((upd st 278 ((x3 - x3 / (2147483648 : Int64) * (2147483648 : Int64)).toInt32)) 278) / (65536 : Int32)) - (((upd st 278 ((x3 - x3 / (2147483648 : Int64) * (2147483648 : Int64)).toInt32)) 278) / (65536 : Int32)) / (266 : Int32) * (266 : Int32) → vp_in x4 279 ∧ vp_in x4 279 ∧ post (upd (upd st 278 ((x3 - x3 / (2147483648 : Int64) * (2147483648 : Int64)).toInt32)) x4.toNatClampNeg ((1 : Int32) - ((upd st 278 ((x3 - x3 / (2147483648 : Int64) * (2147483648 : Int64)).toInt32)) x4.toNatClampNeg))) past_c1 acts_c2)
def rmX11_turnsOnce : Room := { frames := 2, cells := 0, slots := 0, locals := 45 }
theorem kX11_turnsOnce_0 : Cond.fieldLink RX11 7 "GoreGlobeModel" "st" "[I" ∈ wsX11_turnsOnce := List.mem_cons_of_mem _ (List.mem_append_left _ (List.mem_of_getElem? (i := 0) rfl))
theorem kX11_turnsOnce_cX11 : ∀ w ∈ wsX110, w ∈ wsX11_turnsOnce := fun _ h => List.mem_cons_of_mem _ (List.mem_append_right _ h)
theorem kX11_turnsOnce_2 : Cond.constantLong RX11 284 (1103515245) ∈ wsX11_turnsOnce := List.mem_cons_of_mem _ (List.mem_append_left _ (List.mem_of_getElem? (i := 1) rfl))
theorem kX11_turnsOnce_3 : Cond.constantLong RX11 286 (12345) ∈ wsX11_turnsOnce := List.mem_cons_of_mem _ (List.mem_append_left _ (List.mem_of_getElem? (i := 2) rfl))
theorem kX11_turnsOnce_4 : Cond.constantLong RX11 288 (2147483648) ∈ wsX11_turnsOnce := List.mem_cons_of_mem _ (List.mem_append_left _ (List.mem_of_getElem? (i := 3) rfl))
theorem kX11_turnsOnce_5 : Cond.constant RX11 290 (65536) ∈ wsX11_turnsOnce := List.mem_cons_of_mem _ (List.mem_append_left _ (List.mem_of_getElem? (i := 4) rfl))
set_option maxHeartbeats 4000000 in
set_option maxRecDepth 100000 in
theorem mX11_turnsOnce (l : Launch) (D : va_G) (K : Nat → ClassId) (h : Nat → Nat) (sz : Nat)  (st : Nat → Int32) (past : Nat → Int32) (acts : Int32) (image : Nat → Int32) (ipast : Nat → Int32) (iacts : Int32) (tape : Nat → Int32) (tmany : Int32) (laneOf : Nat → Int32) (sizeOf : Nat → Int32) (items : Nat → Int64) (seaFirst : Nat → Int32) (worstOf : Nat → Int32) (farTo : Nat → Int32) (stepsTo : Nat → Int32) (needs : Nat → Int32) (nmany : Int32) (mat : Int32) (told : Nat → Int32)  {post : (Nat → Int32) → (Nat → Int32) → Int32 → Prop} (hw : wX11_turnsOnce  st past acts post) : Met l yX11_turnsOnce wsX11_turnsOnce rmX11_turnsOnce (va_Pc [.ref (h 0)] (cP D K (fl [wMo K h st past acts image ipast iacts tape tmany laneOf sizeOf items seaFirst worstOf farTo stepsTo needs nmany mat told]) sz)) (va_Qv (fun (u : (Nat → Int32) × (Nat → Int32) × Int32) => post u.1 u.2.1 u.2.2) (fun u t => cQ D K (fl [wMo K h u.1 u.2.1 u.2.2 image ipast iacts tape tmany laneOf sizeOf items seaFirst worstOf farTo stepsTo needs nmany mat told]) (va_A (fl [wMo K h st past acts image ipast iacts tape tmany laneOf sizeOf items seaFirst worstOf farTo stepsTo needs nmany mat told]) sz) t) (va_A (fl [wMo K h st past acts image ipast iacts tape tmany laneOf sizeOf items seaFirst worstOf farTo stepsTo needs nmany mat told]) sz)) 0 0 (va_A (fl [wMo K h st past acts image ipast iacts tape tmany laneOf sizeOf items seaFirst worstOf farTo stepsTo needs nmany mat told]) sz) := by
  refine x_entry (cc := cX11_turnsOnce) (maxL := 4) (ret := none) (QA := fun A => va_Qv (fun (u : (Nat → Int32) × (Nat → Int32) × Int32) => post u.1 u.2.1 u.2.2) (fun u t => cQ D K (fl [wMo K h u.1 u.2.1 u.2.2 image ipast iacts tape tmany laneOf sizeOf items seaFirst worstOf farTo stepsTo needs nmany mat told]) A t) A) (plainFor_of_name (by decide)) rfl (Nat.le_of_ble_eq_true rfl) ?_
  intro p e s m args below meth c A ls H Q hQ hC hlk hr hnm hI hl
  obtain ⟨hx, hb, hml, hown, hts, hK, hA, hZ⟩ := id hC
  obtain ⟨locs, hlocs⟩ : ∃ y : List Loc, y = [] := ⟨_, rfl⟩
  rw [← hlocs] at hI ⊢
  clear hlocs
  replace hl : lv_has ls 4 [(0, .ref (h 0))] := hl
  replace hw : wX11_notes st past acts (fun (past_c1 : Nat → Int32) (acts_c2 : Int32) => ∀ x3 : Int64, x3 = (((st 278).toInt64) * (1103515245 : Int64)) + (12345 : Int64) → ∀ x4 : Int32, x4 = (((upd st 278 ((x3 - x3 / (2147483648 : Int64) * (2147483648 : Int64)).toInt32)) 278) / (65536 : Int32)) - (((upd st 278 ((x3 - x3 / (2147483648 : Int64) * (2147483648 : Int64)).toInt32)) 278) / (65536 : Int32)) / (266 : Int32) * (266 : Int32) → vp_in x4 279 ∧ vp_in x4 279 ∧ post (upd (upd st 278 ((x3 - x3 / (2147483648 : Int64) * (2147483648 : Int64)).toInt32)) x4.toNatClampNeg ((1 : Int32) - ((upd st 278 ((x3 - x3 / (2147483648 : Int64) * (2147483648 : Int64)).toInt32)) x4.toNatClampNeg))) past_c1 acts_c2) := hw
  refine lv_aload_n hx hb dX11_turnsOnce_0 rfl (lv_at hl 0 rfl) ?_
  refine x_callWv (rest := []) hC hI (mX11_notes l D K h _ st past acts image ipast iacts tape tmany laneOf sizeOf items seaFirst worstOf farTo stepsTo needs nmany mat told hw) (cwV 0 hts gX11_turnsOnce_X11_notes rfl rfl rfl (by decide +kernel) ⟨(Nat.le_of_ble_eq_true rfl), (Nat.le_of_ble_eq_true rfl)⟩) (fun _ => rfl) 0 9 rfl rfl rfl rfl hl.1 rfl (Nat.le_of_ble_eq_true rfl) dX11_turnsOnce_1 ⟨(Nat.le_of_ble_eq_true rfl), (Nat.le_of_ble_eq_true rfl)⟩ (fun u H locs hw hI => ?_)
  obtain ⟨past_c1, acts_c2⟩ := u
  try dsimp only at hw
  have hI : wI s D A (fl [wMo K h st past_c1 acts_c2 image ipast iacts tape tmany laneOf sizeOf items seaFirst worstOf farTo stepsTo needs nmany mat told]) H locs := hI
  refine lv_aload_n hx hb dX11_turnsOnce_4 rfl (lv_at hl 0 rfl) ?_
  refine x_get (v := .ref (h 1)) hC hI kX11_turnsOnce_cX11 0 rfl rfl 0 (by decide) kX11_turnsOnce_0 rfl rfl dX11_turnsOnce_5 ?_
  refine lv_sipush (v := (278 : Int32)) hx hb dX11_turnsOnce_8 (by decide) ?_
  refine x_iald (f := st) hC hI 1 rfl (by unfold vp_in; decide) dX11_turnsOnce_11 ?_
  refine lv_i2l (v := (st 278).toInt64) hx hb dX11_turnsOnce_12 rfl ?_
  refine lv_ldc2 (v := (1103515245 : Int64)) hx hb hown (hts _ kX11_turnsOnce_2) dX11_turnsOnce_13 ?_
  refine lv_lmul hx hb dX11_turnsOnce_16 ?_
  refine lv_ldc2 (v := (12345 : Int64)) hx hb hown (hts _ kX11_turnsOnce_3) dX11_turnsOnce_17 ?_
  refine lv_ladd hx hb dX11_turnsOnce_20 ?_
  refine lv_topl (fun x3 ex3 => ?_)
  replace hw := hw x3 ex3
  refine lv_lstore_n (lv' := [(1, .long x3), (0, .ref (h 0))]) hx hb dX11_turnsOnce_21 rfl hl (by decide) rfl (fun ls hl => ?_)
  refine lv_aload_n hx hb dX11_turnsOnce_22 rfl (lv_at hl 1 rfl) ?_
  refine x_get (v := .ref (h 1)) hC hI kX11_turnsOnce_cX11 0 rfl rfl 0 (by decide) kX11_turnsOnce_0 rfl rfl dX11_turnsOnce_23 ?_
  refine lv_sipush (v := (278 : Int32)) hx hb dX11_turnsOnce_26 (by decide) ?_
  refine lv_lload_n hx hb dX11_turnsOnce_29 rfl (lv_at hl 0 rfl) ?_
  refine lv_ldc2 (v := (2147483648 : Int64)) hx hb hown (hts _ kX11_turnsOnce_4) dX11_turnsOnce_30 ?_
  refine lv_lrem hx hb dX11_turnsOnce_33 (by decide) ?_
  refine lv_l2i (v := (x3 - x3 / (2147483648 : Int64) * (2147483648 : Int64)).toInt32) hx hb dX11_turnsOnce_34 rfl ?_
  refine x_iast (f := st) hC hI 1 rfl (by unfold vp_in; decide) dX11_turnsOnce_35 (fun H locs hI => ?_)
  have hI : wI s D A (fl [wMo K h (upd st 278 ((x3 - x3 / (2147483648 : Int64) * (2147483648 : Int64)).toInt32)) past_c1 acts_c2 image ipast iacts tape tmany laneOf sizeOf items seaFirst worstOf farTo stepsTo needs nmany mat told]) H locs := hI
  refine lv_aload_n hx hb dX11_turnsOnce_36 rfl (lv_at hl 1 rfl) ?_
  refine x_get (v := .ref (h 1)) hC hI kX11_turnsOnce_cX11 0 rfl rfl 0 (by decide) kX11_turnsOnce_0 rfl rfl dX11_turnsOnce_37 ?_
  refine lv_sipush (v := (278 : Int32)) hx hb dX11_turnsOnce_40 (by decide) ?_
  refine x_iald (f := (upd st 278 ((x3 - x3 / (2147483648 : Int64) * (2147483648 : Int64)).toInt32))) hC hI 1 rfl (by unfold vp_in; decide) dX11_turnsOnce_43 ?_
  refine lv_ldcw (v := (65536 : Int32)) hx hb hown (hts _ kX11_turnsOnce_5) dX11_turnsOnce_44 ?_
  refine lv_idiv hx hb dX11_turnsOnce_47 (by decide) ?_
  refine lv_sipush (v := (266 : Int32)) hx hb dX11_turnsOnce_48 (by decide) ?_
  refine lv_irem hx hb dX11_turnsOnce_51 (by decide) ?_
  refine lv_topi (fun x4 ex4 => ?_)
  replace hw := hw x4 ex4
  refine lv_istore_n (lv' := [(3, .int x4), (1, .long x3), (0, .ref (h 0))]) hx hb dX11_turnsOnce_52 rfl hl (by decide) rfl (fun ls hl => ?_)
  refine lv_aload_n hx hb dX11_turnsOnce_53 rfl (lv_at hl 2 rfl) ?_
  refine x_get (v := .ref (h 1)) hC hI kX11_turnsOnce_cX11 0 rfl rfl 0 (by decide) kX11_turnsOnce_0 rfl rfl dX11_turnsOnce_54 ?_
  refine lv_iload_n hx hb dX11_turnsOnce_57 rfl (lv_at hl 0 rfl) ?_
  refine lv_iconst (v := (1 : Int32)) hx hb dX11_turnsOnce_58 (by decide) ?_
  refine lv_aload_n hx hb dX11_turnsOnce_59 rfl (lv_at hl 2 rfl) ?_
  refine x_get (v := .ref (h 1)) hC hI kX11_turnsOnce_cX11 0 rfl rfl 0 (by decide) kX11_turnsOnce_0 rfl rfl dX11_turnsOnce_60 ?_
  refine lv_iload_n hx hb dX11_turnsOnce_63 rfl (lv_at hl 0 rfl) ?_
  obtain ⟨hc5, hw⟩ := hw
  refine x_iald (f := (upd st 278 ((x3 - x3 / (2147483648 : Int64) * (2147483648 : Int64)).toInt32))) hC hI 1 rfl hc5 dX11_turnsOnce_64 ?_
  refine lv_isub hx hb dX11_turnsOnce_65 ?_
  obtain ⟨hc6, hw⟩ := hw
  refine x_iast (f := (upd st 278 ((x3 - x3 / (2147483648 : Int64) * (2147483648 : Int64)).toInt32))) hC hI 1 rfl hc6 dX11_turnsOnce_66 (fun H locs hI => ?_)
  have hI : wI s D A (fl [wMo K h (upd (upd st 278 ((x3 - x3 / (2147483648 : Int64) * (2147483648 : Int64)).toInt32)) x4.toNatClampNeg ((1 : Int32) - ((upd st 278 ((x3 - x3 / (2147483648 : Int64) * (2147483648 : Int64)).toInt32)) x4.toNatClampNeg))) past_c1 acts_c2 image ipast iacts tape tmany laneOf sizeOf items seaFirst worstOf farTo stepsTo needs nmany mat told]) H locs := hI
  subst hQ
  exact x_vret (u := ((upd (upd st 278 ((x3 - x3 / (2147483648 : Int64) * (2147483648 : Int64)).toInt32)) x4.toNatClampNeg ((1 : Int32) - ((upd st 278 ((x3 - x3 / (2147483648 : Int64) * (2147483648 : Int64)).toInt32)) x4.toNatClampNeg))), past_c1, acts_c2)) hC hI hr hlk hw rfl dX11_turnsOnce_67
