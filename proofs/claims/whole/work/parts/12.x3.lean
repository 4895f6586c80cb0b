def wX3_xOnStrip (a0 : Int32) (a1 : Int32) (a2 : Int32) (a3 : Int32) (a4 : Int32)  (post : Int32 → Prop) : Prop := wX1_rowCosine a4 (fun (r1 : Int32) => post ((((((2 : Int32) * a2) + (1 : Int32)) * a1) * a0) + ((((((2 : Int32) * a3) - a1) * a0) * r1) / (10000 : Int32))))
def rmX3_xOnStrip : Room := { frames := 1, cells := 0, slots := 0, locals := 20 }
set_option maxHeartbeats 4000000 in
set_option maxRecDepth 100000 in
theorem mX3_xOnStrip (l : Launch) (D : va_G) (K : Nat → ClassId)  (sz : Nat) (a0 : Int32) (a1 : Int32) (a2 : Int32) (a3 : Int32) (a4 : Int32)   {post : Int32 → Prop} (hw : wX3_xOnStrip a0 a1 a2 a3 a4  post) : Met l yX3_xOnStrip wsX3_xOnStrip rmX3_xOnStrip (va_Pc [.int a0, .int a1, .int a2, .int a3, .int a4] (cP D K (fl []) sz)) (va_Qi (fun (r : Int32) (u : Unit) => post r) (fun u t => cQ D K (fl []) (va_A (fl []) sz) t) (va_A (fl []) sz)) 0 0 (va_A (fl []) sz) := by
  refine x_entry (cc := cX3_xOnStrip) (maxL := 5) (ret := (some .int)) (QA := fun A => va_Qi (fun (r : Int32) (u : Unit) => post r) (fun u t => cQ D K (fl []) A t) A) (plainFor_of_name (by decide)) rfl (Nat.le_of_ble_eq_true rfl) ?_
  intro p e s m args below meth c A ls H Q hQ hC hlk hr hnm hI hl
  obtain ⟨hx, hb, hml, hown, hts, hK, hA, hZ⟩ := id hC
  obtain ⟨locs, hlocs⟩ : ∃ y : List Loc, y = [] := ⟨_, rfl⟩
  rw [← hlocs] at hI ⊢
  clear hlocs
  replace hl : lv_has ls 5 [(0, .int a0), (1, .int a1), (2, .int a2), (3, .int a3), (4, .int a4)] := hl
  replace hw : wX1_rowCosine a4 (fun (r1 : Int32) => post ((((((2 : Int32) * a2) + (1 : Int32)) * a1) * a0) + ((((((2 : Int32) * a3) - a1) * a0) * r1) / (10000 : Int32)))) := hw
  refine lv_iconst (v := (2 : Int32)) hx hb dX3_xOnStrip_0 (by decide) ?_
  refine lv_iload_n hx hb dX3_xOnStrip_1 rfl (lv_at hl 2 rfl) ?_
  refine lv_imul hx hb dX3_xOnStrip_2 ?_
  refine lv_iconst (v := (1 : Int32)) hx hb dX3_xOnStrip_3 (by decide) ?_
  refine lv_iadd hx hb dX3_xOnStrip_4 ?_
  refine lv_iload_n hx hb dX3_xOnStrip_5 rfl (lv_at hl 1 rfl) ?_
  refine lv_imul hx hb dX3_xOnStrip_6 ?_
  refine lv_iload_n hx hb dX3_xOnStrip_7 rfl (lv_at hl 0 rfl) ?_
  refine lv_imul hx hb dX3_xOnStrip_8 ?_
  refine lv_iconst (v := (2 : Int32)) hx hb dX3_xOnStrip_9 (by decide) ?_
  refine lv_iload_n hx hb dX3_xOnStrip_10 rfl (lv_at hl 3 rfl) ?_
  refine lv_imul hx hb dX3_xOnStrip_11 ?_
  refine lv_iload_n hx hb dX3_xOnStrip_12 rfl (lv_at hl 1 rfl) ?_
  refine lv_isub hx hb dX3_xOnStrip_13 ?_
  refine lv_iload_n hx hb dX3_xOnStrip_14 rfl (lv_at hl 0 rfl) ?_
  refine lv_imul hx hb dX3_xOnStrip_15 ?_
  refine lv_iload hx hb dX3_xOnStrip_16 (lv_at hl 4 rfl) ?_
  refine x_callSi (rest := [.int ((((2 : Int32) * a3) - a1) * a0), .int (((((2 : Int32) * a2) + (1 : Int32)) * a1) * a0)]) hC hI [] (mX1_rowCosine l D K  _ a4 hw) (va_cwS 1 hts gX3_xOnStrip_X1_rowCosine rfl rfl rfl (by decide +kernel) ⟨(Nat.le_of_ble_eq_true rfl), (Nat.le_of_ble_eq_true rfl)⟩) (by decide) rfl (fun _ => rfl) rfl hl.1 rfl (Nat.le_of_ble_eq_true rfl) dX3_xOnStrip_18 ⟨(Nat.le_of_ble_eq_true rfl), (Nat.le_of_ble_eq_true rfl)⟩ (fun r1 u H locs hw hI => ?_)
  try dsimp only at hw
  have hI : wI s D A (fl []) H locs := hI
  refine lv_imul hx hb dX3_xOnStrip_21 ?_
  refine lv_sipush (v := (10000 : Int32)) hx hb dX3_xOnStrip_22 (by decide) ?_
  refine lv_idiv hx hb dX3_xOnStrip_25 (by decide) ?_
  refine lv_iadd hx hb dX3_xOnStrip_26 ?_
  subst hQ
  exact x_iret (u := ()) hC hI hr hlk hw rfl dX3_xOnStrip_27

def wX3_stripX (a0 : Int32) (a1 : Int32) (a2 : Int32) (a3 : Int32)  (post : Int32 → Prop) : Prop := ¬ a1 = 0 ∧ ∀ x2 : Int32, x2 = a3 / a1 → wX3_xOnStrip a0 a1 x2 (a3 - (a1 * x2)) a2 (fun (r3 : Int32) => post r3)
def rmX3_stripX : Room := { frames := 2, cells := 0, slots := 0, locals := 44 }
set_option maxHeartbeats 4000000 in
set_option maxRecDepth 100000 in
theorem mX3_stripX (l : Launch) (D : va_G) (K : Nat → ClassId)  (sz : Nat) (a0 : Int32) (a1 : Int32) (a2 : Int32) (a3 : Int32)   {post : Int32 → Prop} (hw : wX3_stripX a0 a1 a2 a3  post) : Met l yX3_stripX wsX3_stripX rmX3_stripX (va_Pc [.int a0, .int a1, .int a2, .int a3] (cP D K (fl []) sz)) (va_Qi (fun (r : Int32) (u : Unit) => post r) (fun u t => cQ D K (fl []) (va_A (fl []) sz) t) (va_A (fl []) sz)) 0 0 (va_A (fl []) sz) := by
  refine x_entry (cc := cX3_stripX) (maxL := 5) (ret := (some .int)) (QA := fun A => va_Qi (fun (r : Int32) (u : Unit) => post r) (fun u t => cQ D K (fl []) A t) A) (plainFor_of_name (by decide)) rfl (Nat.le_of_ble_eq_true rfl) ?_
  intro p e s m args below meth c A ls H Q hQ hC hlk hr hnm hI hl
  obtain ⟨hx, hb, hml, hown, hts, hK, hA, hZ⟩ := id hC
  obtain ⟨locs, hlocs⟩ : ∃ y : List Loc, y = [] := ⟨_, rfl⟩
  rw [← hlocs] at hI ⊢
  clear hlocs
  replace hl : lv_has ls 5 [(0, .int a0), (1, .int a1), (2, .int a2), (3, .int a3)] := hl
  replace hw : ¬ a1 = 0 ∧ ∀ x2 : Int32, x2 = a3 / a1 → wX3_xOnStrip a0 a1 x2 (a3 - (a1 * x2)) a2 (fun (r3 : Int32) => post r3) := hw
  refine lv_iload_n hx hb dX3_stripX_0 rfl (lv_at hl 3 rfl) ?_
  refine lv_iload_n hx hb dX3_stripX_1 rfl (lv_at hl 1 rfl) ?_
  obtain ⟨hc1, hw⟩ := hw
  refine lv_idiv hx hb dX3_stripX_2 hc1 ?_
  refine lv_topi (fun x2 ex2 => ?_)
  replace hw := hw x2 ex2
  refine lv_istore (lv' := [(4, .int x2), (0, .int a0), (1, .int a1), (2, .int a2), (3, .int a3)]) hx hb dX3_stripX_3 hl (by decide) rfl (fun ls hl => ?_)
  refine lv_iload_n hx hb dX3_stripX_5 rfl (lv_at hl 1 rfl) ?_
  refine lv_iload_n hx hb dX3_stripX_6 rfl (lv_at hl 2 rfl) ?_
  refine lv_iload hx hb dX3_stripX_7 (lv_at hl 0 rfl) ?_
  refine lv_iload_n hx hb dX3_stripX_9 rfl (lv_at hl 4 rfl) ?_
  refine lv_iload_n hx hb dX3_stripX_10 rfl (lv_at hl 2 rfl) ?_
  refine lv_iload hx hb dX3_stripX_11 (lv_at hl 0 rfl) ?_
  refine lv_imul hx hb dX3_stripX_13 ?_
  refine lv_isub hx hb dX3_stripX_14 ?_
  refine lv_iload_n hx hb dX3_stripX_15 rfl (lv_at hl 3 rfl) ?_
  refine x_callSi (rest := []) hC hI [] (mX3_xOnStrip l D K  _ a0 a1 x2 (a3 - (a1 * x2)) a2 hw) (va_cwS 5 hts gX3_stripX_X3_xOnStrip rfl rfl rfl (by decide +kernel) ⟨(Nat.le_of_ble_eq_true rfl), (Nat.le_of_ble_eq_true rfl)⟩) (by decide) rfl (fun _ => rfl) rfl hl.1 rfl (Nat.le_of_ble_eq_true rfl) dX3_stripX_16 ⟨(Nat.le_of_ble_eq_true rfl), (Nat.le_of_ble_eq_true rfl)⟩ (fun r3 u H locs hw hI => ?_)
  try dsimp only at hw
  have hI : wI s D A (fl []) H locs := hI
  subst hQ
  exact x_iret (u := ()) hC hI hr hlk hw rfl dX3_stripX_19

def wX3_stripY (a0 : Int32) (a1 : Int32)  (post : Int32 → Prop) : Prop := post (((2 : Int32) * a0) * (a1 + (6 : Int32)))
def rmX3_stripY : Room := { frames := 0, cells := 0, slots := 0, locals := 0 }
set_option maxHeartbeats 4000000 in
set_option maxRecDepth 100000 in
theorem mX3_stripY (l : Launch) (D : va_G) (K : Nat → ClassId)  (sz : Nat) (a0 : Int32) (a1 : Int32)   {post : Int32 → Prop} (hw : wX3_stripY a0 a1  post) : Met l yX3_stripY wsX3_stripY rmX3_stripY (va_Pc [.int a0, .int a1] (cP D K (fl []) sz)) (va_Qi (fun (r : Int32) (u : Unit) => post r) (fun u t => cQ D K (fl []) (va_A (fl []) sz) t) (va_A (fl []) sz)) 0 0 (va_A (fl []) sz) := by
  refine x_entry (cc := cX3_stripY) (maxL := 2) (ret := (some .int)) (QA := fun A => va_Qi (fun (r : Int32) (u : Unit) => post r) (fun u t => cQ D K (fl []) A t) A) (plainFor_of_name (by decide)) rfl (Nat.le_of_ble_eq_true rfl) ?_
  intro p e s m args below meth c A ls H Q hQ hC hlk hr hnm hI hl
  obtain ⟨hx, hb, hml, hown, hts, hK, hA, hZ⟩ := id hC
  obtain ⟨locs, hlocs⟩ : ∃ y : List Loc, y = [] := ⟨_, rfl⟩
  rw [← hlocs] at hI ⊢
  clear hlocs
  replace hl : lv_has ls 2 [(0, .int a0), (1, .int a1)] := hl
  replace hw : post (((2 : Int32) * a0) * (a1 + (6 : Int32))) := hw
  refine lv_iconst (v := (2 : Int32)) hx hb dX3_stripY_0 (by decide) ?_
  refine lv_iload_n hx hb dX3_stripY_1 rfl (lv_at hl 0 rfl) ?_
  refine lv_imul hx hb dX3_stripY_2 ?_
  refine lv_iload_n hx hb dX3_stripY_3 rfl (lv_at hl 1 rfl) ?_
  refine lv_bipush (v := (6 : Int32)) hx hb dX3_stripY_4 (by decide) ?_
  refine lv_iadd hx hb dX3_stripY_6 ?_
  refine lv_imul hx hb dX3_stripY_7 ?_
  subst hQ
  exact x_iret (u := ()) hC hI hr hlk hw rfl dX3_stripY_8

def wX3_twinX (a1 : Int32) (a2 : Int32) (unit : Int32) (strips : Int32) (post : Int32 → Prop) : Prop := wX0_width strips (fun (r1 : Int32) => ¬ r1 = 0 ∧ (((a2 - a2 / r1 * r1) = 0 → ∃ J32 : Int32 → Prop, (∀ (t_32 : Int32), J32 t_32 → wX3_xOnStrip unit r1 t_32 r1 a1 (fun (r4 : Int32) => post r4)) ∧ ((a2 = 0 → J32 (strips - (1 : Int32))) ∧ (¬ a2 = 0 → ¬ r1 = 0 ∧ J32 ((a2 / r1) - (1 : Int32))))) ∧ (¬ (a2 - a2 / r1 * r1) = 0 → post (-4 : Int32))))
def rmX3_twinX : Room := { frames := 2, cells := 0, slots := 0, locals := 44 }
theorem kX3_twinX_0 : Cond.fieldLink RX3 31 "GoreGlobe$Globe" "unit" "I" ∈ wsX3_twinX := List.mem_cons_of_mem _ (List.mem_append_left _ (List.mem_of_getElem? (i := 1) rfl))
theorem kX3_twinX_cX0 : ∀ w ∈ wsX00, w ∈ wsX3_twinX := fun _ h => List.mem_cons_of_mem _ (List.mem_append_right _ h)
theorem kX3_twinX_2 : Cond.fieldLink RX3 27 "GoreGlobe$Globe" "strips" "I" ∈ wsX3_twinX := List.mem_cons_of_mem _ (List.mem_append_left _ (List.mem_of_getElem? (i := 0) rfl))
set_option maxHeartbeats 4000000 in
set_option maxRecDepth 100000 in
theorem mX3_twinX (l : Launch) (D : va_G) (K : Nat → ClassId) (h : Nat → Nat) (sz : Nat) (a1 : Int32) (a2 : Int32) (bits : Nat → Int64) (stops : Nat → Int32) (num : Int32) (unit : Int32) (strips : Int32) (caps : Int32) (draw : Int32)  {post : Int32 → Prop} (hw : wX3_twinX a1 a2 unit strips post) : Met l yX3_twinX wsX3_twinX rmX3_twinX (va_Pc [.ref (h 0), .int a1, .int a2] (cP D K (fl [wGl K h (bits, stops, num, unit, strips, caps, draw)]) sz)) (va_Qi (fun (r : Int32) (u : Unit) => post r) (fun u t => cQ D K (fl [wGl K h (bits, stops, num, unit, strips, caps, draw)]) (va_A (fl [wGl K h (bits, stops, num, unit, strips, caps, draw)]) sz) t) (va_A (fl [wGl K h (bits, stops, num, unit, strips, caps, draw)]) sz)) 0 0 (va_A (fl [wGl K h (bits, stops, num, unit, strips, caps, draw)]) sz) := by
  refine x_entry (cc := cX3_twinX) (maxL := 5) (ret := (some .int)) (QA := fun A => va_Qi (fun (r : Int32) (u : Unit) => post r) (fun u t => cQ D K (fl [wGl K h (bits, stops, num, unit, strips, caps, draw)]) A t) A) (plainFor_of_name (by decide)) rfl (Nat.le_of_ble_eq_true rfl) ?_
  intro p e s m args below meth c A ls H Q hQ hC hlk hr hnm hI hl
  obtain ⟨hx, hb, hml, hown, hts, hK, hA, hZ⟩ := id hC
  obtain ⟨locs, hlocs⟩ : ∃ y : List Loc, y = [] := ⟨_, rfl⟩
  rw [← hlocs] at hI ⊢
  clear hlocs
  replace hl : lv_has ls 5 [(0, .ref (h 0)), (1, .int a1), (2, .int a2)] := hl
  replace hw : wX0_width strips (fun (r1 : Int32) => ¬ r1 = 0 ∧ (((a2 - a2 / r1 * r1) = 0 → ∃ J32 : Int32 → Prop, (∀ (t_32 : Int32), J32 t_32 → wX3_xOnStrip unit r1 t_32 r1 a1 (fun (r4 : Int32) => post r4)) ∧ ((a2 = 0 → J32 (strips - (1 : Int32))) ∧ (¬ a2 = 0 → ¬ r1 = 0 ∧ J32 ((a2 / r1) - (1 : Int32))))) ∧ (¬ (a2 - a2 / r1 * r1) = 0 → post (-4 : Int32)))) := hw
  refine lv_aload_n hx hb dX3_twinX_0 rfl (lv_at hl 0 rfl) ?_
  refine x_callVi (rest := []) hC hI [0] (mX0_width l D K h _ bits stops num unit strips caps draw hw) (cwV 0 hts gX3_twinX_X0_width rfl rfl rfl (by decide +kernel) ⟨(Nat.le_of_ble_eq_true rfl), (Nat.le_of_ble_eq_true rfl)⟩) (by decide) rfl (fun _ => rfl) 0 0 rfl rfl rfl rfl hl.1 rfl (Nat.le_of_ble_eq_true rfl) dX3_twinX_1 ⟨(Nat.le_of_ble_eq_true rfl), (Nat.le_of_ble_eq_true rfl)⟩ (fun r1 u H locs hw hI => ?_)
  try dsimp only at hw
  have hI : wI s D A (fl [wGl K h (bits, stops, num, unit, strips, caps, draw)]) H locs := hI
  refine lv_istore_n (lv' := [(3, .int r1), (0, .ref (h 0)), (1, .int a1), (2, .int a2)]) hx hb dX3_twinX_4 rfl hl (by decide) rfl (fun ls hl => ?_)
  refine lv_iload_n hx hb dX3_twinX_5 rfl (lv_at hl 3 rfl) ?_
  refine lv_iload_n hx hb dX3_twinX_6 rfl (lv_at hl 0 rfl) ?_
  obtain ⟨hc2, hw⟩ := hw
  refine lv_irem hx hb dX3_twinX_7 hc2 ?_
  refine lv_if_eq (tgt := 14) hx hb dX3_twinX_8 (by decide) (fun c3 => ?_) (fun c3 => ?_)
  · replace hw := hw.1 c3
    refine lv_iload_n hx hb dX3_twinX_14 rfl (lv_at hl 3 rfl) ?_
    obtain ⟨J32, hJ32, hw⟩ := hw
    have jn32 : ∀ (t_32 : Int32) (ls : Array Slot) (H : Heap) (locs : List Loc), J32 t_32 → wI s D A (fl [wGl K h (bits, stops, num, unit, strips, caps, draw)]) H locs → lv_has ls 5 [(0, .ref (h 0)), (1, .int a1), (3, .int r1)] → W p l e rmX3_twinX s m args below meth c H locs 0 0 Q (F0 m 32 ls [.int t_32]) := by
      intro t_32 ls H locs hw hI hl
      replace hw := hJ32 t_32 hw
      refine lv_istore (lv' := [(4, .int t_32), (0, .ref (h 0)), (1, .int a1), (3, .int r1)]) hx hb dX3_twinX_32 hl (by decide) rfl (fun ls hl => ?_)
      refine lv_aload_n hx hb dX3_twinX_34 rfl (lv_at hl 1 rfl) ?_
      refine x_get (v := .int unit) hC hI kX3_twinX_cX0 0 rfl rfl 3 (by decide) kX3_twinX_0 rfl rfl dX3_twinX_35 ?_
      refine lv_iload_n hx hb dX3_twinX_38 rfl (lv_at hl 3 rfl) ?_
      refine lv_iload hx hb dX3_twinX_39 (lv_at hl 0 rfl) ?_
      refine lv_iload_n hx hb dX3_twinX_41 rfl (lv_at hl 3 rfl) ?_
      refine lv_iload_n hx hb dX3_twinX_42 rfl (lv_at hl 2 rfl) ?_
      refine x_callSi (rest := []) hC hI [] (mX3_xOnStrip l D K  _ unit r1 t_32 r1 a1 hw) (va_cwS 5 hts gX3_twinX_X3_xOnStrip rfl rfl rfl (by decide +kernel) ⟨(Nat.le_of_ble_eq_true rfl), (Nat.le_of_ble_eq_true rfl)⟩) (by decide) rfl (fun _ => rfl) rfl hl.1 rfl (Nat.le_of_ble_eq_true rfl) dX3_twinX_43 ⟨(Nat.le_of_ble_eq_true rfl), (Nat.le_of_ble_eq_true rfl)⟩ (fun r4 u H locs hw hI => ?_)
      try dsimp only at hw
      have hI : wI s D A (fl [wGl K h (bits, stops, num, unit, strips, caps, draw)]) H locs := hI
      subst hQ
      exact x_iret (u := ()) hC hI hr hlk hw rfl dX3_twinX_46
    refine lv_if_ne (tgt := 27) hx hb dX3_twinX_15 (by decide) (fun c5 => ?_) (fun c5 => ?_)
    · replace hw := hw.2 c5
      refine lv_iload_n hx hb dX3_twinX_27 rfl (lv_at hl 3 rfl) ?_
      refine lv_iload_n hx hb dX3_twinX_28 rfl (lv_at hl 0 rfl) ?_
      obtain ⟨hc6, hw⟩ := hw
      refine lv_idiv hx hb dX3_twinX_29 hc6 ?_
      refine lv_iconst (v := (1 : Int32)) hx hb dX3_twinX_30 (by decide) ?_
      refine lv_isub hx hb dX3_twinX_31 ?_
      exact jn32 ((a2 / r1) - (1 : Int32)) ls H locs hw hI (lv_sub hl [1, 2, 0] rfl)
    · replace hw := hw.1 c5
      refine lv_aload_n hx hb dX3_twinX_18 rfl (lv_at hl 1 rfl) ?_
      refine x_get (v := .int strips) hC hI kX3_twinX_cX0 0 rfl rfl 4 (by decide) kX3_twinX_2 rfl rfl dX3_twinX_19 ?_
      refine lv_iconst (v := (1 : Int32)) hx hb dX3_twinX_22 (by decide) ?_
      refine lv_isub hx hb dX3_twinX_23 ?_
      refine lv_goto (tgt := 32) hx hb dX3_twinX_24 (by decide) ?_
      exact jn32 (strips - (1 : Int32)) ls H locs hw hI (lv_sub hl [1, 2, 0] rfl)
  · replace hw := hw.2 c3
    refine lv_bipush (v := (-4 : Int32)) hx hb dX3_twinX_11 (by decide) ?_
    subst hQ
    exact x_iret (u := ()) hC hI hr hlk hw rfl dX3_twinX_13

def wX3_capRadius (a1 : Int32) (unit : Int32) (post : Int32 → Prop) : Prop := post (((2 : Int32) * unit) * ((6 : Int32) - (if 0 ≤ a1 then a1 else 0 - a1)))
def rmX3_capRadius : Room := { frames := 1, cells := 0, slots := 0, locals := 23 }
theorem kX3_capRadius_0 : Cond.fieldLink RX3 31 "GoreGlobe$Globe" "unit" "I" ∈ wsX3_capRadius := List.mem_cons_of_mem _ (List.mem_append_left _ (List.mem_of_getElem? (i := 0) rfl))
theorem kX3_capRadius_cX0 : ∀ w ∈ wsX00, w ∈ wsX3_capRadius := fun _ h => List.mem_cons_of_mem _ (List.mem_append_right _ h)
theorem kX3_capRadius_2 : Cond.methodLink RX3 51 Lib.Math.abs.name ∈ wsX3_capRadius := List.mem_cons_of_mem _ (List.mem_append_left _ (List.mem_of_getElem? (i := 1) rfl))
theorem kX3_capRadius_3 : Cond.static Lib.Math.abs.name ∈ wsX3_capRadius := List.mem_cons_of_mem _ (List.mem_append_left _ (List.mem_of_getElem? (i := 2) rfl))
theorem kX3_capRadius_4 : Cond.initialized "java/lang/Math" ∈ wsX3_capRadius := List.mem_cons_of_mem _ (List.mem_append_left _ (List.mem_of_getElem? (i := 3) rfl))
theorem kX3_capRadius_5 : Cond.code Lib.Math.abs.name Lib.Math.abs.code 1 (some .int) ∈ wsX3_capRadius := List.mem_cons_of_mem _ (List.mem_append_left _ (List.mem_of_getElem? (i := 4) rfl))
set_option maxHeartbeats 4000000 in
set_option maxRecDepth 100000 in
theorem mX3_capRadius (l : Launch) (D : va_G) (K : Nat → ClassId) (h : Nat → Nat) (sz : Nat) (a1 : Int32) (bits : Nat → Int64) (stops : Nat → Int32) (num : Int32) (unit : Int32) (strips : Int32) (caps : Int32) (draw : Int32)  {post : Int32 → Prop} (hw : wX3_capRadius a1 unit post) : Met l yX3_capRadius wsX3_capRadius rmX3_capRadius (va_Pc [.ref (h 0), .int a1] (cP D K (fl [wGl K h (bits, stops, num, unit, strips, caps, draw)]) sz)) (va_Qi (fun (r : Int32) (u : Unit) => post r) (fun u t => cQ D K (fl [wGl K h (bits, stops, num, unit, strips, caps, draw)]) (va_A (fl [wGl K h (bits, stops, num, unit, strips, caps, draw)]) sz) t) (va_A (fl [wGl K h (bits, stops, num, unit, strips, caps, draw)]) sz)) 0 0 (va_A (fl [wGl K h (bits, stops, num, unit, strips, caps, draw)]) sz) := by
  refine x_entry (cc := cX3_capRadius) (maxL := 2) (ret := (some .int)) (QA := fun A => va_Qi (fun (r : Int32) (u : Unit) => post r) (fun u t => cQ D K (fl [wGl K h (bits, stops, num, unit, strips, caps, draw)]) A t) A) (plainFor_of_name (by decide)) rfl (Nat.le_of_ble_eq_true rfl) ?_
  intro p e s m args below meth c A ls H Q hQ hC hlk hr hnm hI hl
  obtain ⟨hx, hb, hml, hown, hts, hK, hA, hZ⟩ := id hC
  obtain ⟨locs, hlocs⟩ : ∃ y : List Loc, y = [] := ⟨_, rfl⟩
  rw [← hlocs] at hI ⊢
  clear hlocs
  replace hl : lv_has ls 2 [(0, .ref (h 0)), (1, .int a1)] := hl
  replace hw : post (((2 : Int32) * unit) * ((6 : Int32) - (if 0 ≤ a1 then a1 else 0 - a1))) := hw
  refine lv_iconst (v := (2 : Int32)) hx hb dX3_capRadius_0 (by decide) ?_
  refine lv_aload_n hx hb dX3_capRadius_1 rfl (lv_at hl 0 rfl) ?_
  refine x_get (v := .int unit) hC hI kX3_capRadius_cX0 0 rfl rfl 3 (by decide) kX3_capRadius_0 rfl rfl dX3_capRadius_2 ?_
  refine lv_imul hx hb dX3_capRadius_5 ?_
  refine lv_bipush (v := (6 : Int32)) hx hb dX3_capRadius_6 (by decide) ?_
  refine lv_iload_n hx hb dX3_capRadius_8 rfl (lv_at hl 1 rfl) ?_
  refine va_mabs hx hb (hml.trans hl.1.symm) hown (hts _ kX3_capRadius_2) (hts _ kX3_capRadius_3) (hts _ kX3_capRadius_4) (hts _ kX3_capRadius_5) (Nat.le_of_ble_eq_true rfl) (Nat.le_of_ble_eq_true rfl) (Nat.le_of_ble_eq_true rfl) (Nat.le_of_ble_eq_true rfl) dX3_capRadius_9 ?_
  refine lv_isub hx hb dX3_capRadius_12 ?_
  refine lv_imul hx hb dX3_capRadius_13 ?_
  subst hQ
  exact x_iret (u := ()) hC hI hr hlk hw rfl dX3_capRadius_14

def wX3_capMiddle  (unit : Int32) (caps : Int32) (post : Int32 → Prop) : Prop := post (((2 : Int32) * unit) * caps)
def rmX3_capMiddle : Room := { frames := 0, cells := 0, slots := 0, locals := 0 }
theorem kX3_capMiddle_0 : Cond.fieldLink RX3 31 "GoreGlobe$Globe" "unit" "I" ∈ wsX3_capMiddle := List.mem_cons_of_mem _ (List.mem_append_left _ (List.mem_of_getElem? (i := 0) rfl))
theorem kX3_capMiddle_cX0 : ∀ w ∈ wsX00, w ∈ wsX3_capMiddle := fun _ h => List.mem_cons_of_mem _ (List.mem_append_right _ h)
theorem kX3_capMiddle_2 : Cond.fieldLink RX3 48 "GoreGlobe$Globe" "caps" "I" ∈ wsX3_capMiddle := List.mem_cons_of_mem _ (List.mem_append_left _ (List.mem_of_getElem? (i := 1) rfl))
set_option maxHeartbeats 4000000 in
set_option maxRecDepth 100000 in
theorem mX3_capMiddle (l : Launch) (D : va_G) (K : Nat → ClassId) (h : Nat → Nat) (sz : Nat)  (bits : Nat → Int64) (stops : Nat → Int32) (num : Int32) (unit : Int32) (strips : Int32) (caps : Int32) (draw : Int32)  {post : Int32 → Prop} (hw : wX3_capMiddle  unit caps post) : Met l yX3_capMiddle wsX3_capMiddle rmX3_capMiddle (va_Pc [.ref (h 0)] (cP D K (fl [wGl K h (bits, stops, num, unit, strips, caps, draw)]) sz)) (va_Qi (fun (r : Int32) (u : Unit) => post r) (fun u t => cQ D K (fl [wGl K h (bits, stops, num, unit, strips, caps, draw)]) (va_A (fl [wGl K h (bits, stops, num, unit, strips, caps, draw)]) sz) t) (va_A (fl [wGl K h (bits, stops, num, unit, strips, caps, draw)]) sz)) 0 0 (va_A (fl [wGl K h (bits, stops, num, unit, strips, caps, draw)]) sz) := by
  refine x_entry (cc := cX3_capMiddle) (maxL := 1) (ret := (some .int)) (QA := fun A => va_Qi (fun (r : Int32) (u : Unit) => post r) (fun u t => cQ D K (fl [wGl K h (bits, stops, num, unit, strips, caps, draw)]) A t) A) (plainFor_of_name (by decide)) rfl (Nat.le_of_ble_eq_true rfl) ?_
  intro p e s m args below meth c A ls H Q hQ hC hlk hr hnm hI hl
  obtain ⟨hx, hb, hml, hown, hts, hK, hA, hZ⟩ := id hC
  obtain ⟨locs, hlocs⟩ : ∃ y : List Loc, y = [] := ⟨_, rfl⟩
  rw [← hlocs] at hI ⊢
  clear hlocs
  replace hl : lv_has ls 1 [(0, .ref (h 0))] := hl
  replace hw : post (((2 : Int32) * unit) * caps) := hw
  refine lv_iconst (v := (2 : Int32)) hx hb dX3_capMiddle_0 (by decide) ?_
  refine lv_aload_n hx hb dX3_capMiddle_1 rfl (lv_at hl 0 rfl) ?_
  refine x_get (v := .int unit) hC hI kX3_capMiddle_cX0 0 rfl rfl 3 (by decide) kX3_capMiddle_0 rfl rfl dX3_capMiddle_2 ?_
  refine lv_imul hx hb dX3_capMiddle_5 ?_
  refine lv_aload_n hx hb dX3_capMiddle_6 rfl (lv_at hl 0 rfl) ?_
  refine x_get (v := .int caps) hC hI kX3_capMiddle_cX0 0 rfl rfl 5 (by decide) kX3_capMiddle_2 rfl rfl dX3_capMiddle_7 ?_
  refine lv_imul hx hb dX3_capMiddle_10 ?_
  subst hQ
  exact x_iret (u := ()) hC hI hr hlk hw rfl dX3_capMiddle_11

def wX3_capX (a1 : Int32) (a2 : Int32) (unit : Int32) (caps : Int32) (post : Int32 → Prop) : Prop := wX3_capRadius a1 unit (fun (r1 : Int32) => wX1_sine a2 (fun (r2 : Int32) => ∀ x3 : Int32, x3 = (r1 * r2) / (10000 : Int32) → wX3_capMiddle unit caps (fun (r4 : Int32) => ((a1 ≤ 0 → post (r4 + (-x3))) ∧ (¬ a1 ≤ 0 → post (r4 + x3))))))
def rmX3_capX : Room := { frames := 2, cells := 0, slots := 0, locals := 44 }
set_option maxHeartbeats 4000000 in
set_option maxRecDepth 100000 in
theorem mX3_capX (l : Launch) (D : va_G) (K : Nat → ClassId) (h : Nat → Nat) (sz : Nat) (a1 : Int32) (a2 : Int32) (bits : Nat → Int64) (stops : Nat → Int32) (num : Int32) (unit : Int32) (strips : Int32) (caps : Int32) (draw : Int32)  {post : Int32 → Prop} (hw : wX3_capX a1 a2 unit caps post) : Met l yX3_capX wsX3_capX rmX3_capX (va_Pc [.ref (h 0), .int a1, .int a2] (cP D K (fl [wGl K h (bits, stops, num, unit, strips, caps, draw)]) sz)) (va_Qi (fun (r : Int32) (u : Unit) => post r) (fun u t => cQ D K (fl [wGl K h (bits, stops, num, unit, strips, caps, draw)]) (va_A (fl [wGl K h (bits, stops, num, unit, strips, caps, draw)]) sz) t) (va_A (fl [wGl K h (bits, stops, num, unit, strips, caps, draw)]) sz)) 0 0 (va_A (fl [wGl K h (bits, stops, num, unit, strips, caps, draw)]) sz) := by
  refine x_entry (cc := cX3_capX) (maxL := 4) (ret := (some .int)) (QA := fun A => va_Qi (fun (r : Int32) (u : Unit) => post r) (fun u t => cQ D K (fl [wGl K h (bits, stops, num, unit, strips, caps, draw)]) A t) A) (plainFor_of_name (by decide)) rfl (Nat.le_of_ble_eq_true rfl) ?_
  intro p e s m args below meth c A ls H Q hQ hC hlk hr hnm hI hl
  obtain ⟨hx, hb, hml, hown, hts, hK, hA, hZ⟩ := id hC
  obtain ⟨locs, hlocs⟩ : ∃ y : List Loc, y = [] := ⟨_, rfl⟩
  rw [← hlocs] at hI ⊢
  clear hlocs
  replace hl : lv_has ls 4 [(0, .ref (h 0)), (1, .int a1), (2, .int a2)] := hl
  replace hw : wX3_capRadius a1 unit (fun (r1 : Int32) => wX1_sine a2 (fun (r2 : Int32) => ∀ x3 : Int32, x3 = (r1 * r2) / (10000 : Int32) → wX3_capMiddle unit caps (fun (r4 : Int32) => ((a1 ≤ 0 → post (r4 + (-x3))) ∧ (¬ a1 ≤ 0 → post (r4 + x3)))))) := hw
  refine lv_aload_n hx hb dX3_capX_0 rfl (lv_at hl 0 rfl) ?_
  refine lv_iload_n hx hb dX3_capX_1 rfl (lv_at hl 1 rfl) ?_
  refine x_callSi (rest := []) hC hI [0] (mX3_capRadius l D K h _ a1 bits stops num unit strips caps draw hw) (va_cwS 2 hts gX3_capX_X3_capRadius rfl rfl rfl (by decide +kernel) ⟨(Nat.le_of_ble_eq_true rfl), (Nat.le_of_ble_eq_true rfl)⟩) (by decide) rfl (fun _ => rfl) rfl hl.1 rfl (Nat.le_of_ble_eq_true rfl) dX3_capX_2 ⟨(Nat.le_of_ble_eq_true rfl), (Nat.le_of_ble_eq_true rfl)⟩ (fun r1 u H locs hw hI => ?_)
  try dsimp only at hw
  have hI : wI s D A (fl [wGl K h (bits, stops, num, unit, strips, caps, draw)]) H locs := hI
  refine lv_iload_n hx hb dX3_capX_5 rfl (lv_at hl 2 rfl) ?_
  refine x_callSi (rest := [.int r1]) hC hI [] (mX1_sine l D K  _ a2 hw) (va_cwS 1 hts gX3_capX_X1_sine rfl rfl rfl (by decide +kernel) ⟨(Nat.le_of_ble_eq_true rfl), (Nat.le_of_ble_eq_true rfl)⟩) (by decide) rfl (fun _ => rfl) rfl hl.1 rfl (Nat.le_of_ble_eq_true rfl) dX3_capX_6 ⟨(Nat.le_of_ble_eq_true rfl), (Nat.le_of_ble_eq_true rfl)⟩ (fun r2 u H locs hw hI => ?_)
  try dsimp only at hw
  have hI : wI s D A (fl [wGl K h (bits, stops, num, unit, strips, caps, draw)]) H locs := hI
  refine lv_imul hx hb dX3_capX_9 ?_
  refine lv_sipush (v := (10000 : Int32)) hx hb dX3_capX_10 (by decide) ?_
  refine lv_idiv hx hb dX3_capX_13 (by decide) ?_
  refine lv_topi (fun x3 ex3 => ?_)
  replace hw := hw x3 ex3
  refine lv_istore_n (lv' := [(3, .int x3), (0, .ref (h 0)), (1, .int a1), (2, .int a2)]) hx hb dX3_capX_14 rfl hl (by decide) rfl (fun ls hl => ?_)
  refine lv_aload_n hx hb dX3_capX_15 rfl (lv_at hl 1 rfl) ?_
  refine x_callSi (rest := []) hC hI [0] (mX3_capMiddle l D K h _ bits stops num unit strips caps draw hw) (va_cwS 1 hts gX3_capX_X3_capMiddle rfl rfl rfl (by decide +kernel) ⟨(Nat.le_of_ble_eq_true rfl), (Nat.le_of_ble_eq_true rfl)⟩) (by decide) rfl (fun _ => rfl) rfl hl.1 rfl (Nat.le_of_ble_eq_true rfl) dX3_capX_16 ⟨(Nat.le_of_ble_eq_true rfl), (Nat.le_of_ble_eq_true rfl)⟩ (fun r4 u H locs hw hI => ?_)
  try dsimp only at hw
  have hI : wI s D A (fl [wGl K h (bits, stops, num, unit, strips, caps, draw)]) H locs := hI
  refine lv_iload_n hx hb dX3_capX_19 rfl (lv_at hl 2 rfl) ?_
  refine lv_if_le (tgt := 27) hx hb dX3_capX_20 (by decide) (fun c5 => ?_) (fun c5 => ?_)
  · replace hw := hw.1 c5
    refine lv_iload_n hx hb dX3_capX_27 rfl (lv_at hl 0 rfl) ?_
    refine lv_ineg hx hb dX3_capX_28 ?_
    refine lv_iadd hx hb dX3_capX_29 ?_
    subst hQ
    exact x_iret (u := ()) hC hI hr hlk hw rfl dX3_capX_30
  · replace hw := hw.2 c5
    refine lv_iload_n hx hb dX3_capX_23 rfl (lv_at hl 0 rfl) ?_
    refine lv_goto (tgt := 29) hx hb dX3_capX_24 (by decide) ?_
    refine lv_iadd hx hb dX3_capX_29 ?_
    subst hQ
    exact x_iret (u := ()) hC hI hr hlk hw rfl dX3_capX_30

def wX3_capY (a1 : Int32) (a2 : Int32) (unit : Int32) (caps : Int32) (post : Int32 → Prop) : Prop := wX3_capMiddle unit caps (fun (r1 : Int32) => wX3_capRadius a1 unit (fun (r2 : Int32) => wX1_cosine a2 (fun (r3 : Int32) => post (r1 + ((r2 * r3) / (10000 : Int32))))))
def rmX3_capY : Room := { frames := 2, cells := 0, slots := 0, locals := 44 }
set_option maxHeartbeats 4000000 in
set_option maxRecDepth 100000 in
theorem mX3_capY (l : Launch) (D : va_G) (K : Nat → ClassId) (h : Nat → Nat) (sz : Nat) (a1 : Int32) (a2 : Int32) (bits : Nat → Int64) (stops : Nat → Int32) (num : Int32) (unit : Int32) (strips : Int32) (caps : Int32) (draw : Int32)  {post : Int32 → Prop} (hw : wX3_capY a1 a2 unit caps post) : Met l yX3_capY wsX3_capY rmX3_capY (va_Pc [.ref (h 0), .int a1, .int a2] (cP D K (fl [wGl K h (bits, stops, num, unit, strips, caps, draw)]) sz)) (va_Qi (fun (r : Int32) (u : Unit) => post r) (fun u t => cQ D K (fl [wGl K h (bits, stops, num, unit, strips, caps, draw)]) (va_A (fl [wGl K h (bits, stops, num, unit, strips, caps, draw)]) sz) t) (va_A (fl [wGl K h (bits, stops, num, unit, strips, caps, draw)]) sz)) 0 0 (va_A (fl [wGl K h (bits, stops, num, unit, strips, caps, draw)]) sz) := by
  refine x_entry (cc := cX3_capY) (maxL := 3) (ret := (some .int)) (QA := fun A => va_Qi (fun (r : Int32) (u : Unit) => post r) (fun u t => cQ D K (fl [wGl K h (bits, stops, num, unit, strips, caps, draw)]) A t) A) (plainFor_of_name (by decide)) rfl (Nat.le_of_ble_eq_true rfl) ?_
  intro p e s m args below meth c A ls H Q hQ hC hlk hr hnm hI hl
  obtain ⟨hx, hb, hml, hown, hts, hK, hA, hZ⟩ := id hC
  obtain ⟨locs, hlocs⟩ : ∃ y : List Loc, y = [] := ⟨_, rfl⟩
  rw [← hlocs] at hI ⊢
  clear hlocs
  replace hl : lv_has ls 3 [(0, .ref (h 0)), (1, .int a1), (2, .int a2)] := hl
  replace hw : wX3_capMiddle unit caps (fun (r1 : Int32) => wX3_capRadius a1 unit (fun (r2 : Int32) => wX1_cosine a2 (fun (r3 : Int32) => post (r1 + ((r2 * r3) / (10000 : Int32)))))) := hw
  refine lv_aload_n hx hb dX3_capY_0 rfl (lv_at hl 0 rfl) ?_
  refine x_callSi (rest := []) hC hI [0] (mX3_capMiddle l D K h _ bits stops num unit strips caps draw hw) (va_cwS 1 hts gX3_capY_X3_capMiddle rfl rfl rfl (by decide +kernel) ⟨(Nat.le_of_ble_eq_true rfl), (Nat.le_of_ble_eq_true rfl)⟩) (by decide) rfl (fun _ => rfl) rfl hl.1 rfl (Nat.le_of_ble_eq_true rfl) dX3_capY_1 ⟨(Nat.le_of_ble_eq_true rfl), (Nat.le_of_ble_eq_true rfl)⟩ (fun r1 u H locs hw hI => ?_)
  try dsimp only at hw
  have hI : wI s D A (fl [wGl K h (bits, stops, num, unit, strips, caps, draw)]) H locs := hI
  refine lv_aload_n hx hb dX3_capY_4 rfl (lv_at hl 0 rfl) ?_
  refine lv_iload_n hx hb dX3_capY_5 rfl (lv_at hl 1 rfl) ?_
  refine x_callSi (rest := [.int r1]) hC hI [0] (mX3_capRadius l D K h _ a1 bits stops num unit strips caps draw hw) (va_cwS 2 hts gX3_capY_X3_capRadius rfl rfl rfl (by decide +kernel) ⟨(Nat.le_of_ble_eq_true rfl), (Nat.le_of_ble_eq_true rfl)⟩) (by decide) rfl (fun _ => rfl) rfl hl.1 rfl (Nat.le_of_ble_eq_true rfl) dX3_capY_6 ⟨(Nat.le_of_ble_eq_true rfl), (Nat.le_of_ble_eq_true rfl)⟩ (fun r2 u H locs hw hI => ?_)
  try dsimp only at hw
  have hI : wI s D A (fl [wGl K h (bits, stops, num, unit, strips, caps, draw)]) H locs := hI
  refine lv_iload_n hx hb dX3_capY_9 rfl (lv_at hl 2 rfl) ?_
  refine x_callSi (rest := [.int r2, .int r1]) hC hI [] (mX1_cosine l D K  _ a2 hw) (va_cwS 1 hts gX3_capY_X1_cosine rfl rfl rfl (by decide +kernel) ⟨(Nat.le_of_ble_eq_true rfl), (Nat.le_of_ble_eq_true rfl)⟩) (by decide) rfl (fun _ => rfl) rfl hl.1 rfl (Nat.le_of_ble_eq_true rfl) dX3_capY_10 ⟨(Nat.le_of_ble_eq_true rfl), (Nat.le_of_ble_eq_true rfl)⟩ (fun r3 u H locs hw hI => ?_)
  try dsimp only at hw
  have hI : wI s D A (fl [wGl K h (bits, stops, num, unit, strips, caps, draw)]) H locs := hI
  refine lv_imul hx hb dX3_capY_13 ?_
  refine lv_sipush (v := (10000 : Int32)) hx hb dX3_capY_14 (by decide) ?_
  refine lv_idiv hx hb dX3_capY_17 (by decide) ?_
  refine lv_iadd hx hb dX3_capY_18 ?_
  subst hQ
  exact x_iret (u := ()) hC hI hr hlk hw rfl dX3_capY_19

def wX3_foundOnStrips (a1 : Int32) (a2 : Int32) (unit : Int32) (strips : Int32) (caps : Int32) (post : Int32 → Prop) : Prop := wX0_width strips (fun (r1 : Int32) => ¬ ((2 : Int32) * unit) = 0 ∧ ∀ x3 : Int32, x3 = ((a2 + unit) / ((2 : Int32) * unit)) - (6 : Int32) → ¬ (((2 : Int32) * r1) * unit) = 0 ∧ ∀ x5 : Int32, x5 = (if (strips - (1 : Int32)) < (a1 / (((2 : Int32) * r1) * unit)) then (strips - (1 : Int32)) else (a1 / (((2 : Int32) * r1) * unit))) → ∀ x6 : Int32, x6 = (if 0 ≤ (a1 - (((((2 : Int32) * x5) + (1 : Int32)) * r1) * unit)) then (a1 - (((((2 : Int32) * x5) + (1 : Int32)) * r1) * unit)) else 0 - (a1 - (((((2 : Int32) * x5) + (1 : Int32)) * r1) * unit))) → wX0_isOnStrips x3 caps (fun (r7 : Int32) => ((r7 = 0 → post (-4 : Int32)) ∧ (¬ r7 = 0 → wX1_rowCosine x3 (fun (r9 : Int32) => ((x6 ≤ (((r1 * unit) * r9) / (10000 : Int32)) → (∃ (I97 : Int32 → Int32 → Prop) (mu97 : Int32 → Int32 → Nat), I97 (0 : Int32) (1 : Int32) ∧ ∀ (l8_97 : Int32) (l9_97 : Int32), I97 l8_97 l9_97 → ((r1 < l9_97 → wX1_numberOf x3 (((r1 * x5) + l8_97) - ((r1 * x5) + l8_97) / (24 : Int32) * (24 : Int32)) (fun (r12 : Int32) => post r12)) ∧ (¬ r1 < l9_97 → wX3_xOnStrip unit r1 x5 l8_97 x3 (fun (r13 : Int32) => ∀ x14 : Int32, x14 = (if 0 ≤ (a1 - r13) then (a1 - r13) else 0 - (a1 - r13)) → wX3_xOnStrip unit r1 x5 l9_97 x3 (fun (r15 : Int32) => ((x14 ≤ (if 0 ≤ (a1 - r15) then (a1 - r15) else 0 - (a1 - r15)) → ∀ x17 : Int32, x17 = l9_97 + 1 → (I97 l8_97 x17 ∧ mu97 l8_97 x17 < mu97 l8_97 l9_97)) ∧ (¬ x14 ≤ (if 0 ≤ (a1 - r15) then (a1 - r15) else 0 - (a1 - r15)) → ∀ x18 : Int32, x18 = l9_97 + 1 → (I97 l9_97 x18 ∧ mu97 l9_97 x18 < mu97 l8_97 l9_97))))))))) ∧ (¬ x6 ≤ (((r1 * unit) * r9) / (10000 : Int32)) → post (-4 : Int32))))))))
def rmX3_foundOnStrips : Room := { frames := 2, cells := 0, slots := 0, locals := 44 }
theorem kX3_foundOnStrips_0 : Cond.fieldLink RX3 31 "GoreGlobe$Globe" "unit" "I" ∈ wsX3_foundOnStrips := List.mem_cons_of_mem _ (List.mem_append_left _ (List.mem_append_left _ (List.mem_of_getElem? (i := 0) rfl)))
theorem kX3_foundOnStrips_cX0 : ∀ w ∈ wsX00, w ∈ wsX3_foundOnStrips := fun _ h => List.mem_cons_of_mem _ (List.mem_append_right _ h)
theorem kX3_foundOnStrips_2 : Cond.fieldLink RX3 27 "GoreGlobe$Globe" "strips" "I" ∈ wsX3_foundOnStrips := List.mem_cons_of_mem _ (List.mem_append_left _ (List.mem_append_left _ (List.mem_of_getElem? (i := 1) rfl)))
theorem kX3_foundOnStrips_3 : Cond.methodLink RX3 56 Lib.Math.min.name ∈ wsX3_foundOnStrips := List.mem_cons_of_mem _ (List.mem_append_left _ (List.mem_append_left _ (List.mem_of_getElem? (i := 2) rfl)))
theorem kX3_foundOnStrips_4 : Cond.static Lib.Math.min.name ∈ wsX3_foundOnStrips := List.mem_cons_of_mem _ (List.mem_append_left _ (List.mem_append_left _ (List.mem_of_getElem? (i := 3) rfl)))
theorem kX3_foundOnStrips_5 : Cond.initialized "java/lang/Math" ∈ wsX3_foundOnStrips := List.mem_cons_of_mem _ (List.mem_append_left _ (List.mem_append_left _ (List.mem_of_getElem? (i := 4) rfl)))
theorem kX3_foundOnStrips_6 : Cond.code Lib.Math.min.name Lib.Math.min.code 2 (some .int) ∈ wsX3_foundOnStrips := List.mem_cons_of_mem _ (List.mem_append_left _ (List.mem_append_left _ (List.mem_of_getElem? (i := 5) rfl)))
theorem kX3_foundOnStrips_7 : Cond.methodLink RX3 51 Lib.Math.abs.name ∈ wsX3_foundOnStrips := List.mem_cons_of_mem _ (List.mem_append_left _ (List.mem_append_left _ (List.mem_of_getElem? (i := 6) rfl)))
theorem kX3_foundOnStrips_8 : Cond.static Lib.Math.abs.name ∈ wsX3_foundOnStrips := List.mem_cons_of_mem _ (List.mem_append_left _ (List.mem_append_left _ (List.mem_of_getElem? (i := 7) rfl)))
theorem kX3_foundOnStrips_9 : Cond.code Lib.Math.abs.name Lib.Math.abs.code 1 (some .int) ∈ wsX3_foundOnStrips := List.mem_cons_of_mem _ (List.mem_append_left _ (List.mem_append_left _ (List.mem_of_getElem? (i := 8) rfl)))
set_option maxHeartbeats 4000000 in
set_option maxRecDepth 100000 in
theorem mX3_foundOnStrips (l : Launch) (D : va_G) (K : Nat → ClassId) (h : Nat → Nat) (sz : Nat) (a1 : Int32) (a2 : Int32) (bits : Nat → Int64) (stops : Nat → Int32) (num : Int32) (unit : Int32) (strips : Int32) (caps : Int32) (draw : Int32)  {post : Int32 → Prop} (hw : wX3_foundOnStrips a1 a2 unit strips caps post) : Met l yX3_foundOnStrips wsX3_foundOnStrips rmX3_foundOnStrips (va_Pc [.ref (h 0), .int a1, .int a2] (cP D K (fl [wGl K h (bits, stops, num, unit, strips, caps, draw)]) sz)) (va_Qi (fun (r : Int32) (u : Unit) => post r) (fun u t => cQ D K (fl [wGl K h (bits, stops, num, unit, strips, caps, draw)]) (va_A (fl [wGl K h (bits, stops, num, unit, strips, caps, draw)]) sz) t) (va_A (fl [wGl K h (bits, stops, num, unit, strips, caps, draw)]) sz)) 0 0 (va_A (fl [wGl K h (bits, stops, num, unit, strips, caps, draw)]) sz) := by
  refine x_entry (cc := cX3_foundOnStrips) (maxL := 11) (ret := (some .int)) (QA := fun A => va_Qi (fun (r : Int32) (u : Unit) => post r) (fun u t => cQ D K (fl [wGl K h (bits, stops, num, unit, strips, caps, draw)]) A t) A) (plainFor_of_name (by decide)) rfl (Nat.le_of_ble_eq_true rfl) ?_
  intro p e s m args below meth c A ls H Q hQ hC hlk hr hnm hI hl
  obtain ⟨hx, hb, hml, hown, hts, hK, hA, hZ⟩ := id hC
  obtain ⟨locs, hlocs⟩ : ∃ y : List Loc, y = [] := ⟨_, rfl⟩
  rw [← hlocs] at hI ⊢
  clear hlocs
  replace hl : lv_has ls 11 [(0, .ref (h 0)), (1, .int a1), (2, .int a2)] := hl
  replace hw : wX0_width strips (fun (r1 : Int32) => ¬ ((2 : Int32) * unit) = 0 ∧ ∀ x3 : Int32, x3 = ((a2 + unit) / ((2 : Int32) * unit)) - (6 : Int32) → ¬ (((2 : Int32) * r1) * unit) = 0 ∧ ∀ x5 : Int32, x5 = (if (strips - (1 : Int32)) < (a1 / (((2 : Int32) * r1) * unit)) then (strips - (1 : Int32)) else (a1 / (((2 : Int32) * r1) * unit))) → ∀ x6 : Int32, x6 = (if 0 ≤ (a1 - (((((2 : Int32) * x5) + (1 : Int32)) * r1) * unit)) then (a1 - (((((2 : Int32) * x5) + (1 : Int32)) * r1) * unit)) else 0 - (a1 - (((((2 : Int32) * x5) + (1 : Int32)) * r1) * unit))) → wX0_isOnStrips x3 caps (fun (r7 : Int32) => ((r7 = 0 → post (-4 : Int32)) ∧ (¬ r7 = 0 → wX1_rowCosine x3 (fun (r9 : Int32) => ((x6 ≤ (((r1 * unit) * r9) / (10000 : Int32)) → (∃ (I97 : Int32 → Int32 → Prop) (mu97 : Int32 → Int32 → Nat), I97 (0 : Int32) (1 : Int32) ∧ ∀ (l8_97 : Int32) (l9_97 : Int32), I97 l8_97 l9_97 → ((r1 < l9_97 → wX1_numberOf x3 (((r1 * x5) + l8_97) - ((r1 * x5) + l8_97) / (24 : Int32) * (24 : Int32)) (fun (r12 : Int32) => post r12)) ∧ (¬ r1 < l9_97 → wX3_xOnStrip unit r1 x5 l8_97 x3 (fun (r13 : Int32) => ∀ x14 : Int32, x14 = (if 0 ≤ (a1 - r13) then (a1 - r13) else 0 - (a1 - r13)) → wX3_xOnStrip unit r1 x5 l9_97 x3 (fun (r15 : Int32) => ((x14 ≤ (if 0 ≤ (a1 - r15) then (a1 - r15) else 0 - (a1 - r15)) → ∀ x17 : Int32, x17 = l9_97 + 1 → (I97 l8_97 x17 ∧ mu97 l8_97 x17 < mu97 l8_97 l9_97)) ∧ (¬ x14 ≤ (if 0 ≤ (a1 - r15) then (a1 - r15) else 0 - (a1 - r15)) → ∀ x18 : Int32, x18 = l9_97 + 1 → (I97 l9_97 x18 ∧ mu97 l9_97 x18 < mu97 l8_97 l9_97))))))))) ∧ (¬ x6 ≤ (((r1 * unit) * r9) / (10000 : Int32)) → post (-4 : Int32)))))))) := hw
  refine lv_aload_n hx hb dX3_foundOnStrips_0 rfl (lv_at hl 0 rfl) ?_
  refine x_get (v := .int unit) hC hI kX3_foundOnStrips_cX0 0 rfl rfl 3 (by decide) kX3_foundOnStrips_0 rfl rfl dX3_foundOnStrips_1 ?_
  refine lv_istore_n (lv' := [(3, .int unit), (0, .ref (h 0)), (1, .int a1), (2, .int a2)]) hx hb dX3_foundOnStrips_4 rfl hl (by decide) rfl (fun ls hl => ?_)
  refine lv_aload_n hx hb dX3_foundOnStrips_5 rfl (lv_at hl 1 rfl) ?_
  refine x_callVi (rest := []) hC hI [0] (mX0_width l D K h _ bits stops num unit strips caps draw hw) (cwV 0 hts gX3_foundOnStrips_X0_width rfl rfl rfl (by decide +kernel) ⟨(Nat.le_of_ble_eq_true rfl), (Nat.le_of_ble_eq_true rfl)⟩) (by decide) rfl (fun _ => rfl) 0 0 rfl rfl rfl rfl hl.1 rfl (Nat.le_of_ble_eq_true rfl) dX3_foundOnStrips_6 ⟨(Nat.le_of_ble_eq_true rfl), (Nat.le_of_ble_eq_true rfl)⟩ (fun r1 u H locs hw hI => ?_)
  try dsimp only at hw
  have hI : wI s D A (fl [wGl K h (bits, stops, num, unit, strips, caps, draw)]) H locs := hI
  refine lv_istore (lv' := [(4, .int r1), (3, .int unit), (0, .ref (h 0)), (1, .int a1), (2, .int a2)]) hx hb dX3_foundOnStrips_9 hl (by decide) rfl (fun ls hl => ?_)
  refine lv_iload_n hx hb dX3_foundOnStrips_11 rfl (lv_at hl 4 rfl) ?_
  refine lv_iload_n hx hb dX3_foundOnStrips_12 rfl (lv_at hl 1 rfl) ?_
  refine lv_iadd hx hb dX3_foundOnStrips_13 ?_
  refine lv_iconst (v := (2 : Int32)) hx hb dX3_foundOnStrips_14 (by decide) ?_
  refine lv_iload_n hx hb dX3_foundOnStrips_15 rfl (lv_at hl 1 rfl) ?_
  refine lv_imul hx hb dX3_foundOnStrips_16 ?_
  obtain ⟨hc2, hw⟩ := hw
  refine lv_idiv hx hb dX3_foundOnStrips_17 hc2 ?_
  refine lv_bipush (v := (6 : Int32)) hx hb dX3_foundOnStrips_18 (by decide) ?_
  refine lv_isub hx hb dX3_foundOnStrips_20 ?_
  refine lv_topi (fun x3 ex3 => ?_)
  replace hw := hw x3 ex3
  refine lv_istore (lv' := [(5, .int x3), (4, .int r1), (3, .int unit), (0, .ref (h 0)), (1, .int a1), (2, .int a2)]) hx hb dX3_foundOnStrips_21 hl (by decide) rfl (fun ls hl => ?_)
  refine lv_iload_n hx hb dX3_foundOnStrips_23 rfl (lv_at hl 4 rfl) ?_
  refine lv_iconst (v := (2 : Int32)) hx hb dX3_foundOnStrips_24 (by decide) ?_
  refine lv_iload hx hb dX3_foundOnStrips_25 (lv_at hl 1 rfl) ?_
  refine lv_imul hx hb dX3_foundOnStrips_27 ?_
  refine lv_iload_n hx hb dX3_foundOnStrips_28 rfl (lv_at hl 2 rfl) ?_
  refine lv_imul hx hb dX3_foundOnStrips_29 ?_
  obtain ⟨hc4, hw⟩ := hw
  refine lv_idiv hx hb dX3_foundOnStrips_30 hc4 ?_
  refine lv_aload_n hx hb dX3_foundOnStrips_31 rfl (lv_at hl 3 rfl) ?_
  refine x_get (v := .int strips) hC hI kX3_foundOnStrips_cX0 0 rfl rfl 4 (by decide) kX3_foundOnStrips_2 rfl rfl dX3_foundOnStrips_32 ?_
  refine lv_iconst (v := (1 : Int32)) hx hb dX3_foundOnStrips_35 (by decide) ?_
  refine lv_isub hx hb dX3_foundOnStrips_36 ?_
  refine va_mmin hx hb (hml.trans hl.1.symm) hown (hts _ kX3_foundOnStrips_3) (hts _ kX3_foundOnStrips_4) (hts _ kX3_foundOnStrips_5) (hts _ kX3_foundOnStrips_6) (Nat.le_of_ble_eq_true rfl) (Nat.le_of_ble_eq_true rfl) (Nat.le_of_ble_eq_true rfl) (Nat.le_of_ble_eq_true rfl) dX3_foundOnStrips_37 ?_
  refine lv_topi (fun x5 ex5 => ?_)
  replace hw := hw x5 ex5
  refine lv_istore (lv' := [(6, .int x5), (5, .int x3), (4, .int r1), (3, .int unit), (0, .ref (h 0)), (1, .int a1), (2, .int a2)]) hx hb dX3_foundOnStrips_40 hl (by decide) rfl (fun ls hl => ?_)
  refine lv_iload_n hx hb dX3_foundOnStrips_42 rfl (lv_at hl 5 rfl) ?_
  refine lv_iconst (v := (2 : Int32)) hx hb dX3_foundOnStrips_43 (by decide) ?_
  refine lv_iload hx hb dX3_foundOnStrips_44 (lv_at hl 0 rfl) ?_
  refine lv_imul hx hb dX3_foundOnStrips_46 ?_
  refine lv_iconst (v := (1 : Int32)) hx hb dX3_foundOnStrips_47 (by decide) ?_
  refine lv_iadd hx hb dX3_foundOnStrips_48 ?_
  refine lv_iload hx hb dX3_foundOnStrips_49 (lv_at hl 2 rfl) ?_
  refine lv_imul hx hb dX3_foundOnStrips_51 ?_
  refine lv_iload_n hx hb dX3_foundOnStrips_52 rfl (lv_at hl 3 rfl) ?_
  refine lv_imul hx hb dX3_foundOnStrips_53 ?_
  refine lv_isub hx hb dX3_foundOnStrips_54 ?_
  refine va_mabs hx hb (hml.trans hl.1.symm) hown (hts _ kX3_foundOnStrips_7) (hts _ kX3_foundOnStrips_8) (hts _ kX3_foundOnStrips_5) (hts _ kX3_foundOnStrips_9) (Nat.le_of_ble_eq_true rfl) (Nat.le_of_ble_eq_true rfl) (Nat.le_of_ble_eq_true rfl) (Nat.le_of_ble_eq_true rfl) dX3_foundOnStrips_55 ?_
  refine lv_topi (fun x6 ex6 => ?_)
  replace hw := hw x6 ex6
  refine lv_istore (lv' := [(7, .int x6), (6, .int x5), (5, .int x3), (4, .int r1), (3, .int unit), (0, .ref (h 0)), (1, .int a1), (2, .int a2)]) hx hb dX3_foundOnStrips_58 hl (by decide) rfl (fun ls hl => ?_)
  refine lv_aload_n hx hb dX3_foundOnStrips_60 rfl (lv_at hl 5 rfl) ?_
  refine lv_iload hx hb dX3_foundOnStrips_61 (lv_at hl 2 rfl) ?_
  refine x_callVi (rest := []) hC hI [0] (mX0_isOnStrips l D K h _ x3 bits stops num unit strips caps draw hw) (cwV 1 hts gX3_foundOnStrips_X0_isOnStrips rfl rfl rfl (by decide +kernel) ⟨(Nat.le_of_ble_eq_true rfl), (Nat.le_of_ble_eq_true rfl)⟩) (by decide) rfl (fun _ => rfl) 0 0 rfl rfl rfl rfl hl.1 rfl (Nat.le_of_ble_eq_true rfl) dX3_foundOnStrips_63 ⟨(Nat.le_of_ble_eq_true rfl), (Nat.le_of_ble_eq_true rfl)⟩ (fun r7 u H locs hw hI => ?_)
  try dsimp only at hw
  have hI : wI s D A (fl [wGl K h (bits, stops, num, unit, strips, caps, draw)]) H locs := hI
  refine lv_if_eq (tgt := 88) hx hb dX3_foundOnStrips_66 (by decide) (fun c8 => ?_) (fun c8 => ?_)
  · replace hw := hw.1 c8
    refine lv_bipush (v := (-4 : Int32)) hx hb dX3_foundOnStrips_88 (by decide) ?_
    subst hQ
    exact x_iret (u := ()) hC hI hr hlk hw rfl dX3_foundOnStrips_90
  · replace hw := hw.2 c8
    refine lv_iload hx hb dX3_foundOnStrips_69 (lv_at hl 0 rfl) ?_
    refine lv_iload hx hb dX3_foundOnStrips_71 (lv_at hl 3 rfl) ?_
    refine lv_iload_n hx hb dX3_foundOnStrips_73 rfl (lv_at hl 4 rfl) ?_
    refine lv_imul hx hb dX3_foundOnStrips_74 ?_
    refine lv_iload hx hb dX3_foundOnStrips_75 (lv_at hl 2 rfl) ?_
    refine x_callSi (rest := [.int (r1 * unit), .int x6]) hC hI [] (mX1_rowCosine l D K  _ x3 hw) (va_cwS 1 hts gX3_foundOnStrips_X1_rowCosine rfl rfl rfl (by decide +kernel) ⟨(Nat.le_of_ble_eq_true rfl), (Nat.le_of_ble_eq_true rfl)⟩) (by decide) rfl (fun _ => rfl) rfl hl.1 rfl (Nat.le_of_ble_eq_true rfl) dX3_foundOnStrips_77 ⟨(Nat.le_of_ble_eq_true rfl), (Nat.le_of_ble_eq_true rfl)⟩ (fun r9 u H locs hw hI => ?_)
    try dsimp only at hw
    have hI : wI s D A (fl [wGl K h (bits, stops, num, unit, strips, caps, draw)]) H locs := hI
    refine lv_imul hx hb dX3_foundOnStrips_80 ?_
    refine lv_sipush (v := (10000 : Int32)) hx hb dX3_foundOnStrips_81 (by decide) ?_
    refine lv_idiv hx hb dX3_foundOnStrips_84 (by decide) ?_
    refine lv_icmp_le (tgt := 91) hx hb dX3_foundOnStrips_85 (by decide) (fun c10 => ?_) (fun c10 => ?_)
    · replace hw := hw.1 c10
      refine lv_iconst (v := (0 : Int32)) hx hb dX3_foundOnStrips_91 (by decide) ?_
      refine lv_istore (lv' := [(8, .int (0 : Int32)), (7, .int x6), (6, .int x5), (5, .int x3), (4, .int r1), (3, .int unit), (0, .ref (h 0)), (1, .int a1), (2, .int a2)]) hx hb dX3_foundOnStrips_92 hl (by decide) rfl (fun ls hl => ?_)
      refine lv_iconst (v := (1 : Int32)) hx hb dX3_foundOnStrips_94 (by decide) ?_
      refine lv_istore (lv' := [(9, .int (1 : Int32)), (8, .int (0 : Int32)), (7, .int x6), (6, .int x5), (5, .int x3), (4, .int r1), (3, .int unit), (0, .ref (h 0)), (1, .int a1), (2, .int a2)]) hx hb dX3_foundOnStrips_95 hl (by decide) rfl (fun ls hl => ?_)
      obtain ⟨I97, mu97, hw, hb97⟩ := hw
      have lp97 : ∀ (k : Nat) (l8_97 : Int32) (l9_97 : Int32) (ls : Array Slot) (H : Heap) (locs : List Loc), mu97 l8_97 l9_97 < k → I97 l8_97 l9_97 → wI s D A (fl [wGl K h (bits, stops, num, unit, strips, caps, draw)]) H locs → lv_has ls 11 [(1, .int a1), (3, .int unit), (4, .int r1), (5, .int x3), (6, .int x5), (8, .int l8_97), (9, .int l9_97)] → W p l e rmX3_foundOnStrips s m args below meth c H locs 0 0 Q (F0 m 97 ls []) := by
        intro k
        induction k with
        | zero => intro l8_97 l9_97 ls H locs hmu; exact absurd hmu (Nat.not_lt_zero _)
        | succ k ih97 =>
          intro l8_97 l9_97 ls H locs hmu97 hw hI hl
          replace hw := hb97 l8_97 l9_97 hw
          refine lv_iload hx hb dX3_foundOnStrips_97 (lv_at hl 6 rfl) ?_
          refine lv_iload hx hb dX3_foundOnStrips_99 (lv_at hl 2 rfl) ?_
          refine lv_icmp_gt (tgt := 155) hx hb dX3_foundOnStrips_101 (by decide) (fun c11 => ?_) (fun c11 => ?_)
          · replace hw := hw.1 c11
            refine lv_iload hx hb dX3_foundOnStrips_155 (lv_at hl 3 rfl) ?_
            refine lv_iload hx hb dX3_foundOnStrips_157 (lv_at hl 2 rfl) ?_
            refine lv_iload hx hb dX3_foundOnStrips_159 (lv_at hl 4 rfl) ?_
            refine lv_imul hx hb dX3_foundOnStrips_161 ?_
            refine lv_iload hx hb dX3_foundOnStrips_162 (lv_at hl 5 rfl) ?_
            refine lv_iadd hx hb dX3_foundOnStrips_164 ?_
            refine lv_bipush (v := (24 : Int32)) hx hb dX3_foundOnStrips_165 (by decide) ?_
            refine lv_irem hx hb dX3_foundOnStrips_167 (by decide) ?_
            refine x_callSi (rest := []) hC hI [] (mX1_numberOf l D K  _ x3 (((r1 * x5) + l8_97) - ((r1 * x5) + l8_97) / (24 : Int32) * (24 : Int32)) hw) (va_cwS 2 hts gX3_foundOnStrips_X1_numberOf rfl rfl rfl (by decide +kernel) ⟨(Nat.le_of_ble_eq_true rfl), (Nat.le_of_ble_eq_true rfl)⟩) (by decide) rfl (fun _ => rfl) rfl hl.1 rfl (Nat.le_of_ble_eq_true rfl) dX3_foundOnStrips_168 ⟨(Nat.le_of_ble_eq_true rfl), (Nat.le_of_ble_eq_true rfl)⟩ (fun r12 u H locs hw hI => ?_)
            try dsimp only at hw
            have hI : wI s D A (fl [wGl K h (bits, stops, num, unit, strips, caps, draw)]) H locs := hI
            subst hQ
            exact x_iret (u := ()) hC hI hr hlk hw rfl dX3_foundOnStrips_171
          · replace hw := hw.2 c11
            refine lv_iload_n hx hb dX3_foundOnStrips_104 rfl (lv_at hl 0 rfl) ?_
            refine lv_iload_n hx hb dX3_foundOnStrips_105 rfl (lv_at hl 1 rfl) ?_
            refine lv_iload hx hb dX3_foundOnStrips_106 (lv_at hl 2 rfl) ?_
            refine lv_iload hx hb dX3_foundOnStrips_108 (lv_at hl 4 rfl) ?_
            refine lv_iload hx hb dX3_foundOnStrips_110 (lv_at hl 5 rfl) ?_
            refine lv_iload hx hb dX3_foundOnStrips_112 (lv_at hl 3 rfl) ?_
            refine x_callSi (rest := [.int a1]) hC hI [] (mX3_xOnStrip l D K  _ unit r1 x5 l8_97 x3 hw) (va_cwS 5 hts gX3_foundOnStrips_X3_xOnStrip rfl rfl rfl (by decide +kernel) ⟨(Nat.le_of_ble_eq_true rfl), (Nat.le_of_ble_eq_true rfl)⟩) (by decide) rfl (fun _ => rfl) rfl hl.1 rfl (Nat.le_of_ble_eq_true rfl) dX3_foundOnStrips_114 ⟨(Nat.le_of_ble_eq_true rfl), (Nat.le_of_ble_eq_true rfl)⟩ (fun r13 u H locs hw hI => ?_)
            try dsimp only at hw
            have hI : wI s D A (fl [wGl K h (bits, stops, num, unit, strips, caps, draw)]) H locs := hI
            refine lv_isub hx hb dX3_foundOnStrips_117 ?_
            refine va_mabs hx hb (hml.trans hl.1.symm) hown (hts _ kX3_foundOnStrips_7) (hts _ kX3_foundOnStrips_8) (hts _ kX3_foundOnStrips_5) (hts _ kX3_foundOnStrips_9) (Nat.le_of_ble_eq_true rfl) (Nat.le_of_ble_eq_true rfl) (Nat.le_of_ble_eq_true rfl) (Nat.le_of_ble_eq_true rfl) dX3_foundOnStrips_118 ?_
            refine lv_topi (fun x14 ex14 => ?_)
            replace hw := hw x14 ex14
            refine lv_istore (lv' := [(10, .int x14), (1, .int a1), (3, .int unit), (4, .int r1), (5, .int x3), (6, .int x5), (8, .int l8_97), (9, .int l9_97)]) hx hb dX3_foundOnStrips_121 hl (by decide) rfl (fun ls hl => ?_)
            refine lv_iload_n hx hb dX3_foundOnStrips_123 rfl (lv_at hl 1 rfl) ?_
            refine lv_iload_n hx hb dX3_foundOnStrips_124 rfl (lv_at hl 2 rfl) ?_
            refine lv_iload hx hb dX3_foundOnStrips_125 (lv_at hl 3 rfl) ?_
            refine lv_iload hx hb dX3_foundOnStrips_127 (lv_at hl 5 rfl) ?_
            refine lv_iload hx hb dX3_foundOnStrips_129 (lv_at hl 7 rfl) ?_
            refine lv_iload hx hb dX3_foundOnStrips_131 (lv_at hl 4 rfl) ?_
            refine x_callSi (rest := [.int a1]) hC hI [] (mX3_xOnStrip l D K  _ unit r1 x5 l9_97 x3 hw) (va_cwS 5 hts gX3_foundOnStrips_X3_xOnStrip rfl rfl rfl (by decide +kernel) ⟨(Nat.le_of_ble_eq_true rfl), (Nat.le_of_ble_eq_true rfl)⟩) (by decide) rfl (fun _ => rfl) rfl hl.1 rfl (Nat.le_of_ble_eq_true rfl) dX3_foundOnStrips_133 ⟨(Nat.le_of_ble_eq_true rfl), (Nat.le_of_ble_eq_true rfl)⟩ (fun r15 u H locs hw hI => ?_)
            try dsimp only at hw
            have hI : wI s D A (fl [wGl K h (bits, stops, num, unit, strips, caps, draw)]) H locs := hI
            refine lv_isub hx hb dX3_foundOnStrips_136 ?_
            refine va_mabs hx hb (hml.trans hl.1.symm) hown (hts _ kX3_foundOnStrips_7) (hts _ kX3_foundOnStrips_8) (hts _ kX3_foundOnStrips_5) (hts _ kX3_foundOnStrips_9) (Nat.le_of_ble_eq_true rfl) (Nat.le_of_ble_eq_true rfl) (Nat.le_of_ble_eq_true rfl) (Nat.le_of_ble_eq_true rfl) dX3_foundOnStrips_137 ?_
            refine lv_iload hx hb dX3_foundOnStrips_140 (lv_at hl 0 rfl) ?_
            refine lv_icmp_ge (tgt := 149) hx hb dX3_foundOnStrips_142 (by decide) (fun c16 => ?_) (fun c16 => ?_)
            · replace hw := hw.1 c16
              obtain ⟨x17, ex17⟩ : ∃ y : Int32, y = l9_97 + 1 := ⟨_, rfl⟩
              replace hw := hw x17 ex17
              refine lv_iinc (v := x17) (lv' := [(9, .int x17), (10, .int x14), (1, .int a1), (3, .int unit), (4, .int r1), (5, .int x3), (6, .int x5), (8, .int l8_97)]) hx hb dX3_foundOnStrips_149 hl (k := 7) rfl (by rw [ex17]; rfl) (by decide) rfl (fun ls hl => ?_)
              refine lv_goto (tgt := 97) hx hb dX3_foundOnStrips_152 (by decide) ?_
              exact ih97 l8_97 x17 ls H locs (Nat.lt_of_lt_of_le hw.2 (Nat.le_of_lt_succ hmu97)) hw.1 hI (lv_sub hl [2, 3, 4, 5, 6, 7, 0] rfl)
            · replace hw := hw.2 c16
              refine lv_iload hx hb dX3_foundOnStrips_145 (lv_at hl 7 rfl) ?_
              refine lv_istore (lv' := [(8, .int l9_97), (10, .int x14), (1, .int a1), (3, .int unit), (4, .int r1), (5, .int x3), (6, .int x5), (9, .int l9_97)]) hx hb dX3_foundOnStrips_147 hl (by decide) rfl (fun ls hl => ?_)
              obtain ⟨x18, ex18⟩ : ∃ y : Int32, y = l9_97 + 1 := ⟨_, rfl⟩
              replace hw := hw x18 ex18
              refine lv_iinc (v := x18) (lv' := [(9, .int x18), (8, .int l9_97), (10, .int x14), (1, .int a1), (3, .int unit), (4, .int r1), (5, .int x3), (6, .int x5)]) hx hb dX3_foundOnStrips_149 hl (k := 7) rfl (by rw [ex18]; rfl) (by decide) rfl (fun ls hl => ?_)
              refine lv_goto (tgt := 97) hx hb dX3_foundOnStrips_152 (by decide) ?_
              exact ih97 l9_97 x18 ls H locs (Nat.lt_of_lt_of_le hw.2 (Nat.le_of_lt_succ hmu97)) hw.1 hI (lv_sub hl [3, 4, 5, 6, 7, 1, 0] rfl)
      exact lp97 (mu97 (0 : Int32) (1 : Int32) + 1) (0 : Int32) (1 : Int32) ls H locs (Nat.lt_succ_self _) hw hI (lv_sub hl [8, 6, 5, 4, 3, 1, 0] rfl)
    · replace hw := hw.2 c10
      refine lv_bipush (v := (-4 : Int32)) hx hb dX3_foundOnStrips_88 (by decide) ?_
      subst hQ
      exact x_iret (u := ()) hC hI hr hlk hw rfl dX3_foundOnStrips_90

def wX3_foundOnCap (a1 : Int32) (a2 : Int32) (a3 : Int32) (unit : Int32) (caps : Int32) (post : Int32 → Prop) : Prop := ∃ J19 : Int32 → Prop, (∀ (t_19 : Int32), J19 t_19 → ∀ x1 : Int32, x1 = t_19 + ((24 : Int32) * caps) → (∃ (I45 : Int32 → Int32 → Int32 → Prop) (mu45 : Int32 → Int32 → Int32 → Nat), I45 t_19 (2147483647 : Int32) t_19 ∧ ∀ (l6_45 : Int32) (l7_45 : Int32) (l8_45 : Int32), I45 l6_45 l7_45 l8_45 → ((x1 < l8_45 → post l6_45) ∧ (¬ x1 < l8_45 → wX1_rowOf l8_45 (fun (r3 : Int32) => wX1_stepOf l8_45 (fun (r4 : Int32) => wX3_capX r3 r4 unit caps (fun (r5 : Int32) => ∀ x6 : Int32, x6 = a2 - r5 → wX3_capY r3 r4 unit caps (fun (r7 : Int32) => ∀ x8 : Int32, x8 = a3 - r7 → ∀ x9 : Int32, x9 = (x6 * x6) + (x8 * x8) → ((l7_45 ≤ x9 → ∀ x11 : Int32, x11 = l8_45 + 1 → (I45 l6_45 l7_45 x11 ∧ mu45 l6_45 l7_45 x11 < mu45 l6_45 l7_45 l8_45)) ∧ (¬ l7_45 ≤ x9 → ∀ x12 : Int32, x12 = l8_45 + 1 → (I45 l8_45 x9 x12 ∧ mu45 l8_45 x9 x12 < mu45 l6_45 l7_45 l8_45))))))))))) ∧ ((a1 = 0 → J19 (0 : Int32)) ∧ (¬ a1 = 0 → J19 ((265 : Int32) - ((24 : Int32) * caps))))
def rmX3_foundOnCap : Room := { frames := 3, cells := 0, slots := 0, locals := 67 }
theorem kX3_foundOnCap_0 : Cond.fieldLink RX3 48 "GoreGlobe$Globe" "caps" "I" ∈ wsX3_foundOnCap := List.mem_cons_of_mem _ (List.mem_append_left _ (List.mem_append_left _ (List.mem_of_getElem? (i := 0) rfl)))
theorem kX3_foundOnCap_cX0 : ∀ w ∈ wsX00, w ∈ wsX3_foundOnCap := fun _ h => List.mem_cons_of_mem _ (List.mem_append_right _ h)
theorem kX3_foundOnCap_2 : Cond.constant RX3 67 (2147483647) ∈ wsX3_foundOnCap := List.mem_cons_of_mem _ (List.mem_append_left _ (List.mem_append_left _ (List.mem_of_getElem? (i := 1) rfl)))
set_option maxHeartbeats 4000000 in
set_option maxRecDepth 100000 in
theorem mX3_foundOnCap (l : Launch) (D : va_G) (K : Nat → ClassId) (h : Nat → Nat) (sz : Nat) (a1 : Int32) (a2 : Int32) (a3 : Int32) (bits : Nat → Int64) (stops : Nat → Int32) (num : Int32) (unit : Int32) (strips : Int32) (caps : Int32) (draw : Int32)  {post : Int32 → Prop} (hw : wX3_foundOnCap a1 a2 a3 unit caps post) : Met l yX3_foundOnCap wsX3_foundOnCap rmX3_foundOnCap (va_Pc [.ref (h 0), .int a1, .int a2, .int a3] (cP D K (fl [wGl K h (bits, stops, num, unit, strips, caps, draw)]) sz)) (va_Qi (fun (r : Int32) (u : Unit) => post r) (fun u t => cQ D K (fl [wGl K h (bits, stops, num, unit, strips, caps, draw)]) (va_A (fl [wGl K h (bits, stops, num, unit, strips, caps, draw)]) sz) t) (va_A (fl [wGl K h (bits, stops, num, unit, strips, caps, draw)]) sz)) 0 0 (va_A (fl [wGl K h (bits, stops, num, unit, strips, caps, draw)]) sz) := by
  refine x_entry (cc := cX3_foundOnCap) (maxL := 14) (ret := (some .int)) (QA := fun A => va_Qi (fun (r : Int32) (u : Unit) => post r) (fun u t => cQ D K (fl [wGl K h (bits, stops, num, unit, strips, caps, draw)]) A t) A) (plainFor_of_name (by decide)) rfl (Nat.le_of_ble_eq_true rfl) ?_
  intro p e s m args below meth c A ls H Q hQ hC hlk hr hnm hI hl
  obtain ⟨hx, hb, hml, hown, hts, hK, hA, hZ⟩ := id hC
  obtain ⟨locs, hlocs⟩ : ∃ y : List Loc, y = [] := ⟨_, rfl⟩
  rw [← hlocs] at hI ⊢
  clear hlocs
  replace hl : lv_has ls 14 [(0, .ref (h 0)), (1, .int a1), (2, .int a2), (3, .int a3)] := hl
  replace hw : ∃ J19 : Int32 → Prop, (∀ (t_19 : Int32), J19 t_19 → ∀ x1 : Int32, x1 = t_19 + ((24 : Int32) * caps) → (∃ (I45 : Int32 → Int32 → Int32 → Prop) (mu45 : Int32 → Int32 → Int32 → Nat), I45 t_19 (2147483647 : Int32) t_19 ∧ ∀ (l6_45 : Int32) (l7_45 : Int32) (l8_45 : Int32), I45 l6_45 l7_45 l8_45 → ((x1 < l8_45 → post l6_45) ∧ (¬ x1 < l8_45 → wX1_rowOf l8_45 (fun (r3 : Int32) => wX1_stepOf l8_45 (fun (r4 : Int32) => wX3_capX r3 r4 unit caps (fun (r5 : Int32) => ∀ x6 : Int32, x6 = a2 - r5 → wX3_capY r3 r4 unit caps (fun (r7 : Int32) => ∀ x8 : Int32, x8 = a3 - r7 → ∀ x9 : Int32, x9 = (x6 * x6) + (x8 * x8) → ((l7_45 ≤ x9 → ∀ x11 : Int32, x11 = l8_45 + 1 → (I45 l6_45 l7_45 x11 ∧ mu45 l6_45 l7_45 x11 < mu45 l6_45 l7_45 l8_45)) ∧ (¬ l7_45 ≤ x9 → ∀ x12 : Int32, x12 = l8_45 + 1 → (I45 l8_45 x9 x12 ∧ mu45 l8_45 x9 x12 < mu45 l6_45 l7_45 l8_45))))))))))) ∧ ((a1 = 0 → J19 (0 : Int32)) ∧ (¬ a1 = 0 → J19 ((265 : Int32) - ((24 : Int32) * caps)))) := hw
  refine lv_iload_n hx hb dX3_foundOnCap_0 rfl (lv_at hl 1 rfl) ?_
  obtain ⟨J19, hJ19, hw⟩ := hw
  have jn19 : ∀ (t_19 : Int32) (ls : Array Slot) (H : Heap) (locs : List Loc), J19 t_19 → wI s D A (fl [wGl K h (bits, stops, num, unit, strips, caps, draw)]) H locs → lv_has ls 14 [(0, .ref (h 0)), (2, .int a2), (3, .int a3)] → W p l e rmX3_foundOnCap s m args below meth c H locs 0 0 Q (F0 m 19 ls [.int t_19]) := by
    intro t_19 ls H locs hw hI hl
    replace hw := hJ19 t_19 hw
    refine lv_istore (lv' := [(4, .int t_19), (0, .ref (h 0)), (2, .int a2), (3, .int a3)]) hx hb dX3_foundOnCap_19 hl (by decide) rfl (fun ls hl => ?_)
    refine lv_iload hx hb dX3_foundOnCap_21 (lv_at hl 0 rfl) ?_
    refine lv_bipush (v := (24 : Int32)) hx hb dX3_foundOnCap_23 (by decide) ?_
    refine lv_aload_n hx hb dX3_foundOnCap_25 rfl (lv_at hl 1 rfl) ?_
    refine x_get (v := .int caps) hC hI kX3_foundOnCap_cX0 0 rfl rfl 5 (by decide) kX3_foundOnCap_0 rfl rfl dX3_foundOnCap_26 ?_
    refine lv_imul hx hb dX3_foundOnCap_29 ?_
    refine lv_iadd hx hb dX3_foundOnCap_30 ?_
    refine lv_topi (fun x1 ex1 => ?_)
    replace hw := hw x1 ex1
    refine lv_istore (lv' := [(5, .int x1), (4, .int t_19), (0, .ref (h 0)), (2, .int a2), (3, .int a3)]) hx hb dX3_foundOnCap_31 hl (by decide) rfl (fun ls hl => ?_)
    refine lv_iload hx hb dX3_foundOnCap_33 (lv_at hl 1 rfl) ?_
    refine lv_istore (lv' := [(6, .int t_19), (5, .int x1), (4, .int t_19), (0, .ref (h 0)), (2, .int a2), (3, .int a3)]) hx hb dX3_foundOnCap_35 hl (by decide) rfl (fun ls hl => ?_)
    refine lv_ldc (v := (2147483647 : Int32)) hx hb hown (hts _ kX3_foundOnCap_2) dX3_foundOnCap_37 ?_
    refine lv_istore (lv' := [(7, .int (2147483647 : Int32)), (6, .int t_19), (5, .int x1), (4, .int t_19), (0, .ref (h 0)), (2, .int a2), (3, .int a3)]) hx hb dX3_foundOnCap_39 hl (by decide) rfl (fun ls hl => ?_)
    refine lv_iload hx hb dX3_foundOnCap_41 (lv_at hl 3 rfl) ?_
    refine lv_istore (lv' := [(8, .int t_19), (7, .int (2147483647 : Int32)), (6, .int t_19), (5, .int x1), (4, .int t_19), (0, .ref (h 0)), (2, .int a2), (3, .int a3)]) hx hb dX3_foundOnCap_43 hl (by decide) rfl (fun ls hl => ?_)
    obtain ⟨I45, mu45, hw, hb45⟩ := hw
    have lp45 : ∀ (k : Nat) (l6_45 : Int32) (l7_45 : Int32) (l8_45 : Int32) (ls : Array Slot) (H : Heap) (locs : List Loc), mu45 l6_45 l7_45 l8_45 < k → I45 l6_45 l7_45 l8_45 → wI s D A (fl [wGl K h (bits, stops, num, unit, strips, caps, draw)]) H locs → lv_has ls 14 [(0, .ref (h 0)), (2, .int a2), (3, .int a3), (5, .int x1), (6, .int l6_45), (7, .int l7_45), (8, .int l8_45)] → W p l e rmX3_foundOnCap s m args below meth c H locs 0 0 Q (F0 m 45 ls []) := by
      intro k
      induction k with
      | zero => intro l6_45 l7_45 l8_45 ls H locs hmu; exact absurd hmu (Nat.not_lt_zero _)
      | succ k ih45 =>
        intro l6_45 l7_45 l8_45 ls H locs hmu45 hw hI hl
        replace hw := hb45 l6_45 l7_45 l8_45 hw
        refine lv_iload hx hb dX3_foundOnCap_45 (lv_at hl 6 rfl) ?_
        refine lv_iload hx hb dX3_foundOnCap_47 (lv_at hl 3 rfl) ?_
        refine lv_icmp_gt (tgt := 124) hx hb dX3_foundOnCap_49 (by decide) (fun c2 => ?_) (fun c2 => ?_)
        · replace hw := hw.1 c2
          refine lv_iload hx hb dX3_foundOnCap_124 (lv_at hl 4 rfl) ?_
          subst hQ
          exact x_iret (u := ()) hC hI hr hlk hw rfl dX3_foundOnCap_126
        · replace hw := hw.2 c2
          refine lv_iload hx hb dX3_foundOnCap_52 (lv_at hl 6 rfl) ?_
          refine x_callSi (rest := []) hC hI [] (mX1_rowOf l D K  _ l8_45 hw) (va_cwS 1 hts gX3_foundOnCap_X1_rowOf rfl rfl rfl (by decide +kernel) ⟨(Nat.le_of_ble_eq_true rfl), (Nat.le_of_ble_eq_true rfl)⟩) (by decide) rfl (fun _ => rfl) rfl hl.1 rfl (Nat.le_of_ble_eq_true rfl) dX3_foundOnCap_54 ⟨(Nat.le_of_ble_eq_true rfl), (Nat.le_of_ble_eq_true rfl)⟩ (fun r3 u H locs hw hI => ?_)
          try dsimp only at hw
          have hI : wI s D A (fl [wGl K h (bits, stops, num, unit, strips, caps, draw)]) H locs := hI
          refine lv_istore (lv' := [(9, .int r3), (0, .ref (h 0)), (2, .int a2), (3, .int a3), (5, .int x1), (6, .int l6_45), (7, .int l7_45), (8, .int l8_45)]) hx hb dX3_foundOnCap_57 hl (by decide) rfl (fun ls hl => ?_)
          refine lv_iload hx hb dX3_foundOnCap_59 (lv_at hl 7 rfl) ?_
          refine x_callSi (rest := []) hC hI [] (mX1_stepOf l D K  _ l8_45 hw) (va_cwS 1 hts gX3_foundOnCap_X1_stepOf rfl rfl rfl (by decide +kernel) ⟨(Nat.le_of_ble_eq_true rfl), (Nat.le_of_ble_eq_true rfl)⟩) (by decide) rfl (fun _ => rfl) rfl hl.1 rfl (Nat.le_of_ble_eq_true rfl) dX3_foundOnCap_61 ⟨(Nat.le_of_ble_eq_true rfl), (Nat.le_of_ble_eq_true rfl)⟩ (fun r4 u H locs hw hI => ?_)
          try dsimp only at hw
          have hI : wI s D A (fl [wGl K h (bits, stops, num, unit, strips, caps, draw)]) H locs := hI
          refine lv_istore (lv' := [(10, .int r4), (9, .int r3), (0, .ref (h 0)), (2, .int a2), (3, .int a3), (5, .int x1), (6, .int l6_45), (7, .int l7_45), (8, .int l8_45)]) hx hb dX3_foundOnCap_64 hl (by decide) rfl (fun ls hl => ?_)
          refine lv_iload_n hx hb dX3_foundOnCap_66 rfl (lv_at hl 3 rfl) ?_
          refine lv_aload_n hx hb dX3_foundOnCap_67 rfl (lv_at hl 2 rfl) ?_
          refine lv_iload hx hb dX3_foundOnCap_68 (lv_at hl 1 rfl) ?_
          refine lv_iload hx hb dX3_foundOnCap_70 (lv_at hl 0 rfl) ?_
          refine x_callSi (rest := [.int a2]) hC hI [0] (mX3_capX l D K h _ r3 r4 bits stops num unit strips caps draw hw) (va_cwS 3 hts gX3_foundOnCap_X3_capX rfl rfl rfl (by decide +kernel) ⟨(Nat.le_of_ble_eq_true rfl), (Nat.le_of_ble_eq_true rfl)⟩) (by decide) rfl (fun _ => rfl) rfl hl.1 rfl (Nat.le_of_ble_eq_true rfl) dX3_foundOnCap_72 ⟨(Nat.le_of_ble_eq_true rfl), (Nat.le_of_ble_eq_true rfl)⟩ (fun r5 u H locs hw hI => ?_)
          try dsimp only at hw
          have hI : wI s D A (fl [wGl K h (bits, stops, num, unit, strips, caps, draw)]) H locs := hI
          refine lv_isub hx hb dX3_foundOnCap_75 ?_
          refine lv_topi (fun x6 ex6 => ?_)
          replace hw := hw x6 ex6
          refine lv_istore (lv' := [(11, .int x6), (10, .int r4), (9, .int r3), (0, .ref (h 0)), (2, .int a2), (3, .int a3), (5, .int x1), (6, .int l6_45), (7, .int l7_45), (8, .int l8_45)]) hx hb dX3_foundOnCap_76 hl (by decide) rfl (fun ls hl => ?_)
          refine lv_iload_n hx hb dX3_foundOnCap_78 rfl (lv_at hl 5 rfl) ?_
          refine lv_aload_n hx hb dX3_foundOnCap_79 rfl (lv_at hl 3 rfl) ?_
          refine lv_iload hx hb dX3_foundOnCap_80 (lv_at hl 2 rfl) ?_
          refine lv_iload hx hb dX3_foundOnCap_82 (lv_at hl 1 rfl) ?_
          refine x_callSi (rest := [.int a3]) hC hI [0] (mX3_capY l D K h _ r3 r4 bits stops num unit strips caps draw hw) (va_cwS 3 hts gX3_foundOnCap_X3_capY rfl rfl rfl (by decide +kernel) ⟨(Nat.le_of_ble_eq_true rfl), (Nat.le_of_ble_eq_true rfl)⟩) (by decide) rfl (fun _ => rfl) rfl hl.1 rfl (Nat.le_of_ble_eq_true rfl) dX3_foundOnCap_84 ⟨(Nat.le_of_ble_eq_true rfl), (Nat.le_of_ble_eq_true rfl)⟩ (fun r7 u H locs hw hI => ?_)
          try dsimp only at hw
          have hI : wI s D A (fl [wGl K h (bits, stops, num, unit, strips, caps, draw)]) H locs := hI
          refine lv_isub hx hb dX3_foundOnCap_87 ?_
          refine lv_topi (fun x8 ex8 => ?_)
          replace hw := hw x8 ex8
          refine lv_istore (lv' := [(12, .int x8), (11, .int x6), (10, .int r4), (9, .int r3), (0, .ref (h 0)), (2, .int a2), (3, .int a3), (5, .int x1), (6, .int l6_45), (7, .int l7_45), (8, .int l8_45)]) hx hb dX3_foundOnCap_88 hl (by decide) rfl (fun ls hl => ?_)
          refine lv_iload hx hb dX3_foundOnCap_90 (lv_at hl 1 rfl) ?_
          refine lv_iload hx hb dX3_foundOnCap_92 (lv_at hl 1 rfl) ?_
          refine lv_imul hx hb dX3_foundOnCap_94 ?_
          refine lv_iload hx hb dX3_foundOnCap_95 (lv_at hl 0 rfl) ?_
          refine lv_iload hx hb dX3_foundOnCap_97 (lv_at hl 0 rfl) ?_
          refine lv_imul hx hb dX3_foundOnCap_99 ?_
          refine lv_iadd hx hb dX3_foundOnCap_100 ?_
          refine lv_topi (fun x9 ex9 => ?_)
          replace hw := hw x9 ex9
          refine lv_istore (lv' := [(13, .int x9), (12, .int x8), (11, .int x6), (10, .int r4), (9, .int r3), (0, .ref (h 0)), (2, .int a2), (3, .int a3), (5, .int x1), (6, .int l6_45), (7, .int l7_45), (8, .int l8_45)]) hx hb dX3_foundOnCap_101 hl (by decide) rfl (fun ls hl => ?_)
          refine lv_iload hx hb dX3_foundOnCap_103 (lv_at hl 0 rfl) ?_
          refine lv_iload hx hb dX3_foundOnCap_105 (lv_at hl 10 rfl) ?_
          refine lv_icmp_ge (tgt := 118) hx hb dX3_foundOnCap_107 (by decide) (fun c10 => ?_) (fun c10 => ?_)
          · replace hw := hw.1 c10
            obtain ⟨x11, ex11⟩ : ∃ y : Int32, y = l8_45 + 1 := ⟨_, rfl⟩
            replace hw := hw x11 ex11
            refine lv_iinc (v := x11) (lv' := [(8, .int x11), (13, .int x9), (12, .int x8), (11, .int x6), (10, .int r4), (9, .int r3), (0, .ref (h 0)), (2, .int a2), (3, .int a3), (5, .int x1), (6, .int l6_45), (7, .int l7_45)]) hx hb dX3_foundOnCap_118 hl (k := 11) rfl (by rw [ex11]; rfl) (by decide) rfl (fun ls hl => ?_)
            refine lv_goto (tgt := 45) hx hb dX3_foundOnCap_121 (by decide) ?_
            exact ih45 l6_45 l7_45 x11 ls H locs (Nat.lt_of_lt_of_le hw.2 (Nat.le_of_lt_succ hmu45)) hw.1 hI (lv_sub hl [6, 7, 8, 9, 10, 11, 0] rfl)
          · replace hw := hw.2 c10
            refine lv_iload hx hb dX3_foundOnCap_110 (lv_at hl 0 rfl) ?_
            refine lv_istore (lv' := [(7, .int x9), (13, .int x9), (12, .int x8), (11, .int x6), (10, .int r4), (9, .int r3), (0, .ref (h 0)), (2, .int a2), (3, .int a3), (5, .int x1), (6, .int l6_45), (8, .int l8_45)]) hx hb dX3_foundOnCap_112 hl (by decide) rfl (fun ls hl => ?_)
            refine lv_iload hx hb dX3_foundOnCap_114 (lv_at hl 11 rfl) ?_
            refine lv_istore (lv' := [(6, .int l8_45), (7, .int x9), (13, .int x9), (12, .int x8), (11, .int x6), (10, .int r4), (9, .int r3), (0, .ref (h 0)), (2, .int a2), (3, .int a3), (5, .int x1), (8, .int l8_45)]) hx hb dX3_foundOnCap_116 hl (by decide) rfl (fun ls hl => ?_)
            obtain ⟨x12, ex12⟩ : ∃ y : Int32, y = l8_45 + 1 := ⟨_, rfl⟩
            replace hw := hw x12 ex12
            refine lv_iinc (v := x12) (lv' := [(8, .int x12), (6, .int l8_45), (7, .int x9), (13, .int x9), (12, .int x8), (11, .int x6), (10, .int r4), (9, .int r3), (0, .ref (h 0)), (2, .int a2), (3, .int a3), (5, .int x1)]) hx hb dX3_foundOnCap_118 hl (k := 11) rfl (by rw [ex12]; rfl) (by decide) rfl (fun ls hl => ?_)
            refine lv_goto (tgt := 45) hx hb dX3_foundOnCap_121 (by decide) ?_
            exact ih45 l8_45 x9 x12 ls H locs (Nat.lt_of_lt_of_le hw.2 (Nat.le_of_lt_succ hmu45)) hw.1 hI (lv_sub hl [8, 9, 10, 11, 1, 2, 0] rfl)
    exact lp45 (mu45 t_19 (2147483647 : Int32) t_19 + 1) t_19 (2147483647 : Int32) t_19 ls H locs (Nat.lt_succ_self _) hw hI (lv_sub hl [5, 6, 7, 3, 2, 1, 0] rfl)
  refine lv_if_eq (tgt := 18) hx hb dX3_foundOnCap_1 (by decide) (fun c13 => ?_) (fun c13 => ?_)
  · replace hw := hw.1 c13
    refine lv_iconst (v := (0 : Int32)) hx hb dX3_foundOnCap_18 (by decide) ?_
    exact jn19 (0 : Int32) ls H locs hw hI (lv_sub hl [0, 2, 3] rfl)
  · replace hw := hw.2 c13
    refine lv_sipush (v := (265 : Int32)) hx hb dX3_foundOnCap_4 (by decide) ?_
    refine lv_bipush (v := (24 : Int32)) hx hb dX3_foundOnCap_7 (by decide) ?_
    refine lv_aload_n hx hb dX3_foundOnCap_9 rfl (lv_at hl 0 rfl) ?_
    refine x_get (v := .int caps) hC hI kX3_foundOnCap_cX0 0 rfl rfl 5 (by decide) kX3_foundOnCap_0 rfl rfl dX3_foundOnCap_10 ?_
    refine lv_imul hx hb dX3_foundOnCap_13 ?_
    refine lv_isub hx hb dX3_foundOnCap_14 ?_
    refine lv_goto (tgt := 19) hx hb dX3_foundOnCap_15 (by decide) ?_
    exact jn19 ((265 : Int32) - ((24 : Int32) * caps)) ls H locs hw hI (lv_sub hl [0, 2, 3] rfl)

def wX3_western (a0 : Int32) (a1 : Int32)  (post : Int32 → Prop) : Prop := ((((a0 + (1 : Int32)) - (a0 + (1 : Int32)) / (24 : Int32) * (24 : Int32)) = a1 → post a0) ∧ (¬ ((a0 + (1 : Int32)) - (a0 + (1 : Int32)) / (24 : Int32) * (24 : Int32)) = a1 → post a1))
def rmX3_western : Room := { frames := 0, cells := 0, slots := 0, locals := 0 }
set_option maxHeartbeats 4000000 in
set_option maxRecDepth 100000 in
theorem mX3_western (l : Launch) (D : va_G) (K : Nat → ClassId)  (sz : Nat) (a0 : Int32) (a1 : Int32)   {post : Int32 → Prop} (hw : wX3_western a0 a1  post) : Met l yX3_western wsX3_western rmX3_western (va_Pc [.int a0, .int a1] (cP D K (fl []) sz)) (va_Qi (fun (r : Int32) (u : Unit) => post r) (fun u t => cQ D K (fl []) (va_A (fl []) sz) t) (va_A (fl []) sz)) 0 0 (va_A (fl []) sz) := by
  refine x_entry (cc := cX3_western) (maxL := 2) (ret := (some .int)) (QA := fun A => va_Qi (fun (r : Int32) (u : Unit) => post r) (fun u t => cQ D K (fl []) A t) A) (plainFor_of_name (by decide)) rfl (Nat.le_of_ble_eq_true rfl) ?_
  intro p e s m args below meth c A ls H Q hQ hC hlk hr hnm hI hl
  obtain ⟨hx, hb, hml, hown, hts, hK, hA, hZ⟩ := id hC
  obtain ⟨locs, hlocs⟩ : ∃ y : List Loc, y = [] := ⟨_, rfl⟩
  rw [← hlocs] at hI ⊢
  clear hlocs
  replace hl : lv_has ls 2 [(0, .int a0), (1, .int a1)] := hl
  replace hw : ((((a0 + (1 : Int32)) - (a0 + (1 : Int32)) / (24 : Int32) * (24 : Int32)) = a1 → post a0) ∧ (¬ ((a0 + (1 : Int32)) - (a0 + (1 : Int32)) / (24 : Int32) * (24 : Int32)) = a1 → post a1)) := hw
  refine lv_iload_n hx hb dX3_western_0 rfl (lv_at hl 0 rfl) ?_
  refine lv_iconst (v := (1 : Int32)) hx hb dX3_western_1 (by decide) ?_
  refine lv_iadd hx hb dX3_western_2 ?_
  refine lv_bipush (v := (24 : Int32)) hx hb dX3_western_3 (by decide) ?_
  refine lv_irem hx hb dX3_western_5 (by decide) ?_
  refine lv_iload_n hx hb dX3_western_6 rfl (lv_at hl 1 rfl) ?_
  refine lv_icmp_ne (tgt := 14) hx hb dX3_western_7 (by decide) (fun c1 => ?_) (fun c1 => ?_)
  · replace hw := hw.2 c1
    refine lv_iload_n hx hb dX3_western_14 rfl (lv_at hl 1 rfl) ?_
    subst hQ
    exact x_iret (u := ()) hC hI hr hlk hw rfl dX3_western_15
  · replace hw := hw.1 c1
    refine lv_iload_n hx hb dX3_western_10 rfl (lv_at hl 0 rfl) ?_
    refine lv_goto (tgt := 15) hx hb dX3_western_11 (by decide) ?_
    subst hQ
    exact x_iret (u := ()) hC hI hr hlk hw rfl dX3_western_15

def wX3_root (a0 : Int32)  (post : Int32 → Prop) : Prop := (∃ (I6 : Int32 → Int32 → Prop) (mu6 : Int32 → Int32 → Nat), I6 (0 : Int32) (4096 : Int32) ∧ ∀ (l1_6 : Int32) (l2_6 : Int32), I6 l1_6 l2_6 → ((l2_6 ≤ 0 → post l1_6) ∧ (¬ l2_6 ≤ 0 → ∀ x2 : Int32, x2 = l1_6 + l2_6 → ((a0 < (x2 * x2) → ∀ x4 : Int32, x4 = l2_6 >>> ((1 : Int32) &&& 31) → (I6 l1_6 x4 ∧ mu6 l1_6 x4 < mu6 l1_6 l2_6)) ∧ (¬ a0 < (x2 * x2) → ∀ x5 : Int32, x5 = l2_6 >>> ((1 : Int32) &&& 31) → (I6 x2 x5 ∧ mu6 x2 x5 < mu6 l1_6 l2_6))))))
def rmX3_root : Room := { frames := 0, cells := 0, slots := 0, locals := 0 }
set_option maxHeartbeats 4000000 in
set_option maxRecDepth 100000 in
theorem mX3_root (l : Launch) (D : va_G) (K : Nat → ClassId)  (sz : Nat) (a0 : Int32)   {post : Int32 → Prop} (hw : wX3_root a0  post) : Met l yX3_root wsX3_root rmX3_root (va_Pc [.int a0] (cP D K (fl []) sz)) (va_Qi (fun (r : Int32) (u : Unit) => post r) (fun u t => cQ D K (fl []) (va_A (fl []) sz) t) (va_A (fl []) sz)) 0 0 (va_A (fl []) sz) := by
  refine x_entry (cc := cX3_root) (maxL := 4) (ret := (some .int)) (QA := fun A => va_Qi (fun (r : Int32) (u : Unit) => post r) (fun u t => cQ D K (fl []) A t) A) (plainFor_of_name (by decide)) rfl (Nat.le_of_ble_eq_true rfl) ?_
  intro p e s m args below meth c A ls H Q hQ hC hlk hr hnm hI hl
  obtain ⟨hx, hb, hml, hown, hts, hK, hA, hZ⟩ := id hC
  obtain ⟨locs, hlocs⟩ : ∃ y : List Loc, y = [] := ⟨_, rfl⟩
  rw [← hlocs] at hI ⊢
  clear hlocs
  replace hl : lv_has ls 4 [(0, .int a0)] := hl
  replace hw : (∃ (I6 : Int32 → Int32 → Prop) (mu6 : Int32 → Int32 → Nat), I6 (0 : Int32) (4096 : Int32) ∧ ∀ (l1_6 : Int32) (l2_6 : Int32), I6 l1_6 l2_6 → ((l2_6 ≤ 0 → post l1_6) ∧ (¬ l2_6 ≤ 0 → ∀ x2 : Int32, x2 = l1_6 + l2_6 → ((a0 < (x2 * x2) → ∀ x4 : Int32, x4 = l2_6 >>> ((1 : Int32) &&& 31) → (I6 l1_6 x4 ∧ mu6 l1_6 x4 < mu6 l1_6 l2_6)) ∧ (¬ a0 < (x2 * x2) → ∀ x5 : Int32, x5 = l2_6 >>> ((1 : Int32) &&& 31) → (I6 x2 x5 ∧ mu6 x2 x5 < mu6 l1_6 l2_6)))))) := hw
  refine lv_iconst (v := (0 : Int32)) hx hb dX3_root_0 (by decide) ?_
  refine lv_istore_n (lv' := [(1, .int (0 : Int32)), (0, .int a0)]) hx hb dX3_root_1 rfl hl (by decide) rfl (fun ls hl => ?_)
  refine lv_sipush (v := (4096 : Int32)) hx hb dX3_root_2 (by decide) ?_
  refine lv_istore_n (lv' := [(2, .int (4096 : Int32)), (1, .int (0 : Int32)), (0, .int a0)]) hx hb dX3_root_5 rfl hl (by decide) rfl (fun ls hl => ?_)
  obtain ⟨I6, mu6, hw, hb6⟩ := hw
  have lp6 : ∀ (k : Nat) (l1_6 : Int32) (l2_6 : Int32) (ls : Array Slot) (H : Heap) (locs : List Loc), mu6 l1_6 l2_6 < k → I6 l1_6 l2_6 → wI s D A (fl []) H locs → lv_has ls 4 [(0, .int a0), (1, .int l1_6), (2, .int l2_6)] → W p l e rmX3_root s m args below meth c H locs 0 0 Q (F0 m 6 ls []) := by
    intro k
    induction k with
    | zero => intro l1_6 l2_6 ls H locs hmu; exact absurd hmu (Nat.not_lt_zero _)
    | succ k ih6 =>
      intro l1_6 l2_6 ls H locs hmu6 hw hI hl
      replace hw := hb6 l1_6 l2_6 hw
      refine lv_iload_n hx hb dX3_root_6 rfl (lv_at hl 2 rfl) ?_
      refine lv_if_le (tgt := 30) hx hb dX3_root_7 (by decide) (fun c1 => ?_) (fun c1 => ?_)
      · replace hw := hw.1 c1
        refine lv_iload_n hx hb dX3_root_30 rfl (lv_at hl 1 rfl) ?_
        subst hQ
        exact x_iret (u := ()) hC hI hr hlk hw rfl dX3_root_31
      · replace hw := hw.2 c1
        refine lv_iload_n hx hb dX3_root_10 rfl (lv_at hl 1 rfl) ?_
        refine lv_iload_n hx hb dX3_root_11 rfl (lv_at hl 2 rfl) ?_
        refine lv_iadd hx hb dX3_root_12 ?_
        refine lv_topi (fun x2 ex2 => ?_)
        replace hw := hw x2 ex2
        refine lv_istore_n (lv' := [(3, .int x2), (0, .int a0), (1, .int l1_6), (2, .int l2_6)]) hx hb dX3_root_13 rfl hl (by decide) rfl (fun ls hl => ?_)
        refine lv_iload_n hx hb dX3_root_14 rfl (lv_at hl 0 rfl) ?_
        refine lv_iload_n hx hb dX3_root_15 rfl (lv_at hl 0 rfl) ?_
        refine lv_imul hx hb dX3_root_16 ?_
        refine lv_iload_n hx hb dX3_root_17 rfl (lv_at hl 1 rfl) ?_
        refine lv_icmp_gt (tgt := 23) hx hb dX3_root_18 (by decide) (fun c3 => ?_) (fun c3 => ?_)
        · replace hw := hw.1 c3
          refine lv_iload_n hx hb dX3_root_23 rfl (lv_at hl 3 rfl) ?_
          refine lv_iconst (v := (1 : Int32)) hx hb dX3_root_24 (by decide) ?_
          refine lv_ishr hx hb dX3_root_25 ?_
          refine lv_topi (fun x4 ex4 => ?_)
          replace hw := hw x4 ex4
          refine lv_istore_n (lv' := [(2, .int x4), (3, .int x2), (0, .int a0), (1, .int l1_6)]) hx hb dX3_root_26 rfl hl (by decide) rfl (fun ls hl => ?_)
          refine lv_goto (tgt := 6) hx hb dX3_root_27 (by decide) ?_
          exact ih6 l1_6 x4 ls H locs (Nat.lt_of_lt_of_le hw.2 (Nat.le_of_lt_succ hmu6)) hw.1 hI (lv_sub hl [2, 3, 0] rfl)
        · replace hw := hw.2 c3
          refine lv_iload_n hx hb dX3_root_21 rfl (lv_at hl 0 rfl) ?_
          refine lv_istore_n (lv' := [(1, .int x2), (3, .int x2), (0, .int a0), (2, .int l2_6)]) hx hb dX3_root_22 rfl hl (by decide) rfl (fun ls hl => ?_)
          refine lv_iload_n hx hb dX3_root_23 rfl (lv_at hl 3 rfl) ?_
          refine lv_iconst (v := (1 : Int32)) hx hb dX3_root_24 (by decide) ?_
          refine lv_ishr hx hb dX3_root_25 ?_
          refine lv_topi (fun x5 ex5 => ?_)
          replace hw := hw x5 ex5
          refine lv_istore_n (lv' := [(2, .int x5), (1, .int x2), (3, .int x2), (0, .int a0)]) hx hb dX3_root_26 rfl hl (by decide) rfl (fun ls hl => ?_)
          refine lv_goto (tgt := 6) hx hb dX3_root_27 (by decide) ?_
          exact ih6 x2 x5 ls H locs (Nat.lt_of_lt_of_le hw.2 (Nat.le_of_lt_succ hmu6)) hw.1 hI (lv_sub hl [3, 1, 0] rfl)
  exact lp6 (mu6 (0 : Int32) (4096 : Int32) + 1) (0 : Int32) (4096 : Int32) ls H locs (Nat.lt_succ_self _) hw hI (lv_sub hl [2, 1, 0] rfl)

def wX3_straight (a1 : Int32) (a2 : Int32) (unit : Int32) (strips : Int32) (post : Int32 → Prop) : Prop := wX0_width strips (fun (r1 : Int32) => wX1_rowOf a1 (fun (r2 : Int32) => wX1_rowOf a2 (fun (r3 : Int32) => ((r2 = r3 → wX1_stepOf a1 (fun (r15 : Int32) => wX1_stepOf a2 (fun (r16 : Int32) => wX3_western r15 r16 (fun (r17 : Int32) => ¬ r1 = 0 ∧ ∀ x19 : Int32, x19 = r17 / r1 → ∀ x20 : Int32, x20 = r17 - (r1 * x19) → wX3_xOnStrip unit r1 x19 (x20 + (1 : Int32)) r2 (fun (r21 : Int32) => wX3_xOnStrip unit r1 x19 x20 r2 (fun (r22 : Int32) => post (if 0 ≤ (r21 - r22) then (r21 - r22) else 0 - (r21 - r22)))))))) ∧ (¬ r2 = r3 → wX1_isPole a1 (fun (r5 : Int32) => ∃ J103 : Int32 → Prop, (∀ (t_103 : Int32), J103 t_103 → wX1_stepOf t_103 (fun (r6 : Int32) => ¬ r1 = 0 ∧ ∀ x8 : Int32, x8 = r6 / r1 → ∀ x9 : Int32, x9 = r6 - (r1 * x8) → wX3_xOnStrip unit r1 x8 x9 r2 (fun (r10 : Int32) => wX3_xOnStrip unit r1 x8 x9 r3 (fun (r11 : Int32) => ∀ x12 : Int32, x12 = r10 - r11 → wX3_root ((x12 * x12) + (((4 : Int32) * unit) * unit)) (fun (r13 : Int32) => post r13))))) ∧ ((r5 = 0 → J103 a1) ∧ (¬ r5 = 0 → J103 a2))))))))
def rmX3_straight : Room := { frames := 2, cells := 0, slots := 0, locals := 44 }
theorem kX3_straight_0 : Cond.fieldLink RX3 31 "GoreGlobe$Globe" "unit" "I" ∈ wsX3_straight := List.mem_cons_of_mem _ (List.mem_append_left _ (List.mem_append_left _ (List.mem_of_getElem? (i := 0) rfl)))
theorem kX3_straight_cX0 : ∀ w ∈ wsX00, w ∈ wsX3_straight := fun _ h => List.mem_cons_of_mem _ (List.mem_append_right _ h)
theorem kX3_straight_2 : Cond.methodLink RX3 51 Lib.Math.abs.name ∈ wsX3_straight := List.mem_cons_of_mem _ (List.mem_append_left _ (List.mem_append_left _ (List.mem_of_getElem? (i := 1) rfl)))
theorem kX3_straight_3 : Cond.static Lib.Math.abs.name ∈ wsX3_straight := List.mem_cons_of_mem _ (List.mem_append_left _ (List.mem_append_left _ (List.mem_of_getElem? (i := 2) rfl)))
theorem kX3_straight_4 : Cond.initialized "java/lang/Math" ∈ wsX3_straight := List.mem_cons_of_mem _ (List.mem_append_left _ (List.mem_append_left _ (List.mem_of_getElem? (i := 3) rfl)))
theorem kX3_straight_5 : Cond.code Lib.Math.abs.name Lib.Math.abs.code 1 (some .int) ∈ wsX3_straight := List.mem_cons_of_mem _ (List.mem_append_left _ (List.mem_append_left _ (List.mem_of_getElem? (i := 4) rfl)))
set_option maxHeartbeats 4000000 in
set_option maxRecDepth 100000 in
theorem mX3_straight (l : Launch) (D : va_G) (K : Nat → ClassId) (h : Nat → Nat) (sz : Nat) (a1 : Int32) (a2 : Int32) (bits : Nat → Int64) (stops : Nat → Int32) (num : Int32) (unit : Int32) (strips : Int32) (caps : Int32) (draw : Int32)  {post : Int32 → Prop} (hw : wX3_straight a1 a2 unit strips post) : Met l yX3_straight wsX3_straight rmX3_straight (va_Pc [.ref (h 0), .int a1, .int a2] (cP D K (fl [wGl K h (bits, stops, num, unit, strips, caps, draw)]) sz)) (va_Qi (fun (r : Int32) (u : Unit) => post r) (fun u t => cQ D K (fl [wGl K h (bits, stops, num, unit, strips, caps, draw)]) (va_A (fl [wGl K h (bits, stops, num, unit, strips, caps, draw)]) sz) t) (va_A (fl [wGl K h (bits, stops, num, unit, strips, caps, draw)]) sz)) 0 0 (va_A (fl [wGl K h (bits, stops, num, unit, strips, caps, draw)]) sz) := by
  refine x_entry (cc := cX3_straight) (maxL := 11) (ret := (some .int)) (QA := fun A => va_Qi (fun (r : Int32) (u : Unit) => post r) (fun u t => cQ D K (fl [wGl K h (bits, stops, num, unit, strips, caps, draw)]) A t) A) (plainFor_of_name (by decide)) rfl (Nat.le_of_ble_eq_true rfl) ?_
  intro p e s m args below meth c A ls H Q hQ hC hlk hr hnm hI hl
  obtain ⟨hx, hb, hml, hown, hts, hK, hA, hZ⟩ := id hC
  obtain ⟨locs, hlocs⟩ : ∃ y : List Loc, y = [] := ⟨_, rfl⟩
  rw [← hlocs] at hI ⊢
  clear hlocs
  replace hl : lv_has ls 11 [(0, .ref (h 0)), (1, .int a1), (2, .int a2)] := hl
  replace hw : wX0_width strips (fun (r1 : Int32) => wX1_rowOf a1 (fun (r2 : Int32) => wX1_rowOf a2 (fun (r3 : Int32) => ((r2 = r3 → wX1_stepOf a1 (fun (r15 : Int32) => wX1_stepOf a2 (fun (r16 : Int32) => wX3_western r15 r16 (fun (r17 : Int32) => ¬ r1 = 0 ∧ ∀ x19 : Int32, x19 = r17 / r1 → ∀ x20 : Int32, x20 = r17 - (r1 * x19) → wX3_xOnStrip unit r1 x19 (x20 + (1 : Int32)) r2 (fun (r21 : Int32) => wX3_xOnStrip unit r1 x19 x20 r2 (fun (r22 : Int32) => post (if 0 ≤ (r21 - r22) then (r21 - r22) else 0 - (r21 - r22)))))))) ∧ (¬ r2 = r3 → wX1_isPole a1 (fun (r5 : Int32) => ∃ J103 : Int32 → Prop, (∀ (t_103 : Int32), J103 t_103 → wX1_stepOf t_103 (fun (r6 : Int32) => ¬ r1 = 0 ∧ ∀ x8 : Int32, x8 = r6 / r1 → ∀ x9 : Int32, x9 = r6 - (r1 * x8) → wX3_xOnStrip unit r1 x8 x9 r2 (fun (r10 : Int32) => wX3_xOnStrip unit r1 x8 x9 r3 (fun (r11 : Int32) => ∀ x12 : Int32, x12 = r10 - r11 → wX3_root ((x12 * x12) + (((4 : Int32) * unit) * unit)) (fun (r13 : Int32) => post r13))))) ∧ ((r5 = 0 → J103 a1) ∧ (¬ r5 = 0 → J103 a2)))))))) := hw
  refine lv_aload_n hx hb dX3_straight_0 rfl (lv_at hl 0 rfl) ?_
  refine x_get (v := .int unit) hC hI kX3_straight_cX0 0 rfl rfl 3 (by decide) kX3_straight_0 rfl rfl dX3_straight_1 ?_
  refine lv_istore_n (lv' := [(3, .int unit), (0, .ref (h 0)), (1, .int a1), (2, .int a2)]) hx hb dX3_straight_4 rfl hl (by decide) rfl (fun ls hl => ?_)
  refine lv_aload_n hx hb dX3_straight_5 rfl (lv_at hl 1 rfl) ?_
  refine x_callVi (rest := []) hC hI [0] (mX0_width l D K h _ bits stops num unit strips caps draw hw) (cwV 0 hts gX3_straight_X0_width rfl rfl rfl (by decide +kernel) ⟨(Nat.le_of_ble_eq_true rfl), (Nat.le_of_ble_eq_true rfl)⟩) (by decide) rfl (fun _ => rfl) 0 0 rfl rfl rfl rfl hl.1 rfl (Nat.le_of_ble_eq_true rfl) dX3_straight_6 ⟨(Nat.le_of_ble_eq_true rfl), (Nat.le_of_ble_eq_true rfl)⟩ (fun r1 u H locs hw hI => ?_)
  try dsimp only at hw
  have hI : wI s D A (fl [wGl K h (bits, stops, num, unit, strips, caps, draw)]) H locs := hI
  refine lv_istore (lv' := [(4, .int r1), (3, .int unit), (0, .ref (h 0)), (1, .int a1), (2, .int a2)]) hx hb dX3_straight_9 hl (by decide) rfl (fun ls hl => ?_)
  refine lv_iload_n hx hb dX3_straight_11 rfl (lv_at hl 3 rfl) ?_
  refine x_callSi (rest := []) hC hI [] (mX1_rowOf l D K  _ a1 hw) (va_cwS 1 hts gX3_straight_X1_rowOf rfl rfl rfl (by decide +kernel) ⟨(Nat.le_of_ble_eq_true rfl), (Nat.le_of_ble_eq_true rfl)⟩) (by decide) rfl (fun _ => rfl) rfl hl.1 rfl (Nat.le_of_ble_eq_true rfl) dX3_straight_12 ⟨(Nat.le_of_ble_eq_true rfl), (Nat.le_of_ble_eq_true rfl)⟩ (fun r2 u H locs hw hI => ?_)
  try dsimp only at hw
  have hI : wI s D A (fl [wGl K h (bits, stops, num, unit, strips, caps, draw)]) H locs := hI
  refine lv_istore (lv' := [(5, .int r2), (4, .int r1), (3, .int unit), (0, .ref (h 0)), (1, .int a1), (2, .int a2)]) hx hb dX3_straight_15 hl (by decide) rfl (fun ls hl => ?_)
  refine lv_iload_n hx hb dX3_straight_17 rfl (lv_at hl 5 rfl) ?_
  refine x_callSi (rest := []) hC hI [] (mX1_rowOf l D K  _ a2 hw) (va_cwS 1 hts gX3_straight_X1_rowOf rfl rfl rfl (by decide +kernel) ⟨(Nat.le_of_ble_eq_true rfl), (Nat.le_of_ble_eq_true rfl)⟩) (by decide) rfl (fun _ => rfl) rfl hl.1 rfl (Nat.le_of_ble_eq_true rfl) dX3_straight_18 ⟨(Nat.le_of_ble_eq_true rfl), (Nat.le_of_ble_eq_true rfl)⟩ (fun r3 u H locs hw hI => ?_)
  try dsimp only at hw
  have hI : wI s D A (fl [wGl K h (bits, stops, num, unit, strips, caps, draw)]) H locs := hI
  refine lv_istore (lv' := [(6, .int r3), (5, .int r2), (4, .int r1), (3, .int unit), (0, .ref (h 0)), (1, .int a1), (2, .int a2)]) hx hb dX3_straight_21 hl (by decide) rfl (fun ls hl => ?_)
  refine lv_iload hx hb dX3_straight_23 (lv_at hl 1 rfl) ?_
  refine lv_iload hx hb dX3_straight_25 (lv_at hl 0 rfl) ?_
  refine lv_icmp_ne (tgt := 91) hx hb dX3_straight_27 (by decide) (fun c4 => ?_) (fun c4 => ?_)
  · replace hw := hw.2 c4
    refine lv_iload_n hx hb dX3_straight_91 rfl (lv_at hl 5 rfl) ?_
    refine x_callSi (rest := []) hC hI [] (mX1_isPole l D K  _ a1 hw) (va_cwS 1 hts gX3_straight_X1_isPole rfl rfl rfl (by decide +kernel) ⟨(Nat.le_of_ble_eq_true rfl), (Nat.le_of_ble_eq_true rfl)⟩) (by decide) rfl (fun _ => rfl) rfl hl.1 rfl (Nat.le_of_ble_eq_true rfl) dX3_straight_92 ⟨(Nat.le_of_ble_eq_true rfl), (Nat.le_of_ble_eq_true rfl)⟩ (fun r5 u H locs hw hI => ?_)
    try dsimp only at hw
    have hI : wI s D A (fl [wGl K h (bits, stops, num, unit, strips, caps, draw)]) H locs := hI
    obtain ⟨J103, hJ103, hw⟩ := hw
    have jn103 : ∀ (t_103 : Int32) (ls : Array Slot) (H : Heap) (locs : List Loc), J103 t_103 → wI s D A (fl [wGl K h (bits, stops, num, unit, strips, caps, draw)]) H locs → lv_has ls 11 [(3, .int unit), (4, .int r1), (5, .int r2), (6, .int r3)] → W p l e rmX3_straight s m args below meth c H locs 0 0 Q (F0 m 103 ls [.int t_103]) := by
      intro t_103 ls H locs hw hI hl
      replace hw := hJ103 t_103 hw
      refine x_callSi (rest := []) hC hI [] (mX1_stepOf l D K  _ t_103 hw) (va_cwS 1 hts gX3_straight_X1_stepOf rfl rfl rfl (by decide +kernel) ⟨(Nat.le_of_ble_eq_true rfl), (Nat.le_of_ble_eq_true rfl)⟩) (by decide) rfl (fun _ => rfl) rfl hl.1 rfl (Nat.le_of_ble_eq_true rfl) dX3_straight_103 ⟨(Nat.le_of_ble_eq_true rfl), (Nat.le_of_ble_eq_true rfl)⟩ (fun r6 u H locs hw hI => ?_)
      try dsimp only at hw
      have hI : wI s D A (fl [wGl K h (bits, stops, num, unit, strips, caps, draw)]) H locs := hI
      refine lv_istore (lv' := [(7, .int r6), (3, .int unit), (4, .int r1), (5, .int r2), (6, .int r3)]) hx hb dX3_straight_106 hl (by decide) rfl (fun ls hl => ?_)
      refine lv_iload hx hb dX3_straight_108 (lv_at hl 0 rfl) ?_
      refine lv_iload hx hb dX3_straight_110 (lv_at hl 2 rfl) ?_
      obtain ⟨hc7, hw⟩ := hw
      refine lv_idiv hx hb dX3_straight_112 hc7 ?_
      refine lv_topi (fun x8 ex8 => ?_)
      replace hw := hw x8 ex8
      refine lv_istore (lv' := [(8, .int x8), (7, .int r6), (3, .int unit), (4, .int r1), (5, .int r2), (6, .int r3)]) hx hb dX3_straight_113 hl (by decide) rfl (fun ls hl => ?_)
      refine lv_iload hx hb dX3_straight_115 (lv_at hl 1 rfl) ?_
      refine lv_iload hx hb dX3_straight_117 (lv_at hl 3 rfl) ?_
      refine lv_iload hx hb dX3_straight_119 (lv_at hl 0 rfl) ?_
      refine lv_imul hx hb dX3_straight_121 ?_
      refine lv_isub hx hb dX3_straight_122 ?_
      refine lv_topi (fun x9 ex9 => ?_)
      replace hw := hw x9 ex9
      refine lv_istore (lv' := [(9, .int x9), (8, .int x8), (7, .int r6), (3, .int unit), (4, .int r1), (5, .int r2), (6, .int r3)]) hx hb dX3_straight_123 hl (by decide) rfl (fun ls hl => ?_)
      refine lv_iload_n hx hb dX3_straight_125 rfl (lv_at hl 3 rfl) ?_
      refine lv_iload hx hb dX3_straight_126 (lv_at hl 4 rfl) ?_
      refine lv_iload hx hb dX3_straight_128 (lv_at hl 1 rfl) ?_
      refine lv_iload hx hb dX3_straight_130 (lv_at hl 0 rfl) ?_
      refine lv_iload hx hb dX3_straight_132 (lv_at hl 5 rfl) ?_
      refine x_callSi (rest := []) hC hI [] (mX3_xOnStrip l D K  _ unit r1 x8 x9 r2 hw) (va_cwS 5 hts gX3_straight_X3_xOnStrip rfl rfl rfl (by decide +kernel) ⟨(Nat.le_of_ble_eq_true rfl), (Nat.le_of_ble_eq_true rfl)⟩) (by decide) rfl (fun _ => rfl) rfl hl.1 rfl (Nat.le_of_ble_eq_true rfl) dX3_straight_134 ⟨(Nat.le_of_ble_eq_true rfl), (Nat.le_of_ble_eq_true rfl)⟩ (fun r10 u H locs hw hI => ?_)
      try dsimp only at hw
      have hI : wI s D A (fl [wGl K h (bits, stops, num, unit, strips, caps, draw)]) H locs := hI
      refine lv_iload_n hx hb dX3_straight_137 rfl (lv_at hl 3 rfl) ?_
      refine lv_iload hx hb dX3_straight_138 (lv_at hl 4 rfl) ?_
      refine lv_iload hx hb dX3_straight_140 (lv_at hl 1 rfl) ?_
      refine lv_iload hx hb dX3_straight_142 (lv_at hl 0 rfl) ?_
      refine lv_iload hx hb dX3_straight_144 (lv_at hl 6 rfl) ?_
      refine x_callSi (rest := [.int r10]) hC hI [] (mX3_xOnStrip l D K  _ unit r1 x8 x9 r3 hw) (va_cwS 5 hts gX3_straight_X3_xOnStrip rfl rfl rfl (by decide +kernel) ⟨(Nat.le_of_ble_eq_true rfl), (Nat.le_of_ble_eq_true rfl)⟩) (by decide) rfl (fun _ => rfl) rfl hl.1 rfl (Nat.le_of_ble_eq_true rfl) dX3_straight_146 ⟨(Nat.le_of_ble_eq_true rfl), (Nat.le_of_ble_eq_true rfl)⟩ (fun r11 u H locs hw hI => ?_)
      try dsimp only at hw
      have hI : wI s D A (fl [wGl K h (bits, stops, num, unit, strips, caps, draw)]) H locs := hI
      refine lv_isub hx hb dX3_straight_149 ?_
      refine lv_topi (fun x12 ex12 => ?_)
      replace hw := hw x12 ex12
      refine lv_istore (lv' := [(10, .int x12), (9, .int x9), (8, .int x8), (7, .int r6), (3, .int unit), (4, .int r1), (5, .int r2), (6, .int r3)]) hx hb dX3_straight_150 hl (by decide) rfl (fun ls hl => ?_)
      refine lv_iload hx hb dX3_straight_152 (lv_at hl 0 rfl) ?_
      refine lv_iload hx hb dX3_straight_154 (lv_at hl 0 rfl) ?_
      refine lv_imul hx hb dX3_straight_156 ?_
      refine lv_iconst (v := (4 : Int32)) hx hb dX3_straight_157 (by decide) ?_
      refine lv_iload_n hx hb dX3_straight_158 rfl (lv_at hl 4 rfl) ?_
      refine lv_imul hx hb dX3_straight_159 ?_
      refine lv_iload_n hx hb dX3_straight_160 rfl (lv_at hl 4 rfl) ?_
      refine lv_imul hx hb dX3_straight_161 ?_
      refine lv_iadd hx hb dX3_straight_162 ?_
      refine x_callSi (rest := []) hC hI [] (mX3_root l D K  _ ((x12 * x12) + (((4 : Int32) * unit) * unit)) hw) (va_cwS 1 hts gX3_straight_X3_root rfl rfl rfl (by decide +kernel) ⟨(Nat.le_of_ble_eq_true rfl), (Nat.le_of_ble_eq_true rfl)⟩) (by decide) rfl (fun _ => rfl) rfl hl.1 rfl (Nat.le_of_ble_eq_true rfl) dX3_straight_163 ⟨(Nat.le_of_ble_eq_true rfl), (Nat.le_of_ble_eq_true rfl)⟩ (fun r13 u H locs hw hI => ?_)
      try dsimp only at hw
      have hI : wI s D A (fl [wGl K h (bits, stops, num, unit, strips, caps, draw)]) H locs := hI
      subst hQ
      exact x_iret (u := ()) hC hI hr hlk hw rfl dX3_straight_166
    refine lv_if_eq (tgt := 102) hx hb dX3_straight_95 (by decide) (fun c14 => ?_) (fun c14 => ?_)
    · replace hw := hw.1 c14
      refine lv_iload_n hx hb dX3_straight_102 rfl (lv_at hl 5 rfl) ?_
      exact jn103 a1 ls H locs hw hI (lv_sub hl [3, 2, 1, 0] rfl)
    · replace hw := hw.2 c14
      refine lv_iload_n hx hb dX3_straight_98 rfl (lv_at hl 6 rfl) ?_
      refine lv_goto (tgt := 103) hx hb dX3_straight_99 (by decide) ?_
      exact jn103 a2 ls H locs hw hI (lv_sub hl [3, 2, 1, 0] rfl)
  · replace hw := hw.1 c4
    refine lv_iload_n hx hb dX3_straight_30 rfl (lv_at hl 5 rfl) ?_
    refine x_callSi (rest := []) hC hI [] (mX1_stepOf l D K  _ a1 hw) (va_cwS 1 hts gX3_straight_X1_stepOf rfl rfl rfl (by decide +kernel) ⟨(Nat.le_of_ble_eq_true rfl), (Nat.le_of_ble_eq_true rfl)⟩) (by decide) rfl (fun _ => rfl) rfl hl.1 rfl (Nat.le_of_ble_eq_true rfl) dX3_straight_31 ⟨(Nat.le_of_ble_eq_true rfl), (Nat.le_of_ble_eq_true rfl)⟩ (fun r15 u H locs hw hI => ?_)
    try dsimp only at hw
    have hI : wI s D A (fl [wGl K h (bits, stops, num, unit, strips, caps, draw)]) H locs := hI
    refine lv_iload_n hx hb dX3_straight_34 rfl (lv_at hl 6 rfl) ?_
    refine x_callSi (rest := [.int r15]) hC hI [] (mX1_stepOf l D K  _ a2 hw) (va_cwS 1 hts gX3_straight_X1_stepOf rfl rfl rfl (by decide +kernel) ⟨(Nat.le_of_ble_eq_true rfl), (Nat.le_of_ble_eq_true rfl)⟩) (by decide) rfl (fun _ => rfl) rfl hl.1 rfl (Nat.le_of_ble_eq_true rfl) dX3_straight_35 ⟨(Nat.le_of_ble_eq_true rfl), (Nat.le_of_ble_eq_true rfl)⟩ (fun r16 u H locs hw hI => ?_)
    try dsimp only at hw
    have hI : wI s D A (fl [wGl K h (bits, stops, num, unit, strips, caps, draw)]) H locs := hI
    refine x_callSi (rest := []) hC hI [] (mX3_western l D K  _ r15 r16 hw) (va_cwS 2 hts gX3_straight_X3_western rfl rfl rfl (by decide +kernel) ⟨(Nat.le_of_ble_eq_true rfl), (Nat.le_of_ble_eq_true rfl)⟩) (by decide) rfl (fun _ => rfl) rfl hl.1 rfl (Nat.le_of_ble_eq_true rfl) dX3_straight_38 ⟨(Nat.le_of_ble_eq_true rfl), (Nat.le_of_ble_eq_true rfl)⟩ (fun r17 u H locs hw hI => ?_)
    try dsimp only at hw
    have hI : wI s D A (fl [wGl K h (bits, stops, num, unit, strips, caps, draw)]) H locs := hI
    refine lv_istore (lv' := [(7, .int r17), (6, .int r3), (5, .int r2), (4, .int r1), (3, .int unit), (0, .ref (h 0)), (1, .int a1), (2, .int a2)]) hx hb dX3_straight_41 hl (by decide) rfl (fun ls hl => ?_)
    refine lv_iload hx hb dX3_straight_43 (lv_at hl 0 rfl) ?_
    refine lv_iload hx hb dX3_straight_45 (lv_at hl 3 rfl) ?_
    obtain ⟨hc18, hw⟩ := hw
    refine lv_idiv hx hb dX3_straight_47 hc18 ?_
    refine lv_topi (fun x19 ex19 => ?_)
    replace hw := hw x19 ex19
    refine lv_istore (lv' := [(8, .int x19), (7, .int r17), (6, .int r3), (5, .int r2), (4, .int r1), (3, .int unit), (0, .ref (h 0)), (1, .int a1), (2, .int a2)]) hx hb dX3_straight_48 hl (by decide) rfl (fun ls hl => ?_)
    refine lv_iload hx hb dX3_straight_50 (lv_at hl 1 rfl) ?_
    refine lv_iload hx hb dX3_straight_52 (lv_at hl 4 rfl) ?_
    refine lv_iload hx hb dX3_straight_54 (lv_at hl 0 rfl) ?_
    refine lv_imul hx hb dX3_straight_56 ?_
    refine lv_isub hx hb dX3_straight_57 ?_
    refine lv_topi (fun x20 ex20 => ?_)
    replace hw := hw x20 ex20
    refine lv_istore (lv' := [(9, .int x20), (8, .int x19), (7, .int r17), (6, .int r3), (5, .int r2), (4, .int r1), (3, .int unit), (0, .ref (h 0)), (1, .int a1), (2, .int a2)]) hx hb dX3_straight_58 hl (by decide) rfl (fun ls hl => ?_)
    refine lv_iload_n hx hb dX3_straight_60 rfl (lv_at hl 6 rfl) ?_
    refine lv_iload hx hb dX3_straight_61 (lv_at hl 5 rfl) ?_
    refine lv_iload hx hb dX3_straight_63 (lv_at hl 1 rfl) ?_
    refine lv_iload hx hb dX3_straight_65 (lv_at hl 0 rfl) ?_
    refine lv_iconst (v := (1 : Int32)) hx hb dX3_straight_67 (by decide) ?_
    refine lv_iadd hx hb dX3_straight_68 ?_
    refine lv_iload hx hb dX3_straight_69 (lv_at hl 4 rfl) ?_
    refine x_callSi (rest := []) hC hI [] (mX3_xOnStrip l D K  _ unit r1 x19 (x20 + (1 : Int32)) r2 hw) (va_cwS 5 hts gX3_straight_X3_xOnStrip rfl rfl rfl (by decide +kernel) ⟨(Nat.le_of_ble_eq_true rfl), (Nat.le_of_ble_eq_true rfl)⟩) (by decide) rfl (fun _ => rfl) rfl hl.1 rfl (Nat.le_of_ble_eq_true rfl) dX3_straight_71 ⟨(Nat.le_of_ble_eq_true rfl), (Nat.le_of_ble_eq_true rfl)⟩ (fun r21 u H locs hw hI => ?_)
    try dsimp only at hw
    have hI : wI s D A (fl [wGl K h (bits, stops, num, unit, strips, caps, draw)]) H locs := hI
    refine lv_iload_n hx hb dX3_straight_74 rfl (lv_at hl 6 rfl) ?_
    refine lv_iload hx hb dX3_straight_75 (lv_at hl 5 rfl) ?_
    refine lv_iload hx hb dX3_straight_77 (lv_at hl 1 rfl) ?_
    refine lv_iload hx hb dX3_straight_79 (lv_at hl 0 rfl) ?_
    refine lv_iload hx hb dX3_straight_81 (lv_at hl 4 rfl) ?_
    refine x_callSi (rest := [.int r21]) hC hI [] (mX3_xOnStrip l D K  _ unit r1 x19 x20 r2 hw) (va_cwS 5 hts gX3_straight_X3_xOnStrip rfl rfl rfl (by decide +kernel) ⟨(Nat.le_of_ble_eq_true rfl), (Nat.le_of_ble_eq_true rfl)⟩) (by decide) rfl (fun _ => rfl) rfl hl.1 rfl (Nat.le_of_ble_eq_true rfl) dX3_straight_83 ⟨(Nat.le_of_ble_eq_true rfl), (Nat.le_of_ble_eq_true rfl)⟩ (fun r22 u H locs hw hI => ?_)
    try dsimp only at hw
    have hI : wI s D A (fl [wGl K h (bits, stops, num, unit, strips, caps, draw)]) H locs := hI
    refine lv_isub hx hb dX3_straight_86 ?_
    refine va_mabs hx hb (hml.trans hl.1.symm) hown (hts _ kX3_straight_2) (hts _ kX3_straight_3) (hts _ kX3_straight_4) (hts _ kX3_straight_5) (Nat.le_of_ble_eq_true rfl) (Nat.le_of_ble_eq_true rfl) (Nat.le_of_ble_eq_true rfl) (Nat.le_of_ble_eq_true rfl) dX3_straight_87 ?_
    subst hQ
    exact x_iret (u := ()) hC hI hr hlk hw rfl dX3_straight_90
