def wX0_become  (bits : Nat → Int64) (stops : Nat → Int32) (o_bits : Nat → Int64) (o_stops : Nat → Int32) (o_num : Int32) (o_unit : Int32) (o_strips : Int32) (o_caps : Int32) (o_draw : Int32) (post : (Nat → Int64) → (Nat → Int32) → Int32 → Int32 → Int32 → Int32 → Int32 → Prop) : Prop := post (va_cpy o_bits bits 0 0 5) (va_cpy o_stops stops 0 0 8) o_num o_unit o_strips o_caps o_draw
def rmX0_become : Room := { frames := 1, cells := 0, slots := 0, locals := 40 }
theorem kX0_become_0 : Cond.fieldLink RX0 9 "GoreGlobe$Globe" "landBits" "[J" ∈ wsX0_become := List.mem_cons_of_mem _ (List.mem_append_left _ (List.mem_of_getElem? (i := 0) rfl))
theorem kX0_become_cX0 : ∀ w ∈ wsX00, w ∈ wsX0_become := fun _ h => List.mem_cons_of_mem _ (List.mem_append_right _ h)
theorem kX0_become_2 : Cond.methodLink RX0 30 arraycopyName ∈ wsX0_become := List.mem_cons_of_mem _ (List.mem_append_left _ (List.mem_of_getElem? (i := 1) rfl))
theorem kX0_become_3 : Cond.native arraycopyName ∈ wsX0_become := List.mem_cons_of_mem _ (List.mem_append_left _ (List.mem_of_getElem? (i := 2) rfl))
theorem kX0_become_4 : Cond.static arraycopyName ∈ wsX0_become := List.mem_cons_of_mem _ (List.mem_append_left _ (List.mem_of_getElem? (i := 3) rfl))
theorem kX0_become_5 : Cond.initialized "java/lang/System" ∈ wsX0_become := List.mem_cons_of_mem _ (List.mem_append_left _ (List.mem_of_getElem? (i := 4) rfl))
theorem kX0_become_6 : Cond.fieldLink RX0 13 "GoreGlobe$Globe" "stops" "[I" ∈ wsX0_become := List.mem_cons_of_mem _ (List.mem_append_left _ (List.mem_of_getElem? (i := 5) rfl))
theorem kX0_become_7 : Cond.fieldLink RX0 36 "GoreGlobe$Globe" "stopNumber" "I" ∈ wsX0_become := List.mem_cons_of_mem _ (List.mem_append_left _ (List.mem_of_getElem? (i := 6) rfl))
theorem kX0_become_8 : Cond.fieldLink RX0 17 "GoreGlobe$Globe" "unit" "I" ∈ wsX0_become := List.mem_cons_of_mem _ (List.mem_append_left _ (List.mem_of_getElem? (i := 7) rfl))
theorem kX0_become_9 : Cond.fieldLink RX0 21 "GoreGlobe$Globe" "strips" "I" ∈ wsX0_become := List.mem_cons_of_mem _ (List.mem_append_left _ (List.mem_of_getElem? (i := 8) rfl))
theorem kX0_become_10 : Cond.fieldLink RX0 24 "GoreGlobe$Globe" "caps" "I" ∈ wsX0_become := List.mem_cons_of_mem _ (List.mem_append_left _ (List.mem_of_getElem? (i := 9) rfl))
theorem kX0_become_11 : Cond.fieldLink RX0 27 "GoreGlobe$Globe" "draw" "I" ∈ wsX0_become := List.mem_cons_of_mem _ (List.mem_append_left _ (List.mem_of_getElem? (i := 10) rfl))
set_option maxHeartbeats 4000000 in
set_option maxRecDepth 100000 in
theorem mX0_become (l : Launch) (D : va_G) (K : Nat → ClassId) (h0 : Nat → Nat) (h1 : Nat → Nat) (sz : Nat)  (bits : Nat → Int64) (stops : Nat → Int32) (num : Int32) (unit : Int32) (strips : Int32) (caps : Int32) (draw : Int32) (o_bits : Nat → Int64) (o_stops : Nat → Int32) (o_num : Int32) (o_unit : Int32) (o_strips : Int32) (o_caps : Int32) (o_draw : Int32)  {post : (Nat → Int64) → (Nat → Int32) → Int32 → Int32 → Int32 → Int32 → Int32 → Prop} (hw : wX0_become  bits stops o_bits o_stops o_num o_unit o_strips o_caps o_draw post) : Met l yX0_become wsX0_become rmX0_become (va_Pc [.ref (h0 0), .ref (h1 0)] (cP D K (fl [wGl K h0 (bits, stops, num, unit, strips, caps, draw), wGl K h1 (o_bits, o_stops, o_num, o_unit, o_strips, o_caps, o_draw)]) sz)) (va_Qv (fun (u : (Nat → Int64) × (Nat → Int32) × Int32 × Int32 × Int32 × Int32 × Int32) => post u.1 u.2.1 u.2.2.1 u.2.2.2.1 u.2.2.2.2.1 u.2.2.2.2.2.1 u.2.2.2.2.2.2) (fun u t => cQ D K (fl [wGl K h0 (u.1, u.2.1, u.2.2.1, u.2.2.2.1, u.2.2.2.2.1, u.2.2.2.2.2.1, u.2.2.2.2.2.2), wGl K h1 (o_bits, o_stops, o_num, o_unit, o_strips, o_caps, o_draw)]) (va_A (fl [wGl K h0 (bits, stops, num, unit, strips, caps, draw), wGl K h1 (o_bits, o_stops, o_num, o_unit, o_strips, o_caps, o_draw)]) sz) t) (va_A (fl [wGl K h0 (bits, stops, num, unit, strips, caps, draw), wGl K h1 (o_bits, o_stops, o_num, o_unit, o_strips, o_caps, o_draw)]) sz)) 0 0 (va_A (fl [wGl K h0 (bits, stops, num, unit, strips, caps, draw), wGl K h1 (o_bits, o_stops, o_num, o_unit, o_strips, o_caps, o_draw)]) sz) := by
  refine x_entry (cc := cX0_become) (maxL := 2) (ret := none) (QA := fun A => va_Qv (fun (u : (Nat → Int64) × (Nat → Int32) × Int32 × Int32 × Int32 × Int32 × Int32) => post u.1 u.2.1 u.2.2.1 u.2.2.2.1 u.2.2.2.2.1 u.2.2.2.2.2.1 u.2.2.2.2.2.2) (fun u t => cQ D K (fl [wGl K h0 (u.1, u.2.1, u.2.2.1, u.2.2.2.1, u.2.2.2.2.1, u.2.2.2.2.2.1, u.2.2.2.2.2.2), wGl K h1 (o_bits, o_stops, o_num, o_unit, o_strips, o_caps, o_draw)]) A t) A) (plainFor_of_name (by decide)) rfl (Nat.le_of_ble_eq_true rfl) ?_
  intro p e s m args below meth c A ls H Q hQ hC hlk hr hnm hI hl
  obtain ⟨hx, hb, hml, hown, hts, hK, hA, hZ⟩ := id hC
  obtain ⟨locs, hlocs⟩ : ∃ y : List Loc, y = [] := ⟨_, rfl⟩
  rw [← hlocs] at hI ⊢
  clear hlocs
  replace hl : lv_has ls 2 [(0, .ref (h0 0)), (1, .ref (h1 0))] := hl
  replace hw : post (va_cpy o_bits bits 0 0 5) (va_cpy o_stops stops 0 0 8) o_num o_unit o_strips o_caps o_draw := hw
  refine lv_aload_n hx hb dX0_become_0 rfl (lv_at hl 1 rfl) ?_
  refine x_get (v := .ref (h1 1)) hC hI kX0_become_cX0 3 rfl rfl 0 (by decide) kX0_become_0 rfl rfl dX0_become_1 ?_
  refine lv_iconst (v := (0 : Int32)) hx hb dX0_become_4 (by decide) ?_
  refine lv_aload_n hx hb dX0_become_5 rfl (lv_at hl 0 rfl) ?_
  refine x_get (v := .ref (h0 1)) hC hI kX0_become_cX0 0 rfl rfl 0 (by decide) kX0_become_0 rfl rfl dX0_become_6 ?_
  refine lv_iconst (v := (0 : Int32)) hx hb dX0_become_9 (by decide) ?_
  refine lv_iconst (v := (5 : Int32)) hx hb dX0_become_10 (by decide) ?_
  refine x_copyj (f := o_bits) (g := bits) (n0 := 5) (n1 := 5) hC hI hl.1 kX0_become_2 kX0_become_3 kX0_become_4 kX0_become_5 4 1 rfl rfl (by decide) (by decide) (by decide) (by decide) (by decide) (Nat.le_of_ble_eq_true rfl) (Nat.le_of_ble_eq_true rfl) dX0_become_11 (fun H locs hI => ?_)
  have hI : wI s D A (fl [wGl K h0 ((va_cpy o_bits bits 0 0 5), stops, num, unit, strips, caps, draw), wGl K h1 (o_bits, o_stops, o_num, o_unit, o_strips, o_caps, o_draw)]) H locs := hI
  refine lv_aload_n hx hb dX0_become_14 rfl (lv_at hl 1 rfl) ?_
  refine x_get (v := .ref (h1 2)) hC hI kX0_become_cX0 3 rfl rfl 1 (by decide) kX0_become_6 rfl rfl dX0_become_15 ?_
  refine lv_iconst (v := (0 : Int32)) hx hb dX0_become_18 (by decide) ?_
  refine lv_aload_n hx hb dX0_become_19 rfl (lv_at hl 0 rfl) ?_
  refine x_get (v := .ref (h0 2)) hC hI kX0_become_cX0 0 rfl rfl 1 (by decide) kX0_become_6 rfl rfl dX0_become_20 ?_
  refine lv_iconst (v := (0 : Int32)) hx hb dX0_become_23 (by decide) ?_
  refine lv_bipush (v := (8 : Int32)) hx hb dX0_become_24 (by decide) ?_
  refine x_copyi (f := o_stops) (g := stops) (n0 := 8) (n1 := 8) hC hI hl.1 kX0_become_2 kX0_become_3 kX0_become_4 kX0_become_5 5 2 rfl rfl (by decide) (by decide) (by decide) (by decide) (by decide) (Nat.le_of_ble_eq_true rfl) (Nat.le_of_ble_eq_true rfl) dX0_become_26 (fun H locs hI => ?_)
  have hI : wI s D A (fl [wGl K h0 ((va_cpy o_bits bits 0 0 5), (va_cpy o_stops stops 0 0 8), num, unit, strips, caps, draw), wGl K h1 (o_bits, o_stops, o_num, o_unit, o_strips, o_caps, o_draw)]) H locs := hI
  refine lv_aload_n hx hb dX0_become_29 rfl (lv_at hl 0 rfl) ?_
  refine lv_aload_n hx hb dX0_become_30 rfl (lv_at hl 1 rfl) ?_
  refine x_get (v := .int o_num) hC hI kX0_become_cX0 3 rfl rfl 2 (by decide) kX0_become_7 rfl rfl dX0_become_31 ?_
  refine x_put (v := .int o_num) hC hI kX0_become_cX0 tyX0 tyX0_ok nmX0 0 rfl rfl 2 (by decide) kX0_become_7 rfl rfl rfl rfl (Nat.le_of_ble_eq_true rfl) dX0_become_34 (fun H locs hI => ?_)
  have hI : wI s D A (fl [wGl K h0 ((va_cpy o_bits bits 0 0 5), (va_cpy o_stops stops 0 0 8), o_num, unit, strips, caps, draw), wGl K h1 (o_bits, o_stops, o_num, o_unit, o_strips, o_caps, o_draw)]) H locs := hI
  refine lv_aload_n hx hb dX0_become_37 rfl (lv_at hl 0 rfl) ?_
  refine lv_aload_n hx hb dX0_become_38 rfl (lv_at hl 1 rfl) ?_
  refine x_get (v := .int o_unit) hC hI kX0_become_cX0 3 rfl rfl 3 (by decide) kX0_become_8 rfl rfl dX0_become_39 ?_
  refine x_put (v := .int o_unit) hC hI kX0_become_cX0 tyX0 tyX0_ok nmX0 0 rfl rfl 3 (by decide) kX0_become_8 rfl rfl rfl rfl (Nat.le_of_ble_eq_true rfl) dX0_become_42 (fun H locs hI => ?_)
  have hI : wI s D A (fl [wGl K h0 ((va_cpy o_bits bits 0 0 5), (va_cpy o_stops stops 0 0 8), o_num, o_unit, strips, caps, draw), wGl K h1 (o_bits, o_stops, o_num, o_unit, o_strips, o_caps, o_draw)]) H locs := hI
  refine lv_aload_n hx hb dX0_become_45 rfl (lv_at hl 0 rfl) ?_
  refine lv_aload_n hx hb dX0_become_46 rfl (lv_at hl 1 rfl) ?_
  refine x_get (v := .int o_strips) hC hI kX0_become_cX0 3 rfl rfl 4 (by decide) kX0_become_9 rfl rfl dX0_become_47 ?_
  refine x_put (v := .int o_strips) hC hI kX0_become_cX0 tyX0 tyX0_ok nmX0 0 rfl rfl 4 (by decide) kX0_become_9 rfl rfl rfl rfl (Nat.le_of_ble_eq_true rfl) dX0_become_50 (fun H locs hI => ?_)
  have hI : wI s D A (fl [wGl K h0 ((va_cpy o_bits bits 0 0 5), (va_cpy o_stops stops 0 0 8), o_num, o_unit, o_strips, caps, draw), wGl K h1 (o_bits, o_stops, o_num, o_unit, o_strips, o_caps, o_draw)]) H locs := hI
  refine lv_aload_n hx hb dX0_become_53 rfl (lv_at hl 0 rfl) ?_
  refine lv_aload_n hx hb dX0_become_54 rfl (lv_at hl 1 rfl) ?_
  refine x_get (v := .int o_caps) hC hI kX0_become_cX0 3 rfl rfl 5 (by decide) kX0_become_10 rfl rfl dX0_become_55 ?_
  refine x_put (v := .int o_caps) hC hI kX0_become_cX0 tyX0 tyX0_ok nmX0 0 rfl rfl 5 (by decide) kX0_become_10 rfl rfl rfl rfl (Nat.le_of_ble_eq_true rfl) dX0_become_58 (fun H locs hI => ?_)
  have hI : wI s D A (fl [wGl K h0 ((va_cpy o_bits bits 0 0 5), (va_cpy o_stops stops 0 0 8), o_num, o_unit, o_strips, o_caps, draw), wGl K h1 (o_bits, o_stops, o_num, o_unit, o_strips, o_caps, o_draw)]) H locs := hI
  refine lv_aload_n hx hb dX0_become_61 rfl (lv_at hl 0 rfl) ?_
  refine lv_aload_n hx hb dX0_become_62 rfl (lv_at hl 1 rfl) ?_
  refine x_get (v := .int o_draw) hC hI kX0_become_cX0 3 rfl rfl 6 (by decide) kX0_become_11 rfl rfl dX0_become_63 ?_
  refine x_put (v := .int o_draw) hC hI kX0_become_cX0 tyX0 tyX0_ok nmX0 0 rfl rfl 6 (by decide) kX0_become_11 rfl rfl rfl rfl (Nat.le_of_ble_eq_true rfl) dX0_become_66 (fun H locs hI => ?_)
  have hI : wI s D A (fl [wGl K h0 ((va_cpy o_bits bits 0 0 5), (va_cpy o_stops stops 0 0 8), o_num, o_unit, o_strips, o_caps, o_draw), wGl K h1 (o_bits, o_stops, o_num, o_unit, o_strips, o_caps, o_draw)]) H locs := hI
  subst hQ
  exact x_vret (u := ((va_cpy o_bits bits 0 0 5), (va_cpy o_stops stops 0 0 8), o_num, o_unit, o_strips, o_caps, o_draw)) hC hI hr hlk hw rfl dX0_become_69

def wX0_isLand (a1 : Int32) (bits : Nat → Int64) (post : Int32 → Prop) : Prop := vp_in (a1 >>> ((6 : Int32) &&& 31)) 5 ∧ (((lg_cmp ((((bits (a1 >>> ((6 : Int32) &&& 31)).toNatClampNeg).toUInt64 >>> ((a1 &&& (63 : Int32)).toInt64.toUInt64 &&& Int64.toUInt64 63)).toInt64) &&& (1 : Int64)) (0 : Int64)) = 0 → post (0 : Int32)) ∧ (¬ (lg_cmp ((((bits (a1 >>> ((6 : Int32) &&& 31)).toNatClampNeg).toUInt64 >>> ((a1 &&& (63 : Int32)).toInt64.toUInt64 &&& Int64.toUInt64 63)).toInt64) &&& (1 : Int64)) (0 : Int64)) = 0 → post (1 : Int32)))
def rmX0_isLand : Room := { frames := 0, cells := 0, slots := 0, locals := 0 }
theorem kX0_isLand_0 : Cond.fieldLink RX0 9 "GoreGlobe$Globe" "landBits" "[J" ∈ wsX0_isLand := List.mem_cons_of_mem _ (List.mem_append_left _ (List.mem_of_getElem? (i := 0) rfl))
theorem kX0_isLand_cX0 : ∀ w ∈ wsX00, w ∈ wsX0_isLand := fun _ h => List.mem_cons_of_mem _ (List.mem_append_right _ h)
set_option maxHeartbeats 4000000 in
set_option maxRecDepth 100000 in
theorem mX0_isLand (l : Launch) (D : va_G) (K : Nat → ClassId) (h : Nat → Nat) (sz : Nat) (a1 : Int32) (bits : Nat → Int64) (stops : Nat → Int32) (num : Int32) (unit : Int32) (strips : Int32) (caps : Int32) (draw : Int32)  {post : Int32 → Prop} (hw : wX0_isLand a1 bits post) : Met l yX0_isLand wsX0_isLand rmX0_isLand (va_Pc [.ref (h 0), .int a1] (cP D K (fl [wGl K h (bits, stops, num, unit, strips, caps, draw)]) sz)) (va_Qi (fun (r : Int32) (u : Unit) => post r) (fun u t => cQ D K (fl [wGl K h (bits, stops, num, unit, strips, caps, draw)]) (va_A (fl [wGl K h (bits, stops, num, unit, strips, caps, draw)]) sz) t) (va_A (fl [wGl K h (bits, stops, num, unit, strips, caps, draw)]) sz)) 0 0 (va_A (fl [wGl K h (bits, stops, num, unit, strips, caps, draw)]) sz) := by
  refine x_entry (cc := cX0_isLand) (maxL := 2) (ret := (some .boolean)) (QA := fun A => va_Qi (fun (r : Int32) (u : Unit) => post r) (fun u t => cQ D K (fl [wGl K h (bits, stops, num, unit, strips, caps, draw)]) A t) A) (plainFor_of_name (by decide)) rfl (Nat.le_of_ble_eq_true rfl) ?_
  intro p e s m args below meth c A ls H Q hQ hC hlk hr hnm hI hl
  obtain ⟨hx, hb, hml, hown, hts, hK, hA, hZ⟩ := id hC
  obtain ⟨locs, hlocs⟩ : ∃ y : List Loc, y = [] := ⟨_, rfl⟩
  rw [← hlocs] at hI ⊢
  clear hlocs
  replace hl : lv_has ls 2 [(0, .ref (h 0)), (1, .int a1)] := hl
  replace hw : vp_in (a1 >>> ((6 : Int32) &&& 31)) 5 ∧ (((lg_cmp ((((bits (a1 >>> ((6 : Int32) &&& 31)).toNatClampNeg).toUInt64 >>> ((a1 &&& (63 : Int32)).toInt64.toUInt64 &&& Int64.toUInt64 63)).toInt64) &&& (1 : Int64)) (0 : Int64)) = 0 → post (0 : Int32)) ∧ (¬ (lg_cmp ((((bits (a1 >>> ((6 : Int32) &&& 31)).toNatClampNeg).toUInt64 >>> ((a1 &&& (63 : Int32)).toInt64.toUInt64 &&& Int64.toUInt64 63)).toInt64) &&& (1 : Int64)) (0 : Int64)) = 0 → post (1 : Int32))) := hw
  refine lv_aload_n hx hb dX0_isLand_0 rfl (lv_at hl 0 rfl) ?_
  refine x_get (v := .ref (h 1)) hC hI kX0_isLand_cX0 0 rfl rfl 0 (by decide) kX0_isLand_0 rfl rfl dX0_isLand_1 ?_
  refine lv_iload_n hx hb dX0_isLand_4 rfl (lv_at hl 1 rfl) ?_
  refine lv_bipush (v := (6 : Int32)) hx hb dX0_isLand_5 (by decide) ?_
  refine lv_ishr hx hb dX0_isLand_7 ?_
  obtain ⟨hc1, hw⟩ := hw
  refine x_lald (f := bits) hC hI 1 rfl hc1 dX0_isLand_8 ?_
  refine lv_iload_n hx hb dX0_isLand_9 rfl (lv_at hl 1 rfl) ?_
  refine lv_bipush (v := (63 : Int32)) hx hb dX0_isLand_10 (by decide) ?_
  refine lv_iand hx hb dX0_isLand_12 ?_
  refine lv_lushr (v := ((bits (a1 >>> ((6 : Int32) &&& 31)).toNatClampNeg).toUInt64 >>> ((a1 &&& (63 : Int32)).toInt64.toUInt64 &&& Int64.toUInt64 63)).toInt64) hx hb dX0_isLand_13 rfl ?_
  refine lv_lconst (v := (1 : Int64)) hx hb dX0_isLand_14 (by decide) ?_
  refine lv_land hx hb dX0_isLand_15 ?_
  refine lv_lconst (v := (0 : Int64)) hx hb dX0_isLand_16 (by decide) ?_
  refine W.lcmp hx hb dX0_isLand_17 ?_
  refine lv_if_eq (tgt := 25) hx hb dX0_isLand_18 (by decide) (fun c2 => ?_) (fun c2 => ?_)
  · replace hw := hw.1 c2
    refine lv_iconst (v := (0 : Int32)) hx hb dX0_isLand_25 (by decide) ?_
    subst hQ
    exact x_zret (u := ()) hC hI hr hlk hw rfl (Or.inl rfl) dX0_isLand_26
  · replace hw := hw.2 c2
    refine lv_iconst (v := (1 : Int32)) hx hb dX0_isLand_21 (by decide) ?_
    refine lv_goto (tgt := 26) hx hb dX0_isLand_22 (by decide) ?_
    subst hQ
    exact x_zret (u := ()) hC hI hr hlk hw rfl (Or.inr rfl) dX0_isLand_26

def wX0_turnOver (a1 : Int32) (bits : Nat → Int64) (post : (Nat → Int64) → Prop) : Prop := vp_in (a1 >>> ((6 : Int32) &&& 31)) 5 ∧ vp_in (a1 >>> ((6 : Int32) &&& 31)) 5 ∧ post (vp_updL bits (a1 >>> ((6 : Int32) &&& 31)).toNatClampNeg ((bits (a1 >>> ((6 : Int32) &&& 31)).toNatClampNeg) ^^^ ((1 : Int64) <<< ((a1 &&& (63 : Int32)).toInt64 &&& 63))))
def rmX0_turnOver : Room := { frames := 0, cells := 0, slots := 0, locals := 0 }
theorem kX0_turnOver_0 : Cond.fieldLink RX0 9 "GoreGlobe$Globe" "landBits" "[J" ∈ wsX0_turnOver := List.mem_cons_of_mem _ (List.mem_append_left _ (List.mem_of_getElem? (i := 0) rfl))
theorem kX0_turnOver_cX0 : ∀ w ∈ wsX00, w ∈ wsX0_turnOver := fun _ h => List.mem_cons_of_mem _ (List.mem_append_right _ h)
set_option maxHeartbeats 4000000 in
set_option maxRecDepth 100000 in
theorem mX0_turnOver (l : Launch) (D : va_G) (K : Nat → ClassId) (h : Nat → Nat) (sz : Nat) (a1 : Int32) (bits : Nat → Int64) (stops : Nat → Int32) (num : Int32) (unit : Int32) (strips : Int32) (caps : Int32) (draw : Int32)  {post : (Nat → Int64) → Prop} (hw : wX0_turnOver a1 bits post) : Met l yX0_turnOver wsX0_turnOver rmX0_turnOver (va_Pc [.ref (h 0), .int a1] (cP D K (fl [wGl K h (bits, stops, num, unit, strips, caps, draw)]) sz)) (va_Qv (fun (u : (Nat → Int64)) => post u) (fun u t => cQ D K (fl [wGl K h (u, stops, num, unit, strips, caps, draw)]) (va_A (fl [wGl K h (bits, stops, num, unit, strips, caps, draw)]) sz) t) (va_A (fl [wGl K h (bits, stops, num, unit, strips, caps, draw)]) sz)) 0 0 (va_A (fl [wGl K h (bits, stops, num, unit, strips, caps, draw)]) sz) := by
  refine x_entry (cc := cX0_turnOver) (maxL := 2) (ret := none) (QA := fun A => va_Qv (fun (u : (Nat → Int64)) => post u) (fun u t => cQ D K (fl [wGl K h (u, stops, num, unit, strips, caps, draw)]) A t) A) (plainFor_of_name (by decide)) rfl (Nat.le_of_ble_eq_true rfl) ?_
  intro p e s m args below meth c A ls H Q hQ hC hlk hr hnm hI hl
  obtain ⟨hx, hb, hml, hown, hts, hK, hA, hZ⟩ := id hC
  obtain ⟨locs, hlocs⟩ : ∃ y : List Loc, y = [] := ⟨_, rfl⟩
  rw [← hlocs] at hI ⊢
  clear hlocs
  replace hl : lv_has ls 2 [(0, .ref (h 0)), (1, .int a1)] := hl
  replace hw : vp_in (a1 >>> ((6 : Int32) &&& 31)) 5 ∧ vp_in (a1 >>> ((6 : Int32) &&& 31)) 5 ∧ post (vp_updL bits (a1 >>> ((6 : Int32) &&& 31)).toNatClampNeg ((bits (a1 >>> ((6 : Int32) &&& 31)).toNatClampNeg) ^^^ ((1 : Int64) <<< ((a1 &&& (63 : Int32)).toInt64 &&& 63)))) := hw
  refine lv_aload_n hx hb dX0_turnOver_0 rfl (lv_at hl 0 rfl) ?_
  refine x_get (v := .ref (h 1)) hC hI kX0_turnOver_cX0 0 rfl rfl 0 (by decide) kX0_turnOver_0 rfl rfl dX0_turnOver_1 ?_
  refine lv_iload_n hx hb dX0_turnOver_4 rfl (lv_at hl 1 rfl) ?_
  refine lv_bipush (v := (6 : Int32)) hx hb dX0_turnOver_5 (by decide) ?_
  refine lv_ishr hx hb dX0_turnOver_7 ?_
  refine lv_dup2_11 hx hb dX0_turnOver_8 rfl rfl ?_
  obtain ⟨hc1, hw⟩ := hw
  refine x_lald (f := bits) hC hI 1 rfl hc1 dX0_turnOver_9 ?_
  refine lv_lconst (v := (1 : Int64)) hx hb dX0_turnOver_10 (by decide) ?_
  refine lv_iload_n hx hb dX0_turnOver_11 rfl (lv_at hl 1 rfl) ?_
  refine lv_bipush (v := (63 : Int32)) hx hb dX0_turnOver_12 (by decide) ?_
  refine lv_iand hx hb dX0_turnOver_14 ?_
  refine lv_lshl (v := ((1 : Int64) <<< ((a1 &&& (63 : Int32)).toInt64 &&& 63))) hx hb dX0_turnOver_15 rfl ?_
  refine lv_lxor hx hb dX0_turnOver_16 ?_
  obtain ⟨hc2, hw⟩ := hw
  refine x_last (f := bits) hC hI 1 rfl hc2 dX0_turnOver_17 (fun H locs hI => ?_)
  have hI : wI s D A (fl [wGl K h ((vp_updL bits (a1 >>> ((6 : Int32) &&& 31)).toNatClampNeg ((bits (a1 >>> ((6 : Int32) &&& 31)).toNatClampNeg) ^^^ ((1 : Int64) <<< ((a1 &&& (63 : Int32)).toInt64 &&& 63)))), stops, num, unit, strips, caps, draw)]) H locs := hI
  subst hQ
  exact x_vret (u := (vp_updL bits (a1 >>> ((6 : Int32) &&& 31)).toNatClampNeg ((bits (a1 >>> ((6 : Int32) &&& 31)).toNatClampNeg) ^^^ ((1 : Int64) <<< ((a1 &&& (63 : Int32)).toInt64 &&& 63))))) hC hI hr hlk hw rfl dX0_turnOver_18

def wX0_landNumber  (bits : Nat → Int64) (post : Int32 → Prop) : Prop := (∃ (I13 : Int32 → Int32 → Prop) (mu13 : Int32 → Int32 → Nat), I13 (0 : Int32) (0 : Int32) ∧ ∀ (l1_13 : Int32) (l4_13 : Int32), I13 l1_13 l4_13 → (((5 : Int32) ≤ l4_13 → post l1_13) ∧ (¬ (5 : Int32) ≤ l4_13 → vp_in l4_13 5 ∧ ∀ x3 : Int64, x3 = bits l4_13.toNatClampNeg → wJ13_bitCount_95d88 x3 (fun (r4 : Int32) => ∀ x5 : Int32, x5 = l1_13 + r4 → ∀ x6 : Int32, x6 = l4_13 + 1 → (I13 x5 x6 ∧ mu13 x5 x6 < mu13 l1_13 l4_13)))))
def rmX0_landNumber : Room := { frames := 1, cells := 0, slots := 0, locals := 21 }
theorem kX0_landNumber_0 : Cond.fieldLink RX0 9 "GoreGlobe$Globe" "landBits" "[J" ∈ wsX0_landNumber := List.mem_cons_of_mem _ (List.mem_append_left _ (List.mem_of_getElem? (i := 0) rfl))
theorem kX0_landNumber_cX0 : ∀ w ∈ wsX00, w ∈ wsX0_landNumber := fun _ h => List.mem_cons_of_mem _ (List.mem_append_right _ h)
set_option maxHeartbeats 4000000 in
set_option maxRecDepth 100000 in
theorem mX0_landNumber (l : Launch) (D : va_G) (K : Nat → ClassId) (h : Nat → Nat) (sz : Nat)  (bits : Nat → Int64) (stops : Nat → Int32) (num : Int32) (unit : Int32) (strips : Int32) (caps : Int32) (draw : Int32)  {post : Int32 → Prop} (hw : wX0_landNumber  bits post) : Met l yX0_landNumber wsX0_landNumber rmX0_landNumber (va_Pc [.ref (h 0)] (cP D K (fl [wGl K h (bits, stops, num, unit, strips, caps, draw)]) sz)) (va_Qi (fun (r : Int32) (u : Unit) => post r) (fun u t => cQ D K (fl [wGl K h (bits, stops, num, unit, strips, caps, draw)]) (va_A (fl [wGl K h (bits, stops, num, unit, strips, caps, draw)]) sz) t) (va_A (fl [wGl K h (bits, stops, num, unit, strips, caps, draw)]) sz)) 0 0 (va_A (fl [wGl K h (bits, stops, num, unit, strips, caps, draw)]) sz) := by
  refine x_entry (cc := cX0_landNumber) (maxL := 7) (ret := (some .int)) (QA := fun A => va_Qi (fun (r : Int32) (u : Unit) => post r) (fun u t => cQ D K (fl [wGl K h (bits, stops, num, unit, strips, caps, draw)]) A t) A) (plainFor_of_name (by decide)) rfl (Nat.le_of_ble_eq_true rfl) ?_
  intro p e s m args below meth c A ls H Q hQ hC hlk hr hnm hI hl
  obtain ⟨hx, hb, hml, hown, hts, hK, hA, hZ⟩ := id hC
  obtain ⟨locs, hlocs⟩ : ∃ y : List Loc, y = [] := ⟨_, rfl⟩
  rw [← hlocs] at hI ⊢
  clear hlocs
  replace hl : lv_has ls 7 [(0, .ref (h 0))] := hl
  replace hw : (∃ (I13 : Int32 → Int32 → Prop) (mu13 : Int32 → Int32 → Nat), I13 (0 : Int32) (0 : Int32) ∧ ∀ (l1_13 : Int32) (l4_13 : Int32), I13 l1_13 l4_13 → (((5 : Int32) ≤ l4_13 → post l1_13) ∧ (¬ (5 : Int32) ≤ l4_13 → vp_in l4_13 5 ∧ ∀ x3 : Int64, x3 = bits l4_13.toNatClampNeg → wJ13_bitCount_95d88 x3 (fun (r4 : Int32) => ∀ x5 : Int32, x5 = l1_13 + r4 → ∀ x6 : Int32, x6 = l4_13 + 1 → (I13 x5 x6 ∧ mu13 x5 x6 < mu13 l1_13 l4_13))))) := hw
  refine lv_iconst (v := (0 : Int32)) hx hb dX0_landNumber_0 (by decide) ?_
  refine lv_istore_n (lv' := [(1, .int (0 : Int32)), (0, .ref (h 0))]) hx hb dX0_landNumber_1 rfl hl (by decide) rfl (fun ls hl => ?_)
  refine lv_aload_n hx hb dX0_landNumber_2 rfl (lv_at hl 1 rfl) ?_
  refine x_get (v := .ref (h 1)) hC hI kX0_landNumber_cX0 0 rfl rfl 0 (by decide) kX0_landNumber_0 rfl rfl dX0_landNumber_3 ?_
  refine lv_astore_n (lv' := [(2, .ref (h 1)), (1, .int (0 : Int32)), (0, .ref (h 0))]) hx hb dX0_landNumber_6 rfl hl (by decide) rfl (fun ls hl => ?_)
  refine lv_aload_n hx hb dX0_landNumber_7 rfl (lv_at hl 0 rfl) ?_
  refine x_alenJ (v := (5 : Int32)) hC hI 1 rfl rfl dX0_landNumber_8 ?_
  refine lv_istore_n (lv' := [(3, .int (5 : Int32)), (2, .ref (h 1)), (1, .int (0 : Int32)), (0, .ref (h 0))]) hx hb dX0_landNumber_9 rfl hl (by decide) rfl (fun ls hl => ?_)
  refine lv_iconst (v := (0 : Int32)) hx hb dX0_landNumber_10 (by decide) ?_
  refine lv_istore (lv' := [(4, .int (0 : Int32)), (3, .int (5 : Int32)), (2, .ref (h 1)), (1, .int (0 : Int32)), (0, .ref (h 0))]) hx hb dX0_landNumber_11 hl (by decide) rfl (fun ls hl => ?_)
  obtain ⟨I13, mu13, hw, hb13⟩ := hw
  have lp13 : ∀ (k : Nat) (l1_13 : Int32) (l4_13 : Int32) (ls : Array Slot) (H : Heap) (locs : List Loc), mu13 l1_13 l4_13 < k → I13 l1_13 l4_13 → wI s D A (fl [wGl K h (bits, stops, num, unit, strips, caps, draw)]) H locs → lv_has ls 7 [(1, .int l1_13), (2, .ref (h 1)), (3, .int (5 : Int32)), (4, .int l4_13)] → W p l e rmX0_landNumber s m args below meth c H locs 0 0 Q (F0 m 13 ls []) := by
    intro k
    induction k with
    | zero => intro l1_13 l4_13 ls H locs hmu; exact absurd hmu (Nat.not_lt_zero _)
    | succ k ih13 =>
      intro l1_13 l4_13 ls H locs hmu13 hw hI hl
      replace hw := hb13 l1_13 l4_13 hw
      refine lv_iload hx hb dX0_landNumber_13 (lv_at hl 3 rfl) ?_
      refine lv_iload_n hx hb dX0_landNumber_15 rfl (lv_at hl 2 rfl) ?_
      refine lv_icmp_ge (tgt := 39) hx hb dX0_landNumber_16 (by decide) (fun c1 => ?_) (fun c1 => ?_)
      · replace hw := hw.1 c1
        refine lv_iload_n hx hb dX0_landNumber_39 rfl (lv_at hl 0 rfl) ?_
        subst hQ
        exact x_iret (u := ()) hC hI hr hlk hw rfl dX0_landNumber_40
      · replace hw := hw.2 c1
        refine lv_aload_n hx hb dX0_landNumber_19 rfl (lv_at hl 1 rfl) ?_
        refine lv_iload hx hb dX0_landNumber_20 (lv_at hl 3 rfl) ?_
        obtain ⟨hc2, hw⟩ := hw
        refine x_lald (f := bits) hC hI 1 rfl hc2 dX0_landNumber_22 ?_
        refine lv_topl (fun x3 ex3 => ?_)
        replace hw := hw x3 ex3
        refine lv_lstore (lv' := [(5, .long x3), (1, .int l1_13), (2, .ref (h 1)), (3, .int (5 : Int32)), (4, .int l4_13)]) hx hb dX0_landNumber_23 hl (by decide) rfl (fun ls hl => ?_)
        refine lv_iload_n hx hb dX0_landNumber_25 rfl (lv_at hl 1 rfl) ?_
        refine lv_lload hx hb dX0_landNumber_26 (lv_at hl 0 rfl) ?_
        refine x_callSi (rest := [.int l1_13]) hC hI [] (mJ13_bitCount_95d88 l D K  _ x3 hw) (va_cwS 1 hts gX0_landNumber_J13_bitCount_95d88 rfl rfl rfl (by decide +kernel) ⟨(Nat.le_of_ble_eq_true rfl), (Nat.le_of_ble_eq_true rfl)⟩) (by decide) rfl (fun _ => rfl) rfl hl.1 rfl (Nat.le_of_ble_eq_true rfl) dX0_landNumber_28 ⟨(Nat.le_of_ble_eq_true rfl), (Nat.le_of_ble_eq_true rfl)⟩ (fun r4 u H locs hw hI => ?_)
        try dsimp only at hw
        have hI : wI s D A (fl [wGl K h (bits, stops, num, unit, strips, caps, draw)]) H locs := hI
        refine lv_iadd hx hb dX0_landNumber_31 ?_
        refine lv_topi (fun x5 ex5 => ?_)
        replace hw := hw x5 ex5
        refine lv_istore_n (lv' := [(1, .int x5), (5, .long x3), (2, .ref (h 1)), (3, .int (5 : Int32)), (4, .int l4_13)]) hx hb dX0_landNumber_32 rfl hl (by decide) rfl (fun ls hl => ?_)
        obtain ⟨x6, ex6⟩ : ∃ y : Int32, y = l4_13 + 1 := ⟨_, rfl⟩
        replace hw := hw x6 ex6
        refine lv_iinc (v := x6) (lv' := [(4, .int x6), (1, .int x5), (5, .long x3), (2, .ref (h 1)), (3, .int (5 : Int32))]) hx hb dX0_landNumber_33 hl (k := 4) rfl (by rw [ex6]; rfl) (by decide) rfl (fun ls hl => ?_)
        refine lv_goto (tgt := 13) hx hb dX0_landNumber_36 (by decide) ?_
        exact ih13 x5 x6 ls H locs (Nat.lt_of_lt_of_le hw.2 (Nat.le_of_lt_succ hmu13)) hw.1 hI (lv_sub hl [1, 3, 4, 0] rfl)
  exact lp13 (mu13 (0 : Int32) (0 : Int32) + 1) (0 : Int32) (0 : Int32) ls H locs (Nat.lt_succ_self _) hw hI (lv_sub hl [3, 2, 1, 0] rfl)

def wX0_isOnStrips (a1 : Int32) (caps : Int32) (post : Int32 → Prop) : Prop := ((((6 : Int32) - caps) < (if 0 ≤ a1 then a1 else 0 - a1) → post (0 : Int32)) ∧ (¬ ((6 : Int32) - caps) < (if 0 ≤ a1 then a1 else 0 - a1) → post (1 : Int32)))
def rmX0_isOnStrips : Room := { frames := 1, cells := 0, slots := 0, locals := 23 }
theorem kX0_isOnStrips_0 : Cond.methodLink RX0 58 Lib.Math.abs.name ∈ wsX0_isOnStrips := List.mem_cons_of_mem _ (List.mem_append_left _ (List.mem_of_getElem? (i := 0) rfl))
theorem kX0_isOnStrips_1 : Cond.static Lib.Math.abs.name ∈ wsX0_isOnStrips := List.mem_cons_of_mem _ (List.mem_append_left _ (List.mem_of_getElem? (i := 1) rfl))
theorem kX0_isOnStrips_2 : Cond.initialized "java/lang/Math" ∈ wsX0_isOnStrips := List.mem_cons_of_mem _ (List.mem_append_left _ (List.mem_of_getElem? (i := 2) rfl))
theorem kX0_isOnStrips_3 : Cond.code Lib.Math.abs.name Lib.Math.abs.code 1 (some .int) ∈ wsX0_isOnStrips := List.mem_cons_of_mem _ (List.mem_append_left _ (List.mem_of_getElem? (i := 3) rfl))
theorem kX0_isOnStrips_4 : Cond.fieldLink RX0 24 "GoreGlobe$Globe" "caps" "I" ∈ wsX0_isOnStrips := List.mem_cons_of_mem _ (List.mem_append_left _ (List.mem_of_getElem? (i := 4) rfl))
theorem kX0_isOnStrips_cX0 : ∀ w ∈ wsX00, w ∈ wsX0_isOnStrips := fun _ h => List.mem_cons_of_mem _ (List.mem_append_right _ h)
set_option maxHeartbeats 4000000 in
set_option maxRecDepth 100000 in
theorem mX0_isOnStrips (l : Launch) (D : va_G) (K : Nat → ClassId) (h : Nat → Nat) (sz : Nat) (a1 : Int32) (bits : Nat → Int64) (stops : Nat → Int32) (num : Int32) (unit : Int32) (strips : Int32) (caps : Int32) (draw : Int32)  {post : Int32 → Prop} (hw : wX0_isOnStrips a1 caps post) : Met l yX0_isOnStrips wsX0_isOnStrips rmX0_isOnStrips (va_Pc [.ref (h 0), .int a1] (cP D K (fl [wGl K h (bits, stops, num, unit, strips, caps, draw)]) sz)) (va_Qi (fun (r : Int32) (u : Unit) => post r) (fun u t => cQ D K (fl [wGl K h (bits, stops, num, unit, strips, caps, draw)]) (va_A (fl [wGl K h (bits, stops, num, unit, strips, caps, draw)]) sz) t) (va_A (fl [wGl K h (bits, stops, num, unit, strips, caps, draw)]) sz)) 0 0 (va_A (fl [wGl K h (bits, stops, num, unit, strips, caps, draw)]) sz) := by
  refine x_entry (cc := cX0_isOnStrips) (maxL := 2) (ret := (some .boolean)) (QA := fun A => va_Qi (fun (r : Int32) (u : Unit) => post r) (fun u t => cQ D K (fl [wGl K h (bits, stops, num, unit, strips, caps, draw)]) A t) A) (plainFor_of_name (by decide)) rfl (Nat.le_of_ble_eq_true rfl) ?_
  intro p e s m args below meth c A ls H Q hQ hC hlk hr hnm hI hl
  obtain ⟨hx, hb, hml, hown, hts, hK, hA, hZ⟩ := id hC
  obtain ⟨locs, hlocs⟩ : ∃ y : List Loc, y = [] := ⟨_, rfl⟩
  rw [← hlocs] at hI ⊢
  clear hlocs
  replace hl : lv_has ls 2 [(0, .ref (h 0)), (1, .int a1)] := hl
  replace hw : ((((6 : Int32) - caps) < (if 0 ≤ a1 then a1 else 0 - a1) → post (0 : Int32)) ∧ (¬ ((6 : Int32) - caps) < (if 0 ≤ a1 then a1 else 0 - a1) → post (1 : Int32))) := hw
  refine lv_iload_n hx hb dX0_isOnStrips_0 rfl (lv_at hl 1 rfl) ?_
  refine va_mabs hx hb (hml.trans hl.1.symm) hown (hts _ kX0_isOnStrips_0) (hts _ kX0_isOnStrips_1) (hts _ kX0_isOnStrips_2) (hts _ kX0_isOnStrips_3) (Nat.le_of_ble_eq_true rfl) (Nat.le_of_ble_eq_true rfl) (Nat.le_of_ble_eq_true rfl) (Nat.le_of_ble_eq_true rfl) dX0_isOnStrips_1 ?_
  refine lv_bipush (v := (6 : Int32)) hx hb dX0_isOnStrips_4 (by decide) ?_
  refine lv_aload_n hx hb dX0_isOnStrips_6 rfl (lv_at hl 0 rfl) ?_
  refine x_get (v := .int caps) hC hI kX0_isOnStrips_cX0 0 rfl rfl 5 (by decide) kX0_isOnStrips_4 rfl rfl dX0_isOnStrips_7 ?_
  refine lv_isub hx hb dX0_isOnStrips_10 ?_
  refine lv_icmp_gt (tgt := 18) hx hb dX0_isOnStrips_11 (by decide) (fun c1 => ?_) (fun c1 => ?_)
  · replace hw := hw.1 c1
    refine lv_iconst (v := (0 : Int32)) hx hb dX0_isOnStrips_18 (by decide) ?_
    subst hQ
    exact x_zret (u := ()) hC hI hr hlk hw rfl (Or.inl rfl) dX0_isOnStrips_19
  · replace hw := hw.2 c1
    refine lv_iconst (v := (1 : Int32)) hx hb dX0_isOnStrips_14 (by decide) ?_
    refine lv_goto (tgt := 19) hx hb dX0_isOnStrips_15 (by decide) ?_
    subst hQ
    exact x_zret (u := ()) hC hI hr hlk hw rfl (Or.inr rfl) dX0_isOnStrips_19

def wX0_landNumberOnStrips  (bits : Nat → Int64) (caps : Int32) (post : Int32 → Prop) : Prop := (∃ (I4 : Int32 → Int32 → Prop) (mu4 : Int32 → Int32 → Nat), I4 (0 : Int32) (0 : Int32) ∧ ∀ (l1_4 : Int32) (l2_4 : Int32), I4 l1_4 l2_4 → (((266 : Int32) ≤ l2_4 → post l1_4) ∧ (¬ (266 : Int32) ≤ l2_4 → wX0_isLand l2_4 bits (fun (r2 : Int32) => ((r2 = 0 → ∀ x4 : Int32, x4 = l2_4 + 1 → (I4 l1_4 x4 ∧ mu4 l1_4 x4 < mu4 l1_4 l2_4)) ∧ (¬ r2 = 0 → wX1_rowOf l2_4 (fun (r5 : Int32) => wX0_isOnStrips r5 caps (fun (r6 : Int32) => ((r6 = 0 → ∀ x8 : Int32, x8 = l2_4 + 1 → (I4 l1_4 x8 ∧ mu4 l1_4 x8 < mu4 l1_4 l2_4)) ∧ (¬ r6 = 0 → ∀ x9 : Int32, x9 = l1_4 + 1 → ∀ x10 : Int32, x10 = l2_4 + 1 → (I4 x9 x10 ∧ mu4 x9 x10 < mu4 l1_4 l2_4)))))))))))
def rmX0_landNumberOnStrips : Room := { frames := 2, cells := 0, slots := 0, locals := 44 }
set_option maxHeartbeats 4000000 in
set_option maxRecDepth 100000 in
theorem mX0_landNumberOnStrips (l : Launch) (D : va_G) (K : Nat → ClassId) (h : Nat → Nat) (sz : Nat)  (bits : Nat → Int64) (stops : Nat → Int32) (num : Int32) (unit : Int32) (strips : Int32) (caps : Int32) (draw : Int32)  {post : Int32 → Prop} (hw : wX0_landNumberOnStrips  bits caps post) : Met l yX0_landNumberOnStrips wsX0_landNumberOnStrips rmX0_landNumberOnStrips (va_Pc [.ref (h 0)] (cP D K (fl [wGl K h (bits, stops, num, unit, strips, caps, draw)]) sz)) (va_Qi (fun (r : Int32) (u : Unit) => post r) (fun u t => cQ D K (fl [wGl K h (bits, stops, num, unit, strips, caps, draw)]) (va_A (fl [wGl K h (bits, stops, num, unit, strips, caps, draw)]) sz) t) (va_A (fl [wGl K h (bits, stops, num, unit, strips, caps, draw)]) sz)) 0 0 (va_A (fl [wGl K h (bits, stops, num, unit, strips, caps, draw)]) sz) := by
  refine x_entry (cc := cX0_landNumberOnStrips) (maxL := 3) (ret := (some .int)) (QA := fun A => va_Qi (fun (r : Int32) (u : Unit) => post r) (fun u t => cQ D K (fl [wGl K h (bits, stops, num, unit, strips, caps, draw)]) A t) A) (plainFor_of_name (by decide)) rfl (Nat.le_of_ble_eq_true rfl) ?_
  intro p e s m args below meth c A ls H Q hQ hC hlk hr hnm hI hl
  obtain ⟨hx, hb, hml, hown, hts, hK, hA, hZ⟩ := id hC
  obtain ⟨locs, hlocs⟩ : ∃ y : List Loc, y = [] := ⟨_, rfl⟩
  rw [← hlocs] at hI ⊢
  clear hlocs
  replace hl : lv_has ls 3 [(0, .ref (h 0))] := hl
  replace hw : (∃ (I4 : Int32 → Int32 → Prop) (mu4 : Int32 → Int32 → Nat), I4 (0 : Int32) (0 : Int32) ∧ ∀ (l1_4 : Int32) (l2_4 : Int32), I4 l1_4 l2_4 → (((266 : Int32) ≤ l2_4 → post l1_4) ∧ (¬ (266 : Int32) ≤ l2_4 → wX0_isLand l2_4 bits (fun (r2 : Int32) => ((r2 = 0 → ∀ x4 : Int32, x4 = l2_4 + 1 → (I4 l1_4 x4 ∧ mu4 l1_4 x4 < mu4 l1_4 l2_4)) ∧ (¬ r2 = 0 → wX1_rowOf l2_4 (fun (r5 : Int32) => wX0_isOnStrips r5 caps (fun (r6 : Int32) => ((r6 = 0 → ∀ x8 : Int32, x8 = l2_4 + 1 → (I4 l1_4 x8 ∧ mu4 l1_4 x8 < mu4 l1_4 l2_4)) ∧ (¬ r6 = 0 → ∀ x9 : Int32, x9 = l1_4 + 1 → ∀ x10 : Int32, x10 = l2_4 + 1 → (I4 x9 x10 ∧ mu4 x9 x10 < mu4 l1_4 l2_4))))))))))) := hw
  refine lv_iconst (v := (0 : Int32)) hx hb dX0_landNumberOnStrips_0 (by decide) ?_
  refine lv_istore_n (lv' := [(1, .int (0 : Int32)), (0, .ref (h 0))]) hx hb dX0_landNumberOnStrips_1 rfl hl (by decide) rfl (fun ls hl => ?_)
  refine lv_iconst (v := (0 : Int32)) hx hb dX0_landNumberOnStrips_2 (by decide) ?_
  refine lv_istore_n (lv' := [(2, .int (0 : Int32)), (1, .int (0 : Int32)), (0, .ref (h 0))]) hx hb dX0_landNumberOnStrips_3 rfl hl (by decide) rfl (fun ls hl => ?_)
  obtain ⟨I4, mu4, hw, hb4⟩ := hw
  have lp4 : ∀ (k : Nat) (l1_4 : Int32) (l2_4 : Int32) (ls : Array Slot) (H : Heap) (locs : List Loc), mu4 l1_4 l2_4 < k → I4 l1_4 l2_4 → wI s D A (fl [wGl K h (bits, stops, num, unit, strips, caps, draw)]) H locs → lv_has ls 3 [(0, .ref (h 0)), (1, .int l1_4), (2, .int l2_4)] → W p l e rmX0_landNumberOnStrips s m args below meth c H locs 0 0 Q (F0 m 4 ls []) := by
    intro k
    induction k with
    | zero => intro l1_4 l2_4 ls H locs hmu; exact absurd hmu (Nat.not_lt_zero _)
    | succ k ih4 =>
      intro l1_4 l2_4 ls H locs hmu4 hw hI hl
      replace hw := hb4 l1_4 l2_4 hw
      refine lv_iload_n hx hb dX0_landNumberOnStrips_4 rfl (lv_at hl 2 rfl) ?_
      refine lv_sipush (v := (266 : Int32)) hx hb dX0_landNumberOnStrips_5 (by decide) ?_
      refine lv_icmp_ge (tgt := 39) hx hb dX0_landNumberOnStrips_8 (by decide) (fun c1 => ?_) (fun c1 => ?_)
      · replace hw := hw.1 c1
        refine lv_iload_n hx hb dX0_landNumberOnStrips_39 rfl (lv_at hl 1 rfl) ?_
        subst hQ
        exact x_iret (u := ()) hC hI hr hlk hw rfl dX0_landNumberOnStrips_40
      · replace hw := hw.2 c1
        refine lv_aload_n hx hb dX0_landNumberOnStrips_11 rfl (lv_at hl 0 rfl) ?_
        refine lv_iload_n hx hb dX0_landNumberOnStrips_12 rfl (lv_at hl 2 rfl) ?_
        refine x_callVi (rest := []) hC hI [0] (mX0_isLand l D K h _ l2_4 bits stops num unit strips caps draw hw) (cwV 1 hts gX0_landNumberOnStrips_X0_isLand rfl rfl rfl (by decide +kernel) ⟨(Nat.le_of_ble_eq_true rfl), (Nat.le_of_ble_eq_true rfl)⟩) (by decide) rfl (fun _ => rfl) 0 0 rfl rfl rfl rfl hl.1 rfl (Nat.le_of_ble_eq_true rfl) dX0_landNumberOnStrips_13 ⟨(Nat.le_of_ble_eq_true rfl), (Nat.le_of_ble_eq_true rfl)⟩ (fun r2 u H locs hw hI => ?_)
        try dsimp only at hw
        have hI : wI s D A (fl [wGl K h (bits, stops, num, unit, strips, caps, draw)]) H locs := hI
        refine lv_if_eq (tgt := 33) hx hb dX0_landNumberOnStrips_16 (by decide) (fun c3 => ?_) (fun c3 => ?_)
        · replace hw := hw.1 c3
          obtain ⟨x4, ex4⟩ : ∃ y : Int32, y = l2_4 + 1 := ⟨_, rfl⟩
          replace hw := hw x4 ex4
          refine lv_iinc (v := x4) (lv' := [(2, .int x4), (0, .ref (h 0)), (1, .int l1_4)]) hx hb dX0_landNumberOnStrips_33 hl (k := 2) rfl (by rw [ex4]; rfl) (by decide) rfl (fun ls hl => ?_)
          refine lv_goto (tgt := 4) hx hb dX0_landNumberOnStrips_36 (by decide) ?_
          exact ih4 l1_4 x4 ls H locs (Nat.lt_of_lt_of_le hw.2 (Nat.le_of_lt_succ hmu4)) hw.1 hI (lv_sub hl [1, 2, 0] rfl)
        · replace hw := hw.2 c3
          refine lv_aload_n hx hb dX0_landNumberOnStrips_19 rfl (lv_at hl 0 rfl) ?_
          refine lv_iload_n hx hb dX0_landNumberOnStrips_20 rfl (lv_at hl 2 rfl) ?_
          refine x_callSi (rest := [.ref (h 0)]) hC hI [] (mX1_rowOf l D K  _ l2_4 hw) (va_cwS 1 hts gX0_landNumberOnStrips_X1_rowOf rfl rfl rfl (by decide +kernel) ⟨(Nat.le_of_ble_eq_true rfl), (Nat.le_of_ble_eq_true rfl)⟩) (by decide) rfl (fun _ => rfl) rfl hl.1 rfl (Nat.le_of_ble_eq_true rfl) dX0_landNumberOnStrips_21 ⟨(Nat.le_of_ble_eq_true rfl), (Nat.le_of_ble_eq_true rfl)⟩ (fun r5 u H locs hw hI => ?_)
          try dsimp only at hw
          have hI : wI s D A (fl [wGl K h (bits, stops, num, unit, strips, caps, draw)]) H locs := hI
          refine x_callVi (rest := []) hC hI [0] (mX0_isOnStrips l D K h _ r5 bits stops num unit strips caps draw hw) (cwV 1 hts gX0_landNumberOnStrips_X0_isOnStrips rfl rfl rfl (by decide +kernel) ⟨(Nat.le_of_ble_eq_true rfl), (Nat.le_of_ble_eq_true rfl)⟩) (by decide) rfl (fun _ => rfl) 0 0 rfl rfl rfl rfl hl.1 rfl (Nat.le_of_ble_eq_true rfl) dX0_landNumberOnStrips_24 ⟨(Nat.le_of_ble_eq_true rfl), (Nat.le_of_ble_eq_true rfl)⟩ (fun r6 u H locs hw hI => ?_)
          try dsimp only at hw
          have hI : wI s D A (fl [wGl K h (bits, stops, num, unit, strips, caps, draw)]) H locs := hI
          refine lv_if_eq (tgt := 33) hx hb dX0_landNumberOnStrips_27 (by decide) (fun c7 => ?_) (fun c7 => ?_)
          · replace hw := hw.1 c7
            obtain ⟨x8, ex8⟩ : ∃ y : Int32, y = l2_4 + 1 := ⟨_, rfl⟩
            replace hw := hw x8 ex8
            refine lv_iinc (v := x8) (lv' := [(2, .int x8), (0, .ref (h 0)), (1, .int l1_4)]) hx hb dX0_landNumberOnStrips_33 hl (k := 2) rfl (by rw [ex8]; rfl) (by decide) rfl (fun ls hl => ?_)
            refine lv_goto (tgt := 4) hx hb dX0_landNumberOnStrips_36 (by decide) ?_
            exact ih4 l1_4 x8 ls H locs (Nat.lt_of_lt_of_le hw.2 (Nat.le_of_lt_succ hmu4)) hw.1 hI (lv_sub hl [1, 2, 0] rfl)
          · replace hw := hw.2 c7
            obtain ⟨x9, ex9⟩ : ∃ y : Int32, y = l1_4 + 1 := ⟨_, rfl⟩
            replace hw := hw x9 ex9
            refine lv_iinc (v := x9) (lv' := [(1, .int x9), (0, .ref (h 0)), (2, .int l2_4)]) hx hb dX0_landNumberOnStrips_30 hl (k := 1) rfl (by rw [ex9]; rfl) (by decide) rfl (fun ls hl => ?_)
            obtain ⟨x10, ex10⟩ : ∃ y : Int32, y = l2_4 + 1 := ⟨_, rfl⟩
            replace hw := hw x10 ex10
            refine lv_iinc (v := x10) (lv' := [(2, .int x10), (1, .int x9), (0, .ref (h 0))]) hx hb dX0_landNumberOnStrips_33 hl (k := 2) rfl (by rw [ex10]; rfl) (by decide) rfl (fun ls hl => ?_)
            refine lv_goto (tgt := 4) hx hb dX0_landNumberOnStrips_36 (by decide) ?_
            exact ih4 x9 x10 ls H locs (Nat.lt_of_lt_of_le hw.2 (Nat.le_of_lt_succ hmu4)) hw.1 hI (lv_sub hl [2, 1, 0] rfl)
  exact lp4 (mu4 (0 : Int32) (0 : Int32) + 1) (0 : Int32) (0 : Int32) ls H locs (Nat.lt_succ_self _) hw hI (lv_sub hl [2, 1, 0] rfl)

def wX0_width  (strips : Int32) (post : Int32 → Prop) : Prop := ¬ strips = 0 ∧ post ((24 : Int32) / strips)
def rmX0_width : Room := { frames := 0, cells := 0, slots := 0, locals := 0 }
theorem kX0_width_0 : Cond.fieldLink RX0 21 "GoreGlobe$Globe" "strips" "I" ∈ wsX0_width := List.mem_cons_of_mem _ (List.mem_append_left _ (List.mem_of_getElem? (i := 0) rfl))
theorem kX0_width_cX0 : ∀ w ∈ wsX00, w ∈ wsX0_width := fun _ h => List.mem_cons_of_mem _ (List.mem_append_right _ h)
set_option maxHeartbeats 4000000 in
set_option maxRecDepth 100000 in
theorem mX0_width (l : Launch) (D : va_G) (K : Nat → ClassId) (h : Nat → Nat) (sz : Nat)  (bits : Nat → Int64) (stops : Nat → Int32) (num : Int32) (unit : Int32) (strips : Int32) (caps : Int32) (draw : Int32)  {post : Int32 → Prop} (hw : wX0_width  strips post) : Met l yX0_width wsX0_width rmX0_width (va_Pc [.ref (h 0)] (cP D K (fl [wGl K h (bits, stops, num, unit, strips, caps, draw)]) sz)) (va_Qi (fun (r : Int32) (u : Unit) => post r) (fun u t => cQ D K (fl [wGl K h (bits, stops, num, unit, strips, caps, draw)]) (va_A (fl [wGl K h (bits, stops, num, unit, strips, caps, draw)]) sz) t) (va_A (fl [wGl K h (bits, stops, num, unit, strips, caps, draw)]) sz)) 0 0 (va_A (fl [wGl K h (bits, stops, num, unit, strips, caps, draw)]) sz) := by
  refine x_entry (cc := cX0_width) (maxL := 1) (ret := (some .int)) (QA := fun A => va_Qi (fun (r : Int32) (u : Unit) => post r) (fun u t => cQ D K (fl [wGl K h (bits, stops, num, unit, strips, caps, draw)]) A t) A) (plainFor_of_name (by decide)) rfl (Nat.le_of_ble_eq_true rfl) ?_
  intro p e s m args below meth c A ls H Q hQ hC hlk hr hnm hI hl
  obtain ⟨hx, hb, hml, hown, hts, hK, hA, hZ⟩ := id hC
  obtain ⟨locs, hlocs⟩ : ∃ y : List Loc, y = [] := ⟨_, rfl⟩
  rw [← hlocs] at hI ⊢
  clear hlocs
  replace hl : lv_has ls 1 [(0, .ref (h 0))] := hl
  replace hw : ¬ strips = 0 ∧ post ((24 : Int32) / strips) := hw
  refine lv_bipush (v := (24 : Int32)) hx hb dX0_width_0 (by decide) ?_
  refine lv_aload_n hx hb dX0_width_2 rfl (lv_at hl 0 rfl) ?_
  refine x_get (v := .int strips) hC hI kX0_width_cX0 0 rfl rfl 4 (by decide) kX0_width_0 rfl rfl dX0_width_3 ?_
  obtain ⟨hc1, hw⟩ := hw
  refine lv_idiv hx hb dX0_width_6 hc1 ?_
  subst hQ
  exact x_iret (u := ()) hC hI hr hlk hw rfl dX0_width_7

def wX0_areOnStrips (a1 : Int32) (a2 : Int32) (caps : Int32) (post : Int32 → Prop) : Prop := wX1_rowOf a1 (fun (r1 : Int32) => wX0_isOnStrips r1 caps (fun (r2 : Int32) => ((r2 = 0 → post (0 : Int32)) ∧ (¬ r2 = 0 → wX1_rowOf a2 (fun (r4 : Int32) => wX0_isOnStrips r4 caps (fun (r5 : Int32) => ((r5 = 0 → post (0 : Int32)) ∧ (¬ r5 = 0 → post (1 : Int32)))))))))
def rmX0_areOnStrips : Room := { frames := 2, cells := 0, slots := 0, locals := 44 }
set_option maxHeartbeats 4000000 in
set_option maxRecDepth 100000 in
theorem mX0_areOnStrips (l : Launch) (D : va_G) (K : Nat → ClassId) (h : Nat → Nat) (sz : Nat) (a1 : Int32) (a2 : Int32) (bits : Nat → Int64) (stops : Nat → Int32) (num : Int32) (unit : Int32) (strips : Int32) (caps : Int32) (draw : Int32)  {post : Int32 → Prop} (hw : wX0_areOnStrips a1 a2 caps post) : Met l yX0_areOnStrips wsX0_areOnStrips rmX0_areOnStrips (va_Pc [.ref (h 0), .int a1, .int a2] (cP D K (fl [wGl K h (bits, stops, num, unit, strips, caps, draw)]) sz)) (va_Qi (fun (r : Int32) (u : Unit) => post r) (fun u t => cQ D K (fl [wGl K h (bits, stops, num, unit, strips, caps, draw)]) (va_A (fl [wGl K h (bits, stops, num, unit, strips, caps, draw)]) sz) t) (va_A (fl [wGl K h (bits, stops, num, unit, strips, caps, draw)]) sz)) 0 0 (va_A (fl [wGl K h (bits, stops, num, unit, strips, caps, draw)]) sz) := by
  refine x_entry (cc := cX0_areOnStrips) (maxL := 3) (ret := (some .boolean)) (QA := fun A => va_Qi (fun (r : Int32) (u : Unit) => post r) (fun u t => cQ D K (fl [wGl K h (bits, stops, num, unit, strips, caps, draw)]) A t) A) (plainFor_of_name (by decide)) rfl (Nat.le_of_ble_eq_true rfl) ?_
  intro p e s m args below meth c A ls H Q hQ hC hlk hr hnm hI hl
  obtain ⟨hx, hb, hml, hown, hts, hK, hA, hZ⟩ := id hC
  obtain ⟨locs, hlocs⟩ : ∃ y : List Loc, y = [] := ⟨_, rfl⟩
  rw [← hlocs] at hI ⊢
  clear hlocs
  replace hl : lv_has ls 3 [(0, .ref (h 0)), (1, .int a1), (2, .int a2)] := hl
  replace hw : wX1_rowOf a1 (fun (r1 : Int32) => wX0_isOnStrips r1 caps (fun (r2 : Int32) => ((r2 = 0 → post (0 : Int32)) ∧ (¬ r2 = 0 → wX1_rowOf a2 (fun (r4 : Int32) => wX0_isOnStrips r4 caps (fun (r5 : Int32) => ((r5 = 0 → post (0 : Int32)) ∧ (¬ r5 = 0 → post (1 : Int32))))))))) := hw
  refine lv_aload_n hx hb dX0_areOnStrips_0 rfl (lv_at hl 0 rfl) ?_
  refine lv_iload_n hx hb dX0_areOnStrips_1 rfl (lv_at hl 1 rfl) ?_
  refine x_callSi (rest := [.ref (h 0)]) hC hI [] (mX1_rowOf l D K  _ a1 hw) (va_cwS 1 hts gX0_areOnStrips_X1_rowOf rfl rfl rfl (by decide +kernel) ⟨(Nat.le_of_ble_eq_true rfl), (Nat.le_of_ble_eq_true rfl)⟩) (by decide) rfl (fun _ => rfl) rfl hl.1 rfl (Nat.le_of_ble_eq_true rfl) dX0_areOnStrips_2 ⟨(Nat.le_of_ble_eq_true rfl), (Nat.le_of_ble_eq_true rfl)⟩ (fun r1 u H locs hw hI => ?_)
  try dsimp only at hw
  have hI : wI s D A (fl [wGl K h (bits, stops, num, unit, strips, caps, draw)]) H locs := hI
  refine x_callVi (rest := []) hC hI [0] (mX0_isOnStrips l D K h _ r1 bits stops num unit strips caps draw hw) (cwV 1 hts gX0_areOnStrips_X0_isOnStrips rfl rfl rfl (by decide +kernel) ⟨(Nat.le_of_ble_eq_true rfl), (Nat.le_of_ble_eq_true rfl)⟩) (by decide) rfl (fun _ => rfl) 0 0 rfl rfl rfl rfl hl.1 rfl (Nat.le_of_ble_eq_true rfl) dX0_areOnStrips_5 ⟨(Nat.le_of_ble_eq_true rfl), (Nat.le_of_ble_eq_true rfl)⟩ (fun r2 u H locs hw hI => ?_)
  try dsimp only at hw
  have hI : wI s D A (fl [wGl K h (bits, stops, num, unit, strips, caps, draw)]) H locs := hI
  refine lv_if_eq (tgt := 26) hx hb dX0_areOnStrips_8 (by decide) (fun c3 => ?_) (fun c3 => ?_)
  · replace hw := hw.1 c3
    refine lv_iconst (v := (0 : Int32)) hx hb dX0_areOnStrips_26 (by decide) ?_
    subst hQ
    exact x_zret (u := ()) hC hI hr hlk hw rfl (Or.inl rfl) dX0_areOnStrips_27
  · replace hw := hw.2 c3
    refine lv_aload_n hx hb dX0_areOnStrips_11 rfl (lv_at hl 0 rfl) ?_
    refine lv_iload_n hx hb dX0_areOnStrips_12 rfl (lv_at hl 2 rfl) ?_
    refine x_callSi (rest := [.ref (h 0)]) hC hI [] (mX1_rowOf l D K  _ a2 hw) (va_cwS 1 hts gX0_areOnStrips_X1_rowOf rfl rfl rfl (by decide +kernel) ⟨(Nat.le_of_ble_eq_true rfl), (Nat.le_of_ble_eq_true rfl)⟩) (by decide) rfl (fun _ => rfl) rfl hl.1 rfl (Nat.le_of_ble_eq_true rfl) dX0_areOnStrips_13 ⟨(Nat.le_of_ble_eq_true rfl), (Nat.le_of_ble_eq_true rfl)⟩ (fun r4 u H locs hw hI => ?_)
    try dsimp only at hw
    have hI : wI s D A (fl [wGl K h (bits, stops, num, unit, strips, caps, draw)]) H locs := hI
    refine x_callVi (rest := []) hC hI [0] (mX0_isOnStrips l D K h _ r4 bits stops num unit strips caps draw hw) (cwV 1 hts gX0_areOnStrips_X0_isOnStrips rfl rfl rfl (by decide +kernel) ⟨(Nat.le_of_ble_eq_true rfl), (Nat.le_of_ble_eq_true rfl)⟩) (by decide) rfl (fun _ => rfl) 0 0 rfl rfl rfl rfl hl.1 rfl (Nat.le_of_ble_eq_true rfl) dX0_areOnStrips_16 ⟨(Nat.le_of_ble_eq_true rfl), (Nat.le_of_ble_eq_true rfl)⟩ (fun r5 u H locs hw hI => ?_)
    try dsimp only at hw
    have hI : wI s D A (fl [wGl K h (bits, stops, num, unit, strips, caps, draw)]) H locs := hI
    refine lv_if_eq (tgt := 26) hx hb dX0_areOnStrips_19 (by decide) (fun c6 => ?_) (fun c6 => ?_)
    · replace hw := hw.1 c6
      refine lv_iconst (v := (0 : Int32)) hx hb dX0_areOnStrips_26 (by decide) ?_
      subst hQ
      exact x_zret (u := ()) hC hI hr hlk hw rfl (Or.inl rfl) dX0_areOnStrips_27
    · replace hw := hw.2 c6
      refine lv_iconst (v := (1 : Int32)) hx hb dX0_areOnStrips_22 (by decide) ?_
      refine lv_goto (tgt := 27) hx hb dX0_areOnStrips_23 (by decide) ?_
      subst hQ
      exact x_zret (u := ()) hC hI hr hlk hw rfl (Or.inr rfl) dX0_areOnStrips_27

def wX0_isOnCap (a1 : Int32) (caps : Int32) (post : Int32 → Prop) : Prop := ((caps ≤ 0 → post (0 : Int32)) ∧ (¬ caps ≤ 0 → (((if 0 ≤ a1 then a1 else 0 - a1) < ((6 : Int32) - caps) → post (0 : Int32)) ∧ (¬ (if 0 ≤ a1 then a1 else 0 - a1) < ((6 : Int32) - caps) → post (1 : Int32)))))
def rmX0_isOnCap : Room := { frames := 1, cells := 0, slots := 0, locals := 23 }
theorem kX0_isOnCap_0 : Cond.fieldLink RX0 24 "GoreGlobe$Globe" "caps" "I" ∈ wsX0_isOnCap := List.mem_cons_of_mem _ (List.mem_append_left _ (List.mem_of_getElem? (i := 0) rfl))
theorem kX0_isOnCap_cX0 : ∀ w ∈ wsX00, w ∈ wsX0_isOnCap := fun _ h => List.mem_cons_of_mem _ (List.mem_append_right _ h)
theorem kX0_isOnCap_2 : Cond.methodLink RX0 58 Lib.Math.abs.name ∈ wsX0_isOnCap := List.mem_cons_of_mem _ (List.mem_append_left _ (List.mem_of_getElem? (i := 1) rfl))
theorem kX0_isOnCap_3 : Cond.static Lib.Math.abs.name ∈ wsX0_isOnCap := List.mem_cons_of_mem _ (List.mem_append_left _ (List.mem_of_getElem? (i := 2) rfl))
theorem kX0_isOnCap_4 : Cond.initialized "java/lang/Math" ∈ wsX0_isOnCap := List.mem_cons_of_mem _ (List.mem_append_left _ (List.mem_of_getElem? (i := 3) rfl))
theorem kX0_isOnCap_5 : Cond.code Lib.Math.abs.name Lib.Math.abs.code 1 (some .int) ∈ wsX0_isOnCap := List.mem_cons_of_mem _ (List.mem_append_left _ (List.mem_of_getElem? (i := 4) rfl))
set_option maxHeartbeats 4000000 in
set_option maxRecDepth 100000 in
theorem mX0_isOnCap (l : Launch) (D : va_G) (K : Nat → ClassId) (h : Nat → Nat) (sz : Nat) (a1 : Int32) (bits : Nat → Int64) (stops : Nat → Int32) (num : Int32) (unit : Int32) (strips : Int32) (caps : Int32) (draw : Int32)  {post : Int32 → Prop} (hw : wX0_isOnCap a1 caps post) : Met l yX0_isOnCap wsX0_isOnCap rmX0_isOnCap (va_Pc [.ref (h 0), .int a1] (cP D K (fl [wGl K h (bits, stops, num, unit, strips, caps, draw)]) sz)) (va_Qi (fun (r : Int32) (u : Unit) => post r) (fun u t => cQ D K (fl [wGl K h (bits, stops, num, unit, strips, caps, draw)]) (va_A (fl [wGl K h (bits, stops, num, unit, strips, caps, draw)]) sz) t) (va_A (fl [wGl K h (bits, stops, num, unit, strips, caps, draw)]) sz)) 0 0 (va_A (fl [wGl K h (bits, stops, num, unit, strips, caps, draw)]) sz) := by
  refine x_entry (cc := cX0_isOnCap) (maxL := 2) (ret := (some .boolean)) (QA := fun A => va_Qi (fun (r : Int32) (u : Unit) => post r) (fun u t => cQ D K (fl [wGl K h (bits, stops, num, unit, strips, caps, draw)]) A t) A) (plainFor_of_name (by decide)) rfl (Nat.le_of_ble_eq_true rfl) ?_
  intro p e s m args below meth c A ls H Q hQ hC hlk hr hnm hI hl
  obtain ⟨hx, hb, hml, hown, hts, hK, hA, hZ⟩ := id hC
  obtain ⟨locs, hlocs⟩ : ∃ y : List Loc, y = [] := ⟨_, rfl⟩
  rw [← hlocs] at hI ⊢
  clear hlocs
  replace hl : lv_has ls 2 [(0, .ref (h 0)), (1, .int a1)] := hl
  replace hw : ((caps ≤ 0 → post (0 : Int32)) ∧ (¬ caps ≤ 0 → (((if 0 ≤ a1 then a1 else 0 - a1) < ((6 : Int32) - caps) → post (0 : Int32)) ∧ (¬ (if 0 ≤ a1 then a1 else 0 - a1) < ((6 : Int32) - caps) → post (1 : Int32))))) := hw
  refine lv_aload_n hx hb dX0_isOnCap_0 rfl (lv_at hl 0 rfl) ?_
  refine x_get (v := .int caps) hC hI kX0_isOnCap_cX0 0 rfl rfl 5 (by decide) kX0_isOnCap_0 rfl rfl dX0_isOnCap_1 ?_
  refine lv_if_le (tgt := 25) hx hb dX0_isOnCap_4 (by decide) (fun c1 => ?_) (fun c1 => ?_)
  · replace hw := hw.1 c1
    refine lv_iconst (v := (0 : Int32)) hx hb dX0_isOnCap_25 (by decide) ?_
    subst hQ
    exact x_zret (u := ()) hC hI hr hlk hw rfl (Or.inl rfl) dX0_isOnCap_26
  · replace hw := hw.2 c1
    refine lv_iload_n hx hb dX0_isOnCap_7 rfl (lv_at hl 1 rfl) ?_
    refine va_mabs hx hb (hml.trans hl.1.symm) hown (hts _ kX0_isOnCap_2) (hts _ kX0_isOnCap_3) (hts _ kX0_isOnCap_4) (hts _ kX0_isOnCap_5) (Nat.le_of_ble_eq_true rfl) (Nat.le_of_ble_eq_true rfl) (Nat.le_of_ble_eq_true rfl) (Nat.le_of_ble_eq_true rfl) dX0_isOnCap_8 ?_
    refine lv_bipush (v := (6 : Int32)) hx hb dX0_isOnCap_11 (by decide) ?_
    refine lv_aload_n hx hb dX0_isOnCap_13 rfl (lv_at hl 0 rfl) ?_
    refine x_get (v := .int caps) hC hI kX0_isOnCap_cX0 0 rfl rfl 5 (by decide) kX0_isOnCap_0 rfl rfl dX0_isOnCap_14 ?_
    refine lv_isub hx hb dX0_isOnCap_17 ?_
    refine lv_icmp_lt (tgt := 25) hx hb dX0_isOnCap_18 (by decide) (fun c2 => ?_) (fun c2 => ?_)
    · replace hw := hw.1 c2
      refine lv_iconst (v := (0 : Int32)) hx hb dX0_isOnCap_25 (by decide) ?_
      subst hQ
      exact x_zret (u := ()) hC hI hr hlk hw rfl (Or.inl rfl) dX0_isOnCap_26
    · replace hw := hw.2 c2
      refine lv_iconst (v := (1 : Int32)) hx hb dX0_isOnCap_21 (by decide) ?_
      refine lv_goto (tgt := 26) hx hb dX0_isOnCap_22 (by decide) ?_
      subst hQ
      exact x_zret (u := ()) hC hI hr hlk hw rfl (Or.inr rfl) dX0_isOnCap_26

def wX0_far (a1 : Int32) (a2 : Int32) (unit : Int32) (post : Int32 → Prop) : Prop := ((a1 = a2 → wX1_rowCosine a1 (fun (r2 : Int32) => post ((((2 : Int32) * unit) * r2) / (10000 : Int32)))) ∧ (¬ a1 = a2 → post ((2 : Int32) * unit)))
def rmX0_far : Room := { frames := 1, cells := 0, slots := 0, locals := 20 }
theorem kX0_far_0 : Cond.fieldLink RX0 17 "GoreGlobe$Globe" "unit" "I" ∈ wsX0_far := List.mem_cons_of_mem _ (List.mem_append_left _ (List.mem_of_getElem? (i := 0) rfl))
theorem kX0_far_cX0 : ∀ w ∈ wsX00, w ∈ wsX0_far := fun _ h => List.mem_cons_of_mem _ (List.mem_append_right _ h)
set_option maxHeartbeats 4000000 in
set_option maxRecDepth 100000 in
theorem mX0_far (l : Launch) (D : va_G) (K : Nat → ClassId) (h : Nat → Nat) (sz : Nat) (a1 : Int32) (a2 : Int32) (bits : Nat → Int64) (stops : Nat → Int32) (num : Int32) (unit : Int32) (strips : Int32) (caps : Int32) (draw : Int32)  {post : Int32 → Prop} (hw : wX0_far a1 a2 unit post) : Met l yX0_far wsX0_far rmX0_far (va_Pc [.ref (h 0), .int a1, .int a2] (cP D K (fl [wGl K h (bits, stops, num, unit, strips, caps, draw)]) sz)) (va_Qi (fun (r : Int32) (u : Unit) => post r) (fun u t => cQ D K (fl [wGl K h (bits, stops, num, unit, strips, caps, draw)]) (va_A (fl [wGl K h (bits, stops, num, unit, strips, caps, draw)]) sz) t) (va_A (fl [wGl K h (bits, stops, num, unit, strips, caps, draw)]) sz)) 0 0 (va_A (fl [wGl K h (bits, stops, num, unit, strips, caps, draw)]) sz) := by
  refine x_entry (cc := cX0_far) (maxL := 3) (ret := (some .int)) (QA := fun A => va_Qi (fun (r : Int32) (u : Unit) => post r) (fun u t => cQ D K (fl [wGl K h (bits, stops, num, unit, strips, caps, draw)]) A t) A) (plainFor_of_name (by decide)) rfl (Nat.le_of_ble_eq_true rfl) ?_
  intro p e s m args below meth c A ls H Q hQ hC hlk hr hnm hI hl
  obtain ⟨hx, hb, hml, hown, hts, hK, hA, hZ⟩ := id hC
  obtain ⟨locs, hlocs⟩ : ∃ y : List Loc, y = [] := ⟨_, rfl⟩
  rw [← hlocs] at hI ⊢
  clear hlocs
  replace hl : lv_has ls 3 [(0, .ref (h 0)), (1, .int a1), (2, .int a2)] := hl
  replace hw : ((a1 = a2 → wX1_rowCosine a1 (fun (r2 : Int32) => post ((((2 : Int32) * unit) * r2) / (10000 : Int32)))) ∧ (¬ a1 = a2 → post ((2 : Int32) * unit))) := hw
  refine lv_iload_n hx hb dX0_far_0 rfl (lv_at hl 1 rfl) ?_
  refine lv_iload_n hx hb dX0_far_1 rfl (lv_at hl 2 rfl) ?_
  refine lv_icmp_ne (tgt := 23) hx hb dX0_far_2 (by decide) (fun c1 => ?_) (fun c1 => ?_)
  · replace hw := hw.2 c1
    refine lv_iconst (v := (2 : Int32)) hx hb dX0_far_23 (by decide) ?_
    refine lv_aload_n hx hb dX0_far_24 rfl (lv_at hl 0 rfl) ?_
    refine x_get (v := .int unit) hC hI kX0_far_cX0 0 rfl rfl 3 (by decide) kX0_far_0 rfl rfl dX0_far_25 ?_
    refine lv_imul hx hb dX0_far_28 ?_
    subst hQ
    exact x_iret (u := ()) hC hI hr hlk hw rfl dX0_far_29
  · replace hw := hw.1 c1
    refine lv_iconst (v := (2 : Int32)) hx hb dX0_far_5 (by decide) ?_
    refine lv_aload_n hx hb dX0_far_6 rfl (lv_at hl 0 rfl) ?_
    refine x_get (v := .int unit) hC hI kX0_far_cX0 0 rfl rfl 3 (by decide) kX0_far_0 rfl rfl dX0_far_7 ?_
    refine lv_imul hx hb dX0_far_10 ?_
    refine lv_iload_n hx hb dX0_far_11 rfl (lv_at hl 1 rfl) ?_
    refine x_callSi (rest := [.int ((2 : Int32) * unit)]) hC hI [] (mX1_rowCosine l D K  _ a1 hw) (va_cwS 1 hts gX0_far_X1_rowCosine rfl rfl rfl (by decide +kernel) ⟨(Nat.le_of_ble_eq_true rfl), (Nat.le_of_ble_eq_true rfl)⟩) (by decide) rfl (fun _ => rfl) rfl hl.1 rfl (Nat.le_of_ble_eq_true rfl) dX0_far_12 ⟨(Nat.le_of_ble_eq_true rfl), (Nat.le_of_ble_eq_true rfl)⟩ (fun r2 u H locs hw hI => ?_)
    try dsimp only at hw
    have hI : wI s D A (fl [wGl K h (bits, stops, num, unit, strips, caps, draw)]) H locs := hI
    refine lv_imul hx hb dX0_far_15 ?_
    refine lv_sipush (v := (10000 : Int32)) hx hb dX0_far_16 (by decide) ?_
    refine lv_idiv hx hb dX0_far_19 (by decide) ?_
    refine lv_goto (tgt := 29) hx hb dX0_far_20 (by decide) ?_
    subst hQ
    exact x_iret (u := ()) hC hI hr hlk hw rfl dX0_far_29

def wX0_stopsAt (a1 : Int32) (stops : Nat → Int32) (num : Int32) (post : Int32 → Prop) : Prop := (∃ (I2 : Int32 → Prop) (mu2 : Int32 → Nat), I2 (0 : Int32) ∧ ∀ (l2_2 : Int32), I2 l2_2 → ((num ≤ l2_2 → post (0 : Int32)) ∧ (¬ num ≤ l2_2 → vp_in l2_2 8 ∧ (((stops l2_2.toNatClampNeg) = a1 → post (1 : Int32)) ∧ (¬ (stops l2_2.toNatClampNeg) = a1 → ∀ x4 : Int32, x4 = l2_2 + 1 → (I2 x4 ∧ mu2 x4 < mu2 l2_2))))))
def rmX0_stopsAt : Room := { frames := 0, cells := 0, slots := 0, locals := 0 }
theorem kX0_stopsAt_0 : Cond.fieldLink RX0 36 "GoreGlobe$Globe" "stopNumber" "I" ∈ wsX0_stopsAt := List.mem_cons_of_mem _ (List.mem_append_left _ (List.mem_of_getElem? (i := 0) rfl))
theorem kX0_stopsAt_cX0 : ∀ w ∈ wsX00, w ∈ wsX0_stopsAt := fun _ h => List.mem_cons_of_mem _ (List.mem_append_right _ h)
theorem kX0_stopsAt_2 : Cond.fieldLink RX0 13 "GoreGlobe$Globe" "stops" "[I" ∈ wsX0_stopsAt := List.mem_cons_of_mem _ (List.mem_append_left _ (List.mem_of_getElem? (i := 1) rfl))
set_option maxHeartbeats 4000000 in
set_option maxRecDepth 100000 in
theorem mX0_stopsAt (l : Launch) (D : va_G) (K : Nat → ClassId) (h : Nat → Nat) (sz : Nat) (a1 : Int32) (bits : Nat → Int64) (stops : Nat → Int32) (num : Int32) (unit : Int32) (strips : Int32) (caps : Int32) (draw : Int32)  {post : Int32 → Prop} (hw : wX0_stopsAt a1 stops num post) : Met l yX0_stopsAt wsX0_stopsAt rmX0_stopsAt (va_Pc [.ref (h 0), .int a1] (cP D K (fl [wGl K h (bits, stops, num, unit, strips, caps, draw)]) sz)) (va_Qi (fun (r : Int32) (u : Unit) => post r) (fun u t => cQ D K (fl [wGl K h (bits, stops, num, unit, strips, caps, draw)]) (va_A (fl [wGl K h (bits, stops, num, unit, strips, caps, draw)]) sz) t) (va_A (fl [wGl K h (bits, stops, num, unit, strips, caps, draw)]) sz)) 0 0 (va_A (fl [wGl K h (bits, stops, num, unit, strips, caps, draw)]) sz) := by
  refine x_entry (cc := cX0_stopsAt) (maxL := 3) (ret := (some .boolean)) (QA := fun A => va_Qi (fun (r : Int32) (u : Unit) => post r) (fun u t => cQ D K (fl [wGl K h (bits, stops, num, unit, strips, caps, draw)]) A t) A) (plainFor_of_name (by decide)) rfl (Nat.le_of_ble_eq_true rfl) ?_
  intro p e s m args below meth c A ls H Q hQ hC hlk hr hnm hI hl
  obtain ⟨hx, hb, hml, hown, hts, hK, hA, hZ⟩ := id hC
  obtain ⟨locs, hlocs⟩ : ∃ y : List Loc, y = [] := ⟨_, rfl⟩
  rw [← hlocs] at hI ⊢
  clear hlocs
  replace hl : lv_has ls 3 [(0, .ref (h 0)), (1, .int a1)] := hl
  replace hw : (∃ (I2 : Int32 → Prop) (mu2 : Int32 → Nat), I2 (0 : Int32) ∧ ∀ (l2_2 : Int32), I2 l2_2 → ((num ≤ l2_2 → post (0 : Int32)) ∧ (¬ num ≤ l2_2 → vp_in l2_2 8 ∧ (((stops l2_2.toNatClampNeg) = a1 → post (1 : Int32)) ∧ (¬ (stops l2_2.toNatClampNeg) = a1 → ∀ x4 : Int32, x4 = l2_2 + 1 → (I2 x4 ∧ mu2 x4 < mu2 l2_2)))))) := hw
  refine lv_iconst (v := (0 : Int32)) hx hb dX0_stopsAt_0 (by decide) ?_
  refine lv_istore_n (lv' := [(2, .int (0 : Int32)), (0, .ref (h 0)), (1, .int a1)]) hx hb dX0_stopsAt_1 rfl hl (by decide) rfl (fun ls hl => ?_)
  obtain ⟨I2, mu2, hw, hb2⟩ := hw
  have lp2 : ∀ (k : Nat) (l2_2 : Int32) (ls : Array Slot) (H : Heap) (locs : List Loc), mu2 l2_2 < k → I2 l2_2 → wI s D A (fl [wGl K h (bits, stops, num, unit, strips, caps, draw)]) H locs → lv_has ls 3 [(0, .ref (h 0)), (1, .int a1), (2, .int l2_2)] → W p l e rmX0_stopsAt s m args below meth c H locs 0 0 Q (F0 m 2 ls []) := by
    intro k
    induction k with
    | zero => intro l2_2 ls H locs hmu; exact absurd hmu (Nat.not_lt_zero _)
    | succ k ih2 =>
      intro l2_2 ls H locs hmu2 hw hI hl
      replace hw := hb2 l2_2 hw
      refine lv_iload_n hx hb dX0_stopsAt_2 rfl (lv_at hl 2 rfl) ?_
      refine lv_aload_n hx hb dX0_stopsAt_3 rfl (lv_at hl 0 rfl) ?_
      refine x_get (v := .int num) hC hI kX0_stopsAt_cX0 0 rfl rfl 2 (by decide) kX0_stopsAt_0 rfl rfl dX0_stopsAt_4 ?_
      refine lv_icmp_ge (tgt := 28) hx hb dX0_stopsAt_7 (by decide) (fun c1 => ?_) (fun c1 => ?_)
      · replace hw := hw.1 c1
        refine lv_iconst (v := (0 : Int32)) hx hb dX0_stopsAt_28 (by decide) ?_
        subst hQ
        exact x_zret (u := ()) hC hI hr hlk hw rfl (Or.inl rfl) dX0_stopsAt_29
      · replace hw := hw.2 c1
        refine lv_aload_n hx hb dX0_stopsAt_10 rfl (lv_at hl 0 rfl) ?_
        refine x_get (v := .ref (h 2)) hC hI kX0_stopsAt_cX0 0 rfl rfl 1 (by decide) kX0_stopsAt_2 rfl rfl dX0_stopsAt_11 ?_
        refine lv_iload_n hx hb dX0_stopsAt_14 rfl (lv_at hl 2 rfl) ?_
        obtain ⟨hc2, hw⟩ := hw
        refine x_iald (f := stops) hC hI 2 rfl hc2 dX0_stopsAt_15 ?_
        refine lv_iload_n hx hb dX0_stopsAt_16 rfl (lv_at hl 1 rfl) ?_
        refine lv_icmp_ne (tgt := 22) hx hb dX0_stopsAt_17 (by decide) (fun c3 => ?_) (fun c3 => ?_)
        · replace hw := hw.2 c3
          obtain ⟨x4, ex4⟩ : ∃ y : Int32, y = l2_2 + 1 := ⟨_, rfl⟩
          replace hw := hw x4 ex4
          refine lv_iinc (v := x4) (lv' := [(2, .int x4), (0, .ref (h 0)), (1, .int a1)]) hx hb dX0_stopsAt_22 hl (k := 2) rfl (by rw [ex4]; rfl) (by decide) rfl (fun ls hl => ?_)
          refine lv_goto (tgt := 2) hx hb dX0_stopsAt_25 (by decide) ?_
          exact ih2 x4 ls H locs (Nat.lt_of_lt_of_le hw.2 (Nat.le_of_lt_succ hmu2)) hw.1 hI (lv_sub hl [1, 2, 0] rfl)
        · replace hw := hw.1 c3
          refine lv_iconst (v := (1 : Int32)) hx hb dX0_stopsAt_20 (by decide) ?_
          subst hQ
          exact x_zret (u := ()) hC hI hr hlk hw rfl (Or.inr rfl) dX0_stopsAt_21
  exact lp2 (mu2 (0 : Int32) + 1) (0 : Int32) ls H locs (Nat.lt_succ_self _) hw hI (lv_sub hl [1, 2, 0] rfl)

def wX0_withoutStop (a1 : Int32) (stops : Nat → Int32) (num : Int32) (post : Int32 → (Nat → Int32) → Int32 → Prop) : Prop := (∃ (I4 : Int32 → Int32 → (Nat → Int32) → Prop) (mu4 : Int32 → Int32 → (Nat → Int32) → Nat), I4 (0 : Int32) (0 : Int32) stops ∧ ∀ (l2_4 : Int32) (l3_4 : Int32) (stops_4 : Nat → Int32), I4 l2_4 l3_4 stops_4 → ((num ≤ l3_4 → ∀ x2 : Int32, x2 = num - l2_4 → post x2 stops_4 l2_4) ∧ (¬ num ≤ l3_4 → vp_in l3_4 8 ∧ (((stops_4 l3_4.toNatClampNeg) = a1 → ∀ x5 : Int32, x5 = l3_4 + 1 → (I4 l2_4 x5 stops_4 ∧ mu4 l2_4 x5 stops_4 < mu4 l2_4 l3_4 stops_4)) ∧ (¬ (stops_4 l3_4.toNatClampNeg) = a1 → vp_in l3_4 8 ∧ vp_in l2_4 8 ∧ ∀ x8 : Int32, x8 = l2_4 + 1 → ∀ x9 : Int32, x9 = l3_4 + 1 → (I4 x8 x9 (upd stops_4 l2_4.toNatClampNeg (stops_4 l3_4.toNatClampNeg)) ∧ mu4 x8 x9 (upd stops_4 l2_4.toNatClampNeg (stops_4 l3_4.toNatClampNeg)) < mu4 l2_4 l3_4 stops_4))))))
def rmX0_withoutStop : Room := { frames := 0, cells := 0, slots := 0, locals := 0 }
theorem kX0_withoutStop_0 : Cond.fieldLink RX0 36 "GoreGlobe$Globe" "stopNumber" "I" ∈ wsX0_withoutStop := List.mem_cons_of_mem _ (List.mem_append_left _ (List.mem_of_getElem? (i := 0) rfl))
theorem kX0_withoutStop_cX0 : ∀ w ∈ wsX00, w ∈ wsX0_withoutStop := fun _ h => List.mem_cons_of_mem _ (List.mem_append_right _ h)
theorem kX0_withoutStop_2 : Cond.fieldLink RX0 13 "GoreGlobe$Globe" "stops" "[I" ∈ wsX0_withoutStop := List.mem_cons_of_mem _ (List.mem_append_left _ (List.mem_of_getElem? (i := 1) rfl))
set_option maxHeartbeats 4000000 in
set_option maxRecDepth 100000 in
theorem mX0_withoutStop (l : Launch) (D : va_G) (K : Nat → ClassId) (h : Nat → Nat) (sz : Nat) (a1 : Int32) (bits : Nat → Int64) (stops : Nat → Int32) (num : Int32) (unit : Int32) (strips : Int32) (caps : Int32) (draw : Int32)  {post : Int32 → (Nat → Int32) → Int32 → Prop} (hw : wX0_withoutStop a1 stops num post) : Met l yX0_withoutStop wsX0_withoutStop rmX0_withoutStop (va_Pc [.ref (h 0), .int a1] (cP D K (fl [wGl K h (bits, stops, num, unit, strips, caps, draw)]) sz)) (va_Qi (fun (r : Int32) (u : (Nat → Int32) × Int32) => post r u.1 u.2) (fun u t => cQ D K (fl [wGl K h (bits, u.1, u.2, unit, strips, caps, draw)]) (va_A (fl [wGl K h (bits, stops, num, unit, strips, caps, draw)]) sz) t) (va_A (fl [wGl K h (bits, stops, num, unit, strips, caps, draw)]) sz)) 0 0 (va_A (fl [wGl K h (bits, stops, num, unit, strips, caps, draw)]) sz) := by
  refine x_entry (cc := cX0_withoutStop) (maxL := 4) (ret := (some .int)) (QA := fun A => va_Qi (fun (r : Int32) (u : (Nat → Int32) × Int32) => post r u.1 u.2) (fun u t => cQ D K (fl [wGl K h (bits, u.1, u.2, unit, strips, caps, draw)]) A t) A) (plainFor_of_name (by decide)) rfl (Nat.le_of_ble_eq_true rfl) ?_
  intro p e s m args below meth c A ls H Q hQ hC hlk hr hnm hI hl
  obtain ⟨hx, hb, hml, hown, hts, hK, hA, hZ⟩ := id hC
  obtain ⟨locs, hlocs⟩ : ∃ y : List Loc, y = [] := ⟨_, rfl⟩
  rw [← hlocs] at hI ⊢
  clear hlocs
  replace hl : lv_has ls 4 [(0, .ref (h 0)), (1, .int a1)] := hl
  replace hw : (∃ (I4 : Int32 → Int32 → (Nat → Int32) → Prop) (mu4 : Int32 → Int32 → (Nat → Int32) → Nat), I4 (0 : Int32) (0 : Int32) stops ∧ ∀ (l2_4 : Int32) (l3_4 : Int32) (stops_4 : Nat → Int32), I4 l2_4 l3_4 stops_4 → ((num ≤ l3_4 → ∀ x2 : Int32, x2 = num - l2_4 → post x2 stops_4 l2_4) ∧ (¬ num ≤ l3_4 → vp_in l3_4 8 ∧ (((stops_4 l3_4.toNatClampNeg) = a1 → ∀ x5 : Int32, x5 = l3_4 + 1 → (I4 l2_4 x5 stops_4 ∧ mu4 l2_4 x5 stops_4 < mu4 l2_4 l3_4 stops_4)) ∧ (¬ (stops_4 l3_4.toNatClampNeg) = a1 → vp_in l3_4 8 ∧ vp_in l2_4 8 ∧ ∀ x8 : Int32, x8 = l2_4 + 1 → ∀ x9 : Int32, x9 = l3_4 + 1 → (I4 x8 x9 (upd stops_4 l2_4.toNatClampNeg (stops_4 l3_4.toNatClampNeg)) ∧ mu4 x8 x9 (upd stops_4 l2_4.toNatClampNeg (stops_4 l3_4.toNatClampNeg)) < mu4 l2_4 l3_4 stops_4)))))) := hw
  refine lv_iconst (v := (0 : Int32)) hx hb dX0_withoutStop_0 (by decide) ?_
  refine lv_istore_n (lv' := [(2, .int (0 : Int32)), (0, .ref (h 0)), (1, .int a1)]) hx hb dX0_withoutStop_1 rfl hl (by decide) rfl (fun ls hl => ?_)
  refine lv_iconst (v := (0 : Int32)) hx hb dX0_withoutStop_2 (by decide) ?_
  refine lv_istore_n (lv' := [(3, .int (0 : Int32)), (2, .int (0 : Int32)), (0, .ref (h 0)), (1, .int a1)]) hx hb dX0_withoutStop_3 rfl hl (by decide) rfl (fun ls hl => ?_)
  obtain ⟨I4, mu4, hw, hb4⟩ := hw
  have lp4 : ∀ (k : Nat) (l2_4 : Int32) (l3_4 : Int32) (stops_4 : Nat → Int32) (ls : Array Slot) (H : Heap) (locs : List Loc), mu4 l2_4 l3_4 stops_4 < k → I4 l2_4 l3_4 stops_4 → wI s D A (fl [wGl K h (bits, stops_4, num, unit, strips, caps, draw)]) H locs → lv_has ls 4 [(0, .ref (h 0)), (1, .int a1), (2, .int l2_4), (3, .int l3_4)] → W p l e rmX0_withoutStop s m args below meth c H locs 0 0 Q (F0 m 4 ls []) := by
    intro k
    induction k with
    | zero => intro l2_4 l3_4 stops_4 ls H locs hmu; exact absurd hmu (Nat.not_lt_zero _)
    | succ k ih4 =>
      intro l2_4 l3_4 stops_4 ls H locs hmu4 hw hI hl
      replace hw := hb4 l2_4 l3_4 stops_4 hw
      refine lv_iload_n hx hb dX0_withoutStop_4 rfl (lv_at hl 3 rfl) ?_
      refine lv_aload_n hx hb dX0_withoutStop_5 rfl (lv_at hl 0 rfl) ?_
      refine x_get (v := .int num) hC hI kX0_withoutStop_cX0 0 rfl rfl 2 (by decide) kX0_withoutStop_0 rfl rfl dX0_withoutStop_6 ?_
      refine lv_icmp_ge (tgt := 43) hx hb dX0_withoutStop_9 (by decide) (fun c1 => ?_) (fun c1 => ?_)
      · replace hw := hw.1 c1
        refine lv_aload_n hx hb dX0_withoutStop_43 rfl (lv_at hl 0 rfl) ?_
        refine x_get (v := .int num) hC hI kX0_withoutStop_cX0 0 rfl rfl 2 (by decide) kX0_withoutStop_0 rfl rfl dX0_withoutStop_44 ?_
        refine lv_iload_n hx hb dX0_withoutStop_47 rfl (lv_at hl 2 rfl) ?_
        refine lv_isub hx hb dX0_withoutStop_48 ?_
        refine lv_topi (fun x2 ex2 => ?_)
        replace hw := hw x2 ex2
        refine lv_istore_n (lv' := [(3, .int x2), (0, .ref (h 0)), (1, .int a1), (2, .int l2_4)]) hx hb dX0_withoutStop_49 rfl hl (by decide) rfl (fun ls hl => ?_)
        refine lv_aload_n hx hb dX0_withoutStop_50 rfl (lv_at hl 1 rfl) ?_
        refine lv_iload_n hx hb dX0_withoutStop_51 rfl (lv_at hl 3 rfl) ?_
        refine x_put (v := .int l2_4) hC hI kX0_withoutStop_cX0 tyX0 tyX0_ok nmX0 0 rfl rfl 2 (by decide) kX0_withoutStop_0 rfl rfl rfl rfl (Nat.le_of_ble_eq_true rfl) dX0_withoutStop_52 (fun H locs hI => ?_)
        have hI : wI s D A (fl [wGl K h (bits, stops_4, l2_4, unit, strips, caps, draw)]) H locs := hI
        refine lv_iload_n hx hb dX0_withoutStop_55 rfl (lv_at hl 0 rfl) ?_
        subst hQ
        exact x_iret (u := (stops_4, l2_4)) hC hI hr hlk hw rfl dX0_withoutStop_56
      · replace hw := hw.2 c1
        refine lv_aload_n hx hb dX0_withoutStop_12 rfl (lv_at hl 0 rfl) ?_
        refine x_get (v := .ref (h 2)) hC hI kX0_withoutStop_cX0 0 rfl rfl 1 (by decide) kX0_withoutStop_2 rfl rfl dX0_withoutStop_13 ?_
        refine lv_iload_n hx hb dX0_withoutStop_16 rfl (lv_at hl 3 rfl) ?_
        obtain ⟨hc3, hw⟩ := hw
        refine x_iald (f := stops_4) hC hI 2 rfl hc3 dX0_withoutStop_17 ?_
        refine lv_iload_n hx hb dX0_withoutStop_18 rfl (lv_at hl 1 rfl) ?_
        refine lv_icmp_eq (tgt := 37) hx hb dX0_withoutStop_19 (by decide) (fun c4 => ?_) (fun c4 => ?_)
        · replace hw := hw.1 c4
          obtain ⟨x5, ex5⟩ : ∃ y : Int32, y = l3_4 + 1 := ⟨_, rfl⟩
          replace hw := hw x5 ex5
          refine lv_iinc (v := x5) (lv' := [(3, .int x5), (0, .ref (h 0)), (1, .int a1), (2, .int l2_4)]) hx hb dX0_withoutStop_37 hl (k := 3) rfl (by rw [ex5]; rfl) (by decide) rfl (fun ls hl => ?_)
          refine lv_goto (tgt := 4) hx hb dX0_withoutStop_40 (by decide) ?_
          exact ih4 l2_4 x5 stops_4 ls H locs (Nat.lt_of_lt_of_le hw.2 (Nat.le_of_lt_succ hmu4)) hw.1 hI (lv_sub hl [1, 2, 3, 0] rfl)
        · replace hw := hw.2 c4
          refine lv_aload_n hx hb dX0_withoutStop_22 rfl (lv_at hl 0 rfl) ?_
          refine x_get (v := .ref (h 2)) hC hI kX0_withoutStop_cX0 0 rfl rfl 1 (by decide) kX0_withoutStop_2 rfl rfl dX0_withoutStop_23 ?_
          refine lv_iload_n hx hb dX0_withoutStop_26 rfl (lv_at hl 2 rfl) ?_
          refine lv_aload_n hx hb dX0_withoutStop_27 rfl (lv_at hl 0 rfl) ?_
          refine x_get (v := .ref (h 2)) hC hI kX0_withoutStop_cX0 0 rfl rfl 1 (by decide) kX0_withoutStop_2 rfl rfl dX0_withoutStop_28 ?_
          refine lv_iload_n hx hb dX0_withoutStop_31 rfl (lv_at hl 3 rfl) ?_
          obtain ⟨hc6, hw⟩ := hw
          refine x_iald (f := stops_4) hC hI 2 rfl hc6 dX0_withoutStop_32 ?_
          obtain ⟨hc7, hw⟩ := hw
          refine x_iast (f := stops_4) hC hI 2 rfl hc7 dX0_withoutStop_33 (fun H locs hI => ?_)
          have hI : wI s D A (fl [wGl K h (bits, (upd stops_4 l2_4.toNatClampNeg (stops_4 l3_4.toNatClampNeg)), num, unit, strips, caps, draw)]) H locs := hI
          obtain ⟨x8, ex8⟩ : ∃ y : Int32, y = l2_4 + 1 := ⟨_, rfl⟩
          replace hw := hw x8 ex8
          refine lv_iinc (v := x8) (lv' := [(2, .int x8), (0, .ref (h 0)), (1, .int a1), (3, .int l3_4)]) hx hb dX0_withoutStop_34 hl (k := 2) rfl (by rw [ex8]; rfl) (by decide) rfl (fun ls hl => ?_)
          obtain ⟨x9, ex9⟩ : ∃ y : Int32, y = l3_4 + 1 := ⟨_, rfl⟩
          replace hw := hw x9 ex9
          refine lv_iinc (v := x9) (lv' := [(3, .int x9), (2, .int x8), (0, .ref (h 0)), (1, .int a1)]) hx hb dX0_withoutStop_37 hl (k := 3) rfl (by rw [ex9]; rfl) (by decide) rfl (fun ls hl => ?_)
          refine lv_goto (tgt := 4) hx hb dX0_withoutStop_40 (by decide) ?_
          exact ih4 x8 x9 (upd stops_4 l2_4.toNatClampNeg (stops_4 l3_4.toNatClampNeg)) ls H locs (Nat.lt_of_lt_of_le hw.2 (Nat.le_of_lt_succ hmu4)) hw.1 hI (lv_sub hl [2, 3, 1, 0] rfl)
  exact lp4 (mu4 (0 : Int32) (0 : Int32) stops + 1) (0 : Int32) (0 : Int32) stops ls H locs (Nat.lt_succ_self _) hw hI (lv_sub hl [2, 3, 1, 0] rfl)

def wX0_turnRoute  (stops : Nat → Int32) (num : Int32) (post : (Nat → Int32) → Prop) : Prop := (∃ (I2 : Int32 → (Nat → Int32) → Prop) (mu2 : Int32 → (Nat → Int32) → Nat), I2 (0 : Int32) stops ∧ ∀ (l1_2 : Int32) (stops_2 : Nat → Int32), I2 l1_2 stops_2 → (((num / (2 : Int32)) ≤ l1_2 → post stops_2) ∧ (¬ (num / (2 : Int32)) ≤ l1_2 → ∀ x2 : Int32, x2 = (num - (1 : Int32)) - l1_2 → vp_in l1_2 8 ∧ ∀ x4 : Int32, x4 = stops_2 l1_2.toNatClampNeg → vp_in x2 8 ∧ vp_in l1_2 8 ∧ vp_in x2 8 ∧ ∀ x8 : Int32, x8 = l1_2 + 1 → (I2 x8 (upd (upd stops_2 l1_2.toNatClampNeg (stops_2 x2.toNatClampNeg)) x2.toNatClampNeg x4) ∧ mu2 x8 (upd (upd stops_2 l1_2.toNatClampNeg (stops_2 x2.toNatClampNeg)) x2.toNatClampNeg x4) < mu2 l1_2 stops_2))))
def rmX0_turnRoute : Room := { frames := 0, cells := 0, slots := 0, locals := 0 }
theorem kX0_turnRoute_0 : Cond.fieldLink RX0 36 "GoreGlobe$Globe" "stopNumber" "I" ∈ wsX0_turnRoute := List.mem_cons_of_mem _ (List.mem_append_left _ (List.mem_of_getElem? (i := 0) rfl))
theorem kX0_turnRoute_cX0 : ∀ w ∈ wsX00, w ∈ wsX0_turnRoute := fun _ h => List.mem_cons_of_mem _ (List.mem_append_right _ h)
theorem kX0_turnRoute_2 : Cond.fieldLink RX0 13 "GoreGlobe$Globe" "stops" "[I" ∈ wsX0_turnRoute := List.mem_cons_of_mem _ (List.mem_append_left _ (List.mem_of_getElem? (i := 1) rfl))
set_option maxHeartbeats 4000000 in
set_option maxRecDepth 100000 in
theorem mX0_turnRoute (l : Launch) (D : va_G) (K : Nat → ClassId) (h : Nat → Nat) (sz : Nat)  (bits : Nat → Int64) (stops : Nat → Int32) (num : Int32) (unit : Int32) (strips : Int32) (caps : Int32) (draw : Int32)  {post : (Nat → Int32) → Prop} (hw : wX0_turnRoute  stops num post) : Met l yX0_turnRoute wsX0_turnRoute rmX0_turnRoute (va_Pc [.ref (h 0)] (cP D K (fl [wGl K h (bits, stops, num, unit, strips, caps, draw)]) sz)) (va_Qv (fun (u : (Nat → Int32)) => post u) (fun u t => cQ D K (fl [wGl K h (bits, u, num, unit, strips, caps, draw)]) (va_A (fl [wGl K h (bits, stops, num, unit, strips, caps, draw)]) sz) t) (va_A (fl [wGl K h (bits, stops, num, unit, strips, caps, draw)]) sz)) 0 0 (va_A (fl [wGl K h (bits, stops, num, unit, strips, caps, draw)]) sz) := by
  refine x_entry (cc := cX0_turnRoute) (maxL := 4) (ret := none) (QA := fun A => va_Qv (fun (u : (Nat → Int32)) => post u) (fun u t => cQ D K (fl [wGl K h (bits, u, num, unit, strips, caps, draw)]) A t) A) (plainFor_of_name (by decide)) rfl (Nat.le_of_ble_eq_true rfl) ?_
  intro p e s m args below meth c A ls H Q hQ hC hlk hr hnm hI hl
  obtain ⟨hx, hb, hml, hown, hts, hK, hA, hZ⟩ := id hC
  obtain ⟨locs, hlocs⟩ : ∃ y : List Loc, y = [] := ⟨_, rfl⟩
  rw [← hlocs] at hI ⊢
  clear hlocs
  replace hl : lv_has ls 4 [(0, .ref (h 0))] := hl
  replace hw : (∃ (I2 : Int32 → (Nat → Int32) → Prop) (mu2 : Int32 → (Nat → Int32) → Nat), I2 (0 : Int32) stops ∧ ∀ (l1_2 : Int32) (stops_2 : Nat → Int32), I2 l1_2 stops_2 → (((num / (2 : Int32)) ≤ l1_2 → post stops_2) ∧ (¬ (num / (2 : Int32)) ≤ l1_2 → ∀ x2 : Int32, x2 = (num - (1 : Int32)) - l1_2 → vp_in l1_2 8 ∧ ∀ x4 : Int32, x4 = stops_2 l1_2.toNatClampNeg → vp_in x2 8 ∧ vp_in l1_2 8 ∧ vp_in x2 8 ∧ ∀ x8 : Int32, x8 = l1_2 + 1 → (I2 x8 (upd (upd stops_2 l1_2.toNatClampNeg (stops_2 x2.toNatClampNeg)) x2.toNatClampNeg x4) ∧ mu2 x8 (upd (upd stops_2 l1_2.toNatClampNeg (stops_2 x2.toNatClampNeg)) x2.toNatClampNeg x4) < mu2 l1_2 stops_2)))) := hw
  refine lv_iconst (v := (0 : Int32)) hx hb dX0_turnRoute_0 (by decide) ?_
  refine lv_istore_n (lv' := [(1, .int (0 : Int32)), (0, .ref (h 0))]) hx hb dX0_turnRoute_1 rfl hl (by decide) rfl (fun ls hl => ?_)
  obtain ⟨I2, mu2, hw, hb2⟩ := hw
  have lp2 : ∀ (k : Nat) (l1_2 : Int32) (stops_2 : Nat → Int32) (ls : Array Slot) (H : Heap) (locs : List Loc), mu2 l1_2 stops_2 < k → I2 l1_2 stops_2 → wI s D A (fl [wGl K h (bits, stops_2, num, unit, strips, caps, draw)]) H locs → lv_has ls 4 [(0, .ref (h 0)), (1, .int l1_2)] → W p l e rmX0_turnRoute s m args below meth c H locs 0 0 Q (F0 m 2 ls []) := by
    intro k
    induction k with
    | zero => intro l1_2 stops_2 ls H locs hmu; exact absurd hmu (Nat.not_lt_zero _)
    | succ k ih2 =>
      intro l1_2 stops_2 ls H locs hmu2 hw hI hl
      replace hw := hb2 l1_2 stops_2 hw
      refine lv_iload_n hx hb dX0_turnRoute_2 rfl (lv_at hl 1 rfl) ?_
      refine lv_aload_n hx hb dX0_turnRoute_3 rfl (lv_at hl 0 rfl) ?_
      refine x_get (v := .int num) hC hI kX0_turnRoute_cX0 0 rfl rfl 2 (by decide) kX0_turnRoute_0 rfl rfl dX0_turnRoute_4 ?_
      refine lv_iconst (v := (2 : Int32)) hx hb dX0_turnRoute_7 (by decide) ?_
      refine lv_idiv hx hb dX0_turnRoute_8 (by decide) ?_
      refine lv_icmp_ge (tgt := 53) hx hb dX0_turnRoute_9 (by decide) (fun c1 => ?_) (fun c1 => ?_)
      · replace hw := hw.1 c1
        subst hQ
        exact x_vret (u := stops_2) hC hI hr hlk hw rfl dX0_turnRoute_53
      · replace hw := hw.2 c1
        refine lv_aload_n hx hb dX0_turnRoute_12 rfl (lv_at hl 0 rfl) ?_
        refine x_get (v := .int num) hC hI kX0_turnRoute_cX0 0 rfl rfl 2 (by decide) kX0_turnRoute_0 rfl rfl dX0_turnRoute_13 ?_
        refine lv_iconst (v := (1 : Int32)) hx hb dX0_turnRoute_16 (by decide) ?_
        refine lv_isub hx hb dX0_turnRoute_17 ?_
        refine lv_iload_n hx hb dX0_turnRoute_18 rfl (lv_at hl 1 rfl) ?_
        refine lv_isub hx hb dX0_turnRoute_19 ?_
        refine lv_topi (fun x2 ex2 => ?_)
        replace hw := hw x2 ex2
        refine lv_istore_n (lv' := [(2, .int x2), (0, .ref (h 0)), (1, .int l1_2)]) hx hb dX0_turnRoute_20 rfl hl (by decide) rfl (fun ls hl => ?_)
        refine lv_aload_n hx hb dX0_turnRoute_21 rfl (lv_at hl 1 rfl) ?_
        refine x_get (v := .ref (h 2)) hC hI kX0_turnRoute_cX0 0 rfl rfl 1 (by decide) kX0_turnRoute_2 rfl rfl dX0_turnRoute_22 ?_
        refine lv_iload_n hx hb dX0_turnRoute_25 rfl (lv_at hl 2 rfl) ?_
        obtain ⟨hc3, hw⟩ := hw
        refine x_iald (f := stops_2) hC hI 2 rfl hc3 dX0_turnRoute_26 ?_
        refine lv_topi (fun x4 ex4 => ?_)
        replace hw := hw x4 ex4
        refine lv_istore_n (lv' := [(3, .int x4), (2, .int x2), (0, .ref (h 0)), (1, .int l1_2)]) hx hb dX0_turnRoute_27 rfl hl (by decide) rfl (fun ls hl => ?_)
        refine lv_aload_n hx hb dX0_turnRoute_28 rfl (lv_at hl 2 rfl) ?_
        refine x_get (v := .ref (h 2)) hC hI kX0_turnRoute_cX0 0 rfl rfl 1 (by decide) kX0_turnRoute_2 rfl rfl dX0_turnRoute_29 ?_
        refine lv_iload_n hx hb dX0_turnRoute_32 rfl (lv_at hl 3 rfl) ?_
        refine lv_aload_n hx hb dX0_turnRoute_33 rfl (lv_at hl 2 rfl) ?_
        refine x_get (v := .ref (h 2)) hC hI kX0_turnRoute_cX0 0 rfl rfl 1 (by decide) kX0_turnRoute_2 rfl rfl dX0_turnRoute_34 ?_
        refine lv_iload_n hx hb dX0_turnRoute_37 rfl (lv_at hl 1 rfl) ?_
        obtain ⟨hc5, hw⟩ := hw
        refine x_iald (f := stops_2) hC hI 2 rfl hc5 dX0_turnRoute_38 ?_
        obtain ⟨hc6, hw⟩ := hw
        refine x_iast (f := stops_2) hC hI 2 rfl hc6 dX0_turnRoute_39 (fun H locs hI => ?_)
        have hI : wI s D A (fl [wGl K h (bits, (upd stops_2 l1_2.toNatClampNeg (stops_2 x2.toNatClampNeg)), num, unit, strips, caps, draw)]) H locs := hI
        refine lv_aload_n hx hb dX0_turnRoute_40 rfl (lv_at hl 2 rfl) ?_
        refine x_get (v := .ref (h 2)) hC hI kX0_turnRoute_cX0 0 rfl rfl 1 (by decide) kX0_turnRoute_2 rfl rfl dX0_turnRoute_41 ?_
        refine lv_iload_n hx hb dX0_turnRoute_44 rfl (lv_at hl 1 rfl) ?_
        refine lv_iload_n hx hb dX0_turnRoute_45 rfl (lv_at hl 0 rfl) ?_
        obtain ⟨hc7, hw⟩ := hw
        refine x_iast (f := (upd stops_2 l1_2.toNatClampNeg (stops_2 x2.toNatClampNeg))) hC hI 2 rfl hc7 dX0_turnRoute_46 (fun H locs hI => ?_)
        have hI : wI s D A (fl [wGl K h (bits, (upd (upd stops_2 l1_2.toNatClampNeg (stops_2 x2.toNatClampNeg)) x2.toNatClampNeg x4), num, unit, strips, caps, draw)]) H locs := hI
        obtain ⟨x8, ex8⟩ : ∃ y : Int32, y = l1_2 + 1 := ⟨_, rfl⟩
        replace hw := hw x8 ex8
        refine lv_iinc (v := x8) (lv' := [(1, .int x8), (3, .int x4), (2, .int x2), (0, .ref (h 0))]) hx hb dX0_turnRoute_47 hl (k := 3) rfl (by rw [ex8]; rfl) (by decide) rfl (fun ls hl => ?_)
        refine lv_goto (tgt := 2) hx hb dX0_turnRoute_50 (by decide) ?_
        exact ih2 x8 (upd (upd stops_2 l1_2.toNatClampNeg (stops_2 x2.toNatClampNeg)) x2.toNatClampNeg x4) ls H locs (Nat.lt_of_lt_of_le hw.2 (Nat.le_of_lt_succ hmu2)) hw.1 hI (lv_sub hl [3, 0] rfl)
  exact lp2 (mu2 (0 : Int32) stops + 1) (0 : Int32) stops ls H locs (Nat.lt_succ_self _) hw hI (lv_sub hl [1, 0] rfl)

def wX0_driftOnce  (bits : Nat → Int64) (draw : Int32) (post : (Nat → Int64) → Int32 → Prop) : Prop := ∀ x1 : Int32, x1 = ((draw * (1103515245 : Int32)) + (12345 : Int32)) &&& (2147483647 : Int32) → wX0_turnOver ((x1 / (65536 : Int32)) - (x1 / (65536 : Int32)) / (266 : Int32) * (266 : Int32)) bits (fun (bits_c2 : Nat → Int64) => post bits_c2 x1)
def rmX0_driftOnce : Room := { frames := 1, cells := 0, slots := 0, locals := 21 }
theorem kX0_driftOnce_0 : Cond.fieldLink RX0 27 "GoreGlobe$Globe" "draw" "I" ∈ wsX0_driftOnce := List.mem_cons_of_mem _ (List.mem_append_left _ (List.mem_of_getElem? (i := 0) rfl))
theorem kX0_driftOnce_cX0 : ∀ w ∈ wsX00, w ∈ wsX0_driftOnce := fun _ h => List.mem_cons_of_mem _ (List.mem_append_right _ h)
theorem kX0_driftOnce_2 : Cond.constant RX0 66 (1103515245) ∈ wsX0_driftOnce := List.mem_cons_of_mem _ (List.mem_append_left _ (List.mem_of_getElem? (i := 1) rfl))
theorem kX0_driftOnce_3 : Cond.constant RX0 67 (2147483647) ∈ wsX0_driftOnce := List.mem_cons_of_mem _ (List.mem_append_left _ (List.mem_of_getElem? (i := 2) rfl))
theorem kX0_driftOnce_4 : Cond.constant RX0 68 (65536) ∈ wsX0_driftOnce := List.mem_cons_of_mem _ (List.mem_append_left _ (List.mem_of_getElem? (i := 3) rfl))
set_option maxHeartbeats 4000000 in
set_option maxRecDepth 100000 in
theorem mX0_driftOnce (l : Launch) (D : va_G) (K : Nat → ClassId) (h : Nat → Nat) (sz : Nat)  (bits : Nat → Int64) (stops : Nat → Int32) (num : Int32) (unit : Int32) (strips : Int32) (caps : Int32) (draw : Int32)  {post : (Nat → Int64) → Int32 → Prop} (hw : wX0_driftOnce  bits draw post) : Met l yX0_driftOnce wsX0_driftOnce rmX0_driftOnce (va_Pc [.ref (h 0)] (cP D K (fl [wGl K h (bits, stops, num, unit, strips, caps, draw)]) sz)) (va_Qv (fun (u : (Nat → Int64) × Int32) => post u.1 u.2) (fun u t => cQ D K (fl [wGl K h (u.1, stops, num, unit, strips, caps, u.2)]) (va_A (fl [wGl K h (bits, stops, num, unit, strips, caps, draw)]) sz) t) (va_A (fl [wGl K h (bits, stops, num, unit, strips, caps, draw)]) sz)) 0 0 (va_A (fl [wGl K h (bits, stops, num, unit, strips, caps, draw)]) sz) := by
  refine x_entry (cc := cX0_driftOnce) (maxL := 1) (ret := none) (QA := fun A => va_Qv (fun (u : (Nat → Int64) × Int32) => post u.1 u.2) (fun u t => cQ D K (fl [wGl K h (u.1, stops, num, unit, strips, caps, u.2)]) A t) A) (plainFor_of_name (by decide)) rfl (Nat.le_of_ble_eq_true rfl) ?_
  intro p e s m args below meth c A ls H Q hQ hC hlk hr hnm hI hl
  obtain ⟨hx, hb, hml, hown, hts, hK, hA, hZ⟩ := id hC
  obtain ⟨locs, hlocs⟩ : ∃ y : List Loc, y = [] := ⟨_, rfl⟩
  rw [← hlocs] at hI ⊢
  clear hlocs
  replace hl : lv_has ls 1 [(0, .ref (h 0))] := hl
  replace hw : ∀ x1 : Int32, x1 = ((draw * (1103515245 : Int32)) + (12345 : Int32)) &&& (2147483647 : Int32) → wX0_turnOver ((x1 / (65536 : Int32)) - (x1 / (65536 : Int32)) / (266 : Int32) * (266 : Int32)) bits (fun (bits_c2 : Nat → Int64) => post bits_c2 x1) := hw
  refine lv_aload_n hx hb dX0_driftOnce_0 rfl (lv_at hl 0 rfl) ?_
  refine lv_aload_n hx hb dX0_driftOnce_1 rfl (lv_at hl 0 rfl) ?_
  refine x_get (v := .int draw) hC hI kX0_driftOnce_cX0 0 rfl rfl 6 (by decide) kX0_driftOnce_0 rfl rfl dX0_driftOnce_2 ?_
  refine lv_ldc (v := (1103515245 : Int32)) hx hb hown (hts _ kX0_driftOnce_2) dX0_driftOnce_5 ?_
  refine lv_imul hx hb dX0_driftOnce_7 ?_
  refine lv_sipush (v := (12345 : Int32)) hx hb dX0_driftOnce_8 (by decide) ?_
  refine lv_iadd hx hb dX0_driftOnce_11 ?_
  refine lv_ldc (v := (2147483647 : Int32)) hx hb hown (hts _ kX0_driftOnce_3) dX0_driftOnce_12 ?_
  refine lv_iand hx hb dX0_driftOnce_14 ?_
  refine lv_topi (fun x1 ex1 => ?_)
  replace hw := hw x1 ex1
  refine x_put (v := .int x1) hC hI kX0_driftOnce_cX0 tyX0 tyX0_ok nmX0 0 rfl rfl 6 (by decide) kX0_driftOnce_0 rfl rfl rfl rfl (Nat.le_of_ble_eq_true rfl) dX0_driftOnce_15 (fun H locs hI => ?_)
  have hI : wI s D A (fl [wGl K h (bits, stops, num, unit, strips, caps, x1)]) H locs := hI
  refine lv_aload_n hx hb dX0_driftOnce_18 rfl (lv_at hl 0 rfl) ?_
  refine lv_aload_n hx hb dX0_driftOnce_19 rfl (lv_at hl 0 rfl) ?_
  refine x_get (v := .int x1) hC hI kX0_driftOnce_cX0 0 rfl rfl 6 (by decide) kX0_driftOnce_0 rfl rfl dX0_driftOnce_20 ?_
  refine lv_ldc (v := (65536 : Int32)) hx hb hown (hts _ kX0_driftOnce_4) dX0_driftOnce_23 ?_
  refine lv_idiv hx hb dX0_driftOnce_25 (by decide) ?_
  refine lv_sipush (v := (266 : Int32)) hx hb dX0_driftOnce_26 (by decide) ?_
  refine lv_irem hx hb dX0_driftOnce_29 (by decide) ?_
  refine x_callVv (rest := []) hC hI [0] (mX0_turnOver l D K h _ ((x1 / (65536 : Int32)) - (x1 / (65536 : Int32)) / (266 : Int32) * (266 : Int32)) bits stops num unit strips caps x1 hw) (cwV 1 hts gX0_driftOnce_X0_turnOver rfl rfl rfl (by decide +kernel) ⟨(Nat.le_of_ble_eq_true rfl), (Nat.le_of_ble_eq_true rfl)⟩) (by decide) rfl (fun _ => rfl) 0 0 rfl rfl rfl rfl hl.1 rfl (Nat.le_of_ble_eq_true rfl) dX0_driftOnce_30 ⟨(Nat.le_of_ble_eq_true rfl), (Nat.le_of_ble_eq_true rfl)⟩ (fun bits_c2 H locs hw hI => ?_)
  have hI : wI s D A (fl [wGl K h (bits_c2, stops, num, unit, strips, caps, x1)]) H locs := hI
  subst hQ
  exact x_vret (u := (bits_c2, x1)) hC hI hr hlk hw rfl dX0_driftOnce_33
