def wJ13_bitCount_95d88 (a0 : Int64)  (post : Int32 → Prop) : Prop := ∀ x1 : Int64, x1 = a0 - (((a0.toUInt64 >>> ((1 : Int32).toInt64.toUInt64 &&& Int64.toUInt64 63)).toInt64) &&& (6148914691236517205 : Int64)) → ∀ x2 : Int64, x2 = (x1 &&& (3689348814741910323 : Int64)) + (((x1.toUInt64 >>> ((2 : Int32).toInt64.toUInt64 &&& Int64.toUInt64 63)).toInt64) &&& (3689348814741910323 : Int64)) → ∀ x3 : Int64, x3 = (x2 + ((x2.toUInt64 >>> ((4 : Int32).toInt64.toUInt64 &&& Int64.toUInt64 63)).toInt64)) &&& (1085102592571150095 : Int64) → ∀ x4 : Int64, x4 = x3 + ((x3.toUInt64 >>> ((8 : Int32).toInt64.toUInt64 &&& Int64.toUInt64 63)).toInt64) → ∀ x5 : Int64, x5 = x4 + ((x4.toUInt64 >>> ((16 : Int32).toInt64.toUInt64 &&& Int64.toUInt64 63)).toInt64) → ∀ x6 : Int64, x6 = x5 + ((x5.toUInt64 >>> ((32 : Int32).toInt64.toUInt64 &&& Int64.toUInt64 63)).toInt64) → post (x6.toInt32 &&& (127 : Int32))
def rmJ13_bitCount_95d88 : Room := { frames := 0, cells := 0, slots := 0, locals := 0 }
theorem kJ13_bitCount_95d88_0 : Cond.constantLong RJ13 314 (6148914691236517205) ∈ wsJ13_bitCount_95d88 := List.mem_cons_of_mem _ (List.mem_of_getElem? (i := 0) rfl)
theorem kJ13_bitCount_95d88_1 : Cond.constantLong RJ13 316 (3689348814741910323) ∈ wsJ13_bitCount_95d88 := List.mem_cons_of_mem _ (List.mem_of_getElem? (i := 1) rfl)
theorem kJ13_bitCount_95d88_2 : Cond.constantLong RJ13 318 (1085102592571150095) ∈ wsJ13_bitCount_95d88 := List.mem_cons_of_mem _ (List.mem_of_getElem? (i := 2) rfl)
set_option maxHeartbeats 4000000 in
set_option maxRecDepth 100000 in
theorem mJ13_bitCount_95d88 (l : Launch) (D : va_G) (K : Nat → ClassId)  (sz : Nat) (a0 : Int64)   {post : Int32 → Prop} (hw : wJ13_bitCount_95d88 a0  post) : Met l yJ13_bitCount_95d88 wsJ13_bitCount_95d88 rmJ13_bitCount_95d88 (va_Pc [.long a0] (cP D K (fl []) sz)) (va_Qi (fun (r : Int32) (u : Unit) => post r) (fun u t => cQ D K (fl []) (va_A (fl []) sz) t) (va_A (fl []) sz)) 0 0 (va_A (fl []) sz) := by
  refine x_entry (cc := cJ13_bitCount_95d88) (maxL := 2) (ret := (some .int)) (QA := fun A => va_Qi (fun (r : Int32) (u : Unit) => post r) (fun u t => cQ D K (fl []) A t) A) (plainFor_of_name (by decide)) rfl (Nat.le_of_ble_eq_true rfl) ?_
  intro p e s m args below meth c A ls H Q hQ hC hlk hr hnm hI hl
  obtain ⟨hx, hb, hml, hown, hts, hK, hA, hZ⟩ := id hC
  obtain ⟨locs, hlocs⟩ : ∃ y : List Loc, y = [] := ⟨_, rfl⟩
  rw [← hlocs] at hI ⊢
  clear hlocs
  replace hl : lv_has ls 2 [(0, .long a0)] := hl
  replace hw : ∀ x1 : Int64, x1 = a0 - (((a0.toUInt64 >>> ((1 : Int32).toInt64.toUInt64 &&& Int64.toUInt64 63)).toInt64) &&& (6148914691236517205 : Int64)) → ∀ x2 : Int64, x2 = (x1 &&& (3689348814741910323 : Int64)) + (((x1.toUInt64 >>> ((2 : Int32).toInt64.toUInt64 &&& Int64.toUInt64 63)).toInt64) &&& (3689348814741910323 : Int64)) → ∀ x3 : Int64, x3 = (x2 + ((x2.toUInt64 >>> ((4 : Int32).toInt64.toUInt64 &&& Int64.toUInt64 63)).toInt64)) &&& (1085102592571150095 : Int64) → ∀ x4 : Int64, x4 = x3 + ((x3.toUInt64 >>> ((8 : Int32).toInt64.toUInt64 &&& Int64.toUInt64 63)).toInt64) → ∀ x5 : Int64, x5 = x4 + ((x4.toUInt64 >>> ((16 : Int32).toInt64.toUInt64 &&& Int64.toUInt64 63)).toInt64) → ∀ x6 : Int64, x6 = x5 + ((x5.toUInt64 >>> ((32 : Int32).toInt64.toUInt64 &&& Int64.toUInt64 63)).toInt64) → post (x6.toInt32 &&& (127 : Int32)) := hw
  refine lv_lload_n hx hb dJ13_bitCount_95d88_0 rfl (lv_at hl 0 rfl) ?_
  refine lv_lload_n hx hb dJ13_bitCount_95d88_1 rfl (lv_at hl 0 rfl) ?_
  refine lv_iconst (v := (1 : Int32)) hx hb dJ13_bitCount_95d88_2 (by decide) ?_
  refine lv_lushr (v := (a0.toUInt64 >>> ((1 : Int32).toInt64.toUInt64 &&& Int64.toUInt64 63)).toInt64) hx hb dJ13_bitCount_95d88_3 rfl ?_
  refine lv_ldc2 (v := (6148914691236517205 : Int64)) hx hb hown (hts _ kJ13_bitCount_95d88_0) dJ13_bitCount_95d88_4 ?_
  refine lv_land hx hb dJ13_bitCount_95d88_7 ?_
  refine lv_lsub hx hb dJ13_bitCount_95d88_8 ?_
  refine lv_topl (fun x1 ex1 => ?_)
  replace hw := hw x1 ex1
  refine lv_lstore_n (lv' := [(0, .long x1)]) hx hb dJ13_bitCount_95d88_9 rfl hl (by decide) rfl (fun ls hl => ?_)
  refine lv_lload_n hx hb dJ13_bitCount_95d88_10 rfl (lv_at hl 0 rfl) ?_
  refine lv_ldc2 (v := (3689348814741910323 : Int64)) hx hb hown (hts _ kJ13_bitCount_95d88_1) dJ13_bitCount_95d88_11 ?_
  refine lv_land hx hb dJ13_bitCount_95d88_14 ?_
  refine lv_lload_n hx hb dJ13_bitCount_95d88_15 rfl (lv_at hl 0 rfl) ?_
  refine lv_iconst (v := (2 : Int32)) hx hb dJ13_bitCount_95d88_16 (by decide) ?_
  refine lv_lushr (v := (x1.toUInt64 >>> ((2 : Int32).toInt64.toUInt64 &&& Int64.toUInt64 63)).toInt64) hx hb dJ13_bitCount_95d88_17 rfl ?_
  refine lv_ldc2 (v := (3689348814741910323 : Int64)) hx hb hown (hts _ kJ13_bitCount_95d88_1) dJ13_bitCount_95d88_18 ?_
  refine lv_land hx hb dJ13_bitCount_95d88_21 ?_
  refine lv_ladd hx hb dJ13_bitCount_95d88_22 ?_
  refine lv_topl (fun x2 ex2 => ?_)
  replace hw := hw x2 ex2
  refine lv_lstore_n (lv' := [(0, .long x2)]) hx hb dJ13_bitCount_95d88_23 rfl hl (by decide) rfl (fun ls hl => ?_)
  refine lv_lload_n hx hb dJ13_bitCount_95d88_24 rfl (lv_at hl 0 rfl) ?_
  refine lv_lload_n hx hb dJ13_bitCount_95d88_25 rfl (lv_at hl 0 rfl) ?_
  refine lv_iconst (v := (4 : Int32)) hx hb dJ13_bitCount_95d88_26 (by decide) ?_
  refine lv_lushr (v := (x2.toUInt64 >>> ((4 : Int32).toInt64.toUInt64 &&& Int64.toUInt64 63)).toInt64) hx hb dJ13_bitCount_95d88_27 rfl ?_
  refine lv_ladd hx hb dJ13_bitCount_95d88_28 ?_
  refine lv_ldc2 (v := (1085102592571150095 : Int64)) hx hb hown (hts _ kJ13_bitCount_95d88_2) dJ13_bitCount_95d88_29 ?_
  refine lv_land hx hb dJ13_bitCount_95d88_32 ?_
  refine lv_topl (fun x3 ex3 => ?_)
  replace hw := hw x3 ex3
  refine lv_lstore_n (lv' := [(0, .long x3)]) hx hb dJ13_bitCount_95d88_33 rfl hl (by decide) rfl (fun ls hl => ?_)
  refine lv_lload_n hx hb dJ13_bitCount_95d88_34 rfl (lv_at hl 0 rfl) ?_
  refine lv_lload_n hx hb dJ13_bitCount_95d88_35 rfl (lv_at hl 0 rfl) ?_
  refine lv_bipush (v := (8 : Int32)) hx hb dJ13_bitCount_95d88_36 (by decide) ?_
  refine lv_lushr (v := (x3.toUInt64 >>> ((8 : Int32).toInt64.toUInt64 &&& Int64.toUInt64 63)).toInt64) hx hb dJ13_bitCount_95d88_38 rfl ?_
  refine lv_ladd hx hb dJ13_bitCount_95d88_39 ?_
  refine lv_topl (fun x4 ex4 => ?_)
  replace hw := hw x4 ex4
  refine lv_lstore_n (lv' := [(0, .long x4)]) hx hb dJ13_bitCount_95d88_40 rfl hl (by decide) rfl (fun ls hl => ?_)
  refine lv_lload_n hx hb dJ13_bitCount_95d88_41 rfl (lv_at hl 0 rfl) ?_
  refine lv_lload_n hx hb dJ13_bitCount_95d88_42 rfl (lv_at hl 0 rfl) ?_
  refine lv_bipush (v := (16 : Int32)) hx hb dJ13_bitCount_95d88_43 (by decide) ?_
  refine lv_lushr (v := (x4.toUInt64 >>> ((16 : Int32).toInt64.toUInt64 &&& Int64.toUInt64 63)).toInt64) hx hb dJ13_bitCount_95d88_45 rfl ?_
  refine lv_ladd hx hb dJ13_bitCount_95d88_46 ?_
  refine lv_topl (fun x5 ex5 => ?_)
  replace hw := hw x5 ex5
  refine lv_lstore_n (lv' := [(0, .long x5)]) hx hb dJ13_bitCount_95d88_47 rfl hl (by decide) rfl (fun ls hl => ?_)
  refine lv_lload_n hx hb dJ13_bitCount_95d88_48 rfl (lv_at hl 0 rfl) ?_
  refine lv_lload_n hx hb dJ13_bitCount_95d88_49 rfl (lv_at hl 0 rfl) ?_
  refine lv_bipush (v := (32 : Int32)) hx hb dJ13_bitCount_95d88_50 (by decide) ?_
  refine lv_lushr (v := (x5.toUInt64 >>> ((32 : Int32).toInt64.toUInt64 &&& Int64.toUInt64 63)).toInt64) hx hb dJ13_bitCount_95d88_52 rfl ?_
  refine lv_ladd hx hb dJ13_bitCount_95d88_53 ?_
  refine lv_topl (fun x6 ex6 => ?_)
  replace hw := hw x6 ex6
  refine lv_lstore_n (lv' := [(0, .long x6)]) hx hb dJ13_bitCount_95d88_54 rfl hl (by decide) rfl (fun ls hl => ?_)
  refine lv_lload_n hx hb dJ13_bitCount_95d88_55 rfl (lv_at hl 0 rfl) ?_
  refine lv_l2i (v := x6.toInt32) hx hb dJ13_bitCount_95d88_56 rfl ?_
  refine lv_bipush (v := (127 : Int32)) hx hb dJ13_bitCount_95d88_57 (by decide) ?_
  refine lv_iand hx hb dJ13_bitCount_95d88_59 ?_
  subst hQ
  exact x_iret (u := ()) hC hI hr hlk hw rfl dJ13_bitCount_95d88_60

def wX1_rowOf (a0 : Int32)  (post : Int32 → Prop) : Prop := ((a0 = 0 → post (-6 : Int32)) ∧ (¬ a0 = 0 → post (((a0 - (1 : Int32)) / (24 : Int32)) - (5 : Int32))))
def rmX1_rowOf : Room := { frames := 0, cells := 0, slots := 0, locals := 0 }
set_option maxHeartbeats 4000000 in
set_option maxRecDepth 100000 in
theorem mX1_rowOf (l : Launch) (D : va_G) (K : Nat → ClassId)  (sz : Nat) (a0 : Int32)   {post : Int32 → Prop} (hw : wX1_rowOf a0  post) : Met l yX1_rowOf wsX1_rowOf rmX1_rowOf (va_Pc [.int a0] (cP D K (fl []) sz)) (va_Qi (fun (r : Int32) (u : Unit) => post r) (fun u t => cQ D K (fl []) (va_A (fl []) sz) t) (va_A (fl []) sz)) 0 0 (va_A (fl []) sz) := by
  refine x_entry (cc := cX1_rowOf) (maxL := 1) (ret := (some .int)) (QA := fun A => va_Qi (fun (r : Int32) (u : Unit) => post r) (fun u t => cQ D K (fl []) A t) A) (plainFor_of_name (by decide)) rfl (Nat.le_of_ble_eq_true rfl) ?_
  intro p e s m args below meth c A ls H Q hQ hC hlk hr hnm hI hl
  obtain ⟨hx, hb, hml, hown, hts, hK, hA, hZ⟩ := id hC
  obtain ⟨locs, hlocs⟩ : ∃ y : List Loc, y = [] := ⟨_, rfl⟩
  rw [← hlocs] at hI ⊢
  clear hlocs
  replace hl : lv_has ls 1 [(0, .int a0)] := hl
  replace hw : ((a0 = 0 → post (-6 : Int32)) ∧ (¬ a0 = 0 → post (((a0 - (1 : Int32)) / (24 : Int32)) - (5 : Int32)))) := hw
  refine lv_iload_n hx hb dX1_rowOf_0 rfl (lv_at hl 0 rfl) ?_
  refine lv_if_ne (tgt := 7) hx hb dX1_rowOf_1 (by decide) (fun c1 => ?_) (fun c1 => ?_)
  · replace hw := hw.2 c1
    refine lv_iload_n hx hb dX1_rowOf_7 rfl (lv_at hl 0 rfl) ?_
    refine lv_iconst (v := (1 : Int32)) hx hb dX1_rowOf_8 (by decide) ?_
    refine lv_isub hx hb dX1_rowOf_9 ?_
    refine lv_bipush (v := (24 : Int32)) hx hb dX1_rowOf_10 (by decide) ?_
    refine lv_idiv hx hb dX1_rowOf_12 (by decide) ?_
    refine lv_iconst (v := (5 : Int32)) hx hb dX1_rowOf_13 (by decide) ?_
    refine lv_isub hx hb dX1_rowOf_14 ?_
    subst hQ
    exact x_iret (u := ()) hC hI hr hlk hw rfl dX1_rowOf_15
  · replace hw := hw.1 c1
    refine lv_bipush (v := (-6 : Int32)) hx hb dX1_rowOf_4 (by decide) ?_
    subst hQ
    exact x_iret (u := ()) hC hI hr hlk hw rfl dX1_rowOf_6

def wX1_rowCosine (a0 : Int32)  (post : Int32 → Prop) : Prop := ((0 ≤ a0 → vp_in ((6 : Int32) + a0) 24 ∧ post (sinesF ((6 : Int32) + a0).toNatClampNeg)) ∧ (¬ 0 ≤ a0 → vp_in ((6 : Int32) + (-a0)) 24 ∧ post (sinesF ((6 : Int32) + (-a0)).toNatClampNeg)))
def rmX1_rowCosine : Room := { frames := 0, cells := 0, slots := 0, locals := 0 }
theorem kX1_rowCosine_0 : Cond.fieldLink RX1 13 "GoreGlobe$Grid" "SINES" "[I" ∈ wsX1_rowCosine := List.mem_cons_of_mem _ (List.mem_of_getElem? (i := 0) rfl)
set_option maxHeartbeats 4000000 in
set_option maxRecDepth 100000 in
theorem mX1_rowCosine (l : Launch) (D : va_G) (K : Nat → ClassId)  (sz : Nat) (a0 : Int32)   {post : Int32 → Prop} (hw : wX1_rowCosine a0  post) : Met l yX1_rowCosine wsX1_rowCosine rmX1_rowCosine (va_Pc [.int a0] (cP D K (fl []) sz)) (va_Qi (fun (r : Int32) (u : Unit) => post r) (fun u t => cQ D K (fl []) (va_A (fl []) sz) t) (va_A (fl []) sz)) 0 0 (va_A (fl []) sz) := by
  refine x_entry (cc := cX1_rowCosine) (maxL := 1) (ret := (some .int)) (QA := fun A => va_Qi (fun (r : Int32) (u : Unit) => post r) (fun u t => cQ D K (fl []) A t) A) (plainFor_of_name (by decide)) rfl (Nat.le_of_ble_eq_true rfl) ?_
  intro p e s m args below meth c A ls H Q hQ hC hlk hr hnm hI hl
  obtain ⟨hx, hb, hml, hown, hts, hK, hA, hZ⟩ := id hC
  obtain ⟨locs, hlocs⟩ : ∃ y : List Loc, y = [] := ⟨_, rfl⟩
  rw [← hlocs] at hI ⊢
  clear hlocs
  replace hl : lv_has ls 1 [(0, .int a0)] := hl
  replace hw : ((0 ≤ a0 → vp_in ((6 : Int32) + a0) 24 ∧ post (sinesF ((6 : Int32) + a0).toNatClampNeg)) ∧ (¬ 0 ≤ a0 → vp_in ((6 : Int32) + (-a0)) 24 ∧ post (sinesF ((6 : Int32) + (-a0)).toNatClampNeg))) := hw
  refine x_gets hC hI hZ.1 kX1_rowCosine_0 dX1_rowCosine_0 (fun t1 ht1 => ?_)
  refine lv_bipush (v := (6 : Int32)) hx hb dX1_rowCosine_3 (by decide) ?_
  refine lv_iload_n hx hb dX1_rowCosine_5 rfl (lv_at hl 0 rfl) ?_
  refine lv_if_ge (tgt := 14) hx hb dX1_rowCosine_6 (by decide) (fun c2 => ?_) (fun c2 => ?_)
  · replace hw := hw.1 c2
    refine lv_iload_n hx hb dX1_rowCosine_14 rfl (lv_at hl 0 rfl) ?_
    refine lv_iadd hx hb dX1_rowCosine_15 ?_
    obtain ⟨hc3, hw⟩ := hw
    refine x_ti hC hI ht1 hc3 dX1_rowCosine_16 ?_
    subst hQ
    exact x_iret (u := ()) hC hI hr hlk hw rfl dX1_rowCosine_17
  · replace hw := hw.2 c2
    refine lv_iload_n hx hb dX1_rowCosine_9 rfl (lv_at hl 0 rfl) ?_
    refine lv_ineg hx hb dX1_rowCosine_10 ?_
    refine lv_goto (tgt := 15) hx hb dX1_rowCosine_11 (by decide) ?_
    refine lv_iadd hx hb dX1_rowCosine_15 ?_
    obtain ⟨hc4, hw⟩ := hw
    refine x_ti hC hI ht1 hc4 dX1_rowCosine_16 ?_
    subst hQ
    exact x_iret (u := ()) hC hI hr hlk hw rfl dX1_rowCosine_17

def wX1_isPlace (a0 : Int32) (a1 : Int32)  (post : Int32 → Prop) : Prop := ((a0 < (-6 : Int32) → post (0 : Int32)) ∧ (¬ a0 < (-6 : Int32) → (((6 : Int32) < a0 → post (0 : Int32)) ∧ (¬ (6 : Int32) < a0 → ((a1 < 0 → post (0 : Int32)) ∧ (¬ a1 < 0 → (((24 : Int32) ≤ a1 → post (0 : Int32)) ∧ (¬ (24 : Int32) ≤ a1 → post (1 : Int32)))))))))
def rmX1_isPlace : Room := { frames := 0, cells := 0, slots := 0, locals := 0 }
set_option maxHeartbeats 4000000 in
set_option maxRecDepth 100000 in
theorem mX1_isPlace (l : Launch) (D : va_G) (K : Nat → ClassId)  (sz : Nat) (a0 : Int32) (a1 : Int32)   {post : Int32 → Prop} (hw : wX1_isPlace a0 a1  post) : Met l yX1_isPlace wsX1_isPlace rmX1_isPlace (va_Pc [.int a0, .int a1] (cP D K (fl []) sz)) (va_Qi (fun (r : Int32) (u : Unit) => post r) (fun u t => cQ D K (fl []) (va_A (fl []) sz) t) (va_A (fl []) sz)) 0 0 (va_A (fl []) sz) := by
  refine x_entry (cc := cX1_isPlace) (maxL := 2) (ret := (some .boolean)) (QA := fun A => va_Qi (fun (r : Int32) (u : Unit) => post r) (fun u t => cQ D K (fl []) A t) A) (plainFor_of_name (by decide)) rfl (Nat.le_of_ble_eq_true rfl) ?_
  intro p e s m args below meth c A ls H Q hQ hC hlk hr hnm hI hl
  obtain ⟨hx, hb, hml, hown, hts, hK, hA, hZ⟩ := id hC
  obtain ⟨locs, hlocs⟩ : ∃ y : List Loc, y = [] := ⟨_, rfl⟩
  rw [← hlocs] at hI ⊢
  clear hlocs
  replace hl : lv_has ls 2 [(0, .int a0), (1, .int a1)] := hl
  replace hw : ((a0 < (-6 : Int32) → post (0 : Int32)) ∧ (¬ a0 < (-6 : Int32) → (((6 : Int32) < a0 → post (0 : Int32)) ∧ (¬ (6 : Int32) < a0 → ((a1 < 0 → post (0 : Int32)) ∧ (¬ a1 < 0 → (((24 : Int32) ≤ a1 → post (0 : Int32)) ∧ (¬ (24 : Int32) ≤ a1 → post (1 : Int32))))))))) := hw
  refine lv_iload_n hx hb dX1_isPlace_0 rfl (lv_at hl 0 rfl) ?_
  refine lv_bipush (v := (-6 : Int32)) hx hb dX1_isPlace_1 (by decide) ?_
  refine lv_icmp_lt (tgt := 26) hx hb dX1_isPlace_3 (by decide) (fun c1 => ?_) (fun c1 => ?_)
  · replace hw := hw.1 c1
    refine lv_iconst (v := (0 : Int32)) hx hb dX1_isPlace_26 (by decide) ?_
    subst hQ
    exact x_zret (u := ()) hC hI hr hlk hw rfl (Or.inl rfl) dX1_isPlace_27
  · replace hw := hw.2 c1
    refine lv_iload_n hx hb dX1_isPlace_6 rfl (lv_at hl 0 rfl) ?_
    refine lv_bipush (v := (6 : Int32)) hx hb dX1_isPlace_7 (by decide) ?_
    refine lv_icmp_gt (tgt := 26) hx hb dX1_isPlace_9 (by decide) (fun c2 => ?_) (fun c2 => ?_)
    · replace hw := hw.1 c2
      refine lv_iconst (v := (0 : Int32)) hx hb dX1_isPlace_26 (by decide) ?_
      subst hQ
      exact x_zret (u := ()) hC hI hr hlk hw rfl (Or.inl rfl) dX1_isPlace_27
    · replace hw := hw.2 c2
      refine lv_iload_n hx hb dX1_isPlace_12 rfl (lv_at hl 1 rfl) ?_
      refine lv_if_lt (tgt := 26) hx hb dX1_isPlace_13 (by decide) (fun c3 => ?_) (fun c3 => ?_)
      · replace hw := hw.1 c3
        refine lv_iconst (v := (0 : Int32)) hx hb dX1_isPlace_26 (by decide) ?_
        subst hQ
        exact x_zret (u := ()) hC hI hr hlk hw rfl (Or.inl rfl) dX1_isPlace_27
      · replace hw := hw.2 c3
        refine lv_iload_n hx hb dX1_isPlace_16 rfl (lv_at hl 1 rfl) ?_
        refine lv_bipush (v := (24 : Int32)) hx hb dX1_isPlace_17 (by decide) ?_
        refine lv_icmp_ge (tgt := 26) hx hb dX1_isPlace_19 (by decide) (fun c4 => ?_) (fun c4 => ?_)
        · replace hw := hw.1 c4
          refine lv_iconst (v := (0 : Int32)) hx hb dX1_isPlace_26 (by decide) ?_
          subst hQ
          exact x_zret (u := ()) hC hI hr hlk hw rfl (Or.inl rfl) dX1_isPlace_27
        · replace hw := hw.2 c4
          refine lv_iconst (v := (1 : Int32)) hx hb dX1_isPlace_22 (by decide) ?_
          refine lv_goto (tgt := 27) hx hb dX1_isPlace_23 (by decide) ?_
          subst hQ
          exact x_zret (u := ()) hC hI hr hlk hw rfl (Or.inr rfl) dX1_isPlace_27

def wX1_isNumber (a0 : Int32)  (post : Int32 → Prop) : Prop := ((a0 < 0 → post (0 : Int32)) ∧ (¬ a0 < 0 → (((265 : Int32) < a0 → post (0 : Int32)) ∧ (¬ (265 : Int32) < a0 → post (1 : Int32)))))
def rmX1_isNumber : Room := { frames := 0, cells := 0, slots := 0, locals := 0 }
set_option maxHeartbeats 4000000 in
set_option maxRecDepth 100000 in
theorem mX1_isNumber (l : Launch) (D : va_G) (K : Nat → ClassId)  (sz : Nat) (a0 : Int32)   {post : Int32 → Prop} (hw : wX1_isNumber a0  post) : Met l yX1_isNumber wsX1_isNumber rmX1_isNumber (va_Pc [.int a0] (cP D K (fl []) sz)) (va_Qi (fun (r : Int32) (u : Unit) => post r) (fun u t => cQ D K (fl []) (va_A (fl []) sz) t) (va_A (fl []) sz)) 0 0 (va_A (fl []) sz) := by
  refine x_entry (cc := cX1_isNumber) (maxL := 1) (ret := (some .boolean)) (QA := fun A => va_Qi (fun (r : Int32) (u : Unit) => post r) (fun u t => cQ D K (fl []) A t) A) (plainFor_of_name (by decide)) rfl (Nat.le_of_ble_eq_true rfl) ?_
  intro p e s m args below meth c A ls H Q hQ hC hlk hr hnm hI hl
  obtain ⟨hx, hb, hml, hown, hts, hK, hA, hZ⟩ := id hC
  obtain ⟨locs, hlocs⟩ : ∃ y : List Loc, y = [] := ⟨_, rfl⟩
  rw [← hlocs] at hI ⊢
  clear hlocs
  replace hl : lv_has ls 1 [(0, .int a0)] := hl
  replace hw : ((a0 < 0 → post (0 : Int32)) ∧ (¬ a0 < 0 → (((265 : Int32) < a0 → post (0 : Int32)) ∧ (¬ (265 : Int32) < a0 → post (1 : Int32))))) := hw
  refine lv_iload_n hx hb dX1_isNumber_0 rfl (lv_at hl 0 rfl) ?_
  refine lv_if_lt (tgt := 15) hx hb dX1_isNumber_1 (by decide) (fun c1 => ?_) (fun c1 => ?_)
  · replace hw := hw.1 c1
    refine lv_iconst (v := (0 : Int32)) hx hb dX1_isNumber_15 (by decide) ?_
    subst hQ
    exact x_zret (u := ()) hC hI hr hlk hw rfl (Or.inl rfl) dX1_isNumber_16
  · replace hw := hw.2 c1
    refine lv_iload_n hx hb dX1_isNumber_4 rfl (lv_at hl 0 rfl) ?_
    refine lv_sipush (v := (265 : Int32)) hx hb dX1_isNumber_5 (by decide) ?_
    refine lv_icmp_gt (tgt := 15) hx hb dX1_isNumber_8 (by decide) (fun c2 => ?_) (fun c2 => ?_)
    · replace hw := hw.1 c2
      refine lv_iconst (v := (0 : Int32)) hx hb dX1_isNumber_15 (by decide) ?_
      subst hQ
      exact x_zret (u := ()) hC hI hr hlk hw rfl (Or.inl rfl) dX1_isNumber_16
    · replace hw := hw.2 c2
      refine lv_iconst (v := (1 : Int32)) hx hb dX1_isNumber_11 (by decide) ?_
      refine lv_goto (tgt := 16) hx hb dX1_isNumber_12 (by decide) ?_
      subst hQ
      exact x_zret (u := ()) hC hI hr hlk hw rfl (Or.inr rfl) dX1_isNumber_16

def wX1_isPole (a0 : Int32)  (post : Int32 → Prop) : Prop := ((a0 = 0 → post (1 : Int32)) ∧ (¬ a0 = 0 → ((a0 = (265 : Int32) → post (1 : Int32)) ∧ (¬ a0 = (265 : Int32) → post (0 : Int32)))))
def rmX1_isPole : Room := { frames := 0, cells := 0, slots := 0, locals := 0 }
set_option maxHeartbeats 4000000 in
set_option maxRecDepth 100000 in
theorem mX1_isPole (l : Launch) (D : va_G) (K : Nat → ClassId)  (sz : Nat) (a0 : Int32)   {post : Int32 → Prop} (hw : wX1_isPole a0  post) : Met l yX1_isPole wsX1_isPole rmX1_isPole (va_Pc [.int a0] (cP D K (fl []) sz)) (va_Qi (fun (r : Int32) (u : Unit) => post r) (fun u t => cQ D K (fl []) (va_A (fl []) sz) t) (va_A (fl []) sz)) 0 0 (va_A (fl []) sz) := by
  refine x_entry (cc := cX1_isPole) (maxL := 1) (ret := (some .boolean)) (QA := fun A => va_Qi (fun (r : Int32) (u : Unit) => post r) (fun u t => cQ D K (fl []) A t) A) (plainFor_of_name (by decide)) rfl (Nat.le_of_ble_eq_true rfl) ?_
  intro p e s m args below meth c A ls H Q hQ hC hlk hr hnm hI hl
  obtain ⟨hx, hb, hml, hown, hts, hK, hA, hZ⟩ := id hC
  obtain ⟨locs, hlocs⟩ : ∃ y : List Loc, y = [] := ⟨_, rfl⟩
  rw [← hlocs] at hI ⊢
  clear hlocs
  replace hl : lv_has ls 1 [(0, .int a0)] := hl
  replace hw : ((a0 = 0 → post (1 : Int32)) ∧ (¬ a0 = 0 → ((a0 = (265 : Int32) → post (1 : Int32)) ∧ (¬ a0 = (265 : Int32) → post (0 : Int32))))) := hw
  refine lv_iload_n hx hb dX1_isPole_0 rfl (lv_at hl 0 rfl) ?_
  refine lv_if_eq (tgt := 11) hx hb dX1_isPole_1 (by decide) (fun c1 => ?_) (fun c1 => ?_)
  · replace hw := hw.1 c1
    refine lv_iconst (v := (1 : Int32)) hx hb dX1_isPole_11 (by decide) ?_
    refine lv_goto (tgt := 16) hx hb dX1_isPole_12 (by decide) ?_
    subst hQ
    exact x_zret (u := ()) hC hI hr hlk hw rfl (Or.inr rfl) dX1_isPole_16
  · replace hw := hw.2 c1
    refine lv_iload_n hx hb dX1_isPole_4 rfl (lv_at hl 0 rfl) ?_
    refine lv_sipush (v := (265 : Int32)) hx hb dX1_isPole_5 (by decide) ?_
    refine lv_icmp_ne (tgt := 15) hx hb dX1_isPole_8 (by decide) (fun c2 => ?_) (fun c2 => ?_)
    · replace hw := hw.2 c2
      refine lv_iconst (v := (0 : Int32)) hx hb dX1_isPole_15 (by decide) ?_
      subst hQ
      exact x_zret (u := ()) hC hI hr hlk hw rfl (Or.inl rfl) dX1_isPole_16
    · replace hw := hw.1 c2
      refine lv_iconst (v := (1 : Int32)) hx hb dX1_isPole_11 (by decide) ?_
      refine lv_goto (tgt := 16) hx hb dX1_isPole_12 (by decide) ?_
      subst hQ
      exact x_zret (u := ()) hC hI hr hlk hw rfl (Or.inr rfl) dX1_isPole_16

def wX1_numberOf (a0 : Int32) (a1 : Int32)  (post : Int32 → Prop) : Prop := ((a0 = (-6 : Int32) → post (0 : Int32)) ∧ (¬ a0 = (-6 : Int32) → ((a0 = (6 : Int32) → post (265 : Int32)) ∧ (¬ a0 = (6 : Int32) → post (((1 : Int32) + ((24 : Int32) * (a0 + (5 : Int32)))) + a1)))))
def rmX1_numberOf : Room := { frames := 0, cells := 0, slots := 0, locals := 0 }
set_option maxHeartbeats 4000000 in
set_option maxRecDepth 100000 in
theorem mX1_numberOf (l : Launch) (D : va_G) (K : Nat → ClassId)  (sz : Nat) (a0 : Int32) (a1 : Int32)   {post : Int32 → Prop} (hw : wX1_numberOf a0 a1  post) : Met l yX1_numberOf wsX1_numberOf rmX1_numberOf (va_Pc [.int a0, .int a1] (cP D K (fl []) sz)) (va_Qi (fun (r : Int32) (u : Unit) => post r) (fun u t => cQ D K (fl []) (va_A (fl []) sz) t) (va_A (fl []) sz)) 0 0 (va_A (fl []) sz) := by
  refine x_entry (cc := cX1_numberOf) (maxL := 2) (ret := (some .int)) (QA := fun A => va_Qi (fun (r : Int32) (u : Unit) => post r) (fun u t => cQ D K (fl []) A t) A) (plainFor_of_name (by decide)) rfl (Nat.le_of_ble_eq_true rfl) ?_
  intro p e s m args below meth c A ls H Q hQ hC hlk hr hnm hI hl
  obtain ⟨hx, hb, hml, hown, hts, hK, hA, hZ⟩ := id hC
  obtain ⟨locs, hlocs⟩ : ∃ y : List Loc, y = [] := ⟨_, rfl⟩
  rw [← hlocs] at hI ⊢
  clear hlocs
  replace hl : lv_has ls 2 [(0, .int a0), (1, .int a1)] := hl
  replace hw : ((a0 = (-6 : Int32) → post (0 : Int32)) ∧ (¬ a0 = (-6 : Int32) → ((a0 = (6 : Int32) → post (265 : Int32)) ∧ (¬ a0 = (6 : Int32) → post (((1 : Int32) + ((24 : Int32) * (a0 + (5 : Int32)))) + a1))))) := hw
  refine lv_iload_n hx hb dX1_numberOf_0 rfl (lv_at hl 0 rfl) ?_
  refine lv_bipush (v := (-6 : Int32)) hx hb dX1_numberOf_1 (by decide) ?_
  refine lv_icmp_ne (tgt := 8) hx hb dX1_numberOf_3 (by decide) (fun c1 => ?_) (fun c1 => ?_)
  · replace hw := hw.2 c1
    refine lv_iload_n hx hb dX1_numberOf_8 rfl (lv_at hl 0 rfl) ?_
    refine lv_bipush (v := (6 : Int32)) hx hb dX1_numberOf_9 (by decide) ?_
    refine lv_icmp_ne (tgt := 20) hx hb dX1_numberOf_11 (by decide) (fun c2 => ?_) (fun c2 => ?_)
    · replace hw := hw.2 c2
      refine lv_iconst (v := (1 : Int32)) hx hb dX1_numberOf_20 (by decide) ?_
      refine lv_bipush (v := (24 : Int32)) hx hb dX1_numberOf_21 (by decide) ?_
      refine lv_iload_n hx hb dX1_numberOf_23 rfl (lv_at hl 0 rfl) ?_
      refine lv_iconst (v := (5 : Int32)) hx hb dX1_numberOf_24 (by decide) ?_
      refine lv_iadd hx hb dX1_numberOf_25 ?_
      refine lv_imul hx hb dX1_numberOf_26 ?_
      refine lv_iadd hx hb dX1_numberOf_27 ?_
      refine lv_iload_n hx hb dX1_numberOf_28 rfl (lv_at hl 1 rfl) ?_
      refine lv_iadd hx hb dX1_numberOf_29 ?_
      subst hQ
      exact x_iret (u := ()) hC hI hr hlk hw rfl dX1_numberOf_30
    · replace hw := hw.1 c2
      refine lv_sipush (v := (265 : Int32)) hx hb dX1_numberOf_14 (by decide) ?_
      refine lv_goto (tgt := 30) hx hb dX1_numberOf_17 (by decide) ?_
      subst hQ
      exact x_iret (u := ()) hC hI hr hlk hw rfl dX1_numberOf_30
  · replace hw := hw.1 c1
    refine lv_iconst (v := (0 : Int32)) hx hb dX1_numberOf_6 (by decide) ?_
    subst hQ
    exact x_iret (u := ()) hC hI hr hlk hw rfl dX1_numberOf_7

def wX1_stepOf (a0 : Int32)  (post : Int32 → Prop) : Prop := wX1_isPole a0 (fun (r1 : Int32) => ((r1 = 0 → post ((a0 - (1 : Int32)) - (a0 - (1 : Int32)) / (24 : Int32) * (24 : Int32))) ∧ (¬ r1 = 0 → post (0 : Int32))))
def rmX1_stepOf : Room := { frames := 1, cells := 0, slots := 0, locals := 20 }
set_option maxHeartbeats 4000000 in
set_option maxRecDepth 100000 in
theorem mX1_stepOf (l : Launch) (D : va_G) (K : Nat → ClassId)  (sz : Nat) (a0 : Int32)   {post : Int32 → Prop} (hw : wX1_stepOf a0  post) : Met l yX1_stepOf wsX1_stepOf rmX1_stepOf (va_Pc [.int a0] (cP D K (fl []) sz)) (va_Qi (fun (r : Int32) (u : Unit) => post r) (fun u t => cQ D K (fl []) (va_A (fl []) sz) t) (va_A (fl []) sz)) 0 0 (va_A (fl []) sz) := by
  refine x_entry (cc := cX1_stepOf) (maxL := 1) (ret := (some .int)) (QA := fun A => va_Qi (fun (r : Int32) (u : Unit) => post r) (fun u t => cQ D K (fl []) A t) A) (plainFor_of_name (by decide)) rfl (Nat.le_of_ble_eq_true rfl) ?_
  intro p e s m args below meth c A ls H Q hQ hC hlk hr hnm hI hl
  obtain ⟨hx, hb, hml, hown, hts, hK, hA, hZ⟩ := id hC
  obtain ⟨locs, hlocs⟩ : ∃ y : List Loc, y = [] := ⟨_, rfl⟩
  rw [← hlocs] at hI ⊢
  clear hlocs
  replace hl : lv_has ls 1 [(0, .int a0)] := hl
  replace hw : wX1_isPole a0 (fun (r1 : Int32) => ((r1 = 0 → post ((a0 - (1 : Int32)) - (a0 - (1 : Int32)) / (24 : Int32) * (24 : Int32))) ∧ (¬ r1 = 0 → post (0 : Int32)))) := hw
  refine lv_iload_n hx hb dX1_stepOf_0 rfl (lv_at hl 0 rfl) ?_
  refine x_callSi (rest := []) hC hI [] (mX1_isPole l D K  _ a0 hw) (va_cwS 1 hts gX1_stepOf_X1_isPole rfl rfl rfl (by decide +kernel) ⟨(Nat.le_of_ble_eq_true rfl), (Nat.le_of_ble_eq_true rfl)⟩) (by decide) rfl (fun _ => rfl) rfl hl.1 rfl (Nat.le_of_ble_eq_true rfl) dX1_stepOf_1 ⟨(Nat.le_of_ble_eq_true rfl), (Nat.le_of_ble_eq_true rfl)⟩ (fun r1 u H locs hw hI => ?_)
  try dsimp only at hw
  have hI : wI s D A (fl []) H locs := hI
  refine lv_if_eq (tgt := 11) hx hb dX1_stepOf_4 (by decide) (fun c2 => ?_) (fun c2 => ?_)
  · replace hw := hw.1 c2
    refine lv_iload_n hx hb dX1_stepOf_11 rfl (lv_at hl 0 rfl) ?_
    refine lv_iconst (v := (1 : Int32)) hx hb dX1_stepOf_12 (by decide) ?_
    refine lv_isub hx hb dX1_stepOf_13 ?_
    refine lv_bipush (v := (24 : Int32)) hx hb dX1_stepOf_14 (by decide) ?_
    refine lv_irem hx hb dX1_stepOf_16 (by decide) ?_
    subst hQ
    exact x_iret (u := ()) hC hI hr hlk hw rfl dX1_stepOf_17
  · replace hw := hw.2 c2
    refine lv_iconst (v := (0 : Int32)) hx hb dX1_stepOf_7 (by decide) ?_
    refine lv_goto (tgt := 17) hx hb dX1_stepOf_8 (by decide) ?_
    subst hQ
    exact x_iret (u := ()) hC hI hr hlk hw rfl dX1_stepOf_17

def wX1_sine (a0 : Int32)  (post : Int32 → Prop) : Prop := vp_in a0 24 ∧ post (sinesF a0.toNatClampNeg)
def rmX1_sine : Room := { frames := 0, cells := 0, slots := 0, locals := 0 }
theorem kX1_sine_0 : Cond.fieldLink RX1 13 "GoreGlobe$Grid" "SINES" "[I" ∈ wsX1_sine := List.mem_cons_of_mem _ (List.mem_of_getElem? (i := 0) rfl)
set_option maxHeartbeats 4000000 in
set_option maxRecDepth 100000 in
theorem mX1_sine (l : Launch) (D : va_G) (K : Nat → ClassId)  (sz : Nat) (a0 : Int32)   {post : Int32 → Prop} (hw : wX1_sine a0  post) : Met l yX1_sine wsX1_sine rmX1_sine (va_Pc [.int a0] (cP D K (fl []) sz)) (va_Qi (fun (r : Int32) (u : Unit) => post r) (fun u t => cQ D K (fl []) (va_A (fl []) sz) t) (va_A (fl []) sz)) 0 0 (va_A (fl []) sz) := by
  refine x_entry (cc := cX1_sine) (maxL := 1) (ret := (some .int)) (QA := fun A => va_Qi (fun (r : Int32) (u : Unit) => post r) (fun u t => cQ D K (fl []) A t) A) (plainFor_of_name (by decide)) rfl (Nat.le_of_ble_eq_true rfl) ?_
  intro p e s m args below meth c A ls H Q hQ hC hlk hr hnm hI hl
  obtain ⟨hx, hb, hml, hown, hts, hK, hA, hZ⟩ := id hC
  obtain ⟨locs, hlocs⟩ : ∃ y : List Loc, y = [] := ⟨_, rfl⟩
  rw [← hlocs] at hI ⊢
  clear hlocs
  replace hl : lv_has ls 1 [(0, .int a0)] := hl
  replace hw : vp_in a0 24 ∧ post (sinesF a0.toNatClampNeg) := hw
  refine x_gets hC hI hZ.1 kX1_sine_0 dX1_sine_0 (fun t1 ht1 => ?_)
  refine lv_iload_n hx hb dX1_sine_3 rfl (lv_at hl 0 rfl) ?_
  obtain ⟨hc2, hw⟩ := hw
  refine x_ti hC hI ht1 hc2 dX1_sine_4 ?_
  subst hQ
  exact x_iret (u := ()) hC hI hr hlk hw rfl dX1_sine_5

def wX1_cosine (a0 : Int32)  (post : Int32 → Prop) : Prop := vp_in ((a0 + (6 : Int32)) - (a0 + (6 : Int32)) / (24 : Int32) * (24 : Int32)) 24 ∧ post (sinesF ((a0 + (6 : Int32)) - (a0 + (6 : Int32)) / (24 : Int32) * (24 : Int32)).toNatClampNeg)
def rmX1_cosine : Room := { frames := 0, cells := 0, slots := 0, locals := 0 }
theorem kX1_cosine_0 : Cond.fieldLink RX1 13 "GoreGlobe$Grid" "SINES" "[I" ∈ wsX1_cosine := List.mem_cons_of_mem _ (List.mem_of_getElem? (i := 0) rfl)
set_option maxHeartbeats 4000000 in
set_option maxRecDepth 100000 in
theorem mX1_cosine (l : Launch) (D : va_G) (K : Nat → ClassId)  (sz : Nat) (a0 : Int32)   {post : Int32 → Prop} (hw : wX1_cosine a0  post) : Met l yX1_cosine wsX1_cosine rmX1_cosine (va_Pc [.int a0] (cP D K (fl []) sz)) (va_Qi (fun (r : Int32) (u : Unit) => post r) (fun u t => cQ D K (fl []) (va_A (fl []) sz) t) (va_A (fl []) sz)) 0 0 (va_A (fl []) sz) := by
  refine x_entry (cc := cX1_cosine) (maxL := 1) (ret := (some .int)) (QA := fun A => va_Qi (fun (r : Int32) (u : Unit) => post r) (fun u t => cQ D K (fl []) A t) A) (plainFor_of_name (by decide)) rfl (Nat.le_of_ble_eq_true rfl) ?_
  intro p e s m args below meth c A ls H Q hQ hC hlk hr hnm hI hl
  obtain ⟨hx, hb, hml, hown, hts, hK, hA, hZ⟩ := id hC
  obtain ⟨locs, hlocs⟩ : ∃ y : List Loc, y = [] := ⟨_, rfl⟩
  rw [← hlocs] at hI ⊢
  clear hlocs
  replace hl : lv_has ls 1 [(0, .int a0)] := hl
  replace hw : vp_in ((a0 + (6 : Int32)) - (a0 + (6 : Int32)) / (24 : Int32) * (24 : Int32)) 24 ∧ post (sinesF ((a0 + (6 : Int32)) - (a0 + (6 : Int32)) / (24 : Int32) * (24 : Int32)).toNatClampNeg) := hw
  refine x_gets hC hI hZ.1 kX1_cosine_0 dX1_cosine_0 (fun t1 ht1 => ?_)
  refine lv_iload_n hx hb dX1_cosine_3 rfl (lv_at hl 0 rfl) ?_
  refine lv_bipush (v := (6 : Int32)) hx hb dX1_cosine_4 (by decide) ?_
  refine lv_iadd hx hb dX1_cosine_6 ?_
  refine lv_bipush (v := (24 : Int32)) hx hb dX1_cosine_7 (by decide) ?_
  refine lv_irem hx hb dX1_cosine_9 (by decide) ?_
  obtain ⟨hc2, hw⟩ := hw
  refine x_ti hC hI ht1 hc2 dX1_cosine_10 ?_
  subst hQ
  exact x_iret (u := ()) hC hI hr hlk hw rfl dX1_cosine_11

def wX1_neighbourNumber (a0 : Int32)  (post : Int32 → Prop) : Prop := wX1_isPole a0 (fun (r1 : Int32) => ((r1 = 0 → post (4 : Int32)) ∧ (¬ r1 = 0 → post (24 : Int32))))
def rmX1_neighbourNumber : Room := { frames := 1, cells := 0, slots := 0, locals := 20 }
set_option maxHeartbeats 4000000 in
set_option maxRecDepth 100000 in
theorem mX1_neighbourNumber (l : Launch) (D : va_G) (K : Nat → ClassId)  (sz : Nat) (a0 : Int32)   {post : Int32 → Prop} (hw : wX1_neighbourNumber a0  post) : Met l yX1_neighbourNumber wsX1_neighbourNumber rmX1_neighbourNumber (va_Pc [.int a0] (cP D K (fl []) sz)) (va_Qi (fun (r : Int32) (u : Unit) => post r) (fun u t => cQ D K (fl []) (va_A (fl []) sz) t) (va_A (fl []) sz)) 0 0 (va_A (fl []) sz) := by
  refine x_entry (cc := cX1_neighbourNumber) (maxL := 1) (ret := (some .int)) (QA := fun A => va_Qi (fun (r : Int32) (u : Unit) => post r) (fun u t => cQ D K (fl []) A t) A) (plainFor_of_name (by decide)) rfl (Nat.le_of_ble_eq_true rfl) ?_
  intro p e s m args below meth c A ls H Q hQ hC hlk hr hnm hI hl
  obtain ⟨hx, hb, hml, hown, hts, hK, hA, hZ⟩ := id hC
  obtain ⟨locs, hlocs⟩ : ∃ y : List Loc, y = [] := ⟨_, rfl⟩
  rw [← hlocs] at hI ⊢
  clear hlocs
  replace hl : lv_has ls 1 [(0, .int a0)] := hl
  replace hw : wX1_isPole a0 (fun (r1 : Int32) => ((r1 = 0 → post (4 : Int32)) ∧ (¬ r1 = 0 → post (24 : Int32)))) := hw
  refine lv_iload_n hx hb dX1_neighbourNumber_0 rfl (lv_at hl 0 rfl) ?_
  refine x_callSi (rest := []) hC hI [] (mX1_isPole l D K  _ a0 hw) (va_cwS 1 hts gX1_neighbourNumber_X1_isPole rfl rfl rfl (by decide +kernel) ⟨(Nat.le_of_ble_eq_true rfl), (Nat.le_of_ble_eq_true rfl)⟩) (by decide) rfl (fun _ => rfl) rfl hl.1 rfl (Nat.le_of_ble_eq_true rfl) dX1_neighbourNumber_1 ⟨(Nat.le_of_ble_eq_true rfl), (Nat.le_of_ble_eq_true rfl)⟩ (fun r1 u H locs hw hI => ?_)
  try dsimp only at hw
  have hI : wI s D A (fl []) H locs := hI
  refine lv_if_eq (tgt := 12) hx hb dX1_neighbourNumber_4 (by decide) (fun c2 => ?_) (fun c2 => ?_)
  · replace hw := hw.1 c2
    refine lv_iconst (v := (4 : Int32)) hx hb dX1_neighbourNumber_12 (by decide) ?_
    subst hQ
    exact x_iret (u := ()) hC hI hr hlk hw rfl dX1_neighbourNumber_13
  · replace hw := hw.2 c2
    refine lv_bipush (v := (24 : Int32)) hx hb dX1_neighbourNumber_7 (by decide) ?_
    refine lv_goto (tgt := 13) hx hb dX1_neighbourNumber_9 (by decide) ?_
    subst hQ
    exact x_iret (u := ()) hC hI hr hlk hw rfl dX1_neighbourNumber_13

def wX1_neighbour (a0 : Int32) (a1 : Int32)  (post : Int32 → Prop) : Prop := ((a0 = 0 → post ((1 : Int32) + a1)) ∧ (¬ a0 = 0 → ((a0 = (265 : Int32) → post ((241 : Int32) + a1)) ∧ (¬ a0 = (265 : Int32) → wX1_stepOf a0 (fun (r3 : Int32) => ((a1 = (0 : Int32) → post (if (0 : Int32) < (a0 - (24 : Int32)) then (a0 - (24 : Int32)) else (0 : Int32))) ∧ (¬ a1 = (0 : Int32) → ((a1 = (1 : Int32) → ((r3 = (23 : Int32) → post (a0 - r3)) ∧ (¬ r3 = (23 : Int32) → post (a0 + (1 : Int32))))) ∧ (¬ a1 = (1 : Int32) → ((a1 = (2 : Int32) → ((r3 = 0 → post ((a0 + (24 : Int32)) - (1 : Int32))) ∧ (¬ r3 = 0 → post (a0 - (1 : Int32))))) ∧ (¬ a1 = (2 : Int32) → post (if (a0 + (24 : Int32)) < (265 : Int32) then (a0 + (24 : Int32)) else (265 : Int32)))))))))))))
def rmX1_neighbour : Room := { frames := 2, cells := 0, slots := 0, locals := 40 }
theorem kX1_neighbour_0 : Cond.methodLink RX1 21 Lib.Math.max.name ∈ wsX1_neighbour := List.mem_cons_of_mem _ (List.mem_of_getElem? (i := 0) rfl)
theorem kX1_neighbour_1 : Cond.static Lib.Math.max.name ∈ wsX1_neighbour := List.mem_cons_of_mem _ (List.mem_of_getElem? (i := 1) rfl)
theorem kX1_neighbour_2 : Cond.initialized "java/lang/Math" ∈ wsX1_neighbour := List.mem_cons_of_mem _ (List.mem_of_getElem? (i := 2) rfl)
theorem kX1_neighbour_3 : Cond.code Lib.Math.max.name Lib.Math.max.code 2 (some .int) ∈ wsX1_neighbour := List.mem_cons_of_mem _ (List.mem_of_getElem? (i := 3) rfl)
theorem kX1_neighbour_4 : Cond.methodLink RX1 27 Lib.Math.min.name ∈ wsX1_neighbour := List.mem_cons_of_mem _ (List.mem_of_getElem? (i := 4) rfl)
theorem kX1_neighbour_5 : Cond.static Lib.Math.min.name ∈ wsX1_neighbour := List.mem_cons_of_mem _ (List.mem_of_getElem? (i := 5) rfl)
theorem kX1_neighbour_6 : Cond.code Lib.Math.min.name Lib.Math.min.code 2 (some .int) ∈ wsX1_neighbour := List.mem_cons_of_mem _ (List.mem_of_getElem? (i := 6) rfl)
set_option maxHeartbeats 4000000 in
set_option maxRecDepth 100000 in
theorem mX1_neighbour (l : Launch) (D : va_G) (K : Nat → ClassId)  (sz : Nat) (a0 : Int32) (a1 : Int32)   {post : Int32 → Prop} (hw : wX1_neighbour a0 a1  post) : Met l yX1_neighbour wsX1_neighbour rmX1_neighbour (va_Pc [.int a0, .int a1] (cP D K (fl []) sz)) (va_Qi (fun (r : Int32) (u : Unit) => post r) (fun u t => cQ D K (fl []) (va_A (fl []) sz) t) (va_A (fl []) sz)) 0 0 (va_A (fl []) sz) := by
  refine x_entry (cc := cX1_neighbour) (maxL := 3) (ret := (some .int)) (QA := fun A => va_Qi (fun (r : Int32) (u : Unit) => post r) (fun u t => cQ D K (fl []) A t) A) (plainFor_of_name (by decide)) rfl (Nat.le_of_ble_eq_true rfl) ?_
  intro p e s m args below meth c A ls H Q hQ hC hlk hr hnm hI hl
  obtain ⟨hx, hb, hml, hown, hts, hK, hA, hZ⟩ := id hC
  obtain ⟨locs, hlocs⟩ : ∃ y : List Loc, y = [] := ⟨_, rfl⟩
  rw [← hlocs] at hI ⊢
  clear hlocs
  replace hl : lv_has ls 3 [(0, .int a0), (1, .int a1)] := hl
  replace hw : ((a0 = 0 → post ((1 : Int32) + a1)) ∧ (¬ a0 = 0 → ((a0 = (265 : Int32) → post ((241 : Int32) + a1)) ∧ (¬ a0 = (265 : Int32) → wX1_stepOf a0 (fun (r3 : Int32) => ((a1 = (0 : Int32) → post (if (0 : Int32) < (a0 - (24 : Int32)) then (a0 - (24 : Int32)) else (0 : Int32))) ∧ (¬ a1 = (0 : Int32) → ((a1 = (1 : Int32) → ((r3 = (23 : Int32) → post (a0 - r3)) ∧ (¬ r3 = (23 : Int32) → post (a0 + (1 : Int32))))) ∧ (¬ a1 = (1 : Int32) → ((a1 = (2 : Int32) → ((r3 = 0 → post ((a0 + (24 : Int32)) - (1 : Int32))) ∧ (¬ r3 = 0 → post (a0 - (1 : Int32))))) ∧ (¬ a1 = (2 : Int32) → post (if (a0 + (24 : Int32)) < (265 : Int32) then (a0 + (24 : Int32)) else (265 : Int32))))))))))))) := hw
  refine lv_iload_n hx hb dX1_neighbour_0 rfl (lv_at hl 0 rfl) ?_
  refine lv_if_ne (tgt := 8) hx hb dX1_neighbour_1 (by decide) (fun c1 => ?_) (fun c1 => ?_)
  · replace hw := hw.2 c1
    refine lv_iload_n hx hb dX1_neighbour_8 rfl (lv_at hl 0 rfl) ?_
    refine lv_sipush (v := (265 : Int32)) hx hb dX1_neighbour_9 (by decide) ?_
    refine lv_icmp_ne (tgt := 21) hx hb dX1_neighbour_12 (by decide) (fun c2 => ?_) (fun c2 => ?_)
    · replace hw := hw.2 c2
      refine lv_iload_n hx hb dX1_neighbour_21 rfl (lv_at hl 0 rfl) ?_
      refine x_callSi (rest := []) hC hI [] (mX1_stepOf l D K  _ a0 hw) (va_cwS 1 hts gX1_neighbour_X1_stepOf rfl rfl rfl (by decide +kernel) ⟨(Nat.le_of_ble_eq_true rfl), (Nat.le_of_ble_eq_true rfl)⟩) (by decide) rfl (fun _ => rfl) rfl hl.1 rfl (Nat.le_of_ble_eq_true rfl) dX1_neighbour_22 ⟨(Nat.le_of_ble_eq_true rfl), (Nat.le_of_ble_eq_true rfl)⟩ (fun r3 u H locs hw hI => ?_)
      try dsimp only at hw
      have hI : wI s D A (fl []) H locs := hI
      refine lv_istore_n (lv' := [(2, .int r3), (0, .int a0), (1, .int a1)]) hx hb dX1_neighbour_25 rfl hl (by decide) rfl (fun ls hl => ?_)
      refine lv_iload_n hx hb dX1_neighbour_26 rfl (lv_at hl 2 rfl) ?_
      by_cases c4 : a1 = (0 : Int32)
      · replace hw := hw.1 c4
        refine lv_tableIn (off := 25) (tgt := 52) hx hb dX1_neighbour_27 (by rw [c4]; decide) (by rw [c4]; decide) (by rw [c4]; rfl) (by decide) ?_
        refine lv_iconst (v := (0 : Int32)) hx hb dX1_neighbour_52 (by decide) ?_
        refine lv_iload_n hx hb dX1_neighbour_53 rfl (lv_at hl 1 rfl) ?_
        refine lv_bipush (v := (24 : Int32)) hx hb dX1_neighbour_54 (by decide) ?_
        refine lv_isub hx hb dX1_neighbour_56 ?_
        refine va_mmax hx hb (hml.trans hl.1.symm) hown (hts _ kX1_neighbour_0) (hts _ kX1_neighbour_1) (hts _ kX1_neighbour_2) (hts _ kX1_neighbour_3) (Nat.le_of_ble_eq_true rfl) (Nat.le_of_ble_eq_true rfl) (Nat.le_of_ble_eq_true rfl) (Nat.le_of_ble_eq_true rfl) dX1_neighbour_57 ?_
        subst hQ
        exact x_iret (u := ()) hC hI hr hlk hw rfl dX1_neighbour_60
      · replace hw := hw.2 c4
        by_cases c5 : a1 = (1 : Int32)
        · replace hw := hw.1 c5
          refine lv_tableIn (off := 34) (tgt := 61) hx hb dX1_neighbour_27 (by rw [c5]; decide) (by rw [c5]; decide) (by rw [c5]; rfl) (by decide) ?_
          refine lv_iload_n hx hb dX1_neighbour_61 rfl (lv_at hl 0 rfl) ?_
          refine lv_bipush (v := (23 : Int32)) hx hb dX1_neighbour_62 (by decide) ?_
          refine lv_icmp_ne (tgt := 73) hx hb dX1_neighbour_64 (by decide) (fun c6 => ?_) (fun c6 => ?_)
          · replace hw := hw.2 c6
            refine lv_iload_n hx hb dX1_neighbour_73 rfl (lv_at hl 1 rfl) ?_
            refine lv_iconst (v := (1 : Int32)) hx hb dX1_neighbour_74 (by decide) ?_
            refine lv_iadd hx hb dX1_neighbour_75 ?_
            subst hQ
            exact x_iret (u := ()) hC hI hr hlk hw rfl dX1_neighbour_76
          · replace hw := hw.1 c6
            refine lv_iload_n hx hb dX1_neighbour_67 rfl (lv_at hl 1 rfl) ?_
            refine lv_iload_n hx hb dX1_neighbour_68 rfl (lv_at hl 0 rfl) ?_
            refine lv_isub hx hb dX1_neighbour_69 ?_
            refine lv_goto (tgt := 76) hx hb dX1_neighbour_70 (by decide) ?_
            subst hQ
            exact x_iret (u := ()) hC hI hr hlk hw rfl dX1_neighbour_76
        · replace hw := hw.2 c5
          by_cases c7 : a1 = (2 : Int32)
          · replace hw := hw.1 c7
            refine lv_tableIn (off := 50) (tgt := 77) hx hb dX1_neighbour_27 (by rw [c7]; decide) (by rw [c7]; decide) (by rw [c7]; rfl) (by decide) ?_
            refine lv_iload_n hx hb dX1_neighbour_77 rfl (lv_at hl 0 rfl) ?_
            refine lv_if_ne (tgt := 90) hx hb dX1_neighbour_78 (by decide) (fun c8 => ?_) (fun c8 => ?_)
            · replace hw := hw.2 c8
              refine lv_iload_n hx hb dX1_neighbour_90 rfl (lv_at hl 1 rfl) ?_
              refine lv_iconst (v := (1 : Int32)) hx hb dX1_neighbour_91 (by decide) ?_
              refine lv_isub hx hb dX1_neighbour_92 ?_
              subst hQ
              exact x_iret (u := ()) hC hI hr hlk hw rfl dX1_neighbour_93
            · replace hw := hw.1 c8
              refine lv_iload_n hx hb dX1_neighbour_81 rfl (lv_at hl 1 rfl) ?_
              refine lv_bipush (v := (24 : Int32)) hx hb dX1_neighbour_82 (by decide) ?_
              refine lv_iadd hx hb dX1_neighbour_84 ?_
              refine lv_iconst (v := (1 : Int32)) hx hb dX1_neighbour_85 (by decide) ?_
              refine lv_isub hx hb dX1_neighbour_86 ?_
              refine lv_goto (tgt := 93) hx hb dX1_neighbour_87 (by decide) ?_
              subst hQ
              exact x_iret (u := ()) hC hI hr hlk hw rfl dX1_neighbour_93
          · replace hw := hw.2 c7
            refine lv_tableOut (tgt := 94) hx hb dX1_neighbour_27 (by have nc4 := lv_neT c4 (a := 0) rfl; have nc5 := lv_neT c5 (a := 1) rfl; have nc7 := lv_neT c7 (a := 2) rfl; omega) (by decide) ?_
            refine lv_sipush (v := (265 : Int32)) hx hb dX1_neighbour_94 (by decide) ?_
            refine lv_iload_n hx hb dX1_neighbour_97 rfl (lv_at hl 1 rfl) ?_
            refine lv_bipush (v := (24 : Int32)) hx hb dX1_neighbour_98 (by decide) ?_
            refine lv_iadd hx hb dX1_neighbour_100 ?_
            refine va_mmin hx hb (hml.trans hl.1.symm) hown (hts _ kX1_neighbour_4) (hts _ kX1_neighbour_5) (hts _ kX1_neighbour_2) (hts _ kX1_neighbour_6) (Nat.le_of_ble_eq_true rfl) (Nat.le_of_ble_eq_true rfl) (Nat.le_of_ble_eq_true rfl) (Nat.le_of_ble_eq_true rfl) dX1_neighbour_101 ?_
            subst hQ
            exact x_iret (u := ()) hC hI hr hlk hw rfl dX1_neighbour_104
    · replace hw := hw.1 c2
      refine lv_sipush (v := (241 : Int32)) hx hb dX1_neighbour_15 (by decide) ?_
      refine lv_iload_n hx hb dX1_neighbour_18 rfl (lv_at hl 1 rfl) ?_
      refine lv_iadd hx hb dX1_neighbour_19 ?_
      subst hQ
      exact x_iret (u := ()) hC hI hr hlk hw rfl dX1_neighbour_20
  · replace hw := hw.1 c1
    refine lv_iconst (v := (1 : Int32)) hx hb dX1_neighbour_4 (by decide) ?_
    refine lv_iload_n hx hb dX1_neighbour_5 rfl (lv_at hl 1 rfl) ?_
    refine lv_iadd hx hb dX1_neighbour_6 ?_
    subst hQ
    exact x_iret (u := ()) hC hI hr hlk hw rfl dX1_neighbour_7

def wX1_areNeighbours (a0 : Int32) (a1 : Int32)  (post : Int32 → Prop) : Prop := (∃ (I2 : Int32 → Prop) (mu2 : Int32 → Nat), I2 (0 : Int32) ∧ ∀ (l2_2 : Int32), I2 l2_2 → wX1_neighbourNumber a0 (fun (r1 : Int32) => ((r1 ≤ l2_2 → post (0 : Int32)) ∧ (¬ r1 ≤ l2_2 → wX1_neighbour a0 l2_2 (fun (r3 : Int32) => ((r3 = a1 → post (1 : Int32)) ∧ (¬ r3 = a1 → ∀ x5 : Int32, x5 = l2_2 + 1 → (I2 x5 ∧ mu2 x5 < mu2 l2_2))))))))
def rmX1_areNeighbours : Room := { frames := 3, cells := 0, slots := 0, locals := 62 }
set_option maxHeartbeats 4000000 in
set_option maxRecDepth 100000 in
theorem mX1_areNeighbours (l : Launch) (D : va_G) (K : Nat → ClassId)  (sz : Nat) (a0 : Int32) (a1 : Int32)   {post : Int32 → Prop} (hw : wX1_areNeighbours a0 a1  post) : Met l yX1_areNeighbours wsX1_areNeighbours rmX1_areNeighbours (va_Pc [.int a0, .int a1] (cP D K (fl []) sz)) (va_Qi (fun (r : Int32) (u : Unit) => post r) (fun u t => cQ D K (fl []) (va_A (fl []) sz) t) (va_A (fl []) sz)) 0 0 (va_A (fl []) sz) := by
  refine x_entry (cc := cX1_areNeighbours) (maxL := 3) (ret := (some .boolean)) (QA := fun A => va_Qi (fun (r : Int32) (u : Unit) => post r) (fun u t => cQ D K (fl []) A t) A) (plainFor_of_name (by decide)) rfl (Nat.le_of_ble_eq_true rfl) ?_
  intro p e s m args below meth c A ls H Q hQ hC hlk hr hnm hI hl
  obtain ⟨hx, hb, hml, hown, hts, hK, hA, hZ⟩ := id hC
  obtain ⟨locs, hlocs⟩ : ∃ y : List Loc, y = [] := ⟨_, rfl⟩
  rw [← hlocs] at hI ⊢
  clear hlocs
  replace hl : lv_has ls 3 [(0, .int a0), (1, .int a1)] := hl
  replace hw : (∃ (I2 : Int32 → Prop) (mu2 : Int32 → Nat), I2 (0 : Int32) ∧ ∀ (l2_2 : Int32), I2 l2_2 → wX1_neighbourNumber a0 (fun (r1 : Int32) => ((r1 ≤ l2_2 → post (0 : Int32)) ∧ (¬ r1 ≤ l2_2 → wX1_neighbour a0 l2_2 (fun (r3 : Int32) => ((r3 = a1 → post (1 : Int32)) ∧ (¬ r3 = a1 → ∀ x5 : Int32, x5 = l2_2 + 1 → (I2 x5 ∧ mu2 x5 < mu2 l2_2)))))))) := hw
  refine lv_iconst (v := (0 : Int32)) hx hb dX1_areNeighbours_0 (by decide) ?_
  refine lv_istore_n (lv' := [(2, .int (0 : Int32)), (0, .int a0), (1, .int a1)]) hx hb dX1_areNeighbours_1 rfl hl (by decide) rfl (fun ls hl => ?_)
  obtain ⟨I2, mu2, hw, hb2⟩ := hw
  have lp2 : ∀ (k : Nat) (l2_2 : Int32) (ls : Array Slot) (H : Heap) (locs : List Loc), mu2 l2_2 < k → I2 l2_2 → wI s D A (fl []) H locs → lv_has ls 3 [(0, .int a0), (1, .int a1), (2, .int l2_2)] → W p l e rmX1_areNeighbours s m args below meth c H locs 0 0 Q (F0 m 2 ls []) := by
    intro k
    induction k with
    | zero => intro l2_2 ls H locs hmu; exact absurd hmu (Nat.not_lt_zero _)
    | succ k ih2 =>
      intro l2_2 ls H locs hmu2 hw hI hl
      replace hw := hb2 l2_2 hw
      refine lv_iload_n hx hb dX1_areNeighbours_2 rfl (lv_at hl 2 rfl) ?_
      refine lv_iload_n hx hb dX1_areNeighbours_3 rfl (lv_at hl 0 rfl) ?_
      refine x_callSi (rest := [.int l2_2]) hC hI [] (mX1_neighbourNumber l D K  _ a0 hw) (va_cwS 1 hts gX1_areNeighbours_X1_neighbourNumber rfl rfl rfl (by decide +kernel) ⟨(Nat.le_of_ble_eq_true rfl), (Nat.le_of_ble_eq_true rfl)⟩) (by decide) rfl (fun _ => rfl) rfl hl.1 rfl (Nat.le_of_ble_eq_true rfl) dX1_areNeighbours_4 ⟨(Nat.le_of_ble_eq_true rfl), (Nat.le_of_ble_eq_true rfl)⟩ (fun r1 u H locs hw hI => ?_)
      try dsimp only at hw
      have hI : wI s D A (fl []) H locs := hI
      refine lv_icmp_ge (tgt := 27) hx hb dX1_areNeighbours_7 (by decide) (fun c2 => ?_) (fun c2 => ?_)
      · replace hw := hw.1 c2
        refine lv_iconst (v := (0 : Int32)) hx hb dX1_areNeighbours_27 (by decide) ?_
        subst hQ
        exact x_zret (u := ()) hC hI hr hlk hw rfl (Or.inl rfl) dX1_areNeighbours_28
      · replace hw := hw.2 c2
        refine lv_iload_n hx hb dX1_areNeighbours_10 rfl (lv_at hl 0 rfl) ?_
        refine lv_iload_n hx hb dX1_areNeighbours_11 rfl (lv_at hl 2 rfl) ?_
        refine x_callSi (rest := []) hC hI [] (mX1_neighbour l D K  _ a0 l2_2 hw) (va_cwS 2 hts gX1_areNeighbours_X1_neighbour rfl rfl rfl (by decide +kernel) ⟨(Nat.le_of_ble_eq_true rfl), (Nat.le_of_ble_eq_true rfl)⟩) (by decide) rfl (fun _ => rfl) rfl hl.1 rfl (Nat.le_of_ble_eq_true rfl) dX1_areNeighbours_12 ⟨(Nat.le_of_ble_eq_true rfl), (Nat.le_of_ble_eq_true rfl)⟩ (fun r3 u H locs hw hI => ?_)
        try dsimp only at hw
        have hI : wI s D A (fl []) H locs := hI
        refine lv_iload_n hx hb dX1_areNeighbours_15 rfl (lv_at hl 1 rfl) ?_
        refine lv_icmp_ne (tgt := 21) hx hb dX1_areNeighbours_16 (by decide) (fun c4 => ?_) (fun c4 => ?_)
        · replace hw := hw.2 c4
          obtain ⟨x5, ex5⟩ : ∃ y : Int32, y = l2_2 + 1 := ⟨_, rfl⟩
          replace hw := hw x5 ex5
          refine lv_iinc (v := x5) (lv' := [(2, .int x5), (0, .int a0), (1, .int a1)]) hx hb dX1_areNeighbours_21 hl (k := 2) rfl (by rw [ex5]; rfl) (by decide) rfl (fun ls hl => ?_)
          refine lv_goto (tgt := 2) hx hb dX1_areNeighbours_24 (by decide) ?_
          exact ih2 x5 ls H locs (Nat.lt_of_lt_of_le hw.2 (Nat.le_of_lt_succ hmu2)) hw.1 hI (lv_sub hl [1, 2, 0] rfl)
        · replace hw := hw.1 c4
          refine lv_iconst (v := (1 : Int32)) hx hb dX1_areNeighbours_19 (by decide) ?_
          subst hQ
          exact x_zret (u := ()) hC hI hr hlk hw rfl (Or.inr rfl) dX1_areNeighbours_20
  exact lp2 (mu2 (0 : Int32) + 1) (0 : Int32) ls H locs (Nat.lt_succ_self _) hw hI (lv_sub hl [1, 2, 0] rfl)

def wJ7_fill_d0a16 (a1 : Int64) (arr : Nat → Int64) (alen : Nat) (post : (Nat → Int64) → Prop) : Prop := ∀ x1 : Int32, x1 = (Int32.ofNat alen) → (∃ (I6 : Int32 → (Nat → Int64) → Prop) (mu6 : Int32 → (Nat → Int64) → Nat), I6 (0 : Int32) arr ∧ ∀ (l3_6 : Int32) (arr_6 : Nat → Int64), I6 l3_6 arr_6 → ((x1 ≤ l3_6 → post arr_6) ∧ (¬ x1 ≤ l3_6 → vp_in l3_6 alen ∧ ∀ x4 : Int32, x4 = l3_6 + 1 → (I6 x4 (vp_updL arr_6 l3_6.toNatClampNeg a1) ∧ mu6 x4 (vp_updL arr_6 l3_6.toNatClampNeg a1) < mu6 l3_6 arr_6))))
def rmJ7_fill_d0a16 : Room := { frames := 0, cells := 0, slots := 0, locals := 0 }
set_option maxHeartbeats 4000000 in
set_option maxRecDepth 100000 in
theorem mJ7_fill_d0a16 (l : Launch) (D : va_G) (K : Nat → ClassId) (h : Nat → Nat) (sz : Nat) (a1 : Int64) (arr : Nat → Int64) (alen : Nat) {post : (Nat → Int64) → Prop} (hw : wJ7_fill_d0a16 a1 arr alen post) : Met l yJ7_fill_d0a16 wsJ7_fill_d0a16 rmJ7_fill_d0a16 (va_Pc [.ref (h 0), .long a1] (cP D K (fl [wAJ K h alen arr]) sz)) (va_Qv (fun (u : (Nat → Int64)) => post u) (fun u t => cQ D K (fl [wAJ K h alen u]) (va_A (fl [wAJ K h alen arr]) sz) t) (va_A (fl [wAJ K h alen arr]) sz)) 0 0 (va_A (fl [wAJ K h alen arr]) sz) := by
  refine x_entry (cc := cJ7_fill_d0a16) (maxL := 5) (ret := none) (QA := fun A => va_Qv (fun (u : (Nat → Int64)) => post u) (fun u t => cQ D K (fl [wAJ K h alen u]) A t) A) (plainFor_of_name (by decide)) rfl (Nat.le_of_ble_eq_true rfl) ?_
  intro p e s m args below meth c A ls H Q hQ hC hlk hr hnm hI hl
  obtain ⟨hx, hb, hml, hown, hts, hK, hA, hZ⟩ := id hC
  obtain ⟨locs, hlocs⟩ : ∃ y : List Loc, y = [] := ⟨_, rfl⟩
  rw [← hlocs] at hI ⊢
  clear hlocs
  replace hl : lv_has ls 5 [(0, .ref (h 0)), (1, .long a1)] := hl
  replace hw : ∀ x1 : Int32, x1 = (Int32.ofNat alen) → (∃ (I6 : Int32 → (Nat → Int64) → Prop) (mu6 : Int32 → (Nat → Int64) → Nat), I6 (0 : Int32) arr ∧ ∀ (l3_6 : Int32) (arr_6 : Nat → Int64), I6 l3_6 arr_6 → ((x1 ≤ l3_6 → post arr_6) ∧ (¬ x1 ≤ l3_6 → vp_in l3_6 alen ∧ ∀ x4 : Int32, x4 = l3_6 + 1 → (I6 x4 (vp_updL arr_6 l3_6.toNatClampNeg a1) ∧ mu6 x4 (vp_updL arr_6 l3_6.toNatClampNeg a1) < mu6 l3_6 arr_6)))) := hw
  refine lv_iconst (v := (0 : Int32)) hx hb dJ7_fill_d0a16_0 (by decide) ?_
  refine lv_istore_n (lv' := [(3, .int (0 : Int32)), (0, .ref (h 0)), (1, .long a1)]) hx hb dJ7_fill_d0a16_1 rfl hl (by decide) rfl (fun ls hl => ?_)
  refine lv_aload_n hx hb dJ7_fill_d0a16_2 rfl (lv_at hl 1 rfl) ?_
  refine x_alenJ (v := (Int32.ofNat alen)) hC hI 0 rfl rfl dJ7_fill_d0a16_3 ?_
  refine lv_topi (fun x1 ex1 => ?_)
  replace hw := hw x1 ex1
  refine lv_istore (lv' := [(4, .int x1), (3, .int (0 : Int32)), (0, .ref (h 0)), (1, .long a1)]) hx hb dJ7_fill_d0a16_4 hl (by decide) rfl (fun ls hl => ?_)
  obtain ⟨I6, mu6, hw, hb6⟩ := hw
  have lp6 : ∀ (k : Nat) (l3_6 : Int32) (arr_6 : Nat → Int64) (ls : Array Slot) (H : Heap) (locs : List Loc), mu6 l3_6 arr_6 < k → I6 l3_6 arr_6 → wI s D A (fl [wAJ K h alen arr_6]) H locs → lv_has ls 5 [(0, .ref (h 0)), (1, .long a1), (3, .int l3_6), (4, .int x1)] → W p l e rmJ7_fill_d0a16 s m args below meth c H locs 0 0 Q (F0 m 6 ls []) := by
    intro k
    induction k with
    | zero => intro l3_6 arr_6 ls H locs hmu; exact absurd hmu (Nat.not_lt_zero _)
    | succ k ih6 =>
      intro l3_6 arr_6 ls H locs hmu6 hw hI hl
      replace hw := hb6 l3_6 arr_6 hw
      refine lv_iload_n hx hb dJ7_fill_d0a16_6 rfl (lv_at hl 2 rfl) ?_
      refine lv_iload hx hb dJ7_fill_d0a16_7 (lv_at hl 3 rfl) ?_
      refine lv_icmp_ge (tgt := 22) hx hb dJ7_fill_d0a16_9 (by decide) (fun c2 => ?_) (fun c2 => ?_)
      · replace hw := hw.1 c2
        subst hQ
        exact x_vret (u := arr_6) hC hI hr hlk hw rfl dJ7_fill_d0a16_22
      · replace hw := hw.2 c2
        refine lv_aload_n hx hb dJ7_fill_d0a16_12 rfl (lv_at hl 0 rfl) ?_
        refine lv_iload_n hx hb dJ7_fill_d0a16_13 rfl (lv_at hl 2 rfl) ?_
        refine lv_lload_n hx hb dJ7_fill_d0a16_14 rfl (lv_at hl 1 rfl) ?_
        obtain ⟨hc3, hw⟩ := hw
        refine x_last (f := arr_6) hC hI 0 rfl hc3 dJ7_fill_d0a16_15 (fun H locs hI => ?_)
        have hI : wI s D A (fl [wAJ K h alen (vp_updL arr_6 l3_6.toNatClampNeg a1)]) H locs := hI
        obtain ⟨x4, ex4⟩ : ∃ y : Int32, y = l3_6 + 1 := ⟨_, rfl⟩
        replace hw := hw x4 ex4
        refine lv_iinc (v := x4) (lv' := [(3, .int x4), (0, .ref (h 0)), (1, .long a1), (4, .int x1)]) hx hb dJ7_fill_d0a16_16 hl (k := 2) rfl (by rw [ex4]; rfl) (by decide) rfl (fun ls hl => ?_)
        refine lv_goto (tgt := 6) hx hb dJ7_fill_d0a16_19 (by decide) ?_
        exact ih6 x4 (vp_updL arr_6 l3_6.toNatClampNeg a1) ls H locs (Nat.lt_of_lt_of_le hw.2 (Nat.le_of_lt_succ hmu6)) hw.1 hI (lv_sub hl [1, 2, 0, 3] rfl)
  exact lp6 (mu6 (0 : Int32) arr + 1) (0 : Int32) arr ls H locs (Nat.lt_succ_self _) hw hI (lv_sub hl [2, 3, 1, 0] rfl)

def wJ9_floorMod_7cf53 (a0 : Int32) (a1 : Int32)  (post : Int32 → Prop) : Prop := ¬ a1 = 0 ∧ ∀ x2 : Int32, x2 = a0 - a0 / a1 * a1 → ((0 ≤ (a0 ^^^ a1) → post x2) ∧ (¬ 0 ≤ (a0 ^^^ a1) → ((x2 = 0 → post x2) ∧ (¬ x2 = 0 → post (x2 + a1)))))
def rmJ9_floorMod_7cf53 : Room := { frames := 0, cells := 0, slots := 0, locals := 0 }
set_option maxHeartbeats 4000000 in
set_option maxRecDepth 100000 in
theorem mJ9_floorMod_7cf53 (l : Launch) (D : va_G) (K : Nat → ClassId)  (sz : Nat) (a0 : Int32) (a1 : Int32)   {post : Int32 → Prop} (hw : wJ9_floorMod_7cf53 a0 a1  post) : Met l yJ9_floorMod_7cf53 wsJ9_floorMod_7cf53 rmJ9_floorMod_7cf53 (va_Pc [.int a0, .int a1] (cP D K (fl []) sz)) (va_Qi (fun (r : Int32) (u : Unit) => post r) (fun u t => cQ D K (fl []) (va_A (fl []) sz) t) (va_A (fl []) sz)) 0 0 (va_A (fl []) sz) := by
  refine x_entry (cc := cJ9_floorMod_7cf53) (maxL := 3) (ret := (some .int)) (QA := fun A => va_Qi (fun (r : Int32) (u : Unit) => post r) (fun u t => cQ D K (fl []) A t) A) (by decide +kernel) rfl (Nat.le_of_ble_eq_true rfl) ?_
  intro p e s m args below meth c A ls H Q hQ hC hlk hr hnm hI hl
  obtain ⟨hx, hb, hml, hown, hts, hK, hA, hZ⟩ := id hC
  obtain ⟨locs, hlocs⟩ : ∃ y : List Loc, y = [] := ⟨_, rfl⟩
  rw [← hlocs] at hI ⊢
  clear hlocs
  replace hl : lv_has ls 3 [(0, .int a0), (1, .int a1)] := hl
  replace hw : ¬ a1 = 0 ∧ ∀ x2 : Int32, x2 = a0 - a0 / a1 * a1 → ((0 ≤ (a0 ^^^ a1) → post x2) ∧ (¬ 0 ≤ (a0 ^^^ a1) → ((x2 = 0 → post x2) ∧ (¬ x2 = 0 → post (x2 + a1))))) := hw
  refine lv_iload_n hx hb dJ9_floorMod_7cf53_0 rfl (lv_at hl 0 rfl) ?_
  refine lv_iload_n hx hb dJ9_floorMod_7cf53_1 rfl (lv_at hl 1 rfl) ?_
  obtain ⟨hc1, hw⟩ := hw
  refine lv_irem hx hb dJ9_floorMod_7cf53_2 hc1 ?_
  refine lv_topi (fun x2 ex2 => ?_)
  replace hw := hw x2 ex2
  refine lv_istore_n (lv' := [(2, .int x2), (0, .int a0), (1, .int a1)]) hx hb dJ9_floorMod_7cf53_3 rfl hl (by decide) rfl (fun ls hl => ?_)
  refine lv_iload_n hx hb dJ9_floorMod_7cf53_4 rfl (lv_at hl 1 rfl) ?_
  refine lv_iload_n hx hb dJ9_floorMod_7cf53_5 rfl (lv_at hl 2 rfl) ?_
  refine lv_ixor hx hb dJ9_floorMod_7cf53_6 ?_
  refine lv_if_ge (tgt := 18) hx hb dJ9_floorMod_7cf53_7 (by decide) (fun c3 => ?_) (fun c3 => ?_)
  · replace hw := hw.1 c3
    refine lv_iload_n hx hb dJ9_floorMod_7cf53_18 rfl (lv_at hl 0 rfl) ?_
    subst hQ
    exact x_iret (u := ()) hC hI hr hlk hw rfl dJ9_floorMod_7cf53_19
  · replace hw := hw.2 c3
    refine lv_iload_n hx hb dJ9_floorMod_7cf53_10 rfl (lv_at hl 0 rfl) ?_
    refine lv_if_eq (tgt := 18) hx hb dJ9_floorMod_7cf53_11 (by decide) (fun c4 => ?_) (fun c4 => ?_)
    · replace hw := hw.1 c4
      refine lv_iload_n hx hb dJ9_floorMod_7cf53_18 rfl (lv_at hl 0 rfl) ?_
      subst hQ
      exact x_iret (u := ()) hC hI hr hlk hw rfl dJ9_floorMod_7cf53_19
    · replace hw := hw.2 c4
      refine lv_iload_n hx hb dJ9_floorMod_7cf53_14 rfl (lv_at hl 0 rfl) ?_
      refine lv_iload_n hx hb dJ9_floorMod_7cf53_15 rfl (lv_at hl 2 rfl) ?_
      refine lv_iadd hx hb dJ9_floorMod_7cf53_16 ?_
      subst hQ
      exact x_iret (u := ()) hC hI hr hlk hw rfl dJ9_floorMod_7cf53_17

def wJ7_fill_53178 (a1 : Int32) (arr : Nat → Int32) (alen : Nat) (post : (Nat → Int32) → Prop) : Prop := ∀ x1 : Int32, x1 = (Int32.ofNat alen) → (∃ (I5 : Int32 → (Nat → Int32) → Prop) (mu5 : Int32 → (Nat → Int32) → Nat), I5 (0 : Int32) arr ∧ ∀ (l2_5 : Int32) (arr_5 : Nat → Int32), I5 l2_5 arr_5 → ((x1 ≤ l2_5 → post arr_5) ∧ (¬ x1 ≤ l2_5 → vp_in l2_5 alen ∧ ∀ x4 : Int32, x4 = l2_5 + 1 → (I5 x4 (upd arr_5 l2_5.toNatClampNeg a1) ∧ mu5 x4 (upd arr_5 l2_5.toNatClampNeg a1) < mu5 l2_5 arr_5))))
def rmJ7_fill_53178 : Room := { frames := 0, cells := 0, slots := 0, locals := 0 }
set_option maxHeartbeats 4000000 in
set_option maxRecDepth 100000 in
theorem mJ7_fill_53178 (l : Launch) (D : va_G) (K : Nat → ClassId) (h : Nat → Nat) (sz : Nat) (a1 : Int32) (arr : Nat → Int32) (alen : Nat) {post : (Nat → Int32) → Prop} (hw : wJ7_fill_53178 a1 arr alen post) : Met l yJ7_fill_53178 wsJ7_fill_53178 rmJ7_fill_53178 (va_Pc [.ref (h 0), .int a1] (cP D K (fl [wAI K h alen arr]) sz)) (va_Qv (fun (u : (Nat → Int32)) => post u) (fun u t => cQ D K (fl [wAI K h alen u]) (va_A (fl [wAI K h alen arr]) sz) t) (va_A (fl [wAI K h alen arr]) sz)) 0 0 (va_A (fl [wAI K h alen arr]) sz) := by
  refine x_entry (cc := cJ7_fill_53178) (maxL := 4) (ret := none) (QA := fun A => va_Qv (fun (u : (Nat → Int32)) => post u) (fun u t => cQ D K (fl [wAI K h alen u]) A t) A) (plainFor_of_name (by decide)) rfl (Nat.le_of_ble_eq_true rfl) ?_
  intro p e s m args below meth c A ls H Q hQ hC hlk hr hnm hI hl
  obtain ⟨hx, hb, hml, hown, hts, hK, hA, hZ⟩ := id hC
  obtain ⟨locs, hlocs⟩ : ∃ y : List Loc, y = [] := ⟨_, rfl⟩
  rw [← hlocs] at hI ⊢
  clear hlocs
  replace hl : lv_has ls 4 [(0, .ref (h 0)), (1, .int a1)] := hl
  replace hw : ∀ x1 : Int32, x1 = (Int32.ofNat alen) → (∃ (I5 : Int32 → (Nat → Int32) → Prop) (mu5 : Int32 → (Nat → Int32) → Nat), I5 (0 : Int32) arr ∧ ∀ (l2_5 : Int32) (arr_5 : Nat → Int32), I5 l2_5 arr_5 → ((x1 ≤ l2_5 → post arr_5) ∧ (¬ x1 ≤ l2_5 → vp_in l2_5 alen ∧ ∀ x4 : Int32, x4 = l2_5 + 1 → (I5 x4 (upd arr_5 l2_5.toNatClampNeg a1) ∧ mu5 x4 (upd arr_5 l2_5.toNatClampNeg a1) < mu5 l2_5 arr_5)))) := hw
  refine lv_iconst (v := (0 : Int32)) hx hb dJ7_fill_53178_0 (by decide) ?_
  refine lv_istore_n (lv' := [(2, .int (0 : Int32)), (0, .ref (h 0)), (1, .int a1)]) hx hb dJ7_fill_53178_1 rfl hl (by decide) rfl (fun ls hl => ?_)
  refine lv_aload_n hx hb dJ7_fill_53178_2 rfl (lv_at hl 1 rfl) ?_
  refine x_alenI (v := (Int32.ofNat alen)) hC hI 0 rfl rfl dJ7_fill_53178_3 ?_
  refine lv_topi (fun x1 ex1 => ?_)
  replace hw := hw x1 ex1
  refine lv_istore_n (lv' := [(3, .int x1), (2, .int (0 : Int32)), (0, .ref (h 0)), (1, .int a1)]) hx hb dJ7_fill_53178_4 rfl hl (by decide) rfl (fun ls hl => ?_)
  obtain ⟨I5, mu5, hw, hb5⟩ := hw
  have lp5 : ∀ (k : Nat) (l2_5 : Int32) (arr_5 : Nat → Int32) (ls : Array Slot) (H : Heap) (locs : List Loc), mu5 l2_5 arr_5 < k → I5 l2_5 arr_5 → wI s D A (fl [wAI K h alen arr_5]) H locs → lv_has ls 4 [(0, .ref (h 0)), (1, .int a1), (2, .int l2_5), (3, .int x1)] → W p l e rmJ7_fill_53178 s m args below meth c H locs 0 0 Q (F0 m 5 ls []) := by
    intro k
    induction k with
    | zero => intro l2_5 arr_5 ls H locs hmu; exact absurd hmu (Nat.not_lt_zero _)
    | succ k ih5 =>
      intro l2_5 arr_5 ls H locs hmu5 hw hI hl
      replace hw := hb5 l2_5 arr_5 hw
      refine lv_iload_n hx hb dJ7_fill_53178_5 rfl (lv_at hl 2 rfl) ?_
      refine lv_iload_n hx hb dJ7_fill_53178_6 rfl (lv_at hl 3 rfl) ?_
      refine lv_icmp_ge (tgt := 20) hx hb dJ7_fill_53178_7 (by decide) (fun c2 => ?_) (fun c2 => ?_)
      · replace hw := hw.1 c2
        subst hQ
        exact x_vret (u := arr_5) hC hI hr hlk hw rfl dJ7_fill_53178_20
      · replace hw := hw.2 c2
        refine lv_aload_n hx hb dJ7_fill_53178_10 rfl (lv_at hl 0 rfl) ?_
        refine lv_iload_n hx hb dJ7_fill_53178_11 rfl (lv_at hl 2 rfl) ?_
        refine lv_iload_n hx hb dJ7_fill_53178_12 rfl (lv_at hl 1 rfl) ?_
        obtain ⟨hc3, hw⟩ := hw
        refine x_iast (f := arr_5) hC hI 0 rfl hc3 dJ7_fill_53178_13 (fun H locs hI => ?_)
        have hI : wI s D A (fl [wAI K h alen (upd arr_5 l2_5.toNatClampNeg a1)]) H locs := hI
        obtain ⟨x4, ex4⟩ : ∃ y : Int32, y = l2_5 + 1 := ⟨_, rfl⟩
        replace hw := hw x4 ex4
        refine lv_iinc (v := x4) (lv' := [(2, .int x4), (0, .ref (h 0)), (1, .int a1), (3, .int x1)]) hx hb dJ7_fill_53178_14 hl (k := 2) rfl (by rw [ex4]; rfl) (by decide) rfl (fun ls hl => ?_)
        refine lv_goto (tgt := 5) hx hb dJ7_fill_53178_17 (by decide) ?_
        exact ih5 x4 (upd arr_5 l2_5.toNatClampNeg a1) ls H locs (Nat.lt_of_lt_of_le hw.2 (Nat.le_of_lt_succ hmu5)) hw.1 hI (lv_sub hl [1, 2, 0, 3] rfl)
  exact lp5 (mu5 (0 : Int32) arr + 1) (0 : Int32) arr ls H locs (Nat.lt_succ_self _) hw hI (lv_sub hl [2, 3, 1, 0] rfl)
