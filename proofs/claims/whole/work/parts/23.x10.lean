def wX10_restore  (bits : Nat → Int64) (stops : Nat → Int32) (num : Int32) (unit : Int32) (strips : Int32) (caps : Int32) (draw : Int32) (oldest : Int32) (known : Int32) (ring : Nat → GS) (im : GS) (iold : Int32) (iknown : Int32) (iring : Nat → GS) (hasIm : Int32) (post : Int32 → (Nat → Int64) → (Nat → Int32) → Int32 → Int32 → Int32 → Int32 → Int32 → Int32 → Int32 → (Nat → GS) → Prop) : Prop := ((hasIm = 0 → post (-4 : Int32) bits stops num unit strips caps draw oldest known ring) ∧ (¬ hasIm = 0 → wX0_become bits stops im.1 im.2.1 im.2.2.1 im.2.2.2.1 im.2.2.2.2.1 im.2.2.2.2.2.1 im.2.2.2.2.2.2 (fun (bits_2 : Nat → Int64) (stops_3 : Nat → Int32) (num_4 : Int32) (unit_5 : Int32) (strips_6 : Int32) (caps_7 : Int32) (draw_8 : Int32) => wX4_become ring iold iknown iring (fun (oldest_9 : Int32) (known_10 : Int32) (ring_11 : Nat → GS) => post (1 : Int32) bits_2 stops_3 num_4 unit_5 strips_6 caps_7 draw_8 oldest_9 known_10 ring_11))))
def rmX10_restore : Room := { frames := 3, cells := 0, slots := 0, locals := 83 }
theorem kX10_restore_0 : Cond.fieldLink RX10 292 "GoreGlobe" "hasImage" "Z" ∈ wsX10_restore := List.mem_cons_of_mem _ (List.mem_append_left _ (List.mem_append_left _ (List.mem_append_left _ (List.mem_append_left _ (List.mem_of_getElem? (i := 0) rfl)))))
theorem kX10_restore_cX10 : ∀ w ∈ wsX100, w ∈ wsX10_restore := fun _ h => List.mem_cons_of_mem _ (List.mem_append_left _ (List.mem_append_left _ (List.mem_append_right _ h)))
theorem kX10_restore_2 : Cond.fieldLink RX10 10 "GoreGlobe" "now" "LGoreGlobe$Globe;" ∈ wsX10_restore := List.mem_cons_of_mem _ (List.mem_append_left _ (List.mem_append_left _ (List.mem_append_left _ (List.mem_append_left _ (List.mem_of_getElem? (i := 1) rfl)))))
theorem kX10_restore_3 : Cond.fieldLink RX10 23 "GoreGlobe" "imaged" "LGoreGlobe$Globe;" ∈ wsX10_restore := List.mem_cons_of_mem _ (List.mem_append_left _ (List.mem_append_left _ (List.mem_append_left _ (List.mem_append_left _ (List.mem_of_getElem? (i := 2) rfl)))))
theorem kX10_restore_4 : Cond.fieldLink RX10 19 "GoreGlobe" "past" "LGoreGlobe$Past;" ∈ wsX10_restore := List.mem_cons_of_mem _ (List.mem_append_left _ (List.mem_append_left _ (List.mem_append_left _ (List.mem_append_left _ (List.mem_of_getElem? (i := 3) rfl)))))
theorem kX10_restore_5 : Cond.fieldLink RX10 26 "GoreGlobe" "imagedPast" "LGoreGlobe$Past;" ∈ wsX10_restore := List.mem_cons_of_mem _ (List.mem_append_left _ (List.mem_append_left _ (List.mem_append_left _ (List.mem_append_left _ (List.mem_of_getElem? (i := 4) rfl)))))
set_option maxHeartbeats 4000000 in
set_option maxRecDepth 100000 in
theorem mX10_restore (l : Launch) (D : va_G) (K : Nat → ClassId) (q : Nat → Nat) (sz : Nat)  (bits : Nat → Int64) (stops : Nat → Int32) (num : Int32) (unit : Int32) (strips : Int32) (caps : Int32) (draw : Int32) (oldest : Int32) (known : Int32) (ring : Nat → GS) (im : GS) (iold : Int32) (iknown : Int32) (iring : Nat → GS) (hasIm : Int32) (letters : Nat → Int32) (tbits : Nat → Int64) (tlen : Int32) (tat : Int32) (fig : Int32) (shI : Nat → Nat → Int64) (shH : Nat → Int32) (shL : Nat → Int32) (shS : Nat → Int32) (seaOf : Nat → Int32) (queue : Nat → Int32) (snum : Int32) (cost : Nat → Int32) (heap : Nat → Int64) (wait : Int32) (off : Int32) (les : Int32) (gre : Int32) (abv : Int64) (blw : Int64) (needed : Int32) (ocut : Int32) (opole : Int32)  {post : Int32 → (Nat → Int64) → (Nat → Int32) → Int32 → Int32 → Int32 → Int32 → Int32 → Int32 → Int32 → (Nat → GS) → Prop} (hw : wX10_restore  bits stops num unit strips caps draw oldest known ring im iold iknown iring hasIm post) : Met l yX10_restore wsX10_restore rmX10_restore (va_Pc [.ref (q 0)] (cP D K (wX K q bits stops num unit strips caps draw oldest known ring im iold iknown iring hasIm letters tbits tlen tat fig shI shH shL shS seaOf queue snum cost heap wait off les gre abv blw needed ocut opole) sz)) (va_Qi (fun (r : Int32) (u : (Nat → Int64) × (Nat → Int32) × Int32 × Int32 × Int32 × Int32 × Int32 × Int32 × Int32 × (Nat → GS)) => post r u.1 u.2.1 u.2.2.1 u.2.2.2.1 u.2.2.2.2.1 u.2.2.2.2.2.1 u.2.2.2.2.2.2.1 u.2.2.2.2.2.2.2.1 u.2.2.2.2.2.2.2.2.1 u.2.2.2.2.2.2.2.2.2) (fun u t => cQ D K (wX K q u.1 u.2.1 u.2.2.1 u.2.2.2.1 u.2.2.2.2.1 u.2.2.2.2.2.1 u.2.2.2.2.2.2.1 u.2.2.2.2.2.2.2.1 u.2.2.2.2.2.2.2.2.1 u.2.2.2.2.2.2.2.2.2 im iold iknown iring hasIm letters tbits tlen tat fig shI shH shL shS seaOf queue snum cost heap wait off les gre abv blw needed ocut opole) (va_A (wX K q bits stops num unit strips caps draw oldest known ring im iold iknown iring hasIm letters tbits tlen tat fig shI shH shL shS seaOf queue snum cost heap wait off les gre abv blw needed ocut opole) sz) t) (va_A (wX K q bits stops num unit strips caps draw oldest known ring im iold iknown iring hasIm letters tbits tlen tat fig shI shH shL shS seaOf queue snum cost heap wait off les gre abv blw needed ocut opole) sz)) 0 0 (va_A (wX K q bits stops num unit strips caps draw oldest known ring im iold iknown iring hasIm letters tbits tlen tat fig shI shH shL shS seaOf queue snum cost heap wait off les gre abv blw needed ocut opole) sz) := by
  refine x_entry (cc := cX10_restore) (maxL := 1) (ret := (some .int)) (QA := fun A => va_Qi (fun (r : Int32) (u : (Nat → Int64) × (Nat → Int32) × Int32 × Int32 × Int32 × Int32 × Int32 × Int32 × Int32 × (Nat → GS)) => post r u.1 u.2.1 u.2.2.1 u.2.2.2.1 u.2.2.2.2.1 u.2.2.2.2.2.1 u.2.2.2.2.2.2.1 u.2.2.2.2.2.2.2.1 u.2.2.2.2.2.2.2.2.1 u.2.2.2.2.2.2.2.2.2) (fun u t => cQ D K (wX K q u.1 u.2.1 u.2.2.1 u.2.2.2.1 u.2.2.2.2.1 u.2.2.2.2.2.1 u.2.2.2.2.2.2.1 u.2.2.2.2.2.2.2.1 u.2.2.2.2.2.2.2.2.1 u.2.2.2.2.2.2.2.2.2 im iold iknown iring hasIm letters tbits tlen tat fig shI shH shL shS seaOf queue snum cost heap wait off les gre abv blw needed ocut opole) A t) A) (plainFor_of_name (by decide)) rfl (Nat.le_of_ble_eq_true rfl) ?_
  intro p e s m args below meth c A ls H Q hQ hC hlk hr hnm hI hl
  obtain ⟨hx, hb, hml, hown, hts, hK, hA, hZ⟩ := id hC
  obtain ⟨locs, hlocs⟩ : ∃ y : List Loc, y = [] := ⟨_, rfl⟩
  rw [← hlocs] at hI ⊢
  clear hlocs
  replace hl : lv_has ls 1 [(0, .ref (q 0))] := hl
  replace hw : ((hasIm = 0 → post (-4 : Int32) bits stops num unit strips caps draw oldest known ring) ∧ (¬ hasIm = 0 → wX0_become bits stops im.1 im.2.1 im.2.2.1 im.2.2.2.1 im.2.2.2.2.1 im.2.2.2.2.2.1 im.2.2.2.2.2.2 (fun (bits_2 : Nat → Int64) (stops_3 : Nat → Int32) (num_4 : Int32) (unit_5 : Int32) (strips_6 : Int32) (caps_7 : Int32) (draw_8 : Int32) => wX4_become ring iold iknown iring (fun (oldest_9 : Int32) (known_10 : Int32) (ring_11 : Nat → GS) => post (1 : Int32) bits_2 stops_3 num_4 unit_5 strips_6 caps_7 draw_8 oldest_9 known_10 ring_11)))) := hw
  refine lv_aload_n hx hb dX10_restore_0 rfl (lv_at hl 0 rfl) ?_
  refine x_get (v := .int hasIm) hC hI kX10_restore_cX10 0 rfl rfl 4 (by decide) kX10_restore_0 rfl rfl dX10_restore_1 ?_
  refine lv_if_ne (tgt := 10) hx hb dX10_restore_4 (by decide) (fun c1 => ?_) (fun c1 => ?_)
  · replace hw := hw.2 c1
    refine lv_aload_n hx hb dX10_restore_10 rfl (lv_at hl 0 rfl) ?_
    refine x_get (v := .ref (q 1)) hC hI kX10_restore_cX10 0 rfl rfl 0 (by decide) kX10_restore_2 rfl rfl dX10_restore_11 ?_
    refine lv_aload_n hx hb dX10_restore_14 rfl (lv_at hl 0 rfl) ?_
    refine x_get (v := .ref (q 24)) hC hI kX10_restore_cX10 0 rfl rfl 2 (by decide) kX10_restore_3 rfl rfl dX10_restore_15 ?_
    refine x_callVv (rest := []) hC hI [1, 2, 3, 24, 25, 26] (mX0_become l D K (fun i => q (1 + i)) (fun i => q (24 + i)) _ bits stops num unit strips caps draw im.1 im.2.1 im.2.2.1 im.2.2.2.1 im.2.2.2.2.1 im.2.2.2.2.2.1 im.2.2.2.2.2.2 hw) (cwV 1 hts gX10_restore_X0_become rfl rfl rfl (by decide +kernel) ⟨(Nat.le_of_ble_eq_true rfl), (Nat.le_of_ble_eq_true rfl)⟩) rfl rfl (fun _ => rfl) 1 0 rfl rfl rfl rfl hl.1 rfl (Nat.le_of_ble_eq_true rfl) dX10_restore_18 ⟨(Nat.le_of_ble_eq_true rfl), (Nat.le_of_ble_eq_true rfl)⟩ (fun u H locs hw hI => ?_)
    obtain ⟨bits_2, stops_3, num_4, unit_5, strips_6, caps_7, draw_8⟩ := u
    try dsimp only at hw
    have hI : wI s D A (wX K q bits_2 stops_3 num_4 unit_5 strips_6 caps_7 draw_8 oldest known ring im iold iknown iring hasIm letters tbits tlen tat fig shI shH shL shS seaOf queue snum cost heap wait off les gre abv blw needed ocut opole) H locs := hI
    refine lv_aload_n hx hb dX10_restore_21 rfl (lv_at hl 0 rfl) ?_
    refine x_get (v := .ref (q 4)) hC hI kX10_restore_cX10 0 rfl rfl 1 (by decide) kX10_restore_4 rfl rfl dX10_restore_22 ?_
    refine lv_aload_n hx hb dX10_restore_25 rfl (lv_at hl 0 rfl) ?_
    refine x_get (v := .ref (q 27)) hC hI kX10_restore_cX10 0 rfl rfl 3 (by decide) kX10_restore_5 rfl rfl dX10_restore_26 ?_
    refine x_callVv (rest := []) hC hI [4, 5, 6, 7, 8, 9, 10, 11, 12, 13, 14, 15, 16, 17, 18, 19, 20, 21, 22, 23, 27, 28, 29, 30, 31, 32, 33, 34, 35, 36, 37, 38, 39, 40, 41, 42, 43, 44, 45, 46] (mX4_become l D K (fun i => q (4 + i)) (fun i => q (27 + i)) _ oldest known ring iold iknown iring hw) (cwV 1 hts gX10_restore_X4_become rfl rfl rfl (by decide +kernel) ⟨(Nat.le_of_ble_eq_true rfl), (Nat.le_of_ble_eq_true rfl)⟩) rfl rfl (fun _ => rfl) 4 2 rfl rfl rfl rfl hl.1 rfl (Nat.le_of_ble_eq_true rfl) dX10_restore_29 ⟨(Nat.le_of_ble_eq_true rfl), (Nat.le_of_ble_eq_true rfl)⟩ (fun u H locs hw hI => ?_)
    obtain ⟨oldest_9, known_10, ring_11⟩ := u
    try dsimp only at hw
    have hI : wI s D A (wX K q bits_2 stops_3 num_4 unit_5 strips_6 caps_7 draw_8 oldest_9 known_10 ring_11 im iold iknown iring hasIm letters tbits tlen tat fig shI shH shL shS seaOf queue snum cost heap wait off les gre abv blw needed ocut opole) H locs := hI
    refine lv_iconst (v := (1 : Int32)) hx hb dX10_restore_32 (by decide) ?_
    subst hQ
    exact x_iret (u := (bits_2, stops_3, num_4, unit_5, strips_6, caps_7, draw_8, oldest_9, known_10, ring_11)) hC hI hr hlk hw rfl dX10_restore_33
  · replace hw := hw.1 c1
    refine lv_bipush (v := (-4 : Int32)) hx hb dX10_restore_7 (by decide) ?_
    subst hQ
    exact x_iret (u := (bits, stops, num, unit, strips, caps, draw, oldest, known, ring)) hC hI hr hlk hw rfl dX10_restore_9

def wX10_isSheetOfLane (a0 : Int32) (a1 : Int32)  (post : Int32 → Prop) : Prop := wX10_isIn a0 (0 : Int32) (3 : Int32) (fun (r1 : Int32) => ((r1 = 0 → post (0 : Int32)) ∧ (¬ r1 = 0 → wX10_isIn a1 (0 : Int32) (3 : Int32) (fun (r3 : Int32) => ((r3 = 0 → post (0 : Int32)) ∧ (¬ r3 = 0 → post (1 : Int32)))))))
def rmX10_isSheetOfLane : Room := { frames := 1, cells := 0, slots := 0, locals := 22 }
set_option maxHeartbeats 4000000 in
set_option maxRecDepth 100000 in
theorem mX10_isSheetOfLane (l : Launch) (D : va_G) (K : Nat → ClassId)  (sz : Nat) (a0 : Int32) (a1 : Int32)   {post : Int32 → Prop} (hw : wX10_isSheetOfLane a0 a1  post) : Met l yX10_isSheetOfLane wsX10_isSheetOfLane rmX10_isSheetOfLane (va_Pc [.int a0, .int a1] (cP D K ([]) sz)) (va_Qi (fun (r : Int32) (u : Unit) => post r) (fun u t => cQ D K ([]) (va_A ([]) sz) t) (va_A ([]) sz)) 0 0 (va_A ([]) sz) := by
  refine x_entry (cc := cX10_isSheetOfLane) (maxL := 2) (ret := (some .boolean)) (QA := fun A => va_Qi (fun (r : Int32) (u : Unit) => post r) (fun u t => cQ D K ([]) A t) A) (plainFor_of_name (by decide)) rfl (Nat.le_of_ble_eq_true rfl) ?_
  intro p e s m args below meth c A ls H Q hQ hC hlk hr hnm hI hl
  obtain ⟨hx, hb, hml, hown, hts, hK, hA, hZ⟩ := id hC
  obtain ⟨locs, hlocs⟩ : ∃ y : List Loc, y = [] := ⟨_, rfl⟩
  rw [← hlocs] at hI ⊢
  clear hlocs
  replace hl : lv_has ls 2 [(0, .int a0), (1, .int a1)] := hl
  replace hw : wX10_isIn a0 (0 : Int32) (3 : Int32) (fun (r1 : Int32) => ((r1 = 0 → post (0 : Int32)) ∧ (¬ r1 = 0 → wX10_isIn a1 (0 : Int32) (3 : Int32) (fun (r3 : Int32) => ((r3 = 0 → post (0 : Int32)) ∧ (¬ r3 = 0 → post (1 : Int32))))))) := hw
  refine lv_iload_n hx hb dX10_isSheetOfLane_0 rfl (lv_at hl 0 rfl) ?_
  refine lv_iconst (v := (0 : Int32)) hx hb dX10_isSheetOfLane_1 (by decide) ?_
  refine lv_iconst (v := (3 : Int32)) hx hb dX10_isSheetOfLane_2 (by decide) ?_
  refine x_callSi (rest := []) hC hI [] (mX10_isIn l D K  _ a0 (0 : Int32) (3 : Int32) hw) (va_cwS 3 hts gX10_isSheetOfLane_X10_isIn rfl rfl rfl (by decide +kernel) ⟨(Nat.le_of_ble_eq_true rfl), (Nat.le_of_ble_eq_true rfl)⟩) rfl rfl (fun _ => rfl) rfl hl.1 rfl (Nat.le_of_ble_eq_true rfl) dX10_isSheetOfLane_3 ⟨(Nat.le_of_ble_eq_true rfl), (Nat.le_of_ble_eq_true rfl)⟩ (fun r1 u H locs hw hI => ?_)
  try dsimp only at hw
  have hI : wI s D A ([]) H locs := hI
  refine lv_if_eq (tgt := 22) hx hb dX10_isSheetOfLane_6 (by decide) (fun c2 => ?_) (fun c2 => ?_)
  · replace hw := hw.1 c2
    refine lv_iconst (v := (0 : Int32)) hx hb dX10_isSheetOfLane_22 (by decide) ?_
    subst hQ
    exact x_zret (u := ()) hC hI hr hlk hw rfl (Or.inl rfl) dX10_isSheetOfLane_23
  · replace hw := hw.2 c2
    refine lv_iload_n hx hb dX10_isSheetOfLane_9 rfl (lv_at hl 1 rfl) ?_
    refine lv_iconst (v := (0 : Int32)) hx hb dX10_isSheetOfLane_10 (by decide) ?_
    refine lv_iconst (v := (3 : Int32)) hx hb dX10_isSheetOfLane_11 (by decide) ?_
    refine x_callSi (rest := []) hC hI [] (mX10_isIn l D K  _ a1 (0 : Int32) (3 : Int32) hw) (va_cwS 3 hts gX10_isSheetOfLane_X10_isIn rfl rfl rfl (by decide +kernel) ⟨(Nat.le_of_ble_eq_true rfl), (Nat.le_of_ble_eq_true rfl)⟩) rfl rfl (fun _ => rfl) rfl hl.1 rfl (Nat.le_of_ble_eq_true rfl) dX10_isSheetOfLane_12 ⟨(Nat.le_of_ble_eq_true rfl), (Nat.le_of_ble_eq_true rfl)⟩ (fun r3 u H locs hw hI => ?_)
    try dsimp only at hw
    have hI : wI s D A ([]) H locs := hI
    refine lv_if_eq (tgt := 22) hx hb dX10_isSheetOfLane_15 (by decide) (fun c4 => ?_) (fun c4 => ?_)
    · replace hw := hw.1 c4
      refine lv_iconst (v := (0 : Int32)) hx hb dX10_isSheetOfLane_22 (by decide) ?_
      subst hQ
      exact x_zret (u := ()) hC hI hr hlk hw rfl (Or.inl rfl) dX10_isSheetOfLane_23
    · replace hw := hw.2 c4
      refine lv_iconst (v := (1 : Int32)) hx hb dX10_isSheetOfLane_18 (by decide) ?_
      refine lv_goto (tgt := 23) hx hb dX10_isSheetOfLane_19 (by decide) ?_
      subst hQ
      exact x_zret (u := ()) hC hI hr hlk hw rfl (Or.inr rfl) dX10_isSheetOfLane_23

def wX10_seen (a1 : Int32) (a2 : Int32) (a3 : Int32) (a4 : Int32) (unit : Int32) (shI : Nat → Nat → Int64) (shH : Nat → Int32) (shL : Nat → Int32) (shS : Nat → Int32) (post : Int32 → Prop) : Prop := wX10_isSheetOfLane a1 a2 (fun (r1 : Int32) => ((r1 = 0 → post (-1 : Int32)) ∧ (¬ r1 = 0 → wX10_isIn a4 (1 : Int32) (8 : Int32) (fun (r3 : Int32) => ((r3 = 0 → post (-1 : Int32)) ∧ (¬ r3 = 0 → vp_in a1 4 ∧ ∀ k6 : Nat, k6 = a1.toNatClampNeg → wX6_refusal a2 a3 ((3 : Int32) * a4) (shH k6) (shL k6) (shS k6) (fun (r7 : Int32) => ((r7 = 0 → (∃ (I53 : Int32 → Prop) (mu53 : Int32 → Nat), I53 a3 ∧ ∀ (l7_53 : Int32), I53 l7_53 → (((a3 + ((3 : Int32) * a4)) ≤ l7_53 → (∃ (I89 : Int32 → Int32 → Prop) (mu89 : Int32 → Int32 → Nat), I89 (0 : Int32) (0 : Int32) ∧ ∀ (l7_89 : Int32) (l8_89 : Int32), I89 l7_89 l8_89 → (((6 : Int32) ≤ l8_89 → post l7_89) ∧ (¬ (6 : Int32) ≤ l8_89 → vp_in l8_89 6 ∧ ¬ (stripsF l8_89.toNatClampNeg) = 0 ∧ wX6_agreesWith unit ((24 : Int32) / (stripsF l8_89.toNatClampNeg)) a3 a4 (shI k6) (fun (r15 : Int32) => ((r15 = 0 → ∀ x17 : Int32, x17 = l8_89 + 1 → (I89 l7_89 x17 ∧ mu89 l7_89 x17 < mu89 l7_89 l8_89)) ∧ (¬ r15 = 0 → ∀ x18 : Int32, x18 = l7_89 ||| ((1 : Int32) <<< (l8_89 &&& 31)) → ∀ x19 : Int32, x19 = l8_89 + 1 → (I89 x18 x19 ∧ mu89 x18 x19 < mu89 l7_89 l8_89)))))))) ∧ (¬ (a3 + ((3 : Int32) * a4)) ≤ l7_53 → wX6_tellsPlaceAt l7_53 (shI k6) (fun (r20 : Int32) => ((r20 = 0 → post (-2 : Int32)) ∧ (¬ r20 = 0 → ∀ x22 : Int32, x22 = l7_53 + 3 → (I53 x22 ∧ mu53 x22 < mu53 l7_53)))))))) ∧ (¬ r7 = 0 → post r7)))))))))
def rmX10_seen : Room := { frames := 4, cells := 0, slots := 0, locals := 95 }
theorem kX10_seen_0 : Cond.fieldLink RX10 38 "GoreGlobe" "sheets" "[LGoreGlobe$Sheet;" ∈ wsX10_seen := List.mem_cons_of_mem _ (List.mem_append_left _ (List.mem_append_left _ (List.mem_append_left _ (List.mem_append_left _ (List.mem_of_getElem? (i := 0) rfl)))))
theorem kX10_seen_cX10 : ∀ w ∈ wsX100, w ∈ wsX10_seen := fun _ h => List.mem_cons_of_mem _ (List.mem_append_left _ (List.mem_append_left _ (List.mem_append_right _ h)))
theorem kX10_seen_2 : Cond.fieldLink RX10 306 "GoreGlobe" "STRIP_NUMBERS" "[I" ∈ wsX10_seen := List.mem_cons_of_mem _ (List.mem_append_left _ (List.mem_append_left _ (List.mem_append_left _ (List.mem_append_left _ (List.mem_of_getElem? (i := 1) rfl)))))
theorem kX10_seen_3 : Cond.fieldLink RX10 10 "GoreGlobe" "now" "LGoreGlobe$Globe;" ∈ wsX10_seen := List.mem_cons_of_mem _ (List.mem_append_left _ (List.mem_append_left _ (List.mem_append_left _ (List.mem_append_left _ (List.mem_of_getElem? (i := 2) rfl)))))
theorem kX10_seen_4 : Cond.fieldLink RX10 111 "GoreGlobe$Globe" "unit" "I" ∈ wsX10_seen := List.mem_cons_of_mem _ (List.mem_append_left _ (List.mem_append_left _ (List.mem_append_left _ (List.mem_append_left _ (List.mem_of_getElem? (i := 3) rfl)))))
theorem kX10_seen_cX0 : ∀ w ∈ wsX00, w ∈ wsX10_seen := fun _ h => List.mem_cons_of_mem _ (List.mem_append_left _ (List.mem_append_right _ h))
set_option maxHeartbeats 4000000 in
set_option maxRecDepth 100000 in
theorem mX10_seen (l : Launch) (D : va_G) (K : Nat → ClassId) (q : Nat → Nat) (sz : Nat) (a1 : Int32) (a2 : Int32) (a3 : Int32) (a4 : Int32) (bits : Nat → Int64) (stops : Nat → Int32) (num : Int32) (unit : Int32) (strips : Int32) (caps : Int32) (draw : Int32) (oldest : Int32) (known : Int32) (ring : Nat → GS) (im : GS) (iold : Int32) (iknown : Int32) (iring : Nat → GS) (hasIm : Int32) (letters : Nat → Int32) (tbits : Nat → Int64) (tlen : Int32) (tat : Int32) (fig : Int32) (shI : Nat → Nat → Int64) (shH : Nat → Int32) (shL : Nat → Int32) (shS : Nat → Int32) (seaOf : Nat → Int32) (queue : Nat → Int32) (snum : Int32) (cost : Nat → Int32) (heap : Nat → Int64) (wait : Int32) (off : Int32) (les : Int32) (gre : Int32) (abv : Int64) (blw : Int64) (needed : Int32) (ocut : Int32) (opole : Int32)  {post : Int32 → Prop} (hw : wX10_seen a1 a2 a3 a4 unit shI shH shL shS post) : Met l yX10_seen wsX10_seen rmX10_seen (va_Pc [.ref (q 0), .int a1, .int a2, .int a3, .int a4] (cP D K (wX K q bits stops num unit strips caps draw oldest known ring im iold iknown iring hasIm letters tbits tlen tat fig shI shH shL shS seaOf queue snum cost heap wait off les gre abv blw needed ocut opole) sz)) (va_Qi (fun (r : Int32) (u : Unit) => post r) (fun u t => cQ D K (wX K q bits stops num unit strips caps draw oldest known ring im iold iknown iring hasIm letters tbits tlen tat fig shI shH shL shS seaOf queue snum cost heap wait off les gre abv blw needed ocut opole) (va_A (wX K q bits stops num unit strips caps draw oldest known ring im iold iknown iring hasIm letters tbits tlen tat fig shI shH shL shS seaOf queue snum cost heap wait off les gre abv blw needed ocut opole) sz) t) (va_A (wX K q bits stops num unit strips caps draw oldest known ring im iold iknown iring hasIm letters tbits tlen tat fig shI shH shL shS seaOf queue snum cost heap wait off les gre abv blw needed ocut opole) sz)) 0 0 (va_A (wX K q bits stops num unit strips caps draw oldest known ring im iold iknown iring hasIm letters tbits tlen tat fig shI shH shL shS seaOf queue snum cost heap wait off les gre abv blw needed ocut opole) sz) := by
  refine x_entry (cc := cX10_seen) (maxL := 9) (ret := (some .int)) (QA := fun A => va_Qi (fun (r : Int32) (u : Unit) => post r) (fun u t => cQ D K (wX K q bits stops num unit strips caps draw oldest known ring im iold iknown iring hasIm letters tbits tlen tat fig shI shH shL shS seaOf queue snum cost heap wait off les gre abv blw needed ocut opole) A t) A) (plainFor_of_name (by decide)) rfl (Nat.le_of_ble_eq_true rfl) ?_
  intro p e s m args below meth c A ls H Q hQ hC hlk hr hnm hI hl
  obtain ⟨hx, hb, hml, hown, hts, hK, hA, hZ⟩ := id hC
  obtain ⟨locs, hlocs⟩ : ∃ y : List Loc, y = [] := ⟨_, rfl⟩
  rw [← hlocs] at hI ⊢
  clear hlocs
  replace hl : lv_has ls 9 [(0, .ref (q 0)), (1, .int a1), (2, .int a2), (3, .int a3), (4, .int a4)] := hl
  replace hw : wX10_isSheetOfLane a1 a2 (fun (r1 : Int32) => ((r1 = 0 → post (-1 : Int32)) ∧ (¬ r1 = 0 → wX10_isIn a4 (1 : Int32) (8 : Int32) (fun (r3 : Int32) => ((r3 = 0 → post (-1 : Int32)) ∧ (¬ r3 = 0 → vp_in a1 4 ∧ ∀ k6 : Nat, k6 = a1.toNatClampNeg → wX6_refusal a2 a3 ((3 : Int32) * a4) (shH k6) (shL k6) (shS k6) (fun (r7 : Int32) => ((r7 = 0 → (∃ (I53 : Int32 → Prop) (mu53 : Int32 → Nat), I53 a3 ∧ ∀ (l7_53 : Int32), I53 l7_53 → (((a3 + ((3 : Int32) * a4)) ≤ l7_53 → (∃ (I89 : Int32 → Int32 → Prop) (mu89 : Int32 → Int32 → Nat), I89 (0 : Int32) (0 : Int32) ∧ ∀ (l7_89 : Int32) (l8_89 : Int32), I89 l7_89 l8_89 → (((6 : Int32) ≤ l8_89 → post l7_89) ∧ (¬ (6 : Int32) ≤ l8_89 → vp_in l8_89 6 ∧ ¬ (stripsF l8_89.toNatClampNeg) = 0 ∧ wX6_agreesWith unit ((24 : Int32) / (stripsF l8_89.toNatClampNeg)) a3 a4 (shI k6) (fun (r15 : Int32) => ((r15 = 0 → ∀ x17 : Int32, x17 = l8_89 + 1 → (I89 l7_89 x17 ∧ mu89 l7_89 x17 < mu89 l7_89 l8_89)) ∧ (¬ r15 = 0 → ∀ x18 : Int32, x18 = l7_89 ||| ((1 : Int32) <<< (l8_89 &&& 31)) → ∀ x19 : Int32, x19 = l8_89 + 1 → (I89 x18 x19 ∧ mu89 x18 x19 < mu89 l7_89 l8_89)))))))) ∧ (¬ (a3 + ((3 : Int32) * a4)) ≤ l7_53 → wX6_tellsPlaceAt l7_53 (shI k6) (fun (r20 : Int32) => ((r20 = 0 → post (-2 : Int32)) ∧ (¬ r20 = 0 → ∀ x22 : Int32, x22 = l7_53 + 3 → (I53 x22 ∧ mu53 x22 < mu53 l7_53)))))))) ∧ (¬ r7 = 0 → post r7))))))))) := hw
  refine lv_iload_n hx hb dX10_seen_0 rfl (lv_at hl 1 rfl) ?_
  refine lv_iload_n hx hb dX10_seen_1 rfl (lv_at hl 2 rfl) ?_
  refine x_callSi (rest := []) hC hI [] (mX10_isSheetOfLane l D K  _ a1 a2 hw) (va_cwS 2 hts gX10_seen_X10_isSheetOfLane rfl rfl rfl (by decide +kernel) ⟨(Nat.le_of_ble_eq_true rfl), (Nat.le_of_ble_eq_true rfl)⟩) rfl rfl (fun _ => rfl) rfl hl.1 rfl (Nat.le_of_ble_eq_true rfl) dX10_seen_2 ⟨(Nat.le_of_ble_eq_true rfl), (Nat.le_of_ble_eq_true rfl)⟩ (fun r1 u H locs hw hI => ?_)
  try dsimp only at hw
  have hI : wI s D A (wX K q bits stops num unit strips caps draw oldest known ring im iold iknown iring hasIm letters tbits tlen tat fig shI shH shL shS seaOf queue snum cost heap wait off les gre abv blw needed ocut opole) H locs := hI
  refine lv_if_eq (tgt := 19) hx hb dX10_seen_5 (by decide) (fun c2 => ?_) (fun c2 => ?_)
  · replace hw := hw.1 c2
    refine lv_iconst (v := (-1 : Int32)) hx hb dX10_seen_19 (by decide) ?_
    subst hQ
    exact x_iret (u := ()) hC hI hr hlk hw rfl dX10_seen_20
  · replace hw := hw.2 c2
    refine lv_iload hx hb dX10_seen_8 (lv_at hl 4 rfl) ?_
    refine lv_iconst (v := (1 : Int32)) hx hb dX10_seen_10 (by decide) ?_
    refine lv_bipush (v := (8 : Int32)) hx hb dX10_seen_11 (by decide) ?_
    refine x_callSi (rest := []) hC hI [] (mX10_isIn l D K  _ a4 (1 : Int32) (8 : Int32) hw) (va_cwS 3 hts gX10_seen_X10_isIn rfl rfl rfl (by decide +kernel) ⟨(Nat.le_of_ble_eq_true rfl), (Nat.le_of_ble_eq_true rfl)⟩) rfl rfl (fun _ => rfl) rfl hl.1 rfl (Nat.le_of_ble_eq_true rfl) dX10_seen_13 ⟨(Nat.le_of_ble_eq_true rfl), (Nat.le_of_ble_eq_true rfl)⟩ (fun r3 u H locs hw hI => ?_)
    try dsimp only at hw
    have hI : wI s D A (wX K q bits stops num unit strips caps draw oldest known ring im iold iknown iring hasIm letters tbits tlen tat fig shI shH shL shS seaOf queue snum cost heap wait off les gre abv blw needed ocut opole) H locs := hI
    refine lv_if_ne (tgt := 21) hx hb dX10_seen_16 (by decide) (fun c4 => ?_) (fun c4 => ?_)
    · replace hw := hw.2 c4
      refine lv_aload_n hx hb dX10_seen_21 rfl (lv_at hl 0 rfl) ?_
      refine x_get (v := .ref (q 50)) hC hI kX10_seen_cX10 0 rfl rfl 6 (by decide) kX10_seen_0 rfl rfl dX10_seen_22 ?_
      refine lv_iload_n hx hb dX10_seen_25 rfl (lv_at hl 1 rfl) ?_
      obtain ⟨hc5, hw⟩ := hw
      obtain ⟨k6, ek6⟩ : ∃ y : Nat, y = a1.toNatClampNeg := ⟨_, rfl⟩
      replace hw := hw k6 ek6
      have hk6 : k6 < 4 := by rw [ek6]; exact vp_lt hc5
      refine x_aald (x := q (51 + 2 * k6 + 0)) hC hI 50 3 rfl rfl hc5 (by rw [ek6]; rfl) dX10_seen_26 ?_
      refine lv_astore (lv' := [(5, .ref (q (51 + 2 * k6 + 0))), (0, .ref (q 0)), (1, .int a1), (2, .int a2), (3, .int a3), (4, .int a4)]) hx hb dX10_seen_27 hl (by decide) rfl (fun ls hl => ?_)
      refine lv_aload hx hb dX10_seen_29 (lv_at hl 0 rfl) ?_
      refine lv_iload_n hx hb dX10_seen_31 rfl (lv_at hl 3 rfl) ?_
      refine lv_iload_n hx hb dX10_seen_32 rfl (lv_at hl 4 rfl) ?_
      refine lv_iconst (v := (3 : Int32)) hx hb dX10_seen_33 (by decide) ?_
      refine lv_iload hx hb dX10_seen_34 (lv_at hl 5 rfl) ?_
      refine lv_imul hx hb dX10_seen_36 ?_
      refine x_callVi (fs := [.ref (q (51 + 2 * k6 + 1)), .int (shH k6), .int (shL k6), .int (shS k6)]) (rest := []) hC hI [(51 + 2 * k6 + 0), (51 + 2 * k6 + 1)] (mX6_refusal l D K (fun i => q (51 + 2 * k6 + i)) _ a2 a3 ((3 : Int32) * a4) (shI k6) (shH k6) (shL k6) (shS k6) hw) (cwV 3 hts gX10_seen_X6_refusal rfl rfl rfl (by decide +kernel) ⟨(Nat.le_of_ble_eq_true rfl), (Nat.le_of_ble_eq_true rfl)⟩) (by rcases lt4 hk6 with rfl | rfl | rfl | rfl <;> rfl) (by rcases lt4 hk6 with rfl | rfl | rfl | rfl <;> rfl) (fun _ => rfl) (51 + 2 * k6 + 0) 4 rfl rfl (by rcases lt4 hk6 with rfl | rfl | rfl | rfl <;> rfl) rfl hl.1 rfl (Nat.le_of_ble_eq_true rfl) dX10_seen_37 ⟨(Nat.le_of_ble_eq_true rfl), (Nat.le_of_ble_eq_true rfl)⟩ (fun r7 u H locs hw hI => ?_)
      try dsimp only at hw
      have hI : wI s D A (wX K q bits stops num unit strips caps draw oldest known ring im iold iknown iring hasIm letters tbits tlen tat fig shI shH shL shS seaOf queue snum cost heap wait off les gre abv blw needed ocut opole) H locs := by rcases lt4 hk6 with rfl | rfl | rfl | rfl <;> exact hI
      refine lv_istore (lv' := [(6, .int r7), (5, .ref (q (51 + 2 * k6 + 0))), (0, .ref (q 0)), (1, .int a1), (2, .int a2), (3, .int a3), (4, .int a4)]) hx hb dX10_seen_40 hl (by decide) rfl (fun ls hl => ?_)
      refine lv_iload hx hb dX10_seen_42 (lv_at hl 0 rfl) ?_
      refine lv_if_eq (tgt := 50) hx hb dX10_seen_44 (by decide) (fun c8 => ?_) (fun c8 => ?_)
      · replace hw := hw.1 c8
        refine lv_iload_n hx hb dX10_seen_50 rfl (lv_at hl 5 rfl) ?_
        refine lv_istore (lv' := [(7, .int a3), (6, .int r7), (5, .ref (q (51 + 2 * k6 + 0))), (0, .ref (q 0)), (1, .int a1), (2, .int a2), (3, .int a3), (4, .int a4)]) hx hb dX10_seen_51 hl (by decide) rfl (fun ls hl => ?_)
        obtain ⟨I53, mu53, hw, hb53⟩ := hw
        have lp53 : ∀ (k : Nat) (l7_53 : Int32) (ls : Array Slot) (H : Heap) (locs : List Loc), mu53 l7_53 < k → I53 l7_53 → wI s D A (wX K q bits stops num unit strips caps draw oldest known ring im iold iknown iring hasIm letters tbits tlen tat fig shI shH shL shS seaOf queue snum cost heap wait off les gre abv blw needed ocut opole) H locs → lv_has ls 9 [(0, .ref (q 0)), (3, .int a3), (4, .int a4), (5, .ref (q (51 + 2 * k6 + 0))), (7, .int l7_53)] → W p l e rmX10_seen s m args below meth c H locs 0 0 Q (F0 m 53 ls []) := by
          intro k
          induction k with
          | zero => intro l7_53 ls H locs hmu; exact absurd hmu (Nat.not_lt_zero _)
          | succ k ih53 =>
            intro l7_53 ls H locs hmu53 hw hI hl
            replace hw := hb53 l7_53 hw
            refine lv_iload hx hb dX10_seen_53 (lv_at hl 4 rfl) ?_
            refine lv_iload_n hx hb dX10_seen_55 rfl (lv_at hl 1 rfl) ?_
            refine lv_iconst (v := (3 : Int32)) hx hb dX10_seen_56 (by decide) ?_
            refine lv_iload hx hb dX10_seen_57 (lv_at hl 2 rfl) ?_
            refine lv_imul hx hb dX10_seen_59 ?_
            refine lv_iadd hx hb dX10_seen_60 ?_
            refine lv_icmp_ge (tgt := 83) hx hb dX10_seen_61 (by decide) (fun c9 => ?_) (fun c9 => ?_)
            · replace hw := hw.1 c9
              refine lv_iconst (v := (0 : Int32)) hx hb dX10_seen_83 (by decide) ?_
              refine lv_istore (lv' := [(7, .int (0 : Int32)), (0, .ref (q 0)), (3, .int a3), (4, .int a4), (5, .ref (q (51 + 2 * k6 + 0)))]) hx hb dX10_seen_84 hl (by decide) rfl (fun ls hl => ?_)
              refine lv_iconst (v := (0 : Int32)) hx hb dX10_seen_86 (by decide) ?_
              refine lv_istore (lv' := [(8, .int (0 : Int32)), (7, .int (0 : Int32)), (0, .ref (q 0)), (3, .int a3), (4, .int a4), (5, .ref (q (51 + 2 * k6 + 0)))]) hx hb dX10_seen_87 hl (by decide) rfl (fun ls hl => ?_)
              obtain ⟨I89, mu89, hw, hb89⟩ := hw
              have lp89 : ∀ (k : Nat) (l7_89 : Int32) (l8_89 : Int32) (ls : Array Slot) (H : Heap) (locs : List Loc), mu89 l7_89 l8_89 < k → I89 l7_89 l8_89 → wI s D A (wX K q bits stops num unit strips caps draw oldest known ring im iold iknown iring hasIm letters tbits tlen tat fig shI shH shL shS seaOf queue snum cost heap wait off les gre abv blw needed ocut opole) H locs → lv_has ls 9 [(0, .ref (q 0)), (3, .int a3), (4, .int a4), (5, .ref (q (51 + 2 * k6 + 0))), (7, .int l7_89), (8, .int l8_89)] → W p l e rmX10_seen s m args below meth c H locs 0 0 Q (F0 m 89 ls []) := by
                intro k
                induction k with
                | zero => intro l7_89 l8_89 ls H locs hmu; exact absurd hmu (Nat.not_lt_zero _)
                | succ k ih89 =>
                  intro l7_89 l8_89 ls H locs hmu89 hw hI hl
                  replace hw := hb89 l7_89 l8_89 hw
                  refine lv_iload hx hb dX10_seen_89 (lv_at hl 5 rfl) ?_
                  refine x_gets hC hI hZ.2 kX10_seen_2 dX10_seen_91 (fun t10 ht10 => ?_)
                  refine x_tlen (v := (6 : Int32)) hC hI ht10 rfl dX10_seen_94 ?_
                  refine lv_icmp_ge (tgt := 140) hx hb dX10_seen_95 (by decide) (fun c11 => ?_) (fun c11 => ?_)
                  · replace hw := hw.1 c11
                    refine lv_iload hx hb dX10_seen_140 (lv_at hl 4 rfl) ?_
                    subst hQ
                    exact x_iret (u := ()) hC hI hr hlk hw rfl dX10_seen_142
                  · replace hw := hw.2 c11
                    refine lv_aload hx hb dX10_seen_98 (lv_at hl 3 rfl) ?_
                    refine lv_aload_n hx hb dX10_seen_100 rfl (lv_at hl 0 rfl) ?_
                    refine x_get (v := .ref (q 1)) hC hI kX10_seen_cX10 0 rfl rfl 0 (by decide) kX10_seen_3 rfl rfl dX10_seen_101 ?_
                    refine x_get (v := .int unit) hC hI kX10_seen_cX0 1 rfl rfl 3 (by decide) kX10_seen_4 rfl rfl dX10_seen_104 ?_
                    refine lv_bipush (v := (24 : Int32)) hx hb dX10_seen_107 (by decide) ?_
                    refine x_gets hC hI hZ.2 kX10_seen_2 dX10_seen_109 (fun t12 ht12 => ?_)
                    refine lv_iload hx hb dX10_seen_112 (lv_at hl 5 rfl) ?_
                    obtain ⟨hc13, hw⟩ := hw
                    refine x_ti hC hI ht12 hc13 dX10_seen_114 ?_
                    obtain ⟨hc14, hw⟩ := hw
                    refine lv_idiv hx hb dX10_seen_115 hc14 ?_
                    refine lv_iload_n hx hb dX10_seen_116 rfl (lv_at hl 1 rfl) ?_
                    refine lv_iload hx hb dX10_seen_117 (lv_at hl 2 rfl) ?_
                    refine x_callVi (fs := [.ref (q (51 + 2 * k6 + 1)), .int (shH k6), .int (shL k6), .int (shS k6)]) (rest := []) hC hI [(51 + 2 * k6 + 0), (51 + 2 * k6 + 1)] (mX6_agreesWith l D K (fun i => q (51 + 2 * k6 + i)) _ unit ((24 : Int32) / (stripsF l8_89.toNatClampNeg)) a3 a4 (shI k6) (shH k6) (shL k6) (shS k6) hw) (cwV 4 hts gX10_seen_X6_agreesWith rfl rfl rfl (by decide +kernel) ⟨(Nat.le_of_ble_eq_true rfl), (Nat.le_of_ble_eq_true rfl)⟩) (by rcases lt4 hk6 with rfl | rfl | rfl | rfl <;> rfl) (by rcases lt4 hk6 with rfl | rfl | rfl | rfl <;> rfl) (fun _ => rfl) (51 + 2 * k6 + 0) 4 rfl rfl (by rcases lt4 hk6 with rfl | rfl | rfl | rfl <;> rfl) rfl hl.1 rfl (Nat.le_of_ble_eq_true rfl) dX10_seen_119 ⟨(Nat.le_of_ble_eq_true rfl), (Nat.le_of_ble_eq_true rfl)⟩ (fun r15 u H locs hw hI => ?_)
                    try dsimp only at hw
                    have hI : wI s D A (wX K q bits stops num unit strips caps draw oldest known ring im iold iknown iring hasIm letters tbits tlen tat fig shI shH shL shS seaOf queue snum cost heap wait off les gre abv blw needed ocut opole) H locs := by rcases lt4 hk6 with rfl | rfl | rfl | rfl <;> exact hI
                    refine lv_if_eq (tgt := 134) hx hb dX10_seen_122 (by decide) (fun c16 => ?_) (fun c16 => ?_)
                    · replace hw := hw.1 c16
                      obtain ⟨x17, ex17⟩ : ∃ y : Int32, y = l8_89 + 1 := ⟨_, rfl⟩
                      replace hw := hw x17 ex17
                      refine lv_iinc (v := x17) (lv' := [(8, .int x17), (0, .ref (q 0)), (3, .int a3), (4, .int a4), (5, .ref (q (51 + 2 * k6 + 0))), (7, .int l7_89)]) hx hb dX10_seen_134 hl (k := 5) rfl (by rw [ex17]; rfl) (by decide) rfl (fun ls hl => ?_)
                      refine lv_goto (tgt := 89) hx hb dX10_seen_137 (by decide) ?_
                      exact ih89 l7_89 x17 ls H locs (Nat.lt_of_lt_of_le hw.2 (Nat.le_of_lt_succ hmu89)) hw.1 hI (lv_sub hl [1, 2, 3, 4, 5, 0] rfl)
                    · replace hw := hw.2 c16
                      refine lv_iload hx hb dX10_seen_125 (lv_at hl 4 rfl) ?_
                      refine lv_iconst (v := (1 : Int32)) hx hb dX10_seen_127 (by decide) ?_
                      refine lv_iload hx hb dX10_seen_128 (lv_at hl 5 rfl) ?_
                      refine lv_ishl hx hb dX10_seen_130 ?_
                      refine lv_ior hx hb dX10_seen_131 ?_
                      refine lv_topi (fun x18 ex18 => ?_)
                      replace hw := hw x18 ex18
                      refine lv_istore (lv' := [(7, .int x18), (0, .ref (q 0)), (3, .int a3), (4, .int a4), (5, .ref (q (51 + 2 * k6 + 0))), (8, .int l8_89)]) hx hb dX10_seen_132 hl (by decide) rfl (fun ls hl => ?_)
                      obtain ⟨x19, ex19⟩ : ∃ y : Int32, y = l8_89 + 1 := ⟨_, rfl⟩
                      replace hw := hw x19 ex19
                      refine lv_iinc (v := x19) (lv' := [(8, .int x19), (7, .int x18), (0, .ref (q 0)), (3, .int a3), (4, .int a4), (5, .ref (q (51 + 2 * k6 + 0)))]) hx hb dX10_seen_134 hl (k := 5) rfl (by rw [ex19]; rfl) (by decide) rfl (fun ls hl => ?_)
                      refine lv_goto (tgt := 89) hx hb dX10_seen_137 (by decide) ?_
                      exact ih89 x18 x19 ls H locs (Nat.lt_of_lt_of_le hw.2 (Nat.le_of_lt_succ hmu89)) hw.1 hI (lv_sub hl [2, 3, 4, 5, 1, 0] rfl)
              exact lp89 (mu89 (0 : Int32) (0 : Int32) + 1) (0 : Int32) (0 : Int32) ls H locs (Nat.lt_succ_self _) hw hI (lv_sub hl [2, 3, 4, 5, 1, 0] rfl)
            · replace hw := hw.2 c9
              refine lv_aload hx hb dX10_seen_64 (lv_at hl 3 rfl) ?_
              refine lv_iload hx hb dX10_seen_66 (lv_at hl 4 rfl) ?_
              refine x_callVi (fs := [.ref (q (51 + 2 * k6 + 1)), .int (shH k6), .int (shL k6), .int (shS k6)]) (rest := []) hC hI [(51 + 2 * k6 + 0), (51 + 2 * k6 + 1)] (mX6_tellsPlaceAt l D K (fun i => q (51 + 2 * k6 + i)) _ l7_53 (shI k6) (shH k6) (shL k6) (shS k6) hw) (cwV 1 hts gX10_seen_X6_tellsPlaceAt rfl rfl rfl (by decide +kernel) ⟨(Nat.le_of_ble_eq_true rfl), (Nat.le_of_ble_eq_true rfl)⟩) (by rcases lt4 hk6 with rfl | rfl | rfl | rfl <;> rfl) (by rcases lt4 hk6 with rfl | rfl | rfl | rfl <;> rfl) (fun _ => rfl) (51 + 2 * k6 + 0) 4 rfl rfl (by rcases lt4 hk6 with rfl | rfl | rfl | rfl <;> rfl) rfl hl.1 rfl (Nat.le_of_ble_eq_true rfl) dX10_seen_68 ⟨(Nat.le_of_ble_eq_true rfl), (Nat.le_of_ble_eq_true rfl)⟩ (fun r20 u H locs hw hI => ?_)
              try dsimp only at hw
              have hI : wI s D A (wX K q bits stops num unit strips caps draw oldest known ring im iold iknown iring hasIm letters tbits tlen tat fig shI shH shL shS seaOf queue snum cost heap wait off les gre abv blw needed ocut opole) H locs := by rcases lt4 hk6 with rfl | rfl | rfl | rfl <;> exact hI
              refine lv_if_ne (tgt := 77) hx hb dX10_seen_71 (by decide) (fun c21 => ?_) (fun c21 => ?_)
              · replace hw := hw.2 c21
                obtain ⟨x22, ex22⟩ : ∃ y : Int32, y = l7_53 + 3 := ⟨_, rfl⟩
                replace hw := hw x22 ex22
                refine lv_iinc (v := x22) (lv' := [(7, .int x22), (0, .ref (q 0)), (3, .int a3), (4, .int a4), (5, .ref (q (51 + 2 * k6 + 0)))]) hx hb dX10_seen_77 hl (k := 4) rfl (by rw [ex22]; rfl) (by decide) rfl (fun ls hl => ?_)
                refine lv_goto (tgt := 53) hx hb dX10_seen_80 (by decide) ?_
                exact ih53 x22 ls H locs (Nat.lt_of_lt_of_le hw.2 (Nat.le_of_lt_succ hmu53)) hw.1 hI (lv_sub hl [1, 2, 3, 4, 0] rfl)
              · replace hw := hw.1 c21
                refine lv_bipush (v := (-2 : Int32)) hx hb dX10_seen_74 (by decide) ?_
                subst hQ
                exact x_iret (u := ()) hC hI hr hlk hw rfl dX10_seen_76
        exact lp53 (mu53 a3 + 1) a3 ls H locs (Nat.lt_succ_self _) hw hI (lv_sub hl [3, 6, 7, 2, 0] rfl)
      · replace hw := hw.2 c8
        refine lv_iload hx hb dX10_seen_47 (lv_at hl 0 rfl) ?_
        subst hQ
        exact x_iret (u := ()) hC hI hr hlk hw rfl dX10_seen_49
    · replace hw := hw.1 c4
      refine lv_iconst (v := (-1 : Int32)) hx hb dX10_seen_19 (by decide) ?_
      subst hQ
      exact x_iret (u := ()) hC hI hr hlk hw rfl dX10_seen_20

def wX10_film (a1 : Int32) (a2 : Int32) (a3 : Int32) (a4 : Int32) (unit : Int32) (strips : Int32) (caps : Int32) (shI : Nat → Nat → Int64) (shH : Nat → Int32) (shL : Nat → Int32) (shS : Nat → Int32) (post : Int32 → (Nat → Nat → Int64) → Prop) : Prop := wX1_isPlace a1 (0 : Int32) (fun (r1 : Int32) => ((r1 = 0 → post (-1 : Int32) shI) ∧ (¬ r1 = 0 → wX10_isSheetOfLane a2 a3 (fun (r3 : Int32) => ((r3 = 0 → post (-1 : Int32) shI) ∧ (¬ r3 = 0 → wX0_isOnStrips a1 caps (fun (r5 : Int32) => ((r5 = 0 → post (-2 : Int32) shI) ∧ (¬ r5 = 0 → vp_in a2 4 ∧ ∀ k8 : Nat, k8 = a2.toNatClampNeg → wX6_refusal a3 a4 (24 : Int32) (shH k8) (shL k8) (shS k8) (fun (r9 : Int32) => ((r9 = 0 → (∃ (I63 : Int32 → (Nat → Nat → Int64) → Prop) (mu63 : Int32 → (Nat → Nat → Int64) → Nat), I63 (0 : Int32) shI ∧ ∀ (l7_63 : Int32) (shI_63 : Nat → Nat → Int64), I63 l7_63 shI_63 → (((24 : Int32) ≤ l7_63 → post (24 : Int32) shI_63) ∧ (¬ (24 : Int32) ≤ l7_63 → wX1_numberOf a1 l7_63 (fun (r12 : Int32) => wX1_stepOf r12 (fun (r13 : Int32) => wX0_width strips (fun (r14 : Int32) => wX3_stripX unit r14 a1 r13 (fun (r15 : Int32) => wX6_put (a4 + l7_63) r15.toInt64 (shI_63 k8) (shL k8) (fun (items_16 : Nat → Int64) => ∀ x17 : Int32, x17 = l7_63 + 1 → (I63 x17 (va_up shI_63 k8 items_16) ∧ mu63 x17 (va_up shI_63 k8 items_16) < mu63 l7_63 shI_63)))))))))) ∧ (¬ r9 = 0 → post r9 shI))))))))))))
def rmX10_film : Room := { frames := 3, cells := 0, slots := 0, locals := 68 }
theorem kX10_film_0 : Cond.fieldLink RX10 10 "GoreGlobe" "now" "LGoreGlobe$Globe;" ∈ wsX10_film := List.mem_cons_of_mem _ (List.mem_append_left _ (List.mem_append_left _ (List.mem_append_left _ (List.mem_append_left _ (List.mem_of_getElem? (i := 0) rfl)))))
theorem kX10_film_cX10 : ∀ w ∈ wsX100, w ∈ wsX10_film := fun _ h => List.mem_cons_of_mem _ (List.mem_append_left _ (List.mem_append_left _ (List.mem_append_right _ h)))
theorem kX10_film_2 : Cond.fieldLink RX10 38 "GoreGlobe" "sheets" "[LGoreGlobe$Sheet;" ∈ wsX10_film := List.mem_cons_of_mem _ (List.mem_append_left _ (List.mem_append_left _ (List.mem_append_left _ (List.mem_append_left _ (List.mem_of_getElem? (i := 1) rfl)))))
theorem kX10_film_3 : Cond.fieldLink RX10 111 "GoreGlobe$Globe" "unit" "I" ∈ wsX10_film := List.mem_cons_of_mem _ (List.mem_append_left _ (List.mem_append_left _ (List.mem_append_left _ (List.mem_append_left _ (List.mem_of_getElem? (i := 2) rfl)))))
theorem kX10_film_cX0 : ∀ w ∈ wsX00, w ∈ wsX10_film := fun _ h => List.mem_cons_of_mem _ (List.mem_append_left _ (List.mem_append_right _ h))
set_option maxHeartbeats 4000000 in
set_option maxRecDepth 100000 in
theorem mX10_film (l : Launch) (D : va_G) (K : Nat → ClassId) (q : Nat → Nat) (sz : Nat) (a1 : Int32) (a2 : Int32) (a3 : Int32) (a4 : Int32) (bits : Nat → Int64) (stops : Nat → Int32) (num : Int32) (unit : Int32) (strips : Int32) (caps : Int32) (draw : Int32) (oldest : Int32) (known : Int32) (ring : Nat → GS) (im : GS) (iold : Int32) (iknown : Int32) (iring : Nat → GS) (hasIm : Int32) (letters : Nat → Int32) (tbits : Nat → Int64) (tlen : Int32) (tat : Int32) (fig : Int32) (shI : Nat → Nat → Int64) (shH : Nat → Int32) (shL : Nat → Int32) (shS : Nat → Int32) (seaOf : Nat → Int32) (queue : Nat → Int32) (snum : Int32) (cost : Nat → Int32) (heap : Nat → Int64) (wait : Int32) (off : Int32) (les : Int32) (gre : Int32) (abv : Int64) (blw : Int64) (needed : Int32) (ocut : Int32) (opole : Int32)  {post : Int32 → (Nat → Nat → Int64) → Prop} (hw : wX10_film a1 a2 a3 a4 unit strips caps shI shH shL shS post) : Met l yX10_film wsX10_film rmX10_film (va_Pc [.ref (q 0), .int a1, .int a2, .int a3, .int a4] (cP D K (wX K q bits stops num unit strips caps draw oldest known ring im iold iknown iring hasIm letters tbits tlen tat fig shI shH shL shS seaOf queue snum cost heap wait off les gre abv blw needed ocut opole) sz)) (va_Qi (fun (r : Int32) (u : (Nat → Nat → Int64)) => post r u) (fun u t => cQ D K (wX K q bits stops num unit strips caps draw oldest known ring im iold iknown iring hasIm letters tbits tlen tat fig u shH shL shS seaOf queue snum cost heap wait off les gre abv blw needed ocut opole) (va_A (wX K q bits stops num unit strips caps draw oldest known ring im iold iknown iring hasIm letters tbits tlen tat fig shI shH shL shS seaOf queue snum cost heap wait off les gre abv blw needed ocut opole) sz) t) (va_A (wX K q bits stops num unit strips caps draw oldest known ring im iold iknown iring hasIm letters tbits tlen tat fig shI shH shL shS seaOf queue snum cost heap wait off les gre abv blw needed ocut opole) sz)) 0 0 (va_A (wX K q bits stops num unit strips caps draw oldest known ring im iold iknown iring hasIm letters tbits tlen tat fig shI shH shL shS seaOf queue snum cost heap wait off les gre abv blw needed ocut opole) sz) := by
  refine x_entry (cc := cX10_film) (maxL := 9) (ret := (some .int)) (QA := fun A => va_Qi (fun (r : Int32) (u : (Nat → Nat → Int64)) => post r u) (fun u t => cQ D K (wX K q bits stops num unit strips caps draw oldest known ring im iold iknown iring hasIm letters tbits tlen tat fig u shH shL shS seaOf queue snum cost heap wait off les gre abv blw needed ocut opole) A t) A) (plainFor_of_name (by decide)) rfl (Nat.le_of_ble_eq_true rfl) ?_
  intro p e s m args below meth c A ls H Q hQ hC hlk hr hnm hI hl
  obtain ⟨hx, hb, hml, hown, hts, hK, hA, hZ⟩ := id hC
  obtain ⟨locs, hlocs⟩ : ∃ y : List Loc, y = [] := ⟨_, rfl⟩
  rw [← hlocs] at hI ⊢
  clear hlocs
  replace hl : lv_has ls 9 [(0, .ref (q 0)), (1, .int a1), (2, .int a2), (3, .int a3), (4, .int a4)] := hl
  replace hw : wX1_isPlace a1 (0 : Int32) (fun (r1 : Int32) => ((r1 = 0 → post (-1 : Int32) shI) ∧ (¬ r1 = 0 → wX10_isSheetOfLane a2 a3 (fun (r3 : Int32) => ((r3 = 0 → post (-1 : Int32) shI) ∧ (¬ r3 = 0 → wX0_isOnStrips a1 caps (fun (r5 : Int32) => ((r5 = 0 → post (-2 : Int32) shI) ∧ (¬ r5 = 0 → vp_in a2 4 ∧ ∀ k8 : Nat, k8 = a2.toNatClampNeg → wX6_refusal a3 a4 (24 : Int32) (shH k8) (shL k8) (shS k8) (fun (r9 : Int32) => ((r9 = 0 → (∃ (I63 : Int32 → (Nat → Nat → Int64) → Prop) (mu63 : Int32 → (Nat → Nat → Int64) → Nat), I63 (0 : Int32) shI ∧ ∀ (l7_63 : Int32) (shI_63 : Nat → Nat → Int64), I63 l7_63 shI_63 → (((24 : Int32) ≤ l7_63 → post (24 : Int32) shI_63) ∧ (¬ (24 : Int32) ≤ l7_63 → wX1_numberOf a1 l7_63 (fun (r12 : Int32) => wX1_stepOf r12 (fun (r13 : Int32) => wX0_width strips (fun (r14 : Int32) => wX3_stripX unit r14 a1 r13 (fun (r15 : Int32) => wX6_put (a4 + l7_63) r15.toInt64 (shI_63 k8) (shL k8) (fun (items_16 : Nat → Int64) => ∀ x17 : Int32, x17 = l7_63 + 1 → (I63 x17 (va_up shI_63 k8 items_16) ∧ mu63 x17 (va_up shI_63 k8 items_16) < mu63 l7_63 shI_63)))))))))) ∧ (¬ r9 = 0 → post r9 shI)))))))))))) := hw
  refine lv_iload_n hx hb dX10_film_0 rfl (lv_at hl 1 rfl) ?_
  refine lv_iconst (v := (0 : Int32)) hx hb dX10_film_1 (by decide) ?_
  refine x_callSi (rest := []) hC hI [] (mX1_isPlace l D K  _ a1 (0 : Int32) hw) (va_cwS 2 hts gX10_film_X1_isPlace rfl rfl rfl (by decide +kernel) ⟨(Nat.le_of_ble_eq_true rfl), (Nat.le_of_ble_eq_true rfl)⟩) rfl rfl (fun _ => rfl) rfl hl.1 rfl (Nat.le_of_ble_eq_true rfl) dX10_film_2 ⟨(Nat.le_of_ble_eq_true rfl), (Nat.le_of_ble_eq_true rfl)⟩ (fun r1 u H locs hw hI => ?_)
  try dsimp only at hw
  have hI : wI s D A (wX K q bits stops num unit strips caps draw oldest known ring im iold iknown iring hasIm letters tbits tlen tat fig shI shH shL shS seaOf queue snum cost heap wait off les gre abv blw needed ocut opole) H locs := hI
  refine lv_if_eq (tgt := 16) hx hb dX10_film_5 (by decide) (fun c2 => ?_) (fun c2 => ?_)
  · replace hw := hw.1 c2
    refine lv_iconst (v := (-1 : Int32)) hx hb dX10_film_16 (by decide) ?_
    subst hQ
    exact x_iret (u := shI) hC hI hr hlk hw rfl dX10_film_17
  · replace hw := hw.2 c2
    refine lv_iload_n hx hb dX10_film_8 rfl (lv_at hl 2 rfl) ?_
    refine lv_iload_n hx hb dX10_film_9 rfl (lv_at hl 3 rfl) ?_
    refine x_callSi (rest := []) hC hI [] (mX10_isSheetOfLane l D K  _ a2 a3 hw) (va_cwS 2 hts gX10_film_X10_isSheetOfLane rfl rfl rfl (by decide +kernel) ⟨(Nat.le_of_ble_eq_true rfl), (Nat.le_of_ble_eq_true rfl)⟩) rfl rfl (fun _ => rfl) rfl hl.1 rfl (Nat.le_of_ble_eq_true rfl) dX10_film_10 ⟨(Nat.le_of_ble_eq_true rfl), (Nat.le_of_ble_eq_true rfl)⟩ (fun r3 u H locs hw hI => ?_)
    try dsimp only at hw
    have hI : wI s D A (wX K q bits stops num unit strips caps draw oldest known ring im iold iknown iring hasIm letters tbits tlen tat fig shI shH shL shS seaOf queue snum cost heap wait off les gre abv blw needed ocut opole) H locs := hI
    refine lv_if_ne (tgt := 18) hx hb dX10_film_13 (by decide) (fun c4 => ?_) (fun c4 => ?_)
    · replace hw := hw.2 c4
      refine lv_aload_n hx hb dX10_film_18 rfl (lv_at hl 0 rfl) ?_
      refine x_get (v := .ref (q 1)) hC hI kX10_film_cX10 0 rfl rfl 0 (by decide) kX10_film_0 rfl rfl dX10_film_19 ?_
      refine lv_iload_n hx hb dX10_film_22 rfl (lv_at hl 1 rfl) ?_
      refine x_callVi (rest := []) hC hI [1, 2, 3] (mX0_isOnStrips l D K (fun i => q (1 + i)) _ a1 bits stops num unit strips caps draw hw) (cwV 1 hts gX10_film_X0_isOnStrips rfl rfl rfl (by decide +kernel) ⟨(Nat.le_of_ble_eq_true rfl), (Nat.le_of_ble_eq_true rfl)⟩) rfl rfl (fun _ => rfl) 1 0 rfl rfl rfl rfl hl.1 rfl (Nat.le_of_ble_eq_true rfl) dX10_film_23 ⟨(Nat.le_of_ble_eq_true rfl), (Nat.le_of_ble_eq_true rfl)⟩ (fun r5 u H locs hw hI => ?_)
      try dsimp only at hw
      have hI : wI s D A (wX K q bits stops num unit strips caps draw oldest known ring im iold iknown iring hasIm letters tbits tlen tat fig shI shH shL shS seaOf queue snum cost heap wait off les gre abv blw needed ocut opole) H locs := hI
      refine lv_if_ne (tgt := 32) hx hb dX10_film_26 (by decide) (fun c6 => ?_) (fun c6 => ?_)
      · replace hw := hw.2 c6
        refine lv_aload_n hx hb dX10_film_32 rfl (lv_at hl 0 rfl) ?_
        refine x_get (v := .ref (q 50)) hC hI kX10_film_cX10 0 rfl rfl 6 (by decide) kX10_film_2 rfl rfl dX10_film_33 ?_
        refine lv_iload_n hx hb dX10_film_36 rfl (lv_at hl 2 rfl) ?_
        obtain ⟨hc7, hw⟩ := hw
        obtain ⟨k8, ek8⟩ : ∃ y : Nat, y = a2.toNatClampNeg := ⟨_, rfl⟩
        replace hw := hw k8 ek8
        have hk8 : k8 < 4 := by rw [ek8]; exact vp_lt hc7
        refine x_aald (x := q (51 + 2 * k8 + 0)) hC hI 50 3 rfl rfl hc7 (by rw [ek8]; rfl) dX10_film_37 ?_
        refine lv_astore (lv' := [(5, .ref (q (51 + 2 * k8 + 0))), (0, .ref (q 0)), (1, .int a1), (2, .int a2), (3, .int a3), (4, .int a4)]) hx hb dX10_film_38 hl (by decide) rfl (fun ls hl => ?_)
        refine lv_aload hx hb dX10_film_40 (lv_at hl 0 rfl) ?_
        refine lv_iload_n hx hb dX10_film_42 rfl (lv_at hl 4 rfl) ?_
        refine lv_iload hx hb dX10_film_43 (lv_at hl 5 rfl) ?_
        refine lv_bipush (v := (24 : Int32)) hx hb dX10_film_45 (by decide) ?_
        refine x_callVi (fs := [.ref (q (51 + 2 * k8 + 1)), .int (shH k8), .int (shL k8), .int (shS k8)]) (rest := []) hC hI [(51 + 2 * k8 + 0), (51 + 2 * k8 + 1)] (mX6_refusal l D K (fun i => q (51 + 2 * k8 + i)) _ a3 a4 (24 : Int32) (shI k8) (shH k8) (shL k8) (shS k8) hw) (cwV 3 hts gX10_film_X6_refusal rfl rfl rfl (by decide +kernel) ⟨(Nat.le_of_ble_eq_true rfl), (Nat.le_of_ble_eq_true rfl)⟩) (by rcases lt4 hk8 with rfl | rfl | rfl | rfl <;> rfl) (by rcases lt4 hk8 with rfl | rfl | rfl | rfl <;> rfl) (fun _ => rfl) (51 + 2 * k8 + 0) 4 rfl rfl (by rcases lt4 hk8 with rfl | rfl | rfl | rfl <;> rfl) rfl hl.1 rfl (Nat.le_of_ble_eq_true rfl) dX10_film_47 ⟨(Nat.le_of_ble_eq_true rfl), (Nat.le_of_ble_eq_true rfl)⟩ (fun r9 u H locs hw hI => ?_)
        try dsimp only at hw
        have hI : wI s D A (wX K q bits stops num unit strips caps draw oldest known ring im iold iknown iring hasIm letters tbits tlen tat fig shI shH shL shS seaOf queue snum cost heap wait off les gre abv blw needed ocut opole) H locs := by rcases lt4 hk8 with rfl | rfl | rfl | rfl <;> exact hI
        refine lv_istore (lv' := [(6, .int r9), (5, .ref (q (51 + 2 * k8 + 0))), (0, .ref (q 0)), (1, .int a1), (2, .int a2), (3, .int a3), (4, .int a4)]) hx hb dX10_film_50 hl (by decide) rfl (fun ls hl => ?_)
        refine lv_iload hx hb dX10_film_52 (lv_at hl 0 rfl) ?_
        refine lv_if_eq (tgt := 60) hx hb dX10_film_54 (by decide) (fun c10 => ?_) (fun c10 => ?_)
        · replace hw := hw.1 c10
          refine lv_iconst (v := (0 : Int32)) hx hb dX10_film_60 (by decide) ?_
          refine lv_istore (lv' := [(7, .int (0 : Int32)), (6, .int r9), (5, .ref (q (51 + 2 * k8 + 0))), (0, .ref (q 0)), (1, .int a1), (2, .int a2), (3, .int a3), (4, .int a4)]) hx hb dX10_film_61 hl (by decide) rfl (fun ls hl => ?_)
          obtain ⟨I63, mu63, hw, hb63⟩ := hw
          have lp63 : ∀ (k : Nat) (l7_63 : Int32) (shI_63 : Nat → Nat → Int64) (ls : Array Slot) (H : Heap) (locs : List Loc), mu63 l7_63 shI_63 < k → I63 l7_63 shI_63 → wI s D A (wX K q bits stops num unit strips caps draw oldest known ring im iold iknown iring hasIm letters tbits tlen tat fig shI_63 shH shL shS seaOf queue snum cost heap wait off les gre abv blw needed ocut opole) H locs → lv_has ls 9 [(0, .ref (q 0)), (1, .int a1), (4, .int a4), (5, .ref (q (51 + 2 * k8 + 0))), (7, .int l7_63)] → W p l e rmX10_film s m args below meth c H locs 0 0 Q (F0 m 63 ls []) := by
            intro k
            induction k with
            | zero => intro l7_63 shI_63 ls H locs hmu; exact absurd hmu (Nat.not_lt_zero _)
            | succ k ih63 =>
              intro l7_63 shI_63 ls H locs hmu63 hw hI hl
              replace hw := hb63 l7_63 shI_63 hw
              refine lv_iload hx hb dX10_film_63 (lv_at hl 4 rfl) ?_
              refine lv_bipush (v := (24 : Int32)) hx hb dX10_film_65 (by decide) ?_
              refine lv_icmp_ge (tgt := 118) hx hb dX10_film_67 (by decide) (fun c11 => ?_) (fun c11 => ?_)
              · replace hw := hw.1 c11
                refine lv_bipush (v := (24 : Int32)) hx hb dX10_film_118 (by decide) ?_
                subst hQ
                exact x_iret (u := shI_63) hC hI hr hlk hw rfl dX10_film_120
              · replace hw := hw.2 c11
                refine lv_iload_n hx hb dX10_film_70 rfl (lv_at hl 1 rfl) ?_
                refine lv_iload hx hb dX10_film_71 (lv_at hl 4 rfl) ?_
                refine x_callSi (rest := []) hC hI [] (mX1_numberOf l D K  _ a1 l7_63 hw) (va_cwS 2 hts gX10_film_X1_numberOf rfl rfl rfl (by decide +kernel) ⟨(Nat.le_of_ble_eq_true rfl), (Nat.le_of_ble_eq_true rfl)⟩) rfl rfl (fun _ => rfl) rfl hl.1 rfl (Nat.le_of_ble_eq_true rfl) dX10_film_73 ⟨(Nat.le_of_ble_eq_true rfl), (Nat.le_of_ble_eq_true rfl)⟩ (fun r12 u H locs hw hI => ?_)
                try dsimp only at hw
                have hI : wI s D A (wX K q bits stops num unit strips caps draw oldest known ring im iold iknown iring hasIm letters tbits tlen tat fig shI_63 shH shL shS seaOf queue snum cost heap wait off les gre abv blw needed ocut opole) H locs := hI
                refine x_callSi (rest := []) hC hI [] (mX1_stepOf l D K  _ r12 hw) (va_cwS 1 hts gX10_film_X1_stepOf rfl rfl rfl (by decide +kernel) ⟨(Nat.le_of_ble_eq_true rfl), (Nat.le_of_ble_eq_true rfl)⟩) rfl rfl (fun _ => rfl) rfl hl.1 rfl (Nat.le_of_ble_eq_true rfl) dX10_film_76 ⟨(Nat.le_of_ble_eq_true rfl), (Nat.le_of_ble_eq_true rfl)⟩ (fun r13 u H locs hw hI => ?_)
                try dsimp only at hw
                have hI : wI s D A (wX K q bits stops num unit strips caps draw oldest known ring im iold iknown iring hasIm letters tbits tlen tat fig shI_63 shH shL shS seaOf queue snum cost heap wait off les gre abv blw needed ocut opole) H locs := hI
                refine lv_istore (lv' := [(8, .int r13), (0, .ref (q 0)), (1, .int a1), (4, .int a4), (5, .ref (q (51 + 2 * k8 + 0))), (7, .int l7_63)]) hx hb dX10_film_79 hl (by decide) rfl (fun ls hl => ?_)
                refine lv_aload hx hb dX10_film_81 (lv_at hl 4 rfl) ?_
                refine lv_iload hx hb dX10_film_83 (lv_at hl 3 rfl) ?_
                refine lv_iload hx hb dX10_film_85 (lv_at hl 5 rfl) ?_
                refine lv_iadd hx hb dX10_film_87 ?_
                refine lv_aload_n hx hb dX10_film_88 rfl (lv_at hl 1 rfl) ?_
                refine x_get (v := .ref (q 1)) hC hI kX10_film_cX10 0 rfl rfl 0 (by decide) kX10_film_0 rfl rfl dX10_film_89 ?_
                refine x_get (v := .int unit) hC hI kX10_film_cX0 1 rfl rfl 3 (by decide) kX10_film_3 rfl rfl dX10_film_92 ?_
                refine lv_aload_n hx hb dX10_film_95 rfl (lv_at hl 1 rfl) ?_
                refine x_get (v := .ref (q 1)) hC hI kX10_film_cX10 0 rfl rfl 0 (by decide) kX10_film_0 rfl rfl dX10_film_96 ?_
                refine x_callVi (rest := [.int unit, .int (a4 + l7_63), .ref (q (51 + 2 * k8 + 0))]) hC hI [1, 2, 3] (mX0_width l D K (fun i => q (1 + i)) _ bits stops num unit strips caps draw hw) (cwV 0 hts gX10_film_X0_width rfl rfl rfl (by decide +kernel) ⟨(Nat.le_of_ble_eq_true rfl), (Nat.le_of_ble_eq_true rfl)⟩) rfl rfl (fun _ => rfl) 1 0 rfl rfl rfl rfl hl.1 rfl (Nat.le_of_ble_eq_true rfl) dX10_film_99 ⟨(Nat.le_of_ble_eq_true rfl), (Nat.le_of_ble_eq_true rfl)⟩ (fun r14 u H locs hw hI => ?_)
                try dsimp only at hw
                have hI : wI s D A (wX K q bits stops num unit strips caps draw oldest known ring im iold iknown iring hasIm letters tbits tlen tat fig shI_63 shH shL shS seaOf queue snum cost heap wait off les gre abv blw needed ocut opole) H locs := hI
                refine lv_iload_n hx hb dX10_film_102 rfl (lv_at hl 2 rfl) ?_
                refine lv_iload hx hb dX10_film_103 (lv_at hl 0 rfl) ?_
                refine x_callSi (rest := [.int (a4 + l7_63), .ref (q (51 + 2 * k8 + 0))]) hC hI [] (mX3_stripX l D K  _ unit r14 a1 r13 hw) (va_cwS 4 hts gX10_film_X3_stripX rfl rfl rfl (by decide +kernel) ⟨(Nat.le_of_ble_eq_true rfl), (Nat.le_of_ble_eq_true rfl)⟩) rfl rfl (fun _ => rfl) rfl hl.1 rfl (Nat.le_of_ble_eq_true rfl) dX10_film_105 ⟨(Nat.le_of_ble_eq_true rfl), (Nat.le_of_ble_eq_true rfl)⟩ (fun r15 u H locs hw hI => ?_)
                try dsimp only at hw
                have hI : wI s D A (wX K q bits stops num unit strips caps draw oldest known ring im iold iknown iring hasIm letters tbits tlen tat fig shI_63 shH shL shS seaOf queue snum cost heap wait off les gre abv blw needed ocut opole) H locs := hI
                refine lv_i2l (v := r15.toInt64) hx hb dX10_film_108 rfl ?_
                refine x_callVv (fs := [.ref (q (51 + 2 * k8 + 1)), .int (shH k8), .int (shL k8), .int (shS k8)]) (rest := []) hC hI [(51 + 2 * k8 + 0), (51 + 2 * k8 + 1)] (mX6_put l D K (fun i => q (51 + 2 * k8 + i)) _ (a4 + l7_63) r15.toInt64 (shI_63 k8) (shH k8) (shL k8) (shS k8) hw) (cwV 2 hts gX10_film_X6_put rfl rfl rfl (by decide +kernel) ⟨(Nat.le_of_ble_eq_true rfl), (Nat.le_of_ble_eq_true rfl)⟩) (by rcases lt4 hk8 with rfl | rfl | rfl | rfl <;> rfl) (by rcases lt4 hk8 with rfl | rfl | rfl | rfl <;> rfl) (fun _ => rfl) (51 + 2 * k8 + 0) 4 rfl rfl (by rcases lt4 hk8 with rfl | rfl | rfl | rfl <;> rfl) rfl hl.1 rfl (Nat.le_of_ble_eq_true rfl) dX10_film_109 ⟨(Nat.le_of_ble_eq_true rfl), (Nat.le_of_ble_eq_true rfl)⟩ (fun items_16 H locs hw hI => ?_)
                have hI : wI s D A (wX K q bits stops num unit strips caps draw oldest known ring im iold iknown iring hasIm letters tbits tlen tat fig (va_up shI_63 k8 items_16) shH shL shS seaOf queue snum cost heap wait off les gre abv blw needed ocut opole) H locs := by rcases lt4 hk8 with rfl | rfl | rfl | rfl <;> exact hI
                obtain ⟨x17, ex17⟩ : ∃ y : Int32, y = l7_63 + 1 := ⟨_, rfl⟩
                replace hw := hw x17 ex17
                refine lv_iinc (v := x17) (lv' := [(7, .int x17), (8, .int r13), (0, .ref (q 0)), (1, .int a1), (4, .int a4), (5, .ref (q (51 + 2 * k8 + 0)))]) hx hb dX10_film_112 hl (k := 5) rfl (by rw [ex17]; rfl) (by decide) rfl (fun ls hl => ?_)
                refine lv_goto (tgt := 63) hx hb dX10_film_115 (by decide) ?_
                exact ih63 x17 (va_up shI_63 k8 items_16) ls H locs (Nat.lt_of_lt_of_le hw.2 (Nat.le_of_lt_succ hmu63)) hw.1 hI (lv_sub hl [2, 3, 4, 5, 0] rfl)
          exact lp63 (mu63 (0 : Int32) shI + 1) (0 : Int32) shI ls H locs (Nat.lt_succ_self _) hw hI (lv_sub hl [3, 4, 7, 2, 0] rfl)
        · replace hw := hw.2 c10
          refine lv_iload hx hb dX10_film_57 (lv_at hl 0 rfl) ?_
          subst hQ
          exact x_iret (u := shI) hC hI hr hlk hw rfl dX10_film_59
      · replace hw := hw.1 c6
        refine lv_bipush (v := (-2 : Int32)) hx hb dX10_film_29 (by decide) ?_
        subst hQ
        exact x_iret (u := shI) hC hI hr hlk hw rfl dX10_film_31
    · replace hw := hw.1 c4
      refine lv_iconst (v := (-1 : Int32)) hx hb dX10_film_16 (by decide) ?_
      subst hQ
      exact x_iret (u := shI) hC hI hr hlk hw rfl dX10_film_17

def wX10_sheet (a1 : Int32) (a2 : Int32) (a3 : Int32) (shI : Nat → Nat → Int64) (shH : Nat → Int32) (shL : Nat → Int32) (shS : Nat → Int32) (post : Int32 → (Nat → Nat → Int64) → (Nat → Int32) → (Nat → Int32) → (Nat → Int32) → Prop) : Prop := wX10_isSheetOfLane a1 a2 (fun (r1 : Int32) => ((r1 = 0 → post (-1 : Int32) shI shH shL shS) ∧ (¬ r1 = 0 → ((a3 ≤ (30 : Int32) → ((0 ≤ a3 → vp_in a1 4 ∧ ∀ k6 : Nat, k6 = a1.toNatClampNeg → wX6_renew a2 a3 (shI k6) (fun (items_7 : Nat → Int64) (held_8 : Int32) (lane_9 : Int32) (size_10 : Int32) => post a3 (va_up shI k6 items_7) (va_up shH k6 held_8) (va_up shL k6 lane_9) (va_up shS k6 size_10))) ∧ (¬ 0 ≤ a3 → post (-14 : Int32) shI shH shL shS))) ∧ (¬ a3 ≤ (30 : Int32) → post (-1 : Int32) shI shH shL shS)))))
def rmX10_sheet : Room := { frames := 2, cells := 0, slots := 0, locals := 46 }
theorem kX10_sheet_0 : Cond.fieldLink RX10 38 "GoreGlobe" "sheets" "[LGoreGlobe$Sheet;" ∈ wsX10_sheet := List.mem_cons_of_mem _ (List.mem_append_left _ (List.mem_append_left _ (List.mem_of_getElem? (i := 0) rfl)))
theorem kX10_sheet_cX10 : ∀ w ∈ wsX100, w ∈ wsX10_sheet := fun _ h => List.mem_cons_of_mem _ (List.mem_append_left _ (List.mem_append_right _ h))
set_option maxHeartbeats 4000000 in
set_option maxRecDepth 100000 in
theorem mX10_sheet (l : Launch) (D : va_G) (K : Nat → ClassId) (q : Nat → Nat) (sz : Nat) (a1 : Int32) (a2 : Int32) (a3 : Int32) (bits : Nat → Int64) (stops : Nat → Int32) (num : Int32) (unit : Int32) (strips : Int32) (caps : Int32) (draw : Int32) (oldest : Int32) (known : Int32) (ring : Nat → GS) (im : GS) (iold : Int32) (iknown : Int32) (iring : Nat → GS) (hasIm : Int32) (letters : Nat → Int32) (tbits : Nat → Int64) (tlen : Int32) (tat : Int32) (fig : Int32) (shI : Nat → Nat → Int64) (shH : Nat → Int32) (shL : Nat → Int32) (shS : Nat → Int32) (seaOf : Nat → Int32) (queue : Nat → Int32) (snum : Int32) (cost : Nat → Int32) (heap : Nat → Int64) (wait : Int32) (off : Int32) (les : Int32) (gre : Int32) (abv : Int64) (blw : Int64) (needed : Int32) (ocut : Int32) (opole : Int32)  {post : Int32 → (Nat → Nat → Int64) → (Nat → Int32) → (Nat → Int32) → (Nat → Int32) → Prop} (hw : wX10_sheet a1 a2 a3 shI shH shL shS post) : Met l yX10_sheet wsX10_sheet rmX10_sheet (va_Pc [.ref (q 0), .int a1, .int a2, .int a3] (cP D K (wX K q bits stops num unit strips caps draw oldest known ring im iold iknown iring hasIm letters tbits tlen tat fig shI shH shL shS seaOf queue snum cost heap wait off les gre abv blw needed ocut opole) sz)) (va_Qi (fun (r : Int32) (u : (Nat → Nat → Int64) × (Nat → Int32) × (Nat → Int32) × (Nat → Int32)) => post r u.1 u.2.1 u.2.2.1 u.2.2.2) (fun u t => cQ D K (wX K q bits stops num unit strips caps draw oldest known ring im iold iknown iring hasIm letters tbits tlen tat fig u.1 u.2.1 u.2.2.1 u.2.2.2 seaOf queue snum cost heap wait off les gre abv blw needed ocut opole) (va_A (wX K q bits stops num unit strips caps draw oldest known ring im iold iknown iring hasIm letters tbits tlen tat fig shI shH shL shS seaOf queue snum cost heap wait off les gre abv blw needed ocut opole) sz) t) (va_A (wX K q bits stops num unit strips caps draw oldest known ring im iold iknown iring hasIm letters tbits tlen tat fig shI shH shL shS seaOf queue snum cost heap wait off les gre abv blw needed ocut opole) sz)) 0 0 (va_A (wX K q bits stops num unit strips caps draw oldest known ring im iold iknown iring hasIm letters tbits tlen tat fig shI shH shL shS seaOf queue snum cost heap wait off les gre abv blw needed ocut opole) sz) := by
  refine x_entry (cc := cX10_sheet) (maxL := 4) (ret := (some .int)) (QA := fun A => va_Qi (fun (r : Int32) (u : (Nat → Nat → Int64) × (Nat → Int32) × (Nat → Int32) × (Nat → Int32)) => post r u.1 u.2.1 u.2.2.1 u.2.2.2) (fun u t => cQ D K (wX K q bits stops num unit strips caps draw oldest known ring im iold iknown iring hasIm letters tbits tlen tat fig u.1 u.2.1 u.2.2.1 u.2.2.2 seaOf queue snum cost heap wait off les gre abv blw needed ocut opole) A t) A) (plainFor_of_name (by decide)) rfl (Nat.le_of_ble_eq_true rfl) ?_
  intro p e s m args below meth c A ls H Q hQ hC hlk hr hnm hI hl
  obtain ⟨hx, hb, hml, hown, hts, hK, hA, hZ⟩ := id hC
  obtain ⟨locs, hlocs⟩ : ∃ y : List Loc, y = [] := ⟨_, rfl⟩
  rw [← hlocs] at hI ⊢
  clear hlocs
  replace hl : lv_has ls 4 [(0, .ref (q 0)), (1, .int a1), (2, .int a2), (3, .int a3)] := hl
  replace hw : wX10_isSheetOfLane a1 a2 (fun (r1 : Int32) => ((r1 = 0 → post (-1 : Int32) shI shH shL shS) ∧ (¬ r1 = 0 → ((a3 ≤ (30 : Int32) → ((0 ≤ a3 → vp_in a1 4 ∧ ∀ k6 : Nat, k6 = a1.toNatClampNeg → wX6_renew a2 a3 (shI k6) (fun (items_7 : Nat → Int64) (held_8 : Int32) (lane_9 : Int32) (size_10 : Int32) => post a3 (va_up shI k6 items_7) (va_up shH k6 held_8) (va_up shL k6 lane_9) (va_up shS k6 size_10))) ∧ (¬ 0 ≤ a3 → post (-14 : Int32) shI shH shL shS))) ∧ (¬ a3 ≤ (30 : Int32) → post (-1 : Int32) shI shH shL shS))))) := hw
  refine lv_iload_n hx hb dX10_sheet_0 rfl (lv_at hl 1 rfl) ?_
  refine lv_iload_n hx hb dX10_sheet_1 rfl (lv_at hl 2 rfl) ?_
  refine x_callSi (rest := []) hC hI [] (mX10_isSheetOfLane l D K  _ a1 a2 hw) (va_cwS 2 hts gX10_sheet_X10_isSheetOfLane rfl rfl rfl (by decide +kernel) ⟨(Nat.le_of_ble_eq_true rfl), (Nat.le_of_ble_eq_true rfl)⟩) rfl rfl (fun _ => rfl) rfl hl.1 rfl (Nat.le_of_ble_eq_true rfl) dX10_sheet_2 ⟨(Nat.le_of_ble_eq_true rfl), (Nat.le_of_ble_eq_true rfl)⟩ (fun r1 u H locs hw hI => ?_)
  try dsimp only at hw
  have hI : wI s D A (wX K q bits stops num unit strips caps draw oldest known ring im iold iknown iring hasIm letters tbits tlen tat fig shI shH shL shS seaOf queue snum cost heap wait off les gre abv blw needed ocut opole) H locs := hI
  refine lv_if_eq (tgt := 14) hx hb dX10_sheet_5 (by decide) (fun c2 => ?_) (fun c2 => ?_)
  · replace hw := hw.1 c2
    refine lv_iconst (v := (-1 : Int32)) hx hb dX10_sheet_14 (by decide) ?_
    subst hQ
    exact x_iret (u := (shI, shH, shL, shS)) hC hI hr hlk hw rfl dX10_sheet_15
  · replace hw := hw.2 c2
    refine lv_iload_n hx hb dX10_sheet_8 rfl (lv_at hl 3 rfl) ?_
    refine lv_bipush (v := (30 : Int32)) hx hb dX10_sheet_9 (by decide) ?_
    refine lv_icmp_le (tgt := 16) hx hb dX10_sheet_11 (by decide) (fun c3 => ?_) (fun c3 => ?_)
    · replace hw := hw.1 c3
      refine lv_iload_n hx hb dX10_sheet_16 rfl (lv_at hl 3 rfl) ?_
      refine lv_if_ge (tgt := 23) hx hb dX10_sheet_17 (by decide) (fun c4 => ?_) (fun c4 => ?_)
      · replace hw := hw.1 c4
        refine lv_aload_n hx hb dX10_sheet_23 rfl (lv_at hl 0 rfl) ?_
        refine x_get (v := .ref (q 50)) hC hI kX10_sheet_cX10 0 rfl rfl 6 (by decide) kX10_sheet_0 rfl rfl dX10_sheet_24 ?_
        refine lv_iload_n hx hb dX10_sheet_27 rfl (lv_at hl 1 rfl) ?_
        obtain ⟨hc5, hw⟩ := hw
        obtain ⟨k6, ek6⟩ : ∃ y : Nat, y = a1.toNatClampNeg := ⟨_, rfl⟩
        replace hw := hw k6 ek6
        have hk6 : k6 < 4 := by rw [ek6]; exact vp_lt hc5
        refine x_aald (x := q (51 + 2 * k6 + 0)) hC hI 50 3 rfl rfl hc5 (by rw [ek6]; rfl) dX10_sheet_28 ?_
        refine lv_iload_n hx hb dX10_sheet_29 rfl (lv_at hl 2 rfl) ?_
        refine lv_iload_n hx hb dX10_sheet_30 rfl (lv_at hl 3 rfl) ?_
        refine x_callVv (fs := [.ref (q (51 + 2 * k6 + 1)), .int (shH k6), .int (shL k6), .int (shS k6)]) (rest := []) hC hI [(51 + 2 * k6 + 0), (51 + 2 * k6 + 1)] (mX6_renew l D K (fun i => q (51 + 2 * k6 + i)) _ a2 a3 (shI k6) (shH k6) (shL k6) (shS k6) hw) (cwV 2 hts gX10_sheet_X6_renew rfl rfl rfl (by decide +kernel) ⟨(Nat.le_of_ble_eq_true rfl), (Nat.le_of_ble_eq_true rfl)⟩) (by rcases lt4 hk6 with rfl | rfl | rfl | rfl <;> rfl) (by rcases lt4 hk6 with rfl | rfl | rfl | rfl <;> rfl) (fun _ => rfl) (51 + 2 * k6 + 0) 4 rfl rfl (by rcases lt4 hk6 with rfl | rfl | rfl | rfl <;> rfl) rfl hl.1 rfl (Nat.le_of_ble_eq_true rfl) dX10_sheet_31 ⟨(Nat.le_of_ble_eq_true rfl), (Nat.le_of_ble_eq_true rfl)⟩ (fun u H locs hw hI => ?_)
        obtain ⟨items_7, held_8, lane_9, size_10⟩ := u
        try dsimp only at hw
        have hI : wI s D A (wX K q bits stops num unit strips caps draw oldest known ring im iold iknown iring hasIm letters tbits tlen tat fig (va_up shI k6 items_7) (va_up shH k6 held_8) (va_up shL k6 lane_9) (va_up shS k6 size_10) seaOf queue snum cost heap wait off les gre abv blw needed ocut opole) H locs := by rcases lt4 hk6 with rfl | rfl | rfl | rfl <;> exact hI
        refine lv_iload_n hx hb dX10_sheet_34 rfl (lv_at hl 3 rfl) ?_
        subst hQ
        exact x_iret (u := ((va_up shI k6 items_7), (va_up shH k6 held_8), (va_up shL k6 lane_9), (va_up shS k6 size_10))) hC hI hr hlk hw rfl dX10_sheet_35
      · replace hw := hw.2 c4
        refine lv_bipush (v := (-14 : Int32)) hx hb dX10_sheet_20 (by decide) ?_
        subst hQ
        exact x_iret (u := (shI, shH, shL, shS)) hC hI hr hlk hw rfl dX10_sheet_22
    · replace hw := hw.2 c3
      refine lv_iconst (v := (-1 : Int32)) hx hb dX10_sheet_14 (by decide) ?_
      subst hQ
      exact x_iret (u := (shI, shH, shL, shS)) hC hI hr hlk hw rfl dX10_sheet_15

def wX10_drop (a1 : Int32) (shH : Nat → Int32) (shS : Nat → Int32) (post : Int32 → (Nat → Int32) → Prop) : Prop := wX10_isIn a1 (0 : Int32) (3 : Int32) (fun (r1 : Int32) => ((r1 = 0 → post (-1 : Int32) shH) ∧ (¬ r1 = 0 → vp_in a1 4 ∧ ∀ k4 : Nat, k4 = a1.toNatClampNeg → (((shH k4) = 0 → post (-11 : Int32) shH) ∧ (¬ (shH k4) = 0 → post (shS k4) (va_up shH k4 (0 : Int32)))))))
def rmX10_drop : Room := { frames := 1, cells := 0, slots := 0, locals := 22 }
theorem kX10_drop_0 : Cond.fieldLink RX10 38 "GoreGlobe" "sheets" "[LGoreGlobe$Sheet;" ∈ wsX10_drop := List.mem_cons_of_mem _ (List.mem_append_left _ (List.mem_append_left _ (List.mem_of_getElem? (i := 0) rfl)))
theorem kX10_drop_cX10 : ∀ w ∈ wsX100, w ∈ wsX10_drop := fun _ h => List.mem_cons_of_mem _ (List.mem_append_left _ (List.mem_append_right _ h))
theorem kX10_drop_2 : Cond.fieldLink RX10 321 "GoreGlobe$Sheet" "isHeld" "Z" ∈ wsX10_drop := List.mem_cons_of_mem _ (List.mem_append_left _ (List.mem_append_left _ (List.mem_of_getElem? (i := 1) rfl)))
theorem kX10_drop_cX6 : ∀ w ∈ wsX60, w ∈ wsX10_drop := fun _ h => List.mem_cons_of_mem _ (List.mem_append_right _ h)
theorem kX10_drop_4 : Cond.fieldLink RX10 324 "GoreGlobe$Sheet" "size" "I" ∈ wsX10_drop := List.mem_cons_of_mem _ (List.mem_append_left _ (List.mem_append_left _ (List.mem_of_getElem? (i := 2) rfl)))
set_option maxHeartbeats 4000000 in
set_option maxRecDepth 100000 in
theorem mX10_drop (l : Launch) (D : va_G) (K : Nat → ClassId) (q : Nat → Nat) (sz : Nat) (a1 : Int32) (bits : Nat → Int64) (stops : Nat → Int32) (num : Int32) (unit : Int32) (strips : Int32) (caps : Int32) (draw : Int32) (oldest : Int32) (known : Int32) (ring : Nat → GS) (im : GS) (iold : Int32) (iknown : Int32) (iring : Nat → GS) (hasIm : Int32) (letters : Nat → Int32) (tbits : Nat → Int64) (tlen : Int32) (tat : Int32) (fig : Int32) (shI : Nat → Nat → Int64) (shH : Nat → Int32) (shL : Nat → Int32) (shS : Nat → Int32) (seaOf : Nat → Int32) (queue : Nat → Int32) (snum : Int32) (cost : Nat → Int32) (heap : Nat → Int64) (wait : Int32) (off : Int32) (les : Int32) (gre : Int32) (abv : Int64) (blw : Int64) (needed : Int32) (ocut : Int32) (opole : Int32)  {post : Int32 → (Nat → Int32) → Prop} (hw : wX10_drop a1 shH shS post) : Met l yX10_drop wsX10_drop rmX10_drop (va_Pc [.ref (q 0), .int a1] (cP D K (wX K q bits stops num unit strips caps draw oldest known ring im iold iknown iring hasIm letters tbits tlen tat fig shI shH shL shS seaOf queue snum cost heap wait off les gre abv blw needed ocut opole) sz)) (va_Qi (fun (r : Int32) (u : (Nat → Int32)) => post r u) (fun u t => cQ D K (wX K q bits stops num unit strips caps draw oldest known ring im iold iknown iring hasIm letters tbits tlen tat fig shI u shL shS seaOf queue snum cost heap wait off les gre abv blw needed ocut opole) (va_A (wX K q bits stops num unit strips caps draw oldest known ring im iold iknown iring hasIm letters tbits tlen tat fig shI shH shL shS seaOf queue snum cost heap wait off les gre abv blw needed ocut opole) sz) t) (va_A (wX K q bits stops num unit strips caps draw oldest known ring im iold iknown iring hasIm letters tbits tlen tat fig shI shH shL shS seaOf queue snum cost heap wait off les gre abv blw needed ocut opole) sz)) 0 0 (va_A (wX K q bits stops num unit strips caps draw oldest known ring im iold iknown iring hasIm letters tbits tlen tat fig shI shH shL shS seaOf queue snum cost heap wait off les gre abv blw needed ocut opole) sz) := by
  refine x_entry (cc := cX10_drop) (maxL := 3) (ret := (some .int)) (QA := fun A => va_Qi (fun (r : Int32) (u : (Nat → Int32)) => post r u) (fun u t => cQ D K (wX K q bits stops num unit strips caps draw oldest known ring im iold iknown iring hasIm letters tbits tlen tat fig shI u shL shS seaOf queue snum cost heap wait off les gre abv blw needed ocut opole) A t) A) (plainFor_of_name (by decide)) rfl (Nat.le_of_ble_eq_true rfl) ?_
  intro p e s m args below meth c A ls H Q hQ hC hlk hr hnm hI hl
  obtain ⟨hx, hb, hml, hown, hts, hK, hA, hZ⟩ := id hC
  obtain ⟨locs, hlocs⟩ : ∃ y : List Loc, y = [] := ⟨_, rfl⟩
  rw [← hlocs] at hI ⊢
  clear hlocs
  replace hl : lv_has ls 3 [(0, .ref (q 0)), (1, .int a1)] := hl
  replace hw : wX10_isIn a1 (0 : Int32) (3 : Int32) (fun (r1 : Int32) => ((r1 = 0 → post (-1 : Int32) shH) ∧ (¬ r1 = 0 → vp_in a1 4 ∧ ∀ k4 : Nat, k4 = a1.toNatClampNeg → (((shH k4) = 0 → post (-11 : Int32) shH) ∧ (¬ (shH k4) = 0 → post (shS k4) (va_up shH k4 (0 : Int32))))))) := hw
  refine lv_iload_n hx hb dX10_drop_0 rfl (lv_at hl 1 rfl) ?_
  refine lv_iconst (v := (0 : Int32)) hx hb dX10_drop_1 (by decide) ?_
  refine lv_iconst (v := (3 : Int32)) hx hb dX10_drop_2 (by decide) ?_
  refine x_callSi (rest := []) hC hI [] (mX10_isIn l D K  _ a1 (0 : Int32) (3 : Int32) hw) (va_cwS 3 hts gX10_drop_X10_isIn rfl rfl rfl (by decide +kernel) ⟨(Nat.le_of_ble_eq_true rfl), (Nat.le_of_ble_eq_true rfl)⟩) rfl rfl (fun _ => rfl) rfl hl.1 rfl (Nat.le_of_ble_eq_true rfl) dX10_drop_3 ⟨(Nat.le_of_ble_eq_true rfl), (Nat.le_of_ble_eq_true rfl)⟩ (fun r1 u H locs hw hI => ?_)
  try dsimp only at hw
  have hI : wI s D A (wX K q bits stops num unit strips caps draw oldest known ring im iold iknown iring hasIm letters tbits tlen tat fig shI shH shL shS seaOf queue snum cost heap wait off les gre abv blw needed ocut opole) H locs := hI
  refine lv_if_ne (tgt := 11) hx hb dX10_drop_6 (by decide) (fun c2 => ?_) (fun c2 => ?_)
  · replace hw := hw.2 c2
    refine lv_aload_n hx hb dX10_drop_11 rfl (lv_at hl 0 rfl) ?_
    refine x_get (v := .ref (q 50)) hC hI kX10_drop_cX10 0 rfl rfl 6 (by decide) kX10_drop_0 rfl rfl dX10_drop_12 ?_
    refine lv_iload_n hx hb dX10_drop_15 rfl (lv_at hl 1 rfl) ?_
    obtain ⟨hc3, hw⟩ := hw
    obtain ⟨k4, ek4⟩ : ∃ y : Nat, y = a1.toNatClampNeg := ⟨_, rfl⟩
    replace hw := hw k4 ek4
    have hk4 : k4 < 4 := by rw [ek4]; exact vp_lt hc3
    refine x_aald (x := q (51 + 2 * k4 + 0)) hC hI 50 3 rfl rfl hc3 (by rw [ek4]; rfl) dX10_drop_16 ?_
    refine lv_astore_n (lv' := [(2, .ref (q (51 + 2 * k4 + 0))), (0, .ref (q 0)), (1, .int a1)]) hx hb dX10_drop_17 rfl hl (by decide) rfl (fun ls hl => ?_)
    refine lv_aload_n hx hb dX10_drop_18 rfl (lv_at hl 0 rfl) ?_
    refine x_get (v := .int (shH k4)) (fs := [.ref (q (51 + 2 * k4 + 1)), .int (shH k4), .int (shL k4), .int (shS k4)]) (ci := 4) hC hI kX10_drop_cX6 (51 + 2 * k4 + 0) (by rcases lt4 hk4 with rfl | rfl | rfl | rfl <;> rfl) rfl 1 (by decide) kX10_drop_2 rfl rfl dX10_drop_19 ?_
    refine lv_if_ne (tgt := 28) hx hb dX10_drop_22 (by decide) (fun c5 => ?_) (fun c5 => ?_)
    · replace hw := hw.2 c5
      refine lv_aload_n hx hb dX10_drop_28 rfl (lv_at hl 0 rfl) ?_
      refine lv_iconst (v := (0 : Int32)) hx hb dX10_drop_29 (by decide) ?_
      refine x_put (v := .int (0 : Int32)) (fs := [.ref (q (51 + 2 * k4 + 1)), .int (shH k4), .int (shL k4), .int (shS k4)]) (ci := 4) (a := (q (51 + 2 * k4 + 0))) hC hI kX10_drop_cX6 tyX6 tyX6_ok nmX6 (51 + 2 * k4 + 0) (by rcases lt4 hk4 with rfl | rfl | rfl | rfl <;> rfl) rfl 1 (by decide) kX10_drop_2 rfl rfl rfl rfl (Nat.le_of_ble_eq_true rfl) dX10_drop_30 (fun H locs hI => ?_)
      have hI : wI s D A (wX K q bits stops num unit strips caps draw oldest known ring im iold iknown iring hasIm letters tbits tlen tat fig shI (va_up shH k4 (0 : Int32)) shL shS seaOf queue snum cost heap wait off les gre abv blw needed ocut opole) H locs := by rcases lt4 hk4 with rfl | rfl | rfl | rfl <;> exact hI
      refine lv_aload_n hx hb dX10_drop_33 rfl (lv_at hl 0 rfl) ?_
      refine x_get (v := .int (shS k4)) (fs := [.ref (q (51 + 2 * k4 + 1)), .int ((va_up shH k4 (0 : Int32)) k4), .int (shL k4), .int (shS k4)]) (ci := 4) hC hI kX10_drop_cX6 (51 + 2 * k4 + 0) (by rcases lt4 hk4 with rfl | rfl | rfl | rfl <;> rfl) rfl 3 (by decide) kX10_drop_4 rfl rfl dX10_drop_34 ?_
      subst hQ
      exact x_iret (u := (va_up shH k4 (0 : Int32))) hC hI hr hlk hw rfl dX10_drop_37
    · replace hw := hw.1 c5
      refine lv_bipush (v := (-11 : Int32)) hx hb dX10_drop_25 (by decide) ?_
      subst hQ
      exact x_iret (u := shH) hC hI hr hlk hw rfl dX10_drop_27
  · replace hw := hw.1 c2
    refine lv_iconst (v := (-1 : Int32)) hx hb dX10_drop_9 (by decide) ?_
    subst hQ
    exact x_iret (u := shH) hC hI hr hlk hw rfl dX10_drop_10

def wX10_item (a1 : Int32) (a2 : Int32) (a3 : Int32) (a4 : Int64) (shI : Nat → Nat → Int64) (shH : Nat → Int32) (shL : Nat → Int32) (shS : Nat → Int32) (post : Int32 → (Nat → Nat → Int64) → Prop) : Prop := wX10_isSheetOfLane a1 a2 (fun (r1 : Int32) => ((r1 = 0 → post (-1 : Int32) shI) ∧ (¬ r1 = 0 → vp_in a1 4 ∧ ∀ k4 : Nat, k4 = a1.toNatClampNeg → wX6_refusal a2 a3 (1 : Int32) (shH k4) (shL k4) (shS k4) (fun (r5 : Int32) => ((r5 = 0 → wX6_put a3 a4 (shI k4) (shL k4) (fun (items_7 : Nat → Int64) => post (1 : Int32) (va_up shI k4 items_7))) ∧ (¬ r5 = 0 → post r5 shI))))))
def rmX10_item : Room := { frames := 2, cells := 0, slots := 0, locals := 45 }
theorem kX10_item_0 : Cond.fieldLink RX10 38 "GoreGlobe" "sheets" "[LGoreGlobe$Sheet;" ∈ wsX10_item := List.mem_cons_of_mem _ (List.mem_append_left _ (List.mem_append_left _ (List.mem_append_left _ (List.mem_of_getElem? (i := 0) rfl))))
theorem kX10_item_cX10 : ∀ w ∈ wsX100, w ∈ wsX10_item := fun _ h => List.mem_cons_of_mem _ (List.mem_append_left _ (List.mem_append_right _ h))
set_option maxHeartbeats 4000000 in
set_option maxRecDepth 100000 in
theorem mX10_item (l : Launch) (D : va_G) (K : Nat → ClassId) (q : Nat → Nat) (sz : Nat) (a1 : Int32) (a2 : Int32) (a3 : Int32) (a4 : Int64) (bits : Nat → Int64) (stops : Nat → Int32) (num : Int32) (unit : Int32) (strips : Int32) (caps : Int32) (draw : Int32) (oldest : Int32) (known : Int32) (ring : Nat → GS) (im : GS) (iold : Int32) (iknown : Int32) (iring : Nat → GS) (hasIm : Int32) (letters : Nat → Int32) (tbits : Nat → Int64) (tlen : Int32) (tat : Int32) (fig : Int32) (shI : Nat → Nat → Int64) (shH : Nat → Int32) (shL : Nat → Int32) (shS : Nat → Int32) (seaOf : Nat → Int32) (queue : Nat → Int32) (snum : Int32) (cost : Nat → Int32) (heap : Nat → Int64) (wait : Int32) (off : Int32) (les : Int32) (gre : Int32) (abv : Int64) (blw : Int64) (needed : Int32) (ocut : Int32) (opole : Int32)  {post : Int32 → (Nat → Nat → Int64) → Prop} (hw : wX10_item a1 a2 a3 a4 shI shH shL shS post) : Met l yX10_item wsX10_item rmX10_item (va_Pc [.ref (q 0), .int a1, .int a2, .int a3, .long a4] (cP D K (wX K q bits stops num unit strips caps draw oldest known ring im iold iknown iring hasIm letters tbits tlen tat fig shI shH shL shS seaOf queue snum cost heap wait off les gre abv blw needed ocut opole) sz)) (va_Qi (fun (r : Int32) (u : (Nat → Nat → Int64)) => post r u) (fun u t => cQ D K (wX K q bits stops num unit strips caps draw oldest known ring im iold iknown iring hasIm letters tbits tlen tat fig u shH shL shS seaOf queue snum cost heap wait off les gre abv blw needed ocut opole) (va_A (wX K q bits stops num unit strips caps draw oldest known ring im iold iknown iring hasIm letters tbits tlen tat fig shI shH shL shS seaOf queue snum cost heap wait off les gre abv blw needed ocut opole) sz) t) (va_A (wX K q bits stops num unit strips caps draw oldest known ring im iold iknown iring hasIm letters tbits tlen tat fig shI shH shL shS seaOf queue snum cost heap wait off les gre abv blw needed ocut opole) sz)) 0 0 (va_A (wX K q bits stops num unit strips caps draw oldest known ring im iold iknown iring hasIm letters tbits tlen tat fig shI shH shL shS seaOf queue snum cost heap wait off les gre abv blw needed ocut opole) sz) := by
  refine x_entry (cc := cX10_item) (maxL := 7) (ret := (some .int)) (QA := fun A => va_Qi (fun (r : Int32) (u : (Nat → Nat → Int64)) => post r u) (fun u t => cQ D K (wX K q bits stops num unit strips caps draw oldest known ring im iold iknown iring hasIm letters tbits tlen tat fig u shH shL shS seaOf queue snum cost heap wait off les gre abv blw needed ocut opole) A t) A) (plainFor_of_name (by decide)) rfl (Nat.le_of_ble_eq_true rfl) ?_
  intro p e s m args below meth c A ls H Q hQ hC hlk hr hnm hI hl
  obtain ⟨hx, hb, hml, hown, hts, hK, hA, hZ⟩ := id hC
  obtain ⟨locs, hlocs⟩ : ∃ y : List Loc, y = [] := ⟨_, rfl⟩
  rw [← hlocs] at hI ⊢
  clear hlocs
  replace hl : lv_has ls 7 [(0, .ref (q 0)), (1, .int a1), (2, .int a2), (3, .int a3), (4, .long a4)] := hl
  replace hw : wX10_isSheetOfLane a1 a2 (fun (r1 : Int32) => ((r1 = 0 → post (-1 : Int32) shI) ∧ (¬ r1 = 0 → vp_in a1 4 ∧ ∀ k4 : Nat, k4 = a1.toNatClampNeg → wX6_refusal a2 a3 (1 : Int32) (shH k4) (shL k4) (shS k4) (fun (r5 : Int32) => ((r5 = 0 → wX6_put a3 a4 (shI k4) (shL k4) (fun (items_7 : Nat → Int64) => post (1 : Int32) (va_up shI k4 items_7))) ∧ (¬ r5 = 0 → post r5 shI)))))) := hw
  refine lv_iload_n hx hb dX10_item_0 rfl (lv_at hl 1 rfl) ?_
  refine lv_iload_n hx hb dX10_item_1 rfl (lv_at hl 2 rfl) ?_
  refine x_callSi (rest := []) hC hI [] (mX10_isSheetOfLane l D K  _ a1 a2 hw) (va_cwS 2 hts gX10_item_X10_isSheetOfLane rfl rfl rfl (by decide +kernel) ⟨(Nat.le_of_ble_eq_true rfl), (Nat.le_of_ble_eq_true rfl)⟩) rfl rfl (fun _ => rfl) rfl hl.1 rfl (Nat.le_of_ble_eq_true rfl) dX10_item_2 ⟨(Nat.le_of_ble_eq_true rfl), (Nat.le_of_ble_eq_true rfl)⟩ (fun r1 u H locs hw hI => ?_)
  try dsimp only at hw
  have hI : wI s D A (wX K q bits stops num unit strips caps draw oldest known ring im iold iknown iring hasIm letters tbits tlen tat fig shI shH shL shS seaOf queue snum cost heap wait off les gre abv blw needed ocut opole) H locs := hI
  refine lv_if_ne (tgt := 10) hx hb dX10_item_5 (by decide) (fun c2 => ?_) (fun c2 => ?_)
  · replace hw := hw.2 c2
    refine lv_aload_n hx hb dX10_item_10 rfl (lv_at hl 0 rfl) ?_
    refine x_get (v := .ref (q 50)) hC hI kX10_item_cX10 0 rfl rfl 6 (by decide) kX10_item_0 rfl rfl dX10_item_11 ?_
    refine lv_iload_n hx hb dX10_item_14 rfl (lv_at hl 1 rfl) ?_
    obtain ⟨hc3, hw⟩ := hw
    obtain ⟨k4, ek4⟩ : ∃ y : Nat, y = a1.toNatClampNeg := ⟨_, rfl⟩
    replace hw := hw k4 ek4
    have hk4 : k4 < 4 := by rw [ek4]; exact vp_lt hc3
    refine x_aald (x := q (51 + 2 * k4 + 0)) hC hI 50 3 rfl rfl hc3 (by rw [ek4]; rfl) dX10_item_15 ?_
    refine lv_iload_n hx hb dX10_item_16 rfl (lv_at hl 2 rfl) ?_
    refine lv_iload_n hx hb dX10_item_17 rfl (lv_at hl 3 rfl) ?_
    refine lv_iconst (v := (1 : Int32)) hx hb dX10_item_18 (by decide) ?_
    refine x_callVi (fs := [.ref (q (51 + 2 * k4 + 1)), .int (shH k4), .int (shL k4), .int (shS k4)]) (rest := []) hC hI [(51 + 2 * k4 + 0), (51 + 2 * k4 + 1)] (mX6_refusal l D K (fun i => q (51 + 2 * k4 + i)) _ a2 a3 (1 : Int32) (shI k4) (shH k4) (shL k4) (shS k4) hw) (cwV 3 hts gX10_item_X6_refusal rfl rfl rfl (by decide +kernel) ⟨(Nat.le_of_ble_eq_true rfl), (Nat.le_of_ble_eq_true rfl)⟩) (by rcases lt4 hk4 with rfl | rfl | rfl | rfl <;> rfl) (by rcases lt4 hk4 with rfl | rfl | rfl | rfl <;> rfl) (fun _ => rfl) (51 + 2 * k4 + 0) 4 rfl rfl (by rcases lt4 hk4 with rfl | rfl | rfl | rfl <;> rfl) rfl hl.1 rfl (Nat.le_of_ble_eq_true rfl) dX10_item_19 ⟨(Nat.le_of_ble_eq_true rfl), (Nat.le_of_ble_eq_true rfl)⟩ (fun r5 u H locs hw hI => ?_)
    try dsimp only at hw
    have hI : wI s D A (wX K q bits stops num unit strips caps draw oldest known ring im iold iknown iring hasIm letters tbits tlen tat fig shI shH shL shS seaOf queue snum cost heap wait off les gre abv blw needed ocut opole) H locs := by rcases lt4 hk4 with rfl | rfl | rfl | rfl <;> exact hI
    refine lv_istore (lv' := [(6, .int r5), (0, .ref (q 0)), (1, .int a1), (2, .int a2), (3, .int a3), (4, .long a4)]) hx hb dX10_item_22 hl (by decide) rfl (fun ls hl => ?_)
    refine lv_iload hx hb dX10_item_24 (lv_at hl 0 rfl) ?_
    refine lv_if_eq (tgt := 32) hx hb dX10_item_26 (by decide) (fun c6 => ?_) (fun c6 => ?_)
    · replace hw := hw.1 c6
      refine lv_aload_n hx hb dX10_item_32 rfl (lv_at hl 1 rfl) ?_
      refine x_get (v := .ref (q 50)) hC hI kX10_item_cX10 0 rfl rfl 6 (by decide) kX10_item_0 rfl rfl dX10_item_33 ?_
      refine lv_iload_n hx hb dX10_item_36 rfl (lv_at hl 2 rfl) ?_
      refine x_aald (x := q (51 + 2 * k4 + 0)) hC hI 50 3 rfl rfl hc3 (by rw [ek4]; rfl) dX10_item_37 ?_
      refine lv_iload_n hx hb dX10_item_38 rfl (lv_at hl 4 rfl) ?_
      refine lv_lload hx hb dX10_item_39 (lv_at hl 5 rfl) ?_
      refine x_callVv (fs := [.ref (q (51 + 2 * k4 + 1)), .int (shH k4), .int (shL k4), .int (shS k4)]) (rest := []) hC hI [(51 + 2 * k4 + 0), (51 + 2 * k4 + 1)] (mX6_put l D K (fun i => q (51 + 2 * k4 + i)) _ a3 a4 (shI k4) (shH k4) (shL k4) (shS k4) hw) (cwV 2 hts gX10_item_X6_put rfl rfl rfl (by decide +kernel) ⟨(Nat.le_of_ble_eq_true rfl), (Nat.le_of_ble_eq_true rfl)⟩) (by rcases lt4 hk4 with rfl | rfl | rfl | rfl <;> rfl) (by rcases lt4 hk4 with rfl | rfl | rfl | rfl <;> rfl) (fun _ => rfl) (51 + 2 * k4 + 0) 4 rfl rfl (by rcases lt4 hk4 with rfl | rfl | rfl | rfl <;> rfl) rfl hl.1 rfl (Nat.le_of_ble_eq_true rfl) dX10_item_41 ⟨(Nat.le_of_ble_eq_true rfl), (Nat.le_of_ble_eq_true rfl)⟩ (fun items_7 H locs hw hI => ?_)
      have hI : wI s D A (wX K q bits stops num unit strips caps draw oldest known ring im iold iknown iring hasIm letters tbits tlen tat fig (va_up shI k4 items_7) shH shL shS seaOf queue snum cost heap wait off les gre abv blw needed ocut opole) H locs := by rcases lt4 hk4 with rfl | rfl | rfl | rfl <;> exact hI
      refine lv_iconst (v := (1 : Int32)) hx hb dX10_item_44 (by decide) ?_
      subst hQ
      exact x_iret (u := (va_up shI k4 items_7)) hC hI hr hlk hw rfl dX10_item_45
    · replace hw := hw.2 c6
      refine lv_iload hx hb dX10_item_29 (lv_at hl 0 rfl) ?_
      subst hQ
      exact x_iret (u := shI) hC hI hr hlk hw rfl dX10_item_31
  · replace hw := hw.1 c2
    refine lv_iconst (v := (-1 : Int32)) hx hb dX10_item_8 (by decide) ?_
    subst hQ
    exact x_iret (u := shI) hC hI hr hlk hw rfl dX10_item_9

def wX10_copy (a1 : Int32) (a2 : Int32) (a3 : Int32) (a4 : Int32) (a5 : Int32) (shI : Nat → Nat → Int64) (shH : Nat → Int32) (shL : Nat → Int32) (shS : Nat → Int32) (post : Int32 → (Nat → Nat → Int64) → Prop) : Prop := wX10_isIn a1 (0 : Int32) (3 : Int32) (fun (r1 : Int32) => ((r1 = 0 → post (-1 : Int32) shI) ∧ (¬ r1 = 0 → wX10_isIn a3 (0 : Int32) (3 : Int32) (fun (r3 : Int32) => ((r3 = 0 → post (-1 : Int32) shI) ∧ (¬ r3 = 0 → vp_in a1 4 ∧ ∀ k6 : Nat, k6 = a1.toNatClampNeg → vp_in a3 4 ∧ ∀ k8 : Nat, k8 = a3.toNatClampNeg → (((shH k6) = 0 → post (-11 : Int32) shI) ∧ (¬ (shH k6) = 0 → (((shH k8) = 0 → post (-11 : Int32) shI) ∧ (¬ (shH k8) = 0 → (((shL k6) = (shL k8) → wX6_hasItems a2 a5 (shS k6) (fun (r12 : Int32) => ((r12 = 0 → post (-13 : Int32) shI) ∧ (¬ r12 = 0 → wX6_hasItems a4 a5 (shS k8) (fun (r14 : Int32) => ((r14 = 0 → post (-13 : Int32) shI) ∧ (¬ r14 = 0 → ¬ a2 < 0 ∧ ¬ a4 < 0 ∧ ¬ a5 < 0 ∧ a2.toNatClampNeg + a5.toNatClampNeg ≤ 30 ∧ a4.toNatClampNeg + a5.toNatClampNeg ≤ 30 ∧ post a5 (va_up shI k8 (va_cpy (shI k6) (shI k8) a2.toNatClampNeg a4.toNatClampNeg a5.toNatClampNeg))))))))) ∧ (¬ (shL k6) = (shL k8) → post (-12 : Int32) shI))))))))))))
def rmX10_copy : Room := { frames := 1, cells := 0, slots := 0, locals := 40 }
theorem kX10_copy_0 : Cond.fieldLink RX10 38 "GoreGlobe" "sheets" "[LGoreGlobe$Sheet;" ∈ wsX10_copy := List.mem_cons_of_mem _ (List.mem_append_left _ (List.mem_append_left _ (List.mem_of_getElem? (i := 0) rfl)))
theorem kX10_copy_cX10 : ∀ w ∈ wsX100, w ∈ wsX10_copy := fun _ h => List.mem_cons_of_mem _ (List.mem_append_left _ (List.mem_append_right _ h))
theorem kX10_copy_2 : Cond.fieldLink RX10 321 "GoreGlobe$Sheet" "isHeld" "Z" ∈ wsX10_copy := List.mem_cons_of_mem _ (List.mem_append_left _ (List.mem_append_left _ (List.mem_of_getElem? (i := 1) rfl)))
theorem kX10_copy_cX6 : ∀ w ∈ wsX60, w ∈ wsX10_copy := fun _ h => List.mem_cons_of_mem _ (List.mem_append_right _ h)
theorem kX10_copy_4 : Cond.fieldLink RX10 327 "GoreGlobe$Sheet" "lane" "I" ∈ wsX10_copy := List.mem_cons_of_mem _ (List.mem_append_left _ (List.mem_append_left _ (List.mem_of_getElem? (i := 2) rfl)))
theorem kX10_copy_5 : Cond.fieldLink RX10 333 "GoreGlobe$Sheet" "items" "[J" ∈ wsX10_copy := List.mem_cons_of_mem _ (List.mem_append_left _ (List.mem_append_left _ (List.mem_of_getElem? (i := 3) rfl)))
theorem kX10_copy_6 : Cond.methodLink RX10 271 arraycopyName ∈ wsX10_copy := List.mem_cons_of_mem _ (List.mem_append_left _ (List.mem_append_left _ (List.mem_of_getElem? (i := 4) rfl)))
theorem kX10_copy_7 : Cond.native arraycopyName ∈ wsX10_copy := List.mem_cons_of_mem _ (List.mem_append_left _ (List.mem_append_left _ (List.mem_of_getElem? (i := 5) rfl)))
theorem kX10_copy_8 : Cond.static arraycopyName ∈ wsX10_copy := List.mem_cons_of_mem _ (List.mem_append_left _ (List.mem_append_left _ (List.mem_of_getElem? (i := 6) rfl)))
theorem kX10_copy_9 : Cond.initialized "java/lang/System" ∈ wsX10_copy := List.mem_cons_of_mem _ (List.mem_append_left _ (List.mem_append_left _ (List.mem_of_getElem? (i := 7) rfl)))
set_option maxHeartbeats 4000000 in
set_option maxRecDepth 100000 in
theorem mX10_copy (l : Launch) (D : va_G) (K : Nat → ClassId) (q : Nat → Nat) (sz : Nat) (a1 : Int32) (a2 : Int32) (a3 : Int32) (a4 : Int32) (a5 : Int32) (bits : Nat → Int64) (stops : Nat → Int32) (num : Int32) (unit : Int32) (strips : Int32) (caps : Int32) (draw : Int32) (oldest : Int32) (known : Int32) (ring : Nat → GS) (im : GS) (iold : Int32) (iknown : Int32) (iring : Nat → GS) (hasIm : Int32) (letters : Nat → Int32) (tbits : Nat → Int64) (tlen : Int32) (tat : Int32) (fig : Int32) (shI : Nat → Nat → Int64) (shH : Nat → Int32) (shL : Nat → Int32) (shS : Nat → Int32) (seaOf : Nat → Int32) (queue : Nat → Int32) (snum : Int32) (cost : Nat → Int32) (heap : Nat → Int64) (wait : Int32) (off : Int32) (les : Int32) (gre : Int32) (abv : Int64) (blw : Int64) (needed : Int32) (ocut : Int32) (opole : Int32)  {post : Int32 → (Nat → Nat → Int64) → Prop} (hw : wX10_copy a1 a2 a3 a4 a5 shI shH shL shS post) : Met l yX10_copy wsX10_copy rmX10_copy (va_Pc [.ref (q 0), .int a1, .int a2, .int a3, .int a4, .int a5] (cP D K (wX K q bits stops num unit strips caps draw oldest known ring im iold iknown iring hasIm letters tbits tlen tat fig shI shH shL shS seaOf queue snum cost heap wait off les gre abv blw needed ocut opole) sz)) (va_Qi (fun (r : Int32) (u : (Nat → Nat → Int64)) => post r u) (fun u t => cQ D K (wX K q bits stops num unit strips caps draw oldest known ring im iold iknown iring hasIm letters tbits tlen tat fig u shH shL shS seaOf queue snum cost heap wait off les gre abv blw needed ocut opole) (va_A (wX K q bits stops num unit strips caps draw oldest known ring im iold iknown iring hasIm letters tbits tlen tat fig shI shH shL shS seaOf queue snum cost heap wait off les gre abv blw needed ocut opole) sz) t) (va_A (wX K q bits stops num unit strips caps draw oldest known ring im iold iknown iring hasIm letters tbits tlen tat fig shI shH shL shS seaOf queue snum cost heap wait off les gre abv blw needed ocut opole) sz)) 0 0 (va_A (wX K q bits stops num unit strips caps draw oldest known ring im iold iknown iring hasIm letters tbits tlen tat fig shI shH shL shS seaOf queue snum cost heap wait off les gre abv blw needed ocut opole) sz) := by
  refine x_entry (cc := cX10_copy) (maxL := 8) (ret := (some .int)) (QA := fun A => va_Qi (fun (r : Int32) (u : (Nat → Nat → Int64)) => post r u) (fun u t => cQ D K (wX K q bits stops num unit strips caps draw oldest known ring im iold iknown iring hasIm letters tbits tlen tat fig u shH shL shS seaOf queue snum cost heap wait off les gre abv blw needed ocut opole) A t) A) (plainFor_of_name (by decide)) rfl (Nat.le_of_ble_eq_true rfl) ?_
  intro p e s m args below meth c A ls H Q hQ hC hlk hr hnm hI hl
  obtain ⟨hx, hb, hml, hown, hts, hK, hA, hZ⟩ := id hC
  obtain ⟨locs, hlocs⟩ : ∃ y : List Loc, y = [] := ⟨_, rfl⟩
  rw [← hlocs] at hI ⊢
  clear hlocs
  replace hl : lv_has ls 8 [(0, .ref (q 0)), (1, .int a1), (2, .int a2), (3, .int a3), (4, .int a4), (5, .int a5)] := hl
  replace hw : wX10_isIn a1 (0 : Int32) (3 : Int32) (fun (r1 : Int32) => ((r1 = 0 → post (-1 : Int32) shI) ∧ (¬ r1 = 0 → wX10_isIn a3 (0 : Int32) (3 : Int32) (fun (r3 : Int32) => ((r3 = 0 → post (-1 : Int32) shI) ∧ (¬ r3 = 0 → vp_in a1 4 ∧ ∀ k6 : Nat, k6 = a1.toNatClampNeg → vp_in a3 4 ∧ ∀ k8 : Nat, k8 = a3.toNatClampNeg → (((shH k6) = 0 → post (-11 : Int32) shI) ∧ (¬ (shH k6) = 0 → (((shH k8) = 0 → post (-11 : Int32) shI) ∧ (¬ (shH k8) = 0 → (((shL k6) = (shL k8) → wX6_hasItems a2 a5 (shS k6) (fun (r12 : Int32) => ((r12 = 0 → post (-13 : Int32) shI) ∧ (¬ r12 = 0 → wX6_hasItems a4 a5 (shS k8) (fun (r14 : Int32) => ((r14 = 0 → post (-13 : Int32) shI) ∧ (¬ r14 = 0 → ¬ a2 < 0 ∧ ¬ a4 < 0 ∧ ¬ a5 < 0 ∧ a2.toNatClampNeg + a5.toNatClampNeg ≤ 30 ∧ a4.toNatClampNeg + a5.toNatClampNeg ≤ 30 ∧ post a5 (va_up shI k8 (va_cpy (shI k6) (shI k8) a2.toNatClampNeg a4.toNatClampNeg a5.toNatClampNeg))))))))) ∧ (¬ (shL k6) = (shL k8) → post (-12 : Int32) shI)))))))))))) := hw
  refine lv_iload_n hx hb dX10_copy_0 rfl (lv_at hl 1 rfl) ?_
  refine lv_iconst (v := (0 : Int32)) hx hb dX10_copy_1 (by decide) ?_
  refine lv_iconst (v := (3 : Int32)) hx hb dX10_copy_2 (by decide) ?_
  refine x_callSi (rest := []) hC hI [] (mX10_isIn l D K  _ a1 (0 : Int32) (3 : Int32) hw) (va_cwS 3 hts gX10_copy_X10_isIn rfl rfl rfl (by decide +kernel) ⟨(Nat.le_of_ble_eq_true rfl), (Nat.le_of_ble_eq_true rfl)⟩) rfl rfl (fun _ => rfl) rfl hl.1 rfl (Nat.le_of_ble_eq_true rfl) dX10_copy_3 ⟨(Nat.le_of_ble_eq_true rfl), (Nat.le_of_ble_eq_true rfl)⟩ (fun r1 u H locs hw hI => ?_)
  try dsimp only at hw
  have hI : wI s D A (wX K q bits stops num unit strips caps draw oldest known ring im iold iknown iring hasIm letters tbits tlen tat fig shI shH shL shS seaOf queue snum cost heap wait off les gre abv blw needed ocut opole) H locs := hI
  refine lv_if_eq (tgt := 18) hx hb dX10_copy_6 (by decide) (fun c2 => ?_) (fun c2 => ?_)
  · replace hw := hw.1 c2
    refine lv_iconst (v := (-1 : Int32)) hx hb dX10_copy_18 (by decide) ?_
    subst hQ
    exact x_iret (u := shI) hC hI hr hlk hw rfl dX10_copy_19
  · replace hw := hw.2 c2
    refine lv_iload_n hx hb dX10_copy_9 rfl (lv_at hl 3 rfl) ?_
    refine lv_iconst (v := (0 : Int32)) hx hb dX10_copy_10 (by decide) ?_
    refine lv_iconst (v := (3 : Int32)) hx hb dX10_copy_11 (by decide) ?_
    refine x_callSi (rest := []) hC hI [] (mX10_isIn l D K  _ a3 (0 : Int32) (3 : Int32) hw) (va_cwS 3 hts gX10_copy_X10_isIn rfl rfl rfl (by decide +kernel) ⟨(Nat.le_of_ble_eq_true rfl), (Nat.le_of_ble_eq_true rfl)⟩) rfl rfl (fun _ => rfl) rfl hl.1 rfl (Nat.le_of_ble_eq_true rfl) dX10_copy_12 ⟨(Nat.le_of_ble_eq_true rfl), (Nat.le_of_ble_eq_true rfl)⟩ (fun r3 u H locs hw hI => ?_)
    try dsimp only at hw
    have hI : wI s D A (wX K q bits stops num unit strips caps draw oldest known ring im iold iknown iring hasIm letters tbits tlen tat fig shI shH shL shS seaOf queue snum cost heap wait off les gre abv blw needed ocut opole) H locs := hI
    refine lv_if_ne (tgt := 20) hx hb dX10_copy_15 (by decide) (fun c4 => ?_) (fun c4 => ?_)
    · replace hw := hw.2 c4
      refine lv_aload_n hx hb dX10_copy_20 rfl (lv_at hl 0 rfl) ?_
      refine x_get (v := .ref (q 50)) hC hI kX10_copy_cX10 0 rfl rfl 6 (by decide) kX10_copy_0 rfl rfl dX10_copy_21 ?_
      refine lv_iload_n hx hb dX10_copy_24 rfl (lv_at hl 1 rfl) ?_
      obtain ⟨hc5, hw⟩ := hw
      obtain ⟨k6, ek6⟩ : ∃ y : Nat, y = a1.toNatClampNeg := ⟨_, rfl⟩
      replace hw := hw k6 ek6
      have hk6 : k6 < 4 := by rw [ek6]; exact vp_lt hc5
      refine x_aald (x := q (51 + 2 * k6 + 0)) hC hI 50 3 rfl rfl hc5 (by rw [ek6]; rfl) dX10_copy_25 ?_
      refine lv_astore (lv' := [(6, .ref (q (51 + 2 * k6 + 0))), (0, .ref (q 0)), (1, .int a1), (2, .int a2), (3, .int a3), (4, .int a4), (5, .int a5)]) hx hb dX10_copy_26 hl (by decide) rfl (fun ls hl => ?_)
      refine lv_aload_n hx hb dX10_copy_28 rfl (lv_at hl 1 rfl) ?_
      refine x_get (v := .ref (q 50)) hC hI kX10_copy_cX10 0 rfl rfl 6 (by decide) kX10_copy_0 rfl rfl dX10_copy_29 ?_
      refine lv_iload_n hx hb dX10_copy_32 rfl (lv_at hl 4 rfl) ?_
      obtain ⟨hc7, hw⟩ := hw
      obtain ⟨k8, ek8⟩ : ∃ y : Nat, y = a3.toNatClampNeg := ⟨_, rfl⟩
      replace hw := hw k8 ek8
      have hk8 : k8 < 4 := by rw [ek8]; exact vp_lt hc7
      refine x_aald (x := q (51 + 2 * k8 + 0)) hC hI 50 3 rfl rfl hc7 (by rw [ek8]; rfl) dX10_copy_33 ?_
      refine lv_astore (lv' := [(7, .ref (q (51 + 2 * k8 + 0))), (6, .ref (q (51 + 2 * k6 + 0))), (0, .ref (q 0)), (1, .int a1), (2, .int a2), (3, .int a3), (4, .int a4), (5, .int a5)]) hx hb dX10_copy_34 hl (by decide) rfl (fun ls hl => ?_)
      refine lv_aload hx hb dX10_copy_36 (lv_at hl 1 rfl) ?_
      refine x_get (v := .int (shH k6)) (fs := [.ref (q (51 + 2 * k6 + 1)), .int (shH k6), .int (shL k6), .int (shS k6)]) (ci := 4) hC hI kX10_copy_cX6 (51 + 2 * k6 + 0) (by rcases lt4 hk6 with rfl | rfl | rfl | rfl <;> rfl) rfl 1 (by decide) kX10_copy_2 rfl rfl dX10_copy_38 ?_
      refine lv_if_eq (tgt := 52) hx hb dX10_copy_41 (by decide) (fun c9 => ?_) (fun c9 => ?_)
      · replace hw := hw.1 c9
        refine lv_bipush (v := (-11 : Int32)) hx hb dX10_copy_52 (by decide) ?_
        subst hQ
        exact x_iret (u := shI) hC hI hr hlk hw rfl dX10_copy_54
      · replace hw := hw.2 c9
        refine lv_aload hx hb dX10_copy_44 (lv_at hl 0 rfl) ?_
        refine x_get (v := .int (shH k8)) (fs := [.ref (q (51 + 2 * k8 + 1)), .int (shH k8), .int (shL k8), .int (shS k8)]) (ci := 4) hC hI kX10_copy_cX6 (51 + 2 * k8 + 0) (by rcases lt4 hk8 with rfl | rfl | rfl | rfl <;> rfl) rfl 1 (by decide) kX10_copy_2 rfl rfl dX10_copy_46 ?_
        refine lv_if_ne (tgt := 55) hx hb dX10_copy_49 (by decide) (fun c10 => ?_) (fun c10 => ?_)
        · replace hw := hw.2 c10
          refine lv_aload hx hb dX10_copy_55 (lv_at hl 1 rfl) ?_
          refine x_get (v := .int (shL k6)) (fs := [.ref (q (51 + 2 * k6 + 1)), .int (shH k6), .int (shL k6), .int (shS k6)]) (ci := 4) hC hI kX10_copy_cX6 (51 + 2 * k6 + 0) (by rcases lt4 hk6 with rfl | rfl | rfl | rfl <;> rfl) rfl 2 (by decide) kX10_copy_4 rfl rfl dX10_copy_57 ?_
          refine lv_aload hx hb dX10_copy_60 (lv_at hl 0 rfl) ?_
          refine x_get (v := .int (shL k8)) (fs := [.ref (q (51 + 2 * k8 + 1)), .int (shH k8), .int (shL k8), .int (shS k8)]) (ci := 4) hC hI kX10_copy_cX6 (51 + 2 * k8 + 0) (by rcases lt4 hk8 with rfl | rfl | rfl | rfl <;> rfl) rfl 2 (by decide) kX10_copy_4 rfl rfl dX10_copy_62 ?_
          refine lv_icmp_eq (tgt := 71) hx hb dX10_copy_65 (by decide) (fun c11 => ?_) (fun c11 => ?_)
          · replace hw := hw.1 c11
            refine lv_aload hx hb dX10_copy_71 (lv_at hl 1 rfl) ?_
            refine lv_iload_n hx hb dX10_copy_73 rfl (lv_at hl 4 rfl) ?_
            refine lv_iload hx hb dX10_copy_74 (lv_at hl 7 rfl) ?_
            refine x_callVi (fs := [.ref (q (51 + 2 * k6 + 1)), .int (shH k6), .int (shL k6), .int (shS k6)]) (rest := []) hC hI [(51 + 2 * k6 + 0), (51 + 2 * k6 + 1)] (mX6_hasItems l D K (fun i => q (51 + 2 * k6 + i)) _ a2 a5 (shI k6) (shH k6) (shL k6) (shS k6) hw) (cwV 2 hts gX10_copy_X6_hasItems rfl rfl rfl (by decide +kernel) ⟨(Nat.le_of_ble_eq_true rfl), (Nat.le_of_ble_eq_true rfl)⟩) (by rcases lt4 hk6 with rfl | rfl | rfl | rfl <;> rfl) (by rcases lt4 hk6 with rfl | rfl | rfl | rfl <;> rfl) (fun _ => rfl) (51 + 2 * k6 + 0) 4 rfl rfl (by rcases lt4 hk6 with rfl | rfl | rfl | rfl <;> rfl) rfl hl.1 rfl (Nat.le_of_ble_eq_true rfl) dX10_copy_76 ⟨(Nat.le_of_ble_eq_true rfl), (Nat.le_of_ble_eq_true rfl)⟩ (fun r12 u H locs hw hI => ?_)
            try dsimp only at hw
            have hI : wI s D A (wX K q bits stops num unit strips caps draw oldest known ring im iold iknown iring hasIm letters tbits tlen tat fig shI shH shL shS seaOf queue snum cost heap wait off les gre abv blw needed ocut opole) H locs := by rcases lt4 hk6 with rfl | rfl | rfl | rfl <;> exact hI
            refine lv_if_eq (tgt := 94) hx hb dX10_copy_79 (by decide) (fun c13 => ?_) (fun c13 => ?_)
            · replace hw := hw.1 c13
              refine lv_bipush (v := (-13 : Int32)) hx hb dX10_copy_94 (by decide) ?_
              subst hQ
              exact x_iret (u := shI) hC hI hr hlk hw rfl dX10_copy_96
            · replace hw := hw.2 c13
              refine lv_aload hx hb dX10_copy_82 (lv_at hl 0 rfl) ?_
              refine lv_iload hx hb dX10_copy_84 (lv_at hl 6 rfl) ?_
              refine lv_iload hx hb dX10_copy_86 (lv_at hl 7 rfl) ?_
              refine x_callVi (fs := [.ref (q (51 + 2 * k8 + 1)), .int (shH k8), .int (shL k8), .int (shS k8)]) (rest := []) hC hI [(51 + 2 * k8 + 0), (51 + 2 * k8 + 1)] (mX6_hasItems l D K (fun i => q (51 + 2 * k8 + i)) _ a4 a5 (shI k8) (shH k8) (shL k8) (shS k8) hw) (cwV 2 hts gX10_copy_X6_hasItems rfl rfl rfl (by decide +kernel) ⟨(Nat.le_of_ble_eq_true rfl), (Nat.le_of_ble_eq_true rfl)⟩) (by rcases lt4 hk8 with rfl | rfl | rfl | rfl <;> rfl) (by rcases lt4 hk8 with rfl | rfl | rfl | rfl <;> rfl) (fun _ => rfl) (51 + 2 * k8 + 0) 4 rfl rfl (by rcases lt4 hk8 with rfl | rfl | rfl | rfl <;> rfl) rfl hl.1 rfl (Nat.le_of_ble_eq_true rfl) dX10_copy_88 ⟨(Nat.le_of_ble_eq_true rfl), (Nat.le_of_ble_eq_true rfl)⟩ (fun r14 u H locs hw hI => ?_)
              try dsimp only at hw
              have hI : wI s D A (wX K q bits stops num unit strips caps draw oldest known ring im iold iknown iring hasIm letters tbits tlen tat fig shI shH shL shS seaOf queue snum cost heap wait off les gre abv blw needed ocut opole) H locs := by rcases lt4 hk8 with rfl | rfl | rfl | rfl <;> exact hI
              refine lv_if_ne (tgt := 97) hx hb dX10_copy_91 (by decide) (fun c15 => ?_) (fun c15 => ?_)
              · replace hw := hw.2 c15
                refine lv_aload hx hb dX10_copy_97 (lv_at hl 1 rfl) ?_
                refine x_get (v := .ref (q (51 + 2 * k6 + 1))) (fs := [.ref (q (51 + 2 * k6 + 1)), .int (shH k6), .int (shL k6), .int (shS k6)]) (ci := 4) hC hI kX10_copy_cX6 (51 + 2 * k6 + 0) (by rcases lt4 hk6 with rfl | rfl | rfl | rfl <;> rfl) rfl 0 (by decide) kX10_copy_5 rfl rfl dX10_copy_99 ?_
                refine lv_iload_n hx hb dX10_copy_102 rfl (lv_at hl 4 rfl) ?_
                refine lv_aload hx hb dX10_copy_103 (lv_at hl 0 rfl) ?_
                refine x_get (v := .ref (q (51 + 2 * k8 + 1))) (fs := [.ref (q (51 + 2 * k8 + 1)), .int (shH k8), .int (shL k8), .int (shS k8)]) (ci := 4) hC hI kX10_copy_cX6 (51 + 2 * k8 + 0) (by rcases lt4 hk8 with rfl | rfl | rfl | rfl <;> rfl) rfl 0 (by decide) kX10_copy_5 rfl rfl dX10_copy_105 ?_
                refine lv_iload hx hb dX10_copy_108 (lv_at hl 6 rfl) ?_
                refine lv_iload hx hb dX10_copy_110 (lv_at hl 7 rfl) ?_
                obtain ⟨hc16, hw⟩ := hw
                obtain ⟨hc17, hw⟩ := hw
                obtain ⟨hc18, hw⟩ := hw
                obtain ⟨hc19, hw⟩ := hw
                obtain ⟨hc20, hw⟩ := hw
                refine x_copyj (f := (shI k6)) (g := (shI k8)) (n0 := 30) (n1 := 30) hC hI hl.1 kX10_copy_6 kX10_copy_7 kX10_copy_8 kX10_copy_9 (51 + 2 * k6 + 1) (51 + 2 * k8 + 1) (by rcases lt4 hk6 with rfl | rfl | rfl | rfl <;> rfl) (by rcases lt4 hk8 with rfl | rfl | rfl | rfl <;> rfl) hc16 hc17 hc18 hc19 hc20 (Nat.le_of_ble_eq_true rfl) (Nat.le_of_ble_eq_true rfl) dX10_copy_112 (fun H locs hI => ?_)
                have hI : wI s D A (wX K q bits stops num unit strips caps draw oldest known ring im iold iknown iring hasIm letters tbits tlen tat fig (va_up shI k8 (va_cpy (shI k6) (shI k8) a2.toNatClampNeg a4.toNatClampNeg a5.toNatClampNeg)) shH shL shS seaOf queue snum cost heap wait off les gre abv blw needed ocut opole) H locs := by rcases lt4 hk8 with rfl | rfl | rfl | rfl <;> exact hI
                refine lv_iload hx hb dX10_copy_115 (lv_at hl 7 rfl) ?_
                subst hQ
                exact x_iret (u := (va_up shI k8 (va_cpy (shI k6) (shI k8) a2.toNatClampNeg a4.toNatClampNeg a5.toNatClampNeg))) hC hI hr hlk hw rfl dX10_copy_117
              · replace hw := hw.1 c15
                refine lv_bipush (v := (-13 : Int32)) hx hb dX10_copy_94 (by decide) ?_
                subst hQ
                exact x_iret (u := shI) hC hI hr hlk hw rfl dX10_copy_96
          · replace hw := hw.2 c11
            refine lv_bipush (v := (-12 : Int32)) hx hb dX10_copy_68 (by decide) ?_
            subst hQ
            exact x_iret (u := shI) hC hI hr hlk hw rfl dX10_copy_70
        · replace hw := hw.1 c10
          refine lv_bipush (v := (-11 : Int32)) hx hb dX10_copy_52 (by decide) ?_
          subst hQ
          exact x_iret (u := shI) hC hI hr hlk hw rfl dX10_copy_54
    · replace hw := hw.1 c4
      refine lv_iconst (v := (-1 : Int32)) hx hb dX10_copy_18 (by decide) ?_
      subst hQ
      exact x_iret (u := shI) hC hI hr hlk hw rfl dX10_copy_19
