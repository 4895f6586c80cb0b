def wX10_land (a1 : Int32) (a2 : Int32) (bits : Nat → Int64) (stops : Nat → Int32) (num : Int32) (unit : Int32) (strips : Int32) (caps : Int32) (draw : Int32) (oldest : Int32) (known : Int32) (ring : Nat → GS) (post : Int32 → (Nat → Int64) → Int32 → Int32 → (Nat → GS) → Prop) : Prop := wX1_isNumber a1 (fun (r1 : Int32) => ((r1 = 0 → post (-1 : Int32) bits oldest known ring) ∧ (¬ r1 = 0 → wX10_isIn a2 (0 : Int32) (1 : Int32) (fun (r3 : Int32) => ((r3 = 0 → post (-1 : Int32) bits oldest known ring) ∧ (¬ r3 = 0 → wX0_isLand a1 bits (fun (r5 : Int32) => ∃ J36 : Int32 → Prop, (∀ (t_36 : Int32), J36 t_36 → ((r5 = t_36 → post (-2 : Int32) bits oldest known ring) ∧ (¬ r5 = t_36 → wX4_keep oldest known ring bits stops num unit strips caps draw (fun (oldest_c7 : Int32) (known_c8 : Int32) (ring_c9 : Nat → GS) => wX0_turnOver a1 bits (fun (bits_c10 : Nat → Int64) => wX0_landNumber bits_c10 (fun (r11 : Int32) => post r11 bits_c10 oldest_c7 known_c8 ring_c9)))))) ∧ ((a2 = (1 : Int32) → J36 (1 : Int32)) ∧ (¬ a2 = (1 : Int32) → J36 (0 : Int32))))))))))
def rmX10_land : Room := { frames := 3, cells := 0, slots := 0, locals := 82 }
theorem kX10_land_0 : Cond.fieldLink RX10 10 "GoreGlobe" "now" "LGoreGlobe$Globe;" ∈ wsX10_land := List.mem_cons_of_mem _ (List.mem_append_left _ (List.mem_append_left _ (List.mem_append_left _ (List.mem_append_left _ (List.mem_of_getElem? (i := 0) rfl)))))
theorem kX10_land_cX10 : ∀ w ∈ wsX100, w ∈ wsX10_land := fun _ h => List.mem_cons_of_mem _ (List.mem_append_left _ (List.mem_append_left _ (List.mem_append_right _ h)))
theorem kX10_land_2 : Cond.fieldLink RX10 19 "GoreGlobe" "past" "LGoreGlobe$Past;" ∈ wsX10_land := List.mem_cons_of_mem _ (List.mem_append_left _ (List.mem_append_left _ (List.mem_append_left _ (List.mem_append_left _ (List.mem_of_getElem? (i := 1) rfl)))))
set_option maxHeartbeats 4000000 in
set_option maxRecDepth 100000 in
theorem mX10_land (l : Launch) (D : va_G) (K : Nat → ClassId) (q : Nat → Nat) (sz : Nat) (a1 : Int32) (a2 : Int32) (bits : Nat → Int64) (stops : Nat → Int32) (num : Int32) (unit : Int32) (strips : Int32) (caps : Int32) (draw : Int32) (oldest : Int32) (known : Int32) (ring : Nat → GS) (im : GS) (iold : Int32) (iknown : Int32) (iring : Nat → GS) (hasIm : Int32) (letters : Nat → Int32) (tbits : Nat → Int64) (tlen : Int32) (tat : Int32) (fig : Int32) (shI : Nat → Nat → Int64) (shH : Nat → Int32) (shL : Nat → Int32) (shS : Nat → Int32) (seaOf : Nat → Int32) (queue : Nat → Int32) (snum : Int32) (cost : Nat → Int32) (heap : Nat → Int64) (wait : Int32) (off : Int32) (les : Int32) (gre : Int32) (abv : Int64) (blw : Int64) (needed : Int32) (ocut : Int32) (opole : Int32)  {post : Int32 → (Nat → Int64) → Int32 → Int32 → (Nat → GS) → Prop} (hw : wX10_land a1 a2 bits stops num unit strips caps draw oldest known ring post) : Met l yX10_land wsX10_land rmX10_land (va_Pc [.ref (q 0), .int a1, .int a2] (cP D K (fl (lX K q bits stops num unit strips caps draw oldest known ring im iold iknown iring hasIm letters tbits tlen tat fig shI shH shL shS seaOf queue snum cost heap wait off les gre abv blw needed ocut opole)) sz)) (va_Qi (fun (r : Int32) (u : (Nat → Int64) × Int32 × Int32 × (Nat → GS)) => post r u.1 u.2.1 u.2.2.1 u.2.2.2) (fun u t => cQ D K (fl (lX K q u.1 stops num unit strips caps draw u.2.1 u.2.2.1 u.2.2.2 im iold iknown iring hasIm letters tbits tlen tat fig shI shH shL shS seaOf queue snum cost heap wait off les gre abv blw needed ocut opole)) (va_A (fl (lX K q bits stops num unit strips caps draw oldest known ring im iold iknown iring hasIm letters tbits tlen tat fig shI shH shL shS seaOf queue snum cost heap wait off les gre abv blw needed ocut opole)) sz) t) (va_A (fl (lX K q bits stops num unit strips caps draw oldest known ring im iold iknown iring hasIm letters tbits tlen tat fig shI shH shL shS seaOf queue snum cost heap wait off les gre abv blw needed ocut opole)) sz)) 0 0 (va_A (fl (lX K q bits stops num unit strips caps draw oldest known ring im iold iknown iring hasIm letters tbits tlen tat fig shI shH shL shS seaOf queue snum cost heap wait off les gre abv blw needed ocut opole)) sz) := by
  refine x_entry (cc := cX10_land) (maxL := 3) (ret := (some .int)) (QA := fun A => va_Qi (fun (r : Int32) (u : (Nat → Int64) × Int32 × Int32 × (Nat → GS)) => post r u.1 u.2.1 u.2.2.1 u.2.2.2) (fun u t => cQ D K (fl (lX K q u.1 stops num unit strips caps draw u.2.1 u.2.2.1 u.2.2.2 im iold iknown iring hasIm letters tbits tlen tat fig shI shH shL shS seaOf queue snum cost heap wait off les gre abv blw needed ocut opole)) A t) A) (plainFor_of_name (by decide)) rfl (Nat.le_of_ble_eq_true rfl) ?_
  intro p e s m args below meth c A ls H Q hQ hC hlk hr hnm hI hl
  obtain ⟨hx, hb, hml, hown, hts, hK, hA, hZ⟩ := id hC
  obtain ⟨locs, hlocs⟩ : ∃ y : List Loc, y = [] := ⟨_, rfl⟩
  rw [← hlocs] at hI ⊢
  clear hlocs
  replace hl : lv_has ls 3 [(0, .ref (q 0)), (1, .int a1), (2, .int a2)] := hl
  replace hw : wX1_isNumber a1 (fun (r1 : Int32) => ((r1 = 0 → post (-1 : Int32) bits oldest known ring) ∧ (¬ r1 = 0 → wX10_isIn a2 (0 : Int32) (1 : Int32) (fun (r3 : Int32) => ((r3 = 0 → post (-1 : Int32) bits oldest known ring) ∧ (¬ r3 = 0 → wX0_isLand a1 bits (fun (r5 : Int32) => ∃ J36 : Int32 → Prop, (∀ (t_36 : Int32), J36 t_36 → ((r5 = t_36 → post (-2 : Int32) bits oldest known ring) ∧ (¬ r5 = t_36 → wX4_keep oldest known ring bits stops num unit strips caps draw (fun (oldest_c7 : Int32) (known_c8 : Int32) (ring_c9 : Nat → GS) => wX0_turnOver a1 bits (fun (bits_c10 : Nat → Int64) => wX0_landNumber bits_c10 (fun (r11 : Int32) => post r11 bits_c10 oldest_c7 known_c8 ring_c9)))))) ∧ ((a2 = (1 : Int32) → J36 (1 : Int32)) ∧ (¬ a2 = (1 : Int32) → J36 (0 : Int32)))))))))) := hw
  refine lv_iload_n hx hb dX10_land_0 rfl (lv_at hl 1 rfl) ?_
  refine x_callSi (rest := []) hC hI [] (mX1_isNumber l D K  _ a1 hw) (va_cwS 1 hts gX10_land_X1_isNumber rfl rfl rfl (by decide +kernel) ⟨(Nat.le_of_ble_eq_true rfl), (Nat.le_of_ble_eq_true rfl)⟩) (by decide) rfl (fun _ => rfl) rfl hl.1 rfl (Nat.le_of_ble_eq_true rfl) dX10_land_1 ⟨(Nat.le_of_ble_eq_true rfl), (Nat.le_of_ble_eq_true rfl)⟩ (fun r1 u H locs hw hI => ?_)
  try dsimp only at hw
  have hI : wI s D A (fl (lX K q bits stops num unit strips caps draw oldest known ring im iold iknown iring hasIm letters tbits tlen tat fig shI shH shL shS seaOf queue snum cost heap wait off les gre abv blw needed ocut opole)) H locs := hI
  refine lv_if_eq (tgt := 16) hx hb dX10_land_4 (by decide) (fun c2 => ?_) (fun c2 => ?_)
  · replace hw := hw.1 c2
    refine lv_iconst (v := (-1 : Int32)) hx hb dX10_land_16 (by decide) ?_
    subst hQ
    exact x_iret (u := (bits, oldest, known, ring)) hC hI hr hlk hw rfl dX10_land_17
  · replace hw := hw.2 c2
    refine lv_iload_n hx hb dX10_land_7 rfl (lv_at hl 2 rfl) ?_
    refine lv_iconst (v := (0 : Int32)) hx hb dX10_land_8 (by decide) ?_
    refine lv_iconst (v := (1 : Int32)) hx hb dX10_land_9 (by decide) ?_
    refine x_callSi (rest := []) hC hI [] (mX10_isIn l D K  _ a2 (0 : Int32) (1 : Int32) hw) (va_cwS 3 hts gX10_land_X10_isIn rfl rfl rfl (by decide +kernel) ⟨(Nat.le_of_ble_eq_true rfl), (Nat.le_of_ble_eq_true rfl)⟩) (by decide) rfl (fun _ => rfl) rfl hl.1 rfl (Nat.le_of_ble_eq_true rfl) dX10_land_10 ⟨(Nat.le_of_ble_eq_true rfl), (Nat.le_of_ble_eq_true rfl)⟩ (fun r3 u H locs hw hI => ?_)
    try dsimp only at hw
    have hI : wI s D A (fl (lX K q bits stops num unit strips caps draw oldest known ring im iold iknown iring hasIm letters tbits tlen tat fig shI shH shL shS seaOf queue snum cost heap wait off les gre abv blw needed ocut opole)) H locs := hI
    refine lv_if_ne (tgt := 18) hx hb dX10_land_13 (by decide) (fun c4 => ?_) (fun c4 => ?_)
    · replace hw := hw.2 c4
      refine lv_aload_n hx hb dX10_land_18 rfl (lv_at hl 0 rfl) ?_
      refine x_get (v := .ref (q 1)) hC hI kX10_land_cX10 0 rfl rfl 0 (by decide) kX10_land_0 rfl rfl dX10_land_19 ?_
      refine lv_iload_n hx hb dX10_land_22 rfl (lv_at hl 1 rfl) ?_
      refine x_callVi (rest := []) hC hI [1] (mX0_isLand l D K (fun i => q (1 + i)) _ a1 bits stops num unit strips caps draw hw) (cwV 1 hts gX10_land_X0_isLand rfl rfl rfl (by decide +kernel) ⟨(Nat.le_of_ble_eq_true rfl), (Nat.le_of_ble_eq_true rfl)⟩) (by decide) rfl (fun _ => rfl) 1 0 rfl rfl rfl rfl hl.1 rfl (Nat.le_of_ble_eq_true rfl) dX10_land_23 ⟨(Nat.le_of_ble_eq_true rfl), (Nat.le_of_ble_eq_true rfl)⟩ (fun r5 u H locs hw hI => ?_)
      try dsimp only at hw
      have hI : wI s D A (fl (lX K q bits stops num unit strips caps draw oldest known ring im iold iknown iring hasIm letters tbits tlen tat fig shI shH shL shS seaOf queue snum cost heap wait off les gre abv blw needed ocut opole)) H locs := hI
      refine lv_iload_n hx hb dX10_land_26 rfl (lv_at hl 2 rfl) ?_
      refine lv_iconst (v := (1 : Int32)) hx hb dX10_land_27 (by decide) ?_
      obtain ⟨J36, hJ36, hw⟩ := hw
      have jn36 : ∀ (t_36 : Int32) (ls : Array Slot) (H : Heap) (locs : List Loc), J36 t_36 → wI s D A (fl (lX K q bits stops num unit strips caps draw oldest known ring im iold iknown iring hasIm letters tbits tlen tat fig shI shH shL shS seaOf queue snum cost heap wait off les gre abv blw needed ocut opole)) H locs → lv_has ls 3 [(0, .ref (q 0)), (1, .int a1)] → W p l e rmX10_land s m args below meth c H locs 0 0 Q (F0 m 36 ls [.int t_36, .int r5]) := by
        intro t_36 ls H locs hw hI hl
        replace hw := hJ36 t_36 hw
        refine lv_icmp_ne (tgt := 42) hx hb dX10_land_36 (by decide) (fun c6 => ?_) (fun c6 => ?_)
        · replace hw := hw.2 c6
          refine lv_aload_n hx hb dX10_land_42 rfl (lv_at hl 0 rfl) ?_
          refine x_get (v := .ref (q 4)) hC hI kX10_land_cX10 0 rfl rfl 1 (by decide) kX10_land_2 rfl rfl dX10_land_43 ?_
          refine lv_aload_n hx hb dX10_land_46 rfl (lv_at hl 0 rfl) ?_
          refine x_get (v := .ref (q 1)) hC hI kX10_land_cX10 0 rfl rfl 0 (by decide) kX10_land_0 rfl rfl dX10_land_47 ?_
          refine x_callVv (rest := []) hC hI [2, 3, 4, 5, 6, 7, 8, 1] (mX4_keep l D K (fun i => q (4 + i)) (fun i => q (1 + i)) _ oldest known ring bits stops num unit strips caps draw hw) (cwV 1 hts gX10_land_X4_keep rfl rfl rfl (by decide +kernel) ⟨(Nat.le_of_ble_eq_true rfl), (Nat.le_of_ble_eq_true rfl)⟩) (by decide) rfl (fun _ => rfl) 4 2 rfl rfl rfl rfl hl.1 rfl (Nat.le_of_ble_eq_true rfl) dX10_land_50 ⟨(Nat.le_of_ble_eq_true rfl), (Nat.le_of_ble_eq_true rfl)⟩ (fun u H locs hw hI => ?_)
          obtain ⟨oldest_c7, known_c8, ring_c9⟩ := u
          try dsimp only at hw
          have hI : wI s D A (fl (lX K q bits stops num unit strips caps draw oldest_c7 known_c8 ring_c9 im iold iknown iring hasIm letters tbits tlen tat fig shI shH shL shS seaOf queue snum cost heap wait off les gre abv blw needed ocut opole)) H locs := hI
          refine lv_aload_n hx hb dX10_land_53 rfl (lv_at hl 0 rfl) ?_
          refine x_get (v := .ref (q 1)) hC hI kX10_land_cX10 0 rfl rfl 0 (by decide) kX10_land_0 rfl rfl dX10_land_54 ?_
          refine lv_iload_n hx hb dX10_land_57 rfl (lv_at hl 1 rfl) ?_
          refine x_callVv (rest := []) hC hI [1] (mX0_turnOver l D K (fun i => q (1 + i)) _ a1 bits stops num unit strips caps draw hw) (cwV 1 hts gX10_land_X0_turnOver rfl rfl rfl (by decide +kernel) ⟨(Nat.le_of_ble_eq_true rfl), (Nat.le_of_ble_eq_true rfl)⟩) (by decide) rfl (fun _ => rfl) 1 0 rfl rfl rfl rfl hl.1 rfl (Nat.le_of_ble_eq_true rfl) dX10_land_58 ⟨(Nat.le_of_ble_eq_true rfl), (Nat.le_of_ble_eq_true rfl)⟩ (fun bits_c10 H locs hw hI => ?_)
          have hI : wI s D A (fl (lX K q bits_c10 stops num unit strips caps draw oldest_c7 known_c8 ring_c9 im iold iknown iring hasIm letters tbits tlen tat fig shI shH shL shS seaOf queue snum cost heap wait off les gre abv blw needed ocut opole)) H locs := hI
          refine lv_aload_n hx hb dX10_land_61 rfl (lv_at hl 0 rfl) ?_
          refine x_get (v := .ref (q 1)) hC hI kX10_land_cX10 0 rfl rfl 0 (by decide) kX10_land_0 rfl rfl dX10_land_62 ?_
          refine x_callVi (rest := []) hC hI [1] (mX0_landNumber l D K (fun i => q (1 + i)) _ bits_c10 stops num unit strips caps draw hw) (cwV 0 hts gX10_land_X0_landNumber rfl rfl rfl (by decide +kernel) ⟨(Nat.le_of_ble_eq_true rfl), (Nat.le_of_ble_eq_true rfl)⟩) (by decide) rfl (fun _ => rfl) 1 0 rfl rfl rfl rfl hl.1 rfl (Nat.le_of_ble_eq_true rfl) dX10_land_65 ⟨(Nat.le_of_ble_eq_true rfl), (Nat.le_of_ble_eq_true rfl)⟩ (fun r11 u H locs hw hI => ?_)
          try dsimp only at hw
          have hI : wI s D A (fl (lX K q bits_c10 stops num unit strips caps draw oldest_c7 known_c8 ring_c9 im iold iknown iring hasIm letters tbits tlen tat fig shI shH shL shS seaOf queue snum cost heap wait off les gre abv blw needed ocut opole)) H locs := hI
          subst hQ
          exact x_iret (u := (bits_c10, oldest_c7, known_c8, ring_c9)) hC hI hr hlk hw rfl dX10_land_68
        · replace hw := hw.1 c6
          refine lv_bipush (v := (-2 : Int32)) hx hb dX10_land_39 (by decide) ?_
          subst hQ
          exact x_iret (u := (bits, oldest, known, ring)) hC hI hr hlk hw rfl dX10_land_41
      refine lv_icmp_ne (tgt := 35) hx hb dX10_land_28 (by decide) (fun c12 => ?_) (fun c12 => ?_)
      · replace hw := hw.2 c12
        refine lv_iconst (v := (0 : Int32)) hx hb dX10_land_35 (by decide) ?_
        exact jn36 (0 : Int32) ls H locs hw hI (lv_sub hl [0, 1] rfl)
      · replace hw := hw.1 c12
        refine lv_iconst (v := (1 : Int32)) hx hb dX10_land_31 (by decide) ?_
        refine lv_goto (tgt := 36) hx hb dX10_land_32 (by decide) ?_
        exact jn36 (1 : Int32) ls H locs hw hI (lv_sub hl [0, 1] rfl)
    · replace hw := hw.1 c4
      refine lv_iconst (v := (-1 : Int32)) hx hb dX10_land_16 (by decide) ?_
      subst hQ
      exact x_iret (u := (bits, oldest, known, ring)) hC hI hr hlk hw rfl dX10_land_17
