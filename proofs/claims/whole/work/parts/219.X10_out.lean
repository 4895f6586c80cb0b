def wX10_out (a1 : Int32) (bits : Nat → Int64) (stops : Nat → Int32) (num : Int32) (unit : Int32) (strips : Int32) (caps : Int32) (draw : Int32) (oldest : Int32) (known : Int32) (ring : Nat → GS) (post : Int32 → (Nat → Int32) → Int32 → Int32 → Int32 → (Nat → GS) → Prop) : Prop := wX1_isNumber a1 (fun (r1 : Int32) => ((r1 = 0 → post (-1 : Int32) stops num oldest known ring) ∧ (¬ r1 = 0 → wX0_stopsAt a1 stops num (fun (r3 : Int32) => ((r3 = 0 → post (-4 : Int32) stops num oldest known ring) ∧ (¬ r3 = 0 → wX4_keep oldest known ring bits stops num unit strips caps draw (fun (oldest_c5 : Int32) (known_c6 : Int32) (ring_c7 : Nat → GS) => wX0_withoutStop a1 stops num (fun (r10 : Int32) (stops_c8 : Nat → Int32) (num_c9 : Int32) => post r10 stops_c8 num_c9 oldest_c5 known_c6 ring_c7))))))))
def rmX10_out : Room := { frames := 3, cells := 0, slots := 0, locals := 82 }
theorem kX10_out_0 : Cond.fieldLink RX10 10 "GoreGlobe" "now" "LGoreGlobe$Globe;" ∈ wsX10_out := List.mem_cons_of_mem _ (List.mem_append_left _ (List.mem_append_left _ (List.mem_append_left _ (List.mem_append_left _ (List.mem_of_getElem? (i := 0) rfl)))))
theorem kX10_out_cX10 : ∀ w ∈ wsX100, w ∈ wsX10_out := fun _ h => List.mem_cons_of_mem _ (List.mem_append_left _ (List.mem_append_left _ (List.mem_append_right _ h)))
theorem kX10_out_2 : Cond.fieldLink RX10 19 "GoreGlobe" "past" "LGoreGlobe$Past;" ∈ wsX10_out := List.mem_cons_of_mem _ (List.mem_append_left _ (List.mem_append_left _ (List.mem_append_left _ (List.mem_append_left _ (List.mem_of_getElem? (i := 1) rfl)))))
set_option maxHeartbeats 4000000 in
set_option maxRecDepth 100000 in
theorem mX10_out (l : Launch) (D : va_G) (K : Nat → ClassId) (q : Nat → Nat) (sz : Nat) (a1 : Int32) (bits : Nat → Int64) (stops : Nat → Int32) (num : Int32) (unit : Int32) (strips : Int32) (caps : Int32) (draw : Int32) (oldest : Int32) (known : Int32) (ring : Nat → GS) (im : GS) (iold : Int32) (iknown : Int32) (iring : Nat → GS) (hasIm : Int32) (letters : Nat → Int32) (tbits : Nat → Int64) (tlen : Int32) (tat : Int32) (fig : Int32) (shI : Nat → Nat → Int64) (shH : Nat → Int32) (shL : Nat → Int32) (shS : Nat → Int32) (seaOf : Nat → Int32) (queue : Nat → Int32) (snum : Int32) (cost : Nat → Int32) (heap : Nat → Int64) (wait : Int32) (off : Int32) (les : Int32) (gre : Int32) (abv : Int64) (blw : Int64) (needed : Int32) (ocut : Int32) (opole : Int32)  {post : Int32 → (Nat → Int32) → Int32 → Int32 → Int32 → (Nat → GS) → Prop} (hw : wX10_out a1 bits stops num unit strips caps draw oldest known ring post) : Met l yX10_out wsX10_out rmX10_out (va_Pc [.ref (q 0), .int a1] (cP D K (fl (lX K q bits stops num unit strips caps draw oldest known ring im iold iknown iring hasIm letters tbits tlen tat fig shI shH shL shS seaOf queue snum cost heap wait off les gre abv blw needed ocut opole)) sz)) (va_Qi (fun (r : Int32) (u : (Nat → Int32) × Int32 × Int32 × Int32 × (Nat → GS)) => post r u.1 u.2.1 u.2.2.1 u.2.2.2.1 u.2.2.2.2) (fun u t => cQ D K (fl (lX K q bits u.1 u.2.1 unit strips caps draw u.2.2.1 u.2.2.2.1 u.2.2.2.2 im iold iknown iring hasIm letters tbits tlen tat fig shI shH shL shS seaOf queue snum cost heap wait off les gre abv blw needed ocut opole)) (va_A (fl (lX K q bits stops num unit strips caps draw oldest known ring im iold iknown iring hasIm letters tbits tlen tat fig shI shH shL shS seaOf queue snum cost heap wait off les gre abv blw needed ocut opole)) sz) t) (va_A (fl (lX K q bits stops num unit strips caps draw oldest known ring im iold iknown iring hasIm letters tbits tlen tat fig shI shH shL shS seaOf queue snum cost heap wait off les gre abv blw needed ocut opole)) sz)) 0 0 (va_A (fl (lX K q bits stops num unit strips caps draw oldest known ring im iold iknown iring hasIm letters tbits tlen tat fig shI shH shL shS seaOf queue snum cost heap wait off les gre abv blw needed ocut opole)) sz) := by
  refine x_entry (cc := cX10_out) (maxL := 2) (ret := (some .int)) (QA := fun A => va_Qi (fun (r : Int32) (u : (Nat → Int32) × Int32 × Int32 × Int32 × (Nat → GS)) => post r u.1 u.2.1 u.2.2.1 u.2.2.2.1 u.2.2.2.2) (fun u t => cQ D K (fl (lX K q bits u.1 u.2.1 unit strips caps draw u.2.2.1 u.2.2.2.1 u.2.2.2.2 im iold iknown iring hasIm letters tbits tlen tat fig shI shH shL shS seaOf queue snum cost heap wait off les gre abv blw needed ocut opole)) A t) A) (plainFor_of_name (by decide)) rfl (Nat.le_of_ble_eq_true rfl) ?_
  intro p e s m args below meth c A ls H Q hQ hC hlk hr hnm hI hl
  obtain ⟨hx, hb, hml, hown, hts, hK, hA, hZ⟩ := id hC
  obtain ⟨locs, hlocs⟩ : ∃ y : List Loc, y = [] := ⟨_, rfl⟩
  rw [← hlocs] at hI ⊢
  clear hlocs
  replace hl : lv_has ls 2 [(0, .ref (q 0)), (1, .int a1)] := hl
  replace hw : wX1_isNumber a1 (fun (r1 : Int32) => ((r1 = 0 → post (-1 : Int32) stops num oldest known ring) ∧ (¬ r1 = 0 → wX0_stopsAt a1 stops num (fun (r3 : Int32) => ((r3 = 0 → post (-4 : Int32) stops num oldest known ring) ∧ (¬ r3 = 0 → wX4_keep oldest known ring bits stops num unit strips caps draw (fun (oldest_c5 : Int32) (known_c6 : Int32) (ring_c7 : Nat → GS) => wX0_withoutStop a1 stops num (fun (r10 : Int32) (stops_c8 : Nat → Int32) (num_c9 : Int32) => post r10 stops_c8 num_c9 oldest_c5 known_c6 ring_c7)))))))) := hw
  refine lv_iload_n hx hb dX10_out_0 rfl (lv_at hl 1 rfl) ?_
  refine x_callSi (rest := []) hC hI [] (mX1_isNumber l D K  _ a1 hw) (va_cwS 1 hts gX10_out_X1_isNumber rfl rfl rfl (by decide +kernel) ⟨(Nat.le_of_ble_eq_true rfl), (Nat.le_of_ble_eq_true rfl)⟩) (by decide) rfl (fun _ => rfl) rfl hl.1 rfl (Nat.le_of_ble_eq_true rfl) dX10_out_1 ⟨(Nat.le_of_ble_eq_true rfl), (Nat.le_of_ble_eq_true rfl)⟩ (fun r1 u H locs hw hI => ?_)
  try dsimp only at hw
  have hI : wI s D A (fl (lX K q bits stops num unit strips caps draw oldest known ring im iold iknown iring hasIm letters tbits tlen tat fig shI shH shL shS seaOf queue snum cost heap wait off les gre abv blw needed ocut opole)) H locs := hI
  refine lv_if_ne (tgt := 9) hx hb dX10_out_4 (by decide) (fun c2 => ?_) (fun c2 => ?_)
  · replace hw := hw.2 c2
    refine lv_aload_n hx hb dX10_out_9 rfl (lv_at hl 0 rfl) ?_
    refine x_get (v := .ref (q 1)) hC hI kX10_out_cX10 0 rfl rfl 0 (by decide) kX10_out_0 rfl rfl dX10_out_10 ?_
    refine lv_iload_n hx hb dX10_out_13 rfl (lv_at hl 1 rfl) ?_
    refine x_callVi (rest := []) hC hI [1] (mX0_stopsAt l D K (fun i => q (1 + i)) _ a1 bits stops num unit strips caps draw hw) (cwV 1 hts gX10_out_X0_stopsAt rfl rfl rfl (by decide +kernel) ⟨(Nat.le_of_ble_eq_true rfl), (Nat.le_of_ble_eq_true rfl)⟩) (by decide) rfl (fun _ => rfl) 1 0 rfl rfl rfl rfl hl.1 rfl (Nat.le_of_ble_eq_true rfl) dX10_out_14 ⟨(Nat.le_of_ble_eq_true rfl), (Nat.le_of_ble_eq_true rfl)⟩ (fun r3 u H locs hw hI => ?_)
    try dsimp only at hw
    have hI : wI s D A (fl (lX K q bits stops num unit strips caps draw oldest known ring im iold iknown iring hasIm letters tbits tlen tat fig shI shH shL shS seaOf queue snum cost heap wait off les gre abv blw needed ocut opole)) H locs := hI
    refine lv_if_ne (tgt := 23) hx hb dX10_out_17 (by decide) (fun c4 => ?_) (fun c4 => ?_)
    · replace hw := hw.2 c4
      refine lv_aload_n hx hb dX10_out_23 rfl (lv_at hl 0 rfl) ?_
      refine x_get (v := .ref (q 4)) hC hI kX10_out_cX10 0 rfl rfl 1 (by decide) kX10_out_2 rfl rfl dX10_out_24 ?_
      refine lv_aload_n hx hb dX10_out_27 rfl (lv_at hl 0 rfl) ?_
      refine x_get (v := .ref (q 1)) hC hI kX10_out_cX10 0 rfl rfl 0 (by decide) kX10_out_0 rfl rfl dX10_out_28 ?_
      refine x_callVv (rest := []) hC hI [2, 3, 4, 5, 6, 7, 8, 1] (mX4_keep l D K (fun i => q (4 + i)) (fun i => q (1 + i)) _ oldest known ring bits stops num unit strips caps draw hw) (cwV 1 hts gX10_out_X4_keep rfl rfl rfl (by decide +kernel) ⟨(Nat.le_of_ble_eq_true rfl), (Nat.le_of_ble_eq_true rfl)⟩) (by decide) rfl (fun _ => rfl) 4 2 rfl rfl rfl rfl hl.1 rfl (Nat.le_of_ble_eq_true rfl) dX10_out_31 ⟨(Nat.le_of_ble_eq_true rfl), (Nat.le_of_ble_eq_true rfl)⟩ (fun u H locs hw hI => ?_)
      obtain ⟨oldest_c5, known_c6, ring_c7⟩ := u
      try dsimp only at hw
      have hI : wI s D A (fl (lX K q bits stops num unit strips caps draw oldest_c5 known_c6 ring_c7 im iold iknown iring hasIm letters tbits tlen tat fig shI shH shL shS seaOf queue snum cost heap wait off les gre abv blw needed ocut opole)) H locs := hI
      refine lv_aload_n hx hb dX10_out_34 rfl (lv_at hl 0 rfl) ?_
      refine x_get (v := .ref (q 1)) hC hI kX10_out_cX10 0 rfl rfl 0 (by decide) kX10_out_0 rfl rfl dX10_out_35 ?_
      refine lv_iload_n hx hb dX10_out_38 rfl (lv_at hl 1 rfl) ?_
      refine x_callVi (rest := []) hC hI [1] (mX0_withoutStop l D K (fun i => q (1 + i)) _ a1 bits stops num unit strips caps draw hw) (cwV 1 hts gX10_out_X0_withoutStop rfl rfl rfl (by decide +kernel) ⟨(Nat.le_of_ble_eq_true rfl), (Nat.le_of_ble_eq_true rfl)⟩) (by decide) rfl (fun _ => rfl) 1 0 rfl rfl rfl rfl hl.1 rfl (Nat.le_of_ble_eq_true rfl) dX10_out_39 ⟨(Nat.le_of_ble_eq_true rfl), (Nat.le_of_ble_eq_true rfl)⟩ (fun r10 u H locs hw hI => ?_)
      obtain ⟨stops_c8, num_c9⟩ := u
      try dsimp only at hw
      have hI : wI s D A (fl (lX K q bits stops_c8 num_c9 unit strips caps draw oldest_c5 known_c6 ring_c7 im iold iknown iring hasIm letters tbits tlen tat fig shI shH shL shS seaOf queue snum cost heap wait off les gre abv blw needed ocut opole)) H locs := hI
      subst hQ
      exact x_iret (u := (stops_c8, num_c9, oldest_c5, known_c6, ring_c7)) hC hI hr hlk hw rfl dX10_out_42
    · replace hw := hw.1 c4
      refine lv_bipush (v := (-4 : Int32)) hx hb dX10_out_20 (by decide) ?_
      subst hQ
      exact x_iret (u := (stops, num, oldest, known, ring)) hC hI hr hlk hw rfl dX10_out_22
  · replace hw := hw.1 c2
    refine lv_iconst (v := (-1 : Int32)) hx hb dX10_out_7 (by decide) ?_
    subst hQ
    exact x_iret (u := (stops, num, oldest, known, ring)) hC hI hr hlk hw rfl dX10_out_8
