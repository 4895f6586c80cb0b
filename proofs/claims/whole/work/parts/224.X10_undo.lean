def wX10_undo  (bits : Nat → Int64) (stops : Nat → Int32) (num : Int32) (unit : Int32) (strips : Int32) (caps : Int32) (draw : Int32) (oldest : Int32) (known : Int32) (ring : Nat → GS) (post : Int32 → (Nat → Int64) → (Nat → Int32) → Int32 → Int32 → Int32 → Int32 → Int32 → Int32 → Prop) : Prop := ((known = 0 → post (-4 : Int32) bits stops num unit strips caps draw known) ∧ (¬ known = 0 → wX4_takeBack oldest known ring bits stops (fun (known_c2 : Int32) (bits_c3 : Nat → Int64) (stops_c4 : Nat → Int32) (num_c5 : Int32) (unit_c6 : Int32) (strips_c7 : Int32) (caps_c8 : Int32) (draw_c9 : Int32) => post known_c2 bits_c3 stops_c4 num_c5 unit_c6 strips_c7 caps_c8 draw_c9 known_c2)))
def rmX10_undo : Room := { frames := 3, cells := 0, slots := 0, locals := 82 }
theorem kX10_undo_0 : Cond.fieldLink RX10 19 "GoreGlobe" "past" "LGoreGlobe$Past;" ∈ wsX10_undo := List.mem_cons_of_mem _ (List.mem_append_left _ (List.mem_append_left _ (List.mem_append_left _ (List.mem_append_left _ (List.mem_of_getElem? (i := 0) rfl)))))
theorem kX10_undo_cX10 : ∀ w ∈ wsX100, w ∈ wsX10_undo := fun _ h => List.mem_cons_of_mem _ (List.mem_append_left _ (List.mem_append_left _ (List.mem_append_right _ h)))
theorem kX10_undo_2 : Cond.fieldLink RX10 235 "GoreGlobe$Past" "known" "I" ∈ wsX10_undo := List.mem_cons_of_mem _ (List.mem_append_left _ (List.mem_append_left _ (List.mem_append_left _ (List.mem_append_left _ (List.mem_of_getElem? (i := 1) rfl)))))
theorem kX10_undo_cX4 : ∀ w ∈ wsX40, w ∈ wsX10_undo := fun _ h => List.mem_cons_of_mem _ (List.mem_append_left _ (List.mem_append_right _ h))
theorem kX10_undo_4 : Cond.fieldLink RX10 10 "GoreGlobe" "now" "LGoreGlobe$Globe;" ∈ wsX10_undo := List.mem_cons_of_mem _ (List.mem_append_left _ (List.mem_append_left _ (List.mem_append_left _ (List.mem_append_left _ (List.mem_of_getElem? (i := 2) rfl)))))
set_option maxHeartbeats 4000000 in
set_option maxRecDepth 100000 in
theorem mX10_undo (l : Launch) (D : va_G) (K : Nat → ClassId) (q : Nat → Nat) (sz : Nat)  (bits : Nat → Int64) (stops : Nat → Int32) (num : Int32) (unit : Int32) (strips : Int32) (caps : Int32) (draw : Int32) (oldest : Int32) (known : Int32) (ring : Nat → GS) (im : GS) (iold : Int32) (iknown : Int32) (iring : Nat → GS) (hasIm : Int32) (letters : Nat → Int32) (tbits : Nat → Int64) (tlen : Int32) (tat : Int32) (fig : Int32) (shI : Nat → Nat → Int64) (shH : Nat → Int32) (shL : Nat → Int32) (shS : Nat → Int32) (seaOf : Nat → Int32) (queue : Nat → Int32) (snum : Int32) (cost : Nat → Int32) (heap : Nat → Int64) (wait : Int32) (off : Int32) (les : Int32) (gre : Int32) (abv : Int64) (blw : Int64) (needed : Int32) (ocut : Int32) (opole : Int32)  {post : Int32 → (Nat → Int64) → (Nat → Int32) → Int32 → Int32 → Int32 → Int32 → Int32 → Int32 → Prop} (hw : wX10_undo  bits stops num unit strips caps draw oldest known ring post) : Met l yX10_undo wsX10_undo rmX10_undo (va_Pc [.ref (q 0)] (cP D K (fl (lX K q bits stops num unit strips caps draw oldest known ring im iold iknown iring hasIm letters tbits tlen tat fig shI shH shL shS seaOf queue snum cost heap wait off les gre abv blw needed ocut opole)) sz)) (va_Qi (fun (r : Int32) (u : (Nat → Int64) × (Nat → Int32) × Int32 × Int32 × Int32 × Int32 × Int32 × Int32) => post r u.1 u.2.1 u.2.2.1 u.2.2.2.1 u.2.2.2.2.1 u.2.2.2.2.2.1 u.2.2.2.2.2.2.1 u.2.2.2.2.2.2.2) (fun u t => cQ D K (fl (lX K q u.1 u.2.1 u.2.2.1 u.2.2.2.1 u.2.2.2.2.1 u.2.2.2.2.2.1 u.2.2.2.2.2.2.1 oldest u.2.2.2.2.2.2.2 ring im iold iknown iring hasIm letters tbits tlen tat fig shI shH shL shS seaOf queue snum cost heap wait off les gre abv blw needed ocut opole)) (va_A (fl (lX K q bits stops num unit strips caps draw oldest known ring im iold iknown iring hasIm letters tbits tlen tat fig shI shH shL shS seaOf queue snum cost heap wait off les gre abv blw needed ocut opole)) sz) t) (va_A (fl (lX K q bits stops num unit strips caps draw oldest known ring im iold iknown iring hasIm letters tbits tlen tat fig shI shH shL shS seaOf queue snum cost heap wait off les gre abv blw needed ocut opole)) sz)) 0 0 (va_A (fl (lX K q bits stops num unit strips caps draw oldest known ring im iold iknown iring hasIm letters tbits tlen tat fig shI shH shL shS seaOf queue snum cost heap wait off les gre abv blw needed ocut opole)) sz) := by
  refine x_entry (cc := cX10_undo) (maxL := 1) (ret := (some .int)) (QA := fun A => va_Qi (fun (r : Int32) (u : (Nat → Int64) × (Nat → Int32) × Int32 × Int32 × Int32 × Int32 × Int32 × Int32) => post r u.1 u.2.1 u.2.2.1 u.2.2.2.1 u.2.2.2.2.1 u.2.2.2.2.2.1 u.2.2.2.2.2.2.1 u.2.2.2.2.2.2.2) (fun u t => cQ D K (fl (lX K q u.1 u.2.1 u.2.2.1 u.2.2.2.1 u.2.2.2.2.1 u.2.2.2.2.2.1 u.2.2.2.2.2.2.1 oldest u.2.2.2.2.2.2.2 ring im iold iknown iring hasIm letters tbits tlen tat fig shI shH shL shS seaOf queue snum cost heap wait off les gre abv blw needed ocut opole)) A t) A) (plainFor_of_name (by decide)) rfl (Nat.le_of_ble_eq_true rfl) ?_
  intro p e s m args below meth c A ls H Q hQ hC hlk hr hnm hI hl
  obtain ⟨hx, hb, hml, hown, hts, hK, hA, hZ⟩ := id hC
  obtain ⟨locs, hlocs⟩ : ∃ y : List Loc, y = [] := ⟨_, rfl⟩
  rw [← hlocs] at hI ⊢
  clear hlocs
  replace hl : lv_has ls 1 [(0, .ref (q 0))] := hl
  replace hw : ((known = 0 → post (-4 : Int32) bits stops num unit strips caps draw known) ∧ (¬ known = 0 → wX4_takeBack oldest known ring bits stops (fun (known_c2 : Int32) (bits_c3 : Nat → Int64) (stops_c4 : Nat → Int32) (num_c5 : Int32) (unit_c6 : Int32) (strips_c7 : Int32) (caps_c8 : Int32) (draw_c9 : Int32) => post known_c2 bits_c3 stops_c4 num_c5 unit_c6 strips_c7 caps_c8 draw_c9 known_c2))) := hw
  refine lv_aload_n hx hb dX10_undo_0 rfl (lv_at hl 0 rfl) ?_
  refine x_get (v := .ref (q 4)) hC hI kX10_undo_cX10 0 rfl rfl 1 (by decide) kX10_undo_0 rfl rfl dX10_undo_1 ?_
  refine x_get (v := .int known) hC hI kX10_undo_cX4 4 rfl rfl 2 (by decide) kX10_undo_2 rfl rfl dX10_undo_4 ?_
  refine lv_if_ne (tgt := 13) hx hb dX10_undo_7 (by decide) (fun c1 => ?_) (fun c1 => ?_)
  · replace hw := hw.2 c1
    refine lv_aload_n hx hb dX10_undo_13 rfl (lv_at hl 0 rfl) ?_
    refine x_get (v := .ref (q 4)) hC hI kX10_undo_cX10 0 rfl rfl 1 (by decide) kX10_undo_0 rfl rfl dX10_undo_14 ?_
    refine lv_aload_n hx hb dX10_undo_17 rfl (lv_at hl 0 rfl) ?_
    refine x_get (v := .ref (q 1)) hC hI kX10_undo_cX10 0 rfl rfl 0 (by decide) kX10_undo_4 rfl rfl dX10_undo_18 ?_
    refine x_callVv (rest := []) hC hI [2, 3, 4, 5, 6, 7, 8, 1] (mX4_takeBack l D K (fun i => q (4 + i)) (fun i => q (1 + i)) _ oldest known ring bits stops num unit strips caps draw hw) (cwV 1 hts gX10_undo_X4_takeBack rfl rfl rfl (by decide +kernel) ⟨(Nat.le_of_ble_eq_true rfl), (Nat.le_of_ble_eq_true rfl)⟩) (by decide) rfl (fun _ => rfl) 4 2 rfl rfl rfl rfl hl.1 rfl (Nat.le_of_ble_eq_true rfl) dX10_undo_21 ⟨(Nat.le_of_ble_eq_true rfl), (Nat.le_of_ble_eq_true rfl)⟩ (fun u H locs hw hI => ?_)
    obtain ⟨known_c2, bits_c3, stops_c4, num_c5, unit_c6, strips_c7, caps_c8, draw_c9⟩ := u
    try dsimp only at hw
    have hI : wI s D A (fl (lX K q bits_c3 stops_c4 num_c5 unit_c6 strips_c7 caps_c8 draw_c9 oldest known_c2 ring im iold iknown iring hasIm letters tbits tlen tat fig shI shH shL shS seaOf queue snum cost heap wait off les gre abv blw needed ocut opole)) H locs := hI
    refine lv_aload_n hx hb dX10_undo_24 rfl (lv_at hl 0 rfl) ?_
    refine x_get (v := .ref (q 4)) hC hI kX10_undo_cX10 0 rfl rfl 1 (by decide) kX10_undo_0 rfl rfl dX10_undo_25 ?_
    refine x_get (v := .int known_c2) hC hI kX10_undo_cX4 4 rfl rfl 2 (by decide) kX10_undo_2 rfl rfl dX10_undo_28 ?_
    subst hQ
    exact x_iret (u := (bits_c3, stops_c4, num_c5, unit_c6, strips_c7, caps_c8, draw_c9, known_c2)) hC hI hr hlk hw rfl dX10_undo_31
  · replace hw := hw.1 c1
    refine lv_bipush (v := (-4 : Int32)) hx hb dX10_undo_10 (by decide) ?_
    subst hQ
    exact x_iret (u := (bits, stops, num, unit, strips, caps, draw, known)) hC hI hr hlk hw rfl dX10_undo_12
