def wX10_read  (bits : Nat → Int64) (stops : Nat → Int32) (num : Int32) (unit : Int32) (strips : Int32) (caps : Int32) (draw : Int32) (oldest : Int32) (known : Int32) (ring : Nat → GS) (letters : Nat → Int32) (tbits : Nat → Int64) (tlen : Int32) (fig : Int32) (post : Int32 → (Nat → Int64) → Int32 → Int32 → (Nat → GS) → (Nat → Int64) → Int32 → Int32 → Int32 → Prop) : Prop := wX7_understand letters tbits tlen fig (fun (r4 : Int32) (tbits_c1 : Nat → Int64) (tat_c2 : Int32) (fig_c3 : Int32) => ((r4 = (-1 : Int32) → wX4_keep oldest known ring bits stops num unit strips caps draw (fun (oldest_c6 : Int32) (known_c7 : Int32) (ring_c8 : Nat → GS) => wX0_landNumber (va_cpy tbits_c1 bits 0 0 5) (fun (r9 : Int32) => post r9 (va_cpy tbits_c1 bits 0 0 5) oldest_c6 known_c7 ring_c8 tbits_c1 (0 : Int32) tat_c2 fig_c3))) ∧ (¬ r4 = (-1 : Int32) → post ((-20 : Int32) - r4) bits oldest known ring tbits_c1 (0 : Int32) tat_c2 fig_c3)))
def rmX10_read : Room := { frames := 5, cells := 0, slots := 0, locals := 114 }
theorem kX10_read_0 : Cond.fieldLink RX10 32 "GoreGlobe" "tape" "LGoreGlobe$Tape;" ∈ wsX10_read := List.mem_cons_of_mem _ (List.mem_append_left _ (List.mem_append_left _ (List.mem_append_left _ (List.mem_append_left _ (List.mem_append_left _ (List.mem_of_getElem? (i := 0) rfl))))))
theorem kX10_read_cX10 : ∀ w ∈ wsX100, w ∈ wsX10_read := fun _ h => List.mem_cons_of_mem _ (List.mem_append_left _ (List.mem_append_left _ (List.mem_append_left _ (List.mem_append_right _ h))))
theorem kX10_read_2 : Cond.fieldLink RX10 257 "GoreGlobe$Tape" "length" "I" ∈ wsX10_read := List.mem_cons_of_mem _ (List.mem_append_left _ (List.mem_append_left _ (List.mem_append_left _ (List.mem_append_left _ (List.mem_append_left _ (List.mem_of_getElem? (i := 1) rfl))))))
theorem kX10_read_cX7 : ∀ w ∈ wsX70, w ∈ wsX10_read := fun _ h => List.mem_cons_of_mem _ (List.mem_append_left _ (List.mem_append_left _ (List.mem_append_right _ h)))
theorem kX10_read_4 : Cond.fieldLink RX10 19 "GoreGlobe" "past" "LGoreGlobe$Past;" ∈ wsX10_read := List.mem_cons_of_mem _ (List.mem_append_left _ (List.mem_append_left _ (List.mem_append_left _ (List.mem_append_left _ (List.mem_append_left _ (List.mem_of_getElem? (i := 2) rfl))))))
theorem kX10_read_5 : Cond.fieldLink RX10 10 "GoreGlobe" "now" "LGoreGlobe$Globe;" ∈ wsX10_read := List.mem_cons_of_mem _ (List.mem_append_left _ (List.mem_append_left _ (List.mem_append_left _ (List.mem_append_left _ (List.mem_append_left _ (List.mem_of_getElem? (i := 3) rfl))))))
theorem kX10_read_6 : Cond.fieldLink RX10 266 "GoreGlobe$Tape" "landBits" "[J" ∈ wsX10_read := List.mem_cons_of_mem _ (List.mem_append_left _ (List.mem_append_left _ (List.mem_append_left _ (List.mem_append_left _ (List.mem_append_left _ (List.mem_of_getElem? (i := 4) rfl))))))
theorem kX10_read_7 : Cond.fieldLink RX10 270 "GoreGlobe$Globe" "landBits" "[J" ∈ wsX10_read := List.mem_cons_of_mem _ (List.mem_append_left _ (List.mem_append_left _ (List.mem_append_left _ (List.mem_append_left _ (List.mem_append_left _ (List.mem_of_getElem? (i := 5) rfl))))))
theorem kX10_read_cX0 : ∀ w ∈ wsX00, w ∈ wsX10_read := fun _ h => List.mem_cons_of_mem _ (List.mem_append_left _ (List.mem_append_right _ h))
theorem kX10_read_9 : Cond.methodLink RX10 271 arraycopyName ∈ wsX10_read := List.mem_cons_of_mem _ (List.mem_append_left _ (List.mem_append_left _ (List.mem_append_left _ (List.mem_append_left _ (List.mem_append_left _ (List.mem_of_getElem? (i := 6) rfl))))))
theorem kX10_read_10 : Cond.native arraycopyName ∈ wsX10_read := List.mem_cons_of_mem _ (List.mem_append_left _ (List.mem_append_left _ (List.mem_append_left _ (List.mem_append_left _ (List.mem_append_left _ (List.mem_of_getElem? (i := 7) rfl))))))
theorem kX10_read_11 : Cond.static arraycopyName ∈ wsX10_read := List.mem_cons_of_mem _ (List.mem_append_left _ (List.mem_append_left _ (List.mem_append_left _ (List.mem_append_left _ (List.mem_append_left _ (List.mem_of_getElem? (i := 8) rfl))))))
theorem kX10_read_12 : Cond.initialized "java/lang/System" ∈ wsX10_read := List.mem_cons_of_mem _ (List.mem_append_left _ (List.mem_append_left _ (List.mem_append_left _ (List.mem_append_left _ (List.mem_append_left _ (List.mem_of_getElem? (i := 9) rfl))))))
set_option maxHeartbeats 4000000 in
set_option maxRecDepth 100000 in
theorem mX10_read (l : Launch) (D : va_G) (K : Nat → ClassId) (q : Nat → Nat) (sz : Nat)  (bits : Nat → Int64) (stops : Nat → Int32) (num : Int32) (unit : Int32) (strips : Int32) (caps : Int32) (draw : Int32) (oldest : Int32) (known : Int32) (ring : Nat → GS) (im : GS) (iold : Int32) (iknown : Int32) (iring : Nat → GS) (hasIm : Int32) (letters : Nat → Int32) (tbits : Nat → Int64) (tlen : Int32) (tat : Int32) (fig : Int32) (shI : Nat → Nat → Int64) (shH : Nat → Int32) (shL : Nat → Int32) (shS : Nat → Int32) (seaOf : Nat → Int32) (queue : Nat → Int32) (snum : Int32) (cost : Nat → Int32) (heap : Nat → Int64) (wait : Int32) (off : Int32) (les : Int32) (gre : Int32) (abv : Int64) (blw : Int64) (needed : Int32) (ocut : Int32) (opole : Int32)  {post : Int32 → (Nat → Int64) → Int32 → Int32 → (Nat → GS) → (Nat → Int64) → Int32 → Int32 → Int32 → Prop} (hw : wX10_read  bits stops num unit strips caps draw oldest known ring letters tbits tlen fig post) : Met l yX10_read wsX10_read rmX10_read (va_Pc [.ref (q 0)] (cP D K (fl (lX K q bits stops num unit strips caps draw oldest known ring im iold iknown iring hasIm letters tbits tlen tat fig shI shH shL shS seaOf queue snum cost heap wait off les gre abv blw needed ocut opole)) sz)) (va_Qi (fun (r : Int32) (u : (Nat → Int64) × Int32 × Int32 × (Nat → GS) × (Nat → Int64) × Int32 × Int32 × Int32) => post r u.1 u.2.1 u.2.2.1 u.2.2.2.1 u.2.2.2.2.1 u.2.2.2.2.2.1 u.2.2.2.2.2.2.1 u.2.2.2.2.2.2.2) (fun u t => cQ D K (fl (lX K q u.1 stops num unit strips caps draw u.2.1 u.2.2.1 u.2.2.2.1 im iold iknown iring hasIm letters u.2.2.2.2.1 u.2.2.2.2.2.1 u.2.2.2.2.2.2.1 u.2.2.2.2.2.2.2 shI shH shL shS seaOf queue snum cost heap wait off les gre abv blw needed ocut opole)) (va_A (fl (lX K q bits stops num unit strips caps draw oldest known ring im iold iknown iring hasIm letters tbits tlen tat fig shI shH shL shS seaOf queue snum cost heap wait off les gre abv blw needed ocut opole)) sz) t) (va_A (fl (lX K q bits stops num unit strips caps draw oldest known ring im iold iknown iring hasIm letters tbits tlen tat fig shI shH shL shS seaOf queue snum cost heap wait off les gre abv blw needed ocut opole)) sz)) 0 0 (va_A (fl (lX K q bits stops num unit strips caps draw oldest known ring im iold iknown iring hasIm letters tbits tlen tat fig shI shH shL shS seaOf queue snum cost heap wait off les gre abv blw needed ocut opole)) sz) := by
  refine x_entry (cc := cX10_read) (maxL := 2) (ret := (some .int)) (QA := fun A => va_Qi (fun (r : Int32) (u : (Nat → Int64) × Int32 × Int32 × (Nat → GS) × (Nat → Int64) × Int32 × Int32 × Int32) => post r u.1 u.2.1 u.2.2.1 u.2.2.2.1 u.2.2.2.2.1 u.2.2.2.2.2.1 u.2.2.2.2.2.2.1 u.2.2.2.2.2.2.2) (fun u t => cQ D K (fl (lX K q u.1 stops num unit strips caps draw u.2.1 u.2.2.1 u.2.2.2.1 im iold iknown iring hasIm letters u.2.2.2.2.1 u.2.2.2.2.2.1 u.2.2.2.2.2.2.1 u.2.2.2.2.2.2.2 shI shH shL shS seaOf queue snum cost heap wait off les gre abv blw needed ocut opole)) A t) A) (plainFor_of_name (by decide)) rfl (Nat.le_of_ble_eq_true rfl) ?_
  intro p e s m args below meth c A ls H Q hQ hC hlk hr hnm hI hl
  obtain ⟨hx, hb, hml, hown, hts, hK, hA, hZ⟩ := id hC
  obtain ⟨locs, hlocs⟩ : ∃ y : List Loc, y = [] := ⟨_, rfl⟩
  rw [← hlocs] at hI ⊢
  clear hlocs
  replace hl : lv_has ls 2 [(0, .ref (q 0))] := hl
  replace hw : wX7_understand letters tbits tlen fig (fun (r4 : Int32) (tbits_c1 : Nat → Int64) (tat_c2 : Int32) (fig_c3 : Int32) => ((r4 = (-1 : Int32) → wX4_keep oldest known ring bits stops num unit strips caps draw (fun (oldest_c6 : Int32) (known_c7 : Int32) (ring_c8 : Nat → GS) => wX0_landNumber (va_cpy tbits_c1 bits 0 0 5) (fun (r9 : Int32) => post r9 (va_cpy tbits_c1 bits 0 0 5) oldest_c6 known_c7 ring_c8 tbits_c1 (0 : Int32) tat_c2 fig_c3))) ∧ (¬ r4 = (-1 : Int32) → post ((-20 : Int32) - r4) bits oldest known ring tbits_c1 (0 : Int32) tat_c2 fig_c3))) := hw
  refine lv_aload_n hx hb dX10_read_0 rfl (lv_at hl 0 rfl) ?_
  refine x_get (v := .ref (q 47)) hC hI kX10_read_cX10 0 rfl rfl 5 (by decide) kX10_read_0 rfl rfl dX10_read_1 ?_
  refine x_callVi (rest := []) hC hI [17] (mX7_understand l D K (fun i => q (47 + i)) _ letters tbits tlen tat fig hw) (cwV 0 hts gX10_read_X7_understand rfl rfl rfl (by decide +kernel) ⟨(Nat.le_of_ble_eq_true rfl), (Nat.le_of_ble_eq_true rfl)⟩) (by decide) rfl (fun _ => rfl) 47 5 rfl rfl rfl rfl hl.1 rfl (Nat.le_of_ble_eq_true rfl) dX10_read_4 ⟨(Nat.le_of_ble_eq_true rfl), (Nat.le_of_ble_eq_true rfl)⟩ (fun r4 u H locs hw hI => ?_)
  obtain ⟨tbits_c1, tat_c2, fig_c3⟩ := u
  try dsimp only at hw
  have hI : wI s D A (fl (lX K q bits stops num unit strips caps draw oldest known ring im iold iknown iring hasIm letters tbits_c1 tlen tat_c2 fig_c3 shI shH shL shS seaOf queue snum cost heap wait off les gre abv blw needed ocut opole)) H locs := hI
  refine lv_istore_n (lv' := [(1, .int r4), (0, .ref (q 0))]) hx hb dX10_read_7 rfl hl (by decide) rfl (fun ls hl => ?_)
  refine lv_aload_n hx hb dX10_read_8 rfl (lv_at hl 1 rfl) ?_
  refine x_get (v := .ref (q 47)) hC hI kX10_read_cX10 0 rfl rfl 5 (by decide) kX10_read_0 rfl rfl dX10_read_9 ?_
  refine lv_iconst (v := (0 : Int32)) hx hb dX10_read_12 (by decide) ?_
  refine x_put (v := .int (0 : Int32)) hC hI kX10_read_cX7 tyX7 tyX7_ok nmX7 47 rfl rfl 1 (by decide) kX10_read_2 rfl rfl rfl rfl (Nat.le_of_ble_eq_true rfl) dX10_read_13 (fun H locs hI => ?_)
  have hI : wI s D A (fl (lX K q bits stops num unit strips caps draw oldest known ring im iold iknown iring hasIm letters tbits_c1 (0 : Int32) tat_c2 fig_c3 shI shH shL shS seaOf queue snum cost heap wait off les gre abv blw needed ocut opole)) H locs := hI
  refine lv_iload_n hx hb dX10_read_16 rfl (lv_at hl 0 rfl) ?_
  refine lv_iconst (v := (-1 : Int32)) hx hb dX10_read_17 (by decide) ?_
  refine lv_icmp_eq (tgt := 26) hx hb dX10_read_18 (by decide) (fun c5 => ?_) (fun c5 => ?_)
  · replace hw := hw.1 c5
    refine lv_aload_n hx hb dX10_read_26 rfl (lv_at hl 1 rfl) ?_
    refine x_get (v := .ref (q 4)) hC hI kX10_read_cX10 0 rfl rfl 1 (by decide) kX10_read_4 rfl rfl dX10_read_27 ?_
    refine lv_aload_n hx hb dX10_read_30 rfl (lv_at hl 1 rfl) ?_
    refine x_get (v := .ref (q 1)) hC hI kX10_read_cX10 0 rfl rfl 0 (by decide) kX10_read_5 rfl rfl dX10_read_31 ?_
    refine x_callVv (rest := []) hC hI [2, 3, 4, 5, 6, 7, 8, 1] (mX4_keep l D K (fun i => q (4 + i)) (fun i => q (1 + i)) _ oldest known ring bits stops num unit strips caps draw hw) (cwV 1 hts gX10_read_X4_keep rfl rfl rfl (by decide +kernel) ⟨(Nat.le_of_ble_eq_true rfl), (Nat.le_of_ble_eq_true rfl)⟩) (by decide) rfl (fun _ => rfl) 4 2 rfl rfl rfl rfl hl.1 rfl (Nat.le_of_ble_eq_true rfl) dX10_read_34 ⟨(Nat.le_of_ble_eq_true rfl), (Nat.le_of_ble_eq_true rfl)⟩ (fun u H locs hw hI => ?_)
    obtain ⟨oldest_c6, known_c7, ring_c8⟩ := u
    try dsimp only at hw
    have hI : wI s D A (fl (lX K q bits stops num unit strips caps draw oldest_c6 known_c7 ring_c8 im iold iknown iring hasIm letters tbits_c1 (0 : Int32) tat_c2 fig_c3 shI shH shL shS seaOf queue snum cost heap wait off les gre abv blw needed ocut opole)) H locs := hI
    refine lv_aload_n hx hb dX10_read_37 rfl (lv_at hl 1 rfl) ?_
    refine x_get (v := .ref (q 47)) hC hI kX10_read_cX10 0 rfl rfl 5 (by decide) kX10_read_0 rfl rfl dX10_read_38 ?_
    refine x_get (v := .ref (q 49)) hC hI kX10_read_cX7 47 rfl rfl 2 (by decide) kX10_read_6 rfl rfl dX10_read_41 ?_
    refine lv_iconst (v := (0 : Int32)) hx hb dX10_read_44 (by decide) ?_
    refine lv_aload_n hx hb dX10_read_45 rfl (lv_at hl 1 rfl) ?_
    refine x_get (v := .ref (q 1)) hC hI kX10_read_cX10 0 rfl rfl 0 (by decide) kX10_read_5 rfl rfl dX10_read_46 ?_
    refine x_get (v := .ref (q 2)) hC hI kX10_read_cX0 1 rfl rfl 0 (by decide) kX10_read_7 rfl rfl dX10_read_49 ?_
    refine lv_iconst (v := (0 : Int32)) hx hb dX10_read_52 (by decide) ?_
    refine lv_iconst (v := (5 : Int32)) hx hb dX10_read_53 (by decide) ?_
    refine x_copyj (f := tbits_c1) (g := bits) (n0 := 5) (n1 := 5) hC hI hl.1 kX10_read_9 kX10_read_10 kX10_read_11 kX10_read_12 49 2 rfl rfl (by decide) (by decide) (by decide) (by decide) (by decide) (Nat.le_of_ble_eq_true rfl) (Nat.le_of_ble_eq_true rfl) dX10_read_54 (fun H locs hI => ?_)
    have hI : wI s D A (fl (lX K q (va_cpy tbits_c1 bits 0 0 5) stops num unit strips caps draw oldest_c6 known_c7 ring_c8 im iold iknown iring hasIm letters tbits_c1 (0 : Int32) tat_c2 fig_c3 shI shH shL shS seaOf queue snum cost heap wait off les gre abv blw needed ocut opole)) H locs := hI
    refine lv_aload_n hx hb dX10_read_57 rfl (lv_at hl 1 rfl) ?_
    refine x_get (v := .ref (q 1)) hC hI kX10_read_cX10 0 rfl rfl 0 (by decide) kX10_read_5 rfl rfl dX10_read_58 ?_
    refine x_callVi (rest := []) hC hI [1] (mX0_landNumber l D K (fun i => q (1 + i)) _ (va_cpy tbits_c1 bits 0 0 5) stops num unit strips caps draw hw) (cwV 0 hts gX10_read_X0_landNumber rfl rfl rfl (by decide +kernel) ⟨(Nat.le_of_ble_eq_true rfl), (Nat.le_of_ble_eq_true rfl)⟩) (by decide) rfl (fun _ => rfl) 1 0 rfl rfl rfl rfl hl.1 rfl (Nat.le_of_ble_eq_true rfl) dX10_read_61 ⟨(Nat.le_of_ble_eq_true rfl), (Nat.le_of_ble_eq_true rfl)⟩ (fun r9 u H locs hw hI => ?_)
    try dsimp only at hw
    have hI : wI s D A (fl (lX K q (va_cpy tbits_c1 bits 0 0 5) stops num unit strips caps draw oldest_c6 known_c7 ring_c8 im iold iknown iring hasIm letters tbits_c1 (0 : Int32) tat_c2 fig_c3 shI shH shL shS seaOf queue snum cost heap wait off les gre abv blw needed ocut opole)) H locs := hI
    subst hQ
    exact x_iret (u := ((va_cpy tbits_c1 bits 0 0 5), oldest_c6, known_c7, ring_c8, tbits_c1, (0 : Int32), tat_c2, fig_c3)) hC hI hr hlk hw rfl dX10_read_64
  · replace hw := hw.2 c5
    refine lv_bipush (v := (-20 : Int32)) hx hb dX10_read_21 (by decide) ?_
    refine lv_iload_n hx hb dX10_read_23 rfl (lv_at hl 0 rfl) ?_
    refine lv_isub hx hb dX10_read_24 ?_
    subst hQ
    exact x_iret (u := (bits, oldest, known, ring, tbits_c1, (0 : Int32), tat_c2, fig_c3)) hC hI hr hlk hw rfl dX10_read_25
