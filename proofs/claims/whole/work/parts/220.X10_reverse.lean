def wX10_reverse  (bits : Nat → Int64) (stops : Nat → Int32) (num : Int32) (unit : Int32) (strips : Int32) (caps : Int32) (draw : Int32) (oldest : Int32) (known : Int32) (ring : Nat → GS) (post : Int32 → (Nat → Int32) → Int32 → Int32 → (Nat → GS) → Prop) : Prop := (((2 : Int32) ≤ num → wX4_keep oldest known ring bits stops num unit strips caps draw (fun (oldest_c2 : Int32) (known_c3 : Int32) (ring_c4 : Nat → GS) => wX0_turnRoute stops num (fun (stops_c5 : Nat → Int32) => post (stops_c5 0) stops_c5 oldest_c2 known_c3 ring_c4))) ∧ (¬ (2 : Int32) ≤ num → post (-2 : Int32) stops oldest known ring))
def rmX10_reverse : Room := { frames := 3, cells := 0, slots := 0, locals := 82 }
theorem kX10_reverse_0 : Cond.fieldLink RX10 10 "GoreGlobe" "now" "LGoreGlobe$Globe;" ∈ wsX10_reverse := List.mem_cons_of_mem _ (List.mem_append_left _ (List.mem_append_left _ (List.mem_append_left _ (List.mem_append_left _ (List.mem_of_getElem? (i := 0) rfl)))))
theorem kX10_reverse_cX10 : ∀ w ∈ wsX100, w ∈ wsX10_reverse := fun _ h => List.mem_cons_of_mem _ (List.mem_append_left _ (List.mem_append_left _ (List.mem_append_right _ h)))
theorem kX10_reverse_2 : Cond.fieldLink RX10 204 "GoreGlobe$Globe" "stopNumber" "I" ∈ wsX10_reverse := List.mem_cons_of_mem _ (List.mem_append_left _ (List.mem_append_left _ (List.mem_append_left _ (List.mem_append_left _ (List.mem_of_getElem? (i := 1) rfl)))))
theorem kX10_reverse_cX0 : ∀ w ∈ wsX00, w ∈ wsX10_reverse := fun _ h => List.mem_cons_of_mem _ (List.mem_append_left _ (List.mem_append_right _ h))
theorem kX10_reverse_4 : Cond.fieldLink RX10 19 "GoreGlobe" "past" "LGoreGlobe$Past;" ∈ wsX10_reverse := List.mem_cons_of_mem _ (List.mem_append_left _ (List.mem_append_left _ (List.mem_append_left _ (List.mem_append_left _ (List.mem_of_getElem? (i := 2) rfl)))))
theorem kX10_reverse_5 : Cond.fieldLink RX10 207 "GoreGlobe$Globe" "stops" "[I" ∈ wsX10_reverse := List.mem_cons_of_mem _ (List.mem_append_left _ (List.mem_append_left _ (List.mem_append_left _ (List.mem_append_left _ (List.mem_of_getElem? (i := 3) rfl)))))
set_option maxHeartbeats 4000000 in
set_option maxRecDepth 100000 in
theorem mX10_reverse (l : Launch) (D : va_G) (K : Nat → ClassId) (q : Nat → Nat) (sz : Nat)  (bits : Nat → Int64) (stops : Nat → Int32) (num : Int32) (unit : Int32) (strips : Int32) (caps : Int32) (draw : Int32) (oldest : Int32) (known : Int32) (ring : Nat → GS) (im : GS) (iold : Int32) (iknown : Int32) (iring : Nat → GS) (hasIm : Int32) (letters : Nat → Int32) (tbits : Nat → Int64) (tlen : Int32) (tat : Int32) (fig : Int32) (shI : Nat → Nat → Int64) (shH : Nat → Int32) (shL : Nat → Int32) (shS : Nat → Int32) (seaOf : Nat → Int32) (queue : Nat → Int32) (snum : Int32) (cost : Nat → Int32) (heap : Nat → Int64) (wait : Int32) (off : Int32) (les : Int32) (gre : Int32) (abv : Int64) (blw : Int64) (needed : Int32) (ocut : Int32) (opole : Int32)  {post : Int32 → (Nat → Int32) → Int32 → Int32 → (Nat → GS) → Prop} (hw : wX10_reverse  bits stops num unit strips caps draw oldest known ring post) : Met l yX10_reverse wsX10_reverse rmX10_reverse (va_Pc [.ref (q 0)] (cP D K (fl (lX K q bits stops num unit strips caps draw oldest known ring im iold iknown iring hasIm letters tbits tlen tat fig shI shH shL shS seaOf queue snum cost heap wait off les gre abv blw needed ocut opole)) sz)) (va_Qi (fun (r : Int32) (u : (Nat → Int32) × Int32 × Int32 × (Nat → GS)) => post r u.1 u.2.1 u.2.2.1 u.2.2.2) (fun u t => cQ D K (fl (lX K q bits u.1 num unit strips caps draw u.2.1 u.2.2.1 u.2.2.2 im iold iknown iring hasIm letters tbits tlen tat fig shI shH shL shS seaOf queue snum cost heap wait off les gre abv blw needed ocut opole)) (va_A (fl (lX K q bits stops num unit strips caps draw oldest known ring im iold iknown iring hasIm letters tbits tlen tat fig shI shH shL shS seaOf queue snum cost heap wait off les gre abv blw needed ocut opole)) sz) t) (va_A (fl (lX K q bits stops num unit strips caps draw oldest known ring im iold iknown iring hasIm letters tbits tlen tat fig shI shH shL shS seaOf queue snum cost heap wait off les gre abv blw needed ocut opole)) sz)) 0 0 (va_A (fl (lX K q bits stops num unit strips caps draw oldest known ring im iold iknown iring hasIm letters tbits tlen tat fig shI shH shL shS seaOf queue snum cost heap wait off les gre abv blw needed ocut opole)) sz) := by
  refine x_entry (cc := cX10_reverse) (maxL := 1) (ret := (some .int)) (QA := fun A => va_Qi (fun (r : Int32) (u : (Nat → Int32) × Int32 × Int32 × (Nat → GS)) => post r u.1 u.2.1 u.2.2.1 u.2.2.2) (fun u t => cQ D K (fl (lX K q bits u.1 num unit strips caps draw u.2.1 u.2.2.1 u.2.2.2 im iold iknown iring hasIm letters tbits tlen tat fig shI shH shL shS seaOf queue snum cost heap wait off les gre abv blw needed ocut opole)) A t) A) (plainFor_of_name (by decide)) rfl (Nat.le_of_ble_eq_true rfl) ?_
  intro p e s m args below meth c A ls H Q hQ hC hlk hr hnm hI hl
  obtain ⟨hx, hb, hml, hown, hts, hK, hA, hZ⟩ := id hC
  obtain ⟨locs, hlocs⟩ : ∃ y : List Loc, y = [] := ⟨_, rfl⟩
  rw [← hlocs] at hI ⊢
  clear hlocs
  replace hl : lv_has ls 1 [(0, .ref (q 0))] := hl
  replace hw : (((2 : Int32) ≤ num → wX4_keep oldest known ring bits stops num unit strips caps draw (fun (oldest_c2 : Int32) (known_c3 : Int32) (ring_c4 : Nat → GS) => wX0_turnRoute stops num (fun (stops_c5 : Nat → Int32) => post (stops_c5 0) stops_c5 oldest_c2 known_c3 ring_c4))) ∧ (¬ (2 : Int32) ≤ num → post (-2 : Int32) stops oldest known ring)) := hw
  refine lv_aload_n hx hb dX10_reverse_0 rfl (lv_at hl 0 rfl) ?_
  refine x_get (v := .ref (q 1)) hC hI kX10_reverse_cX10 0 rfl rfl 0 (by decide) kX10_reverse_0 rfl rfl dX10_reverse_1 ?_
  refine x_get (v := .int num) hC hI kX10_reverse_cX0 1 rfl rfl 2 (by decide) kX10_reverse_2 rfl rfl dX10_reverse_4 ?_
  refine lv_iconst (v := (2 : Int32)) hx hb dX10_reverse_7 (by decide) ?_
  refine lv_icmp_ge (tgt := 14) hx hb dX10_reverse_8 (by decide) (fun c1 => ?_) (fun c1 => ?_)
  · replace hw := hw.1 c1
    refine lv_aload_n hx hb dX10_reverse_14 rfl (lv_at hl 0 rfl) ?_
    refine x_get (v := .ref (q 4)) hC hI kX10_reverse_cX10 0 rfl rfl 1 (by decide) kX10_reverse_4 rfl rfl dX10_reverse_15 ?_
    refine lv_aload_n hx hb dX10_reverse_18 rfl (lv_at hl 0 rfl) ?_
    refine x_get (v := .ref (q 1)) hC hI kX10_reverse_cX10 0 rfl rfl 0 (by decide) kX10_reverse_0 rfl rfl dX10_reverse_19 ?_
    refine x_callVv (rest := []) hC hI [2, 3, 4, 5, 6, 7, 8, 1] (mX4_keep l D K (fun i => q (4 + i)) (fun i => q (1 + i)) _ oldest known ring bits stops num unit strips caps draw hw) (cwV 1 hts gX10_reverse_X4_keep rfl rfl rfl (by decide +kernel) ⟨(Nat.le_of_ble_eq_true rfl), (Nat.le_of_ble_eq_true rfl)⟩) (by decide) rfl (fun _ => rfl) 4 2 rfl rfl rfl rfl hl.1 rfl (Nat.le_of_ble_eq_true rfl) dX10_reverse_22 ⟨(Nat.le_of_ble_eq_true rfl), (Nat.le_of_ble_eq_true rfl)⟩ (fun u H locs hw hI => ?_)
    obtain ⟨oldest_c2, known_c3, ring_c4⟩ := u
    try dsimp only at hw
    have hI : wI s D A (fl (lX K q bits stops num unit strips caps draw oldest_c2 known_c3 ring_c4 im iold iknown iring hasIm letters tbits tlen tat fig shI shH shL shS seaOf queue snum cost heap wait off les gre abv blw needed ocut opole)) H locs := hI
    refine lv_aload_n hx hb dX10_reverse_25 rfl (lv_at hl 0 rfl) ?_
    refine x_get (v := .ref (q 1)) hC hI kX10_reverse_cX10 0 rfl rfl 0 (by decide) kX10_reverse_0 rfl rfl dX10_reverse_26 ?_
    refine x_callVv (rest := []) hC hI [1] (mX0_turnRoute l D K (fun i => q (1 + i)) _ bits stops num unit strips caps draw hw) (cwV 0 hts gX10_reverse_X0_turnRoute rfl rfl rfl (by decide +kernel) ⟨(Nat.le_of_ble_eq_true rfl), (Nat.le_of_ble_eq_true rfl)⟩) (by decide) rfl (fun _ => rfl) 1 0 rfl rfl rfl rfl hl.1 rfl (Nat.le_of_ble_eq_true rfl) dX10_reverse_29 ⟨(Nat.le_of_ble_eq_true rfl), (Nat.le_of_ble_eq_true rfl)⟩ (fun stops_c5 H locs hw hI => ?_)
    have hI : wI s D A (fl (lX K q bits stops_c5 num unit strips caps draw oldest_c2 known_c3 ring_c4 im iold iknown iring hasIm letters tbits tlen tat fig shI shH shL shS seaOf queue snum cost heap wait off les gre abv blw needed ocut opole)) H locs := hI
    refine lv_aload_n hx hb dX10_reverse_32 rfl (lv_at hl 0 rfl) ?_
    refine x_get (v := .ref (q 1)) hC hI kX10_reverse_cX10 0 rfl rfl 0 (by decide) kX10_reverse_0 rfl rfl dX10_reverse_33 ?_
    refine x_get (v := .ref (q 3)) hC hI kX10_reverse_cX0 1 rfl rfl 1 (by decide) kX10_reverse_5 rfl rfl dX10_reverse_36 ?_
    refine lv_iconst (v := (0 : Int32)) hx hb dX10_reverse_39 (by decide) ?_
    refine x_iald (f := stops_c5) hC hI 3 rfl (by unfold vp_in; decide) dX10_reverse_40 ?_
    subst hQ
    exact x_iret (u := (stops_c5, oldest_c2, known_c3, ring_c4)) hC hI hr hlk hw rfl dX10_reverse_41
  · replace hw := hw.2 c1
    refine lv_bipush (v := (-2 : Int32)) hx hb dX10_reverse_11 (by decide) ?_
    subst hQ
    exact x_iret (u := (stops, oldest, known, ring)) hC hI hr hlk hw rfl dX10_reverse_13
