def wX10_add (a1 : Int32) (bits : Nat → Int64) (stops : Nat → Int32) (num : Int32) (unit : Int32) (strips : Int32) (caps : Int32) (draw : Int32) (oldest : Int32) (known : Int32) (ring : Nat → GS) (post : Int32 → (Nat → Int32) → Int32 → Int32 → Int32 → (Nat → GS) → Prop) : Prop := wX1_isNumber a1 (fun (r1 : Int32) => ((r1 = 0 → post (-1 : Int32) stops num oldest known ring) ∧ (¬ r1 = 0 → ((num < (8 : Int32) → wX4_keep oldest known ring bits stops num unit strips caps draw (fun (oldest_c4 : Int32) (known_c5 : Int32) (ring_c6 : Nat → GS) => vp_in num 8 ∧ ∀ x8 : Int32, x8 = num + (1 : Int32) → post x8 (upd stops num.toNatClampNeg a1) x8 oldest_c4 known_c5 ring_c6)) ∧ (¬ num < (8 : Int32) → post (-3 : Int32) stops num oldest known ring)))))
def rmX10_add : Room := { frames := 3, cells := 0, slots := 0, locals := 82 }
theorem kX10_add_0 : Cond.fieldLink RX10 10 "GoreGlobe" "now" "LGoreGlobe$Globe;" ∈ wsX10_add := List.mem_cons_of_mem _ (List.mem_append_left _ (List.mem_append_left _ (List.mem_append_left _ (List.mem_append_left _ (List.mem_of_getElem? (i := 0) rfl)))))
theorem kX10_add_cX10 : ∀ w ∈ wsX100, w ∈ wsX10_add := fun _ h => List.mem_cons_of_mem _ (List.mem_append_left _ (List.mem_append_left _ (List.mem_append_right _ h)))
theorem kX10_add_2 : Cond.fieldLink RX10 204 "GoreGlobe$Globe" "stopNumber" "I" ∈ wsX10_add := List.mem_cons_of_mem _ (List.mem_append_left _ (List.mem_append_left _ (List.mem_append_left _ (List.mem_append_left _ (List.mem_of_getElem? (i := 1) rfl)))))
theorem kX10_add_cX0 : ∀ w ∈ wsX00, w ∈ wsX10_add := fun _ h => List.mem_cons_of_mem _ (List.mem_append_left _ (List.mem_append_right _ h))
theorem kX10_add_4 : Cond.fieldLink RX10 19 "GoreGlobe" "past" "LGoreGlobe$Past;" ∈ wsX10_add := List.mem_cons_of_mem _ (List.mem_append_left _ (List.mem_append_left _ (List.mem_append_left _ (List.mem_append_left _ (List.mem_of_getElem? (i := 2) rfl)))))
theorem kX10_add_5 : Cond.fieldLink RX10 207 "GoreGlobe$Globe" "stops" "[I" ∈ wsX10_add := List.mem_cons_of_mem _ (List.mem_append_left _ (List.mem_append_left _ (List.mem_append_left _ (List.mem_append_left _ (List.mem_of_getElem? (i := 3) rfl)))))
set_option maxHeartbeats 4000000 in
set_option maxRecDepth 100000 in
theorem mX10_add (l : Launch) (D : va_G) (K : Nat → ClassId) (q : Nat → Nat) (sz : Nat) (a1 : Int32) (bits : Nat → Int64) (stops : Nat → Int32) (num : Int32) (unit : Int32) (strips : Int32) (caps : Int32) (draw : Int32) (oldest : Int32) (known : Int32) (ring : Nat → GS) (im : GS) (iold : Int32) (iknown : Int32) (iring : Nat → GS) (hasIm : Int32) (letters : Nat → Int32) (tbits : Nat → Int64) (tlen : Int32) (tat : Int32) (fig : Int32) (shI : Nat → Nat → Int64) (shH : Nat → Int32) (shL : Nat → Int32) (shS : Nat → Int32) (seaOf : Nat → Int32) (queue : Nat → Int32) (snum : Int32) (cost : Nat → Int32) (heap : Nat → Int64) (wait : Int32) (off : Int32) (les : Int32) (gre : Int32) (abv : Int64) (blw : Int64) (needed : Int32) (ocut : Int32) (opole : Int32)  {post : Int32 → (Nat → Int32) → Int32 → Int32 → Int32 → (Nat → GS) → Prop} (hw : wX10_add a1 bits stops num unit strips caps draw oldest known ring post) : Met l yX10_add wsX10_add rmX10_add (va_Pc [.ref (q 0), .int a1] (cP D K (fl (lX K q bits stops num unit strips caps draw oldest known ring im iold iknown iring hasIm letters tbits tlen tat fig shI shH shL shS seaOf queue snum cost heap wait off les gre abv blw needed ocut opole)) sz)) (va_Qi (fun (r : Int32) (u : (Nat → Int32) × Int32 × Int32 × Int32 × (Nat → GS)) => post r u.1 u.2.1 u.2.2.1 u.2.2.2.1 u.2.2.2.2) (fun u t => cQ D K (fl (lX K q bits u.1 u.2.1 unit strips caps draw u.2.2.1 u.2.2.2.1 u.2.2.2.2 im iold iknown iring hasIm letters tbits tlen tat fig shI shH shL shS seaOf queue snum cost heap wait off les gre abv blw needed ocut opole)) (va_A (fl (lX K q bits stops num unit strips caps draw oldest known ring im iold iknown iring hasIm letters tbits tlen tat fig shI shH shL shS seaOf queue snum cost heap wait off les gre abv blw needed ocut opole)) sz) t) (va_A (fl (lX K q bits stops num unit strips caps draw oldest known ring im iold iknown iring hasIm letters tbits tlen tat fig shI shH shL shS seaOf queue snum cost heap wait off les gre abv blw needed ocut opole)) sz)) 0 0 (va_A (fl (lX K q bits stops num unit strips caps draw oldest known ring im iold iknown iring hasIm letters tbits tlen tat fig shI shH shL shS seaOf queue snum cost heap wait off les gre abv blw needed ocut opole)) sz) := by
  refine x_entry (cc := cX10_add) (maxL := 2) (ret := (some .int)) (QA := fun A => va_Qi (fun (r : Int32) (u : (Nat → Int32) × Int32 × Int32 × Int32 × (Nat → GS)) => post r u.1 u.2.1 u.2.2.1 u.2.2.2.1 u.2.2.2.2) (fun u t => cQ D K (fl (lX K q bits u.1 u.2.1 unit strips caps draw u.2.2.1 u.2.2.2.1 u.2.2.2.2 im iold iknown iring hasIm letters tbits tlen tat fig shI shH shL shS seaOf queue snum cost heap wait off les gre abv blw needed ocut opole)) A t) A) (plainFor_of_name (by decide)) rfl (Nat.le_of_ble_eq_true rfl) ?_
  intro p e s m args below meth c A ls H Q hQ hC hlk hr hnm hI hl
  obtain ⟨hx, hb, hml, hown, hts, hK, hA, hZ⟩ := id hC
  obtain ⟨locs, hlocs⟩ : ∃ y : List Loc, y = [] := ⟨_, rfl⟩
  rw [← hlocs] at hI ⊢
  clear hlocs
  replace hl : lv_has ls 2 [(0, .ref (q 0)), (1, .int a1)] := hl
  replace hw : wX1_isNumber a1 (fun (r1 : Int32) => ((r1 = 0 → post (-1 : Int32) stops num oldest known ring) ∧ (¬ r1 = 0 → ((num < (8 : Int32) → wX4_keep oldest known ring bits stops num unit strips caps draw (fun (oldest_c4 : Int32) (known_c5 : Int32) (ring_c6 : Nat → GS) => vp_in num 8 ∧ ∀ x8 : Int32, x8 = num + (1 : Int32) → post x8 (upd stops num.toNatClampNeg a1) x8 oldest_c4 known_c5 ring_c6)) ∧ (¬ num < (8 : Int32) → post (-3 : Int32) stops num oldest known ring))))) := hw
  refine lv_iload_n hx hb dX10_add_0 rfl (lv_at hl 1 rfl) ?_
  refine x_callSi (rest := []) hC hI [] (mX1_isNumber l D K  _ a1 hw) (va_cwS 1 hts gX10_add_X1_isNumber rfl rfl rfl (by decide +kernel) ⟨(Nat.le_of_ble_eq_true rfl), (Nat.le_of_ble_eq_true rfl)⟩) (by decide) rfl (fun _ => rfl) rfl hl.1 rfl (Nat.le_of_ble_eq_true rfl) dX10_add_1 ⟨(Nat.le_of_ble_eq_true rfl), (Nat.le_of_ble_eq_true rfl)⟩ (fun r1 u H locs hw hI => ?_)
  try dsimp only at hw
  have hI : wI s D A (fl (lX K q bits stops num unit strips caps draw oldest known ring im iold iknown iring hasIm letters tbits tlen tat fig shI shH shL shS seaOf queue snum cost heap wait off les gre abv blw needed ocut opole)) H locs := hI
  refine lv_if_ne (tgt := 9) hx hb dX10_add_4 (by decide) (fun c2 => ?_) (fun c2 => ?_)
  · replace hw := hw.2 c2
    refine lv_aload_n hx hb dX10_add_9 rfl (lv_at hl 0 rfl) ?_
    refine x_get (v := .ref (q 1)) hC hI kX10_add_cX10 0 rfl rfl 0 (by decide) kX10_add_0 rfl rfl dX10_add_10 ?_
    refine x_get (v := .int num) hC hI kX10_add_cX0 1 rfl rfl 2 (by decide) kX10_add_2 rfl rfl dX10_add_13 ?_
    refine lv_bipush (v := (8 : Int32)) hx hb dX10_add_16 (by decide) ?_
    refine lv_icmp_lt (tgt := 24) hx hb dX10_add_18 (by decide) (fun c3 => ?_) (fun c3 => ?_)
    · replace hw := hw.1 c3
      refine lv_aload_n hx hb dX10_add_24 rfl (lv_at hl 0 rfl) ?_
      refine x_get (v := .ref (q 4)) hC hI kX10_add_cX10 0 rfl rfl 1 (by decide) kX10_add_4 rfl rfl dX10_add_25 ?_
      refine lv_aload_n hx hb dX10_add_28 rfl (lv_at hl 0 rfl) ?_
      refine x_get (v := .ref (q 1)) hC hI kX10_add_cX10 0 rfl rfl 0 (by decide) kX10_add_0 rfl rfl dX10_add_29 ?_
      refine x_callVv (rest := []) hC hI [2, 3, 4, 5, 6, 7, 8, 1] (mX4_keep l D K (fun i => q (4 + i)) (fun i => q (1 + i)) _ oldest known ring bits stops num unit strips caps draw hw) (cwV 1 hts gX10_add_X4_keep rfl rfl rfl (by decide +kernel) ⟨(Nat.le_of_ble_eq_true rfl), (Nat.le_of_ble_eq_true rfl)⟩) (by decide) rfl (fun _ => rfl) 4 2 rfl rfl rfl rfl hl.1 rfl (Nat.le_of_ble_eq_true rfl) dX10_add_32 ⟨(Nat.le_of_ble_eq_true rfl), (Nat.le_of_ble_eq_true rfl)⟩ (fun u H locs hw hI => ?_)
      obtain ⟨oldest_c4, known_c5, ring_c6⟩ := u
      try dsimp only at hw
      have hI : wI s D A (fl (lX K q bits stops num unit strips caps draw oldest_c4 known_c5 ring_c6 im iold iknown iring hasIm letters tbits tlen tat fig shI shH shL shS seaOf queue snum cost heap wait off les gre abv blw needed ocut opole)) H locs := hI
      refine lv_aload_n hx hb dX10_add_35 rfl (lv_at hl 0 rfl) ?_
      refine x_get (v := .ref (q 1)) hC hI kX10_add_cX10 0 rfl rfl 0 (by decide) kX10_add_0 rfl rfl dX10_add_36 ?_
      refine x_get (v := .ref (q 3)) hC hI kX10_add_cX0 1 rfl rfl 1 (by decide) kX10_add_5 rfl rfl dX10_add_39 ?_
      refine lv_aload_n hx hb dX10_add_42 rfl (lv_at hl 0 rfl) ?_
      refine x_get (v := .ref (q 1)) hC hI kX10_add_cX10 0 rfl rfl 0 (by decide) kX10_add_0 rfl rfl dX10_add_43 ?_
      refine x_get (v := .int num) hC hI kX10_add_cX0 1 rfl rfl 2 (by decide) kX10_add_2 rfl rfl dX10_add_46 ?_
      refine lv_iload_n hx hb dX10_add_49 rfl (lv_at hl 1 rfl) ?_
      obtain ⟨hc7, hw⟩ := hw
      refine x_iast (f := stops) hC hI 3 rfl hc7 dX10_add_50 (fun H locs hI => ?_)
      have hI : wI s D A (fl (lX K q bits (upd stops num.toNatClampNeg a1) num unit strips caps draw oldest_c4 known_c5 ring_c6 im iold iknown iring hasIm letters tbits tlen tat fig shI shH shL shS seaOf queue snum cost heap wait off les gre abv blw needed ocut opole)) H locs := hI
      refine lv_aload_n hx hb dX10_add_51 rfl (lv_at hl 0 rfl) ?_
      refine x_get (v := .ref (q 1)) hC hI kX10_add_cX10 0 rfl rfl 0 (by decide) kX10_add_0 rfl rfl dX10_add_52 ?_
      refine lv_dup hx hb dX10_add_55 rfl ?_
      refine x_get (v := .int num) hC hI kX10_add_cX0 1 rfl rfl 2 (by decide) kX10_add_2 rfl rfl dX10_add_56 ?_
      refine lv_iconst (v := (1 : Int32)) hx hb dX10_add_59 (by decide) ?_
      refine lv_iadd hx hb dX10_add_60 ?_
      refine lv_topi (fun x8 ex8 => ?_)
      replace hw := hw x8 ex8
      refine x_put (v := .int x8) hC hI kX10_add_cX0 tyX0 tyX0_ok nmX0 1 rfl rfl 2 (by decide) kX10_add_2 rfl rfl rfl rfl (Nat.le_of_ble_eq_true rfl) dX10_add_61 (fun H locs hI => ?_)
      have hI : wI s D A (fl (lX K q bits (upd stops num.toNatClampNeg a1) x8 unit strips caps draw oldest_c4 known_c5 ring_c6 im iold iknown iring hasIm letters tbits tlen tat fig shI shH shL shS seaOf queue snum cost heap wait off les gre abv blw needed ocut opole)) H locs := hI
      refine lv_aload_n hx hb dX10_add_64 rfl (lv_at hl 0 rfl) ?_
      refine x_get (v := .ref (q 1)) hC hI kX10_add_cX10 0 rfl rfl 0 (by decide) kX10_add_0 rfl rfl dX10_add_65 ?_
      refine x_get (v := .int x8) hC hI kX10_add_cX0 1 rfl rfl 2 (by decide) kX10_add_2 rfl rfl dX10_add_68 ?_
      subst hQ
      exact x_iret (u := ((upd stops num.toNatClampNeg a1), x8, oldest_c4, known_c5, ring_c6)) hC hI hr hlk hw rfl dX10_add_71
    · replace hw := hw.2 c3
      refine lv_bipush (v := (-3 : Int32)) hx hb dX10_add_21 (by decide) ?_
      subst hQ
      exact x_iret (u := (stops, num, oldest, known, ring)) hC hI hr hlk hw rfl dX10_add_23
  · replace hw := hw.1 c2
    refine lv_iconst (v := (-1 : Int32)) hx hb dX10_add_7 (by decide) ?_
    subst hQ
    exact x_iret (u := (stops, num, oldest, known, ring)) hC hI hr hlk hw rfl dX10_add_8
