def wX10_tell (a1 : Int32) (a2 : Int32) (bits : Nat → Int64) (stops : Nat → Int32) (num : Int32) (unit : Int32) (strips : Int32) (caps : Int32) (draw : Int32) (oldest : Int32) (known : Int32) (ring : Nat → GS) (post : Int32 → Int32 → Int32 → Int32 → Int32 → Int32 → (Nat → GS) → Prop) : Prop := wX10_mayBeTold a1 a2 (fun (r1 : Int32) => ((r1 = 0 → post (-1 : Int32) unit strips caps oldest known ring) ∧ (¬ r1 = 0 → ∃ J46 : Int32 → Prop, (∀ (t_46 : Int32), J46 t_46 → ((t_46 = a2 → post (-2 : Int32) unit strips caps oldest known ring) ∧ (¬ t_46 = a2 → wX4_keep oldest known ring bits stops num unit strips caps draw (fun (oldest_c4 : Int32) (known_c5 : Int32) (ring_c6 : Nat → GS) => ((a1 = 0 → post t_46 a2 strips caps oldest_c4 known_c5 ring_c6) ∧ (¬ a1 = 0 → ((a1 = (1 : Int32) → post t_46 unit a2 caps oldest_c4 known_c5 ring_c6) ∧ (¬ a1 = (1 : Int32) → post t_46 unit strips a2 oldest_c4 known_c5 ring_c6)))))))) ∧ ((a1 = 0 → J46 unit) ∧ (¬ a1 = 0 → ((a1 = (1 : Int32) → J46 strips) ∧ (¬ a1 = (1 : Int32) → J46 caps)))))))
def rmX10_tell : Room := { frames := 3, cells := 0, slots := 0, locals := 82 }
theorem kX10_tell_0 : Cond.fieldLink RX10 19 "GoreGlobe" "past" "LGoreGlobe$Past;" ∈ wsX10_tell := List.mem_cons_of_mem _ (List.mem_append_left _ (List.mem_append_left _ (List.mem_append_left _ (List.mem_append_left _ (List.mem_of_getElem? (i := 4) rfl)))))
theorem kX10_tell_cX10 : ∀ w ∈ wsX100, w ∈ wsX10_tell := fun _ h => List.mem_cons_of_mem _ (List.mem_append_left _ (List.mem_append_left _ (List.mem_append_right _ h)))
theorem kX10_tell_2 : Cond.fieldLink RX10 10 "GoreGlobe" "now" "LGoreGlobe$Globe;" ∈ wsX10_tell := List.mem_cons_of_mem _ (List.mem_append_left _ (List.mem_append_left _ (List.mem_append_left _ (List.mem_append_left _ (List.mem_of_getElem? (i := 0) rfl)))))
theorem kX10_tell_3 : Cond.fieldLink RX10 134 "GoreGlobe$Globe" "caps" "I" ∈ wsX10_tell := List.mem_cons_of_mem _ (List.mem_append_left _ (List.mem_append_left _ (List.mem_append_left _ (List.mem_append_left _ (List.mem_of_getElem? (i := 3) rfl)))))
theorem kX10_tell_cX0 : ∀ w ∈ wsX00, w ∈ wsX10_tell := fun _ h => List.mem_cons_of_mem _ (List.mem_append_left _ (List.mem_append_right _ h))
theorem kX10_tell_5 : Cond.fieldLink RX10 226 "GoreGlobe$Globe" "strips" "I" ∈ wsX10_tell := List.mem_cons_of_mem _ (List.mem_append_left _ (List.mem_append_left _ (List.mem_append_left _ (List.mem_append_left _ (List.mem_of_getElem? (i := 2) rfl)))))
theorem kX10_tell_6 : Cond.fieldLink RX10 111 "GoreGlobe$Globe" "unit" "I" ∈ wsX10_tell := List.mem_cons_of_mem _ (List.mem_append_left _ (List.mem_append_left _ (List.mem_append_left _ (List.mem_append_left _ (List.mem_of_getElem? (i := 1) rfl)))))
set_option maxHeartbeats 4000000 in
set_option maxRecDepth 100000 in
theorem mX10_tell (l : Launch) (D : va_G) (K : Nat → ClassId) (q : Nat → Nat) (sz : Nat) (a1 : Int32) (a2 : Int32) (bits : Nat → Int64) (stops : Nat → Int32) (num : Int32) (unit : Int32) (strips : Int32) (caps : Int32) (draw : Int32) (oldest : Int32) (known : Int32) (ring : Nat → GS) (im : GS) (iold : Int32) (iknown : Int32) (iring : Nat → GS) (hasIm : Int32) (letters : Nat → Int32) (tbits : Nat → Int64) (tlen : Int32) (tat : Int32) (fig : Int32) (shI : Nat → Nat → Int64) (shH : Nat → Int32) (shL : Nat → Int32) (shS : Nat → Int32) (seaOf : Nat → Int32) (queue : Nat → Int32) (snum : Int32) (cost : Nat → Int32) (heap : Nat → Int64) (wait : Int32) (off : Int32) (les : Int32) (gre : Int32) (abv : Int64) (blw : Int64) (needed : Int32) (ocut : Int32) (opole : Int32)  {post : Int32 → Int32 → Int32 → Int32 → Int32 → Int32 → (Nat → GS) → Prop} (hw : wX10_tell a1 a2 bits stops num unit strips caps draw oldest known ring post) : Met l yX10_tell wsX10_tell rmX10_tell (va_Pc [.ref (q 0), .int a1, .int a2] (cP D K (fl (lX K q bits stops num unit strips caps draw oldest known ring im iold iknown iring hasIm letters tbits tlen tat fig shI shH shL shS seaOf queue snum cost heap wait off les gre abv blw needed ocut opole)) sz)) (va_Qi (fun (r : Int32) (u : Int32 × Int32 × Int32 × Int32 × Int32 × (Nat → GS)) => post r u.1 u.2.1 u.2.2.1 u.2.2.2.1 u.2.2.2.2.1 u.2.2.2.2.2) (fun u t => cQ D K (fl (lX K q bits stops num u.1 u.2.1 u.2.2.1 draw u.2.2.2.1 u.2.2.2.2.1 u.2.2.2.2.2 im iold iknown iring hasIm letters tbits tlen tat fig shI shH shL shS seaOf queue snum cost heap wait off les gre abv blw needed ocut opole)) (va_A (fl (lX K q bits stops num unit strips caps draw oldest known ring im iold iknown iring hasIm letters tbits tlen tat fig shI shH shL shS seaOf queue snum cost heap wait off les gre abv blw needed ocut opole)) sz) t) (va_A (fl (lX K q bits stops num unit strips caps draw oldest known ring im iold iknown iring hasIm letters tbits tlen tat fig shI shH shL shS seaOf queue snum cost heap wait off les gre abv blw needed ocut opole)) sz)) 0 0 (va_A (fl (lX K q bits stops num unit strips caps draw oldest known ring im iold iknown iring hasIm letters tbits tlen tat fig shI shH shL shS seaOf queue snum cost heap wait off les gre abv blw needed ocut opole)) sz) := by
  refine x_entry (cc := cX10_tell) (maxL := 4) (ret := (some .int)) (QA := fun A => va_Qi (fun (r : Int32) (u : Int32 × Int32 × Int32 × Int32 × Int32 × (Nat → GS)) => post r u.1 u.2.1 u.2.2.1 u.2.2.2.1 u.2.2.2.2.1 u.2.2.2.2.2) (fun u t => cQ D K (fl (lX K q bits stops num u.1 u.2.1 u.2.2.1 draw u.2.2.2.1 u.2.2.2.2.1 u.2.2.2.2.2 im iold iknown iring hasIm letters tbits tlen tat fig shI shH shL shS seaOf queue snum cost heap wait off les gre abv blw needed ocut opole)) A t) A) (plainFor_of_name (by decide)) rfl (Nat.le_of_ble_eq_true rfl) ?_
  intro p e s m args below meth c A ls H Q hQ hC hlk hr hnm hI hl
  obtain ⟨hx, hb, hml, hown, hts, hK, hA, hZ⟩ := id hC
  obtain ⟨locs, hlocs⟩ : ∃ y : List Loc, y = [] := ⟨_, rfl⟩
  rw [← hlocs] at hI ⊢
  clear hlocs
  replace hl : lv_has ls 4 [(0, .ref (q 0)), (1, .int a1), (2, .int a2)] := hl
  replace hw : wX10_mayBeTold a1 a2 (fun (r1 : Int32) => ((r1 = 0 → post (-1 : Int32) unit strips caps oldest known ring) ∧ (¬ r1 = 0 → ∃ J46 : Int32 → Prop, (∀ (t_46 : Int32), J46 t_46 → ((t_46 = a2 → post (-2 : Int32) unit strips caps oldest known ring) ∧ (¬ t_46 = a2 → wX4_keep oldest known ring bits stops num unit strips caps draw (fun (oldest_c4 : Int32) (known_c5 : Int32) (ring_c6 : Nat → GS) => ((a1 = 0 → post t_46 a2 strips caps oldest_c4 known_c5 ring_c6) ∧ (¬ a1 = 0 → ((a1 = (1 : Int32) → post t_46 unit a2 caps oldest_c4 known_c5 ring_c6) ∧ (¬ a1 = (1 : Int32) → post t_46 unit strips a2 oldest_c4 known_c5 ring_c6)))))))) ∧ ((a1 = 0 → J46 unit) ∧ (¬ a1 = 0 → ((a1 = (1 : Int32) → J46 strips) ∧ (¬ a1 = (1 : Int32) → J46 caps))))))) := hw
  refine lv_iload_n hx hb dX10_tell_0 rfl (lv_at hl 1 rfl) ?_
  refine lv_iload_n hx hb dX10_tell_1 rfl (lv_at hl 2 rfl) ?_
  refine x_callSi (rest := []) hC hI [] (mX10_mayBeTold l D K  _ a1 a2 hw) (va_cwS 2 hts gX10_tell_X10_mayBeTold rfl rfl rfl (by decide +kernel) ⟨(Nat.le_of_ble_eq_true rfl), (Nat.le_of_ble_eq_true rfl)⟩) (by decide) rfl (fun _ => rfl) rfl hl.1 rfl (Nat.le_of_ble_eq_true rfl) dX10_tell_2 ⟨(Nat.le_of_ble_eq_true rfl), (Nat.le_of_ble_eq_true rfl)⟩ (fun r1 u H locs hw hI => ?_)
  try dsimp only at hw
  have hI : wI s D A (fl (lX K q bits stops num unit strips caps draw oldest known ring im iold iknown iring hasIm letters tbits tlen tat fig shI shH shL shS seaOf queue snum cost heap wait off les gre abv blw needed ocut opole)) H locs := hI
  refine lv_if_ne (tgt := 10) hx hb dX10_tell_5 (by decide) (fun c2 => ?_) (fun c2 => ?_)
  · replace hw := hw.2 c2
    refine lv_iload_n hx hb dX10_tell_10 rfl (lv_at hl 1 rfl) ?_
    obtain ⟨J46, hJ46, hw⟩ := hw
    have jn46 : ∀ (t_46 : Int32) (ls : Array Slot) (H : Heap) (locs : List Loc), J46 t_46 → wI s D A (fl (lX K q bits stops num unit strips caps draw oldest known ring im iold iknown iring hasIm letters tbits tlen tat fig shI shH shL shS seaOf queue snum cost heap wait off les gre abv blw needed ocut opole)) H locs → lv_has ls 4 [(0, .ref (q 0)), (1, .int a1), (2, .int a2)] → W p l e rmX10_tell s m args below meth c H locs 0 0 Q (F0 m 46 ls [.int t_46]) := by
      intro t_46 ls H locs hw hI hl
      replace hw := hJ46 t_46 hw
      refine lv_istore_n (lv' := [(3, .int t_46), (0, .ref (q 0)), (1, .int a1), (2, .int a2)]) hx hb dX10_tell_46 rfl hl (by decide) rfl (fun ls hl => ?_)
      refine lv_iload_n hx hb dX10_tell_47 rfl (lv_at hl 0 rfl) ?_
      refine lv_iload_n hx hb dX10_tell_48 rfl (lv_at hl 3 rfl) ?_
      refine lv_icmp_ne (tgt := 55) hx hb dX10_tell_49 (by decide) (fun c3 => ?_) (fun c3 => ?_)
      · replace hw := hw.2 c3
        refine lv_aload_n hx hb dX10_tell_55 rfl (lv_at hl 1 rfl) ?_
        refine x_get (v := .ref (q 4)) hC hI kX10_tell_cX10 0 rfl rfl 1 (by decide) kX10_tell_0 rfl rfl dX10_tell_56 ?_
        refine lv_aload_n hx hb dX10_tell_59 rfl (lv_at hl 1 rfl) ?_
        refine x_get (v := .ref (q 1)) hC hI kX10_tell_cX10 0 rfl rfl 0 (by decide) kX10_tell_2 rfl rfl dX10_tell_60 ?_
        refine x_callVv (rest := []) hC hI [2, 3, 4, 5, 6, 7, 8, 1] (mX4_keep l D K (fun i => q (4 + i)) (fun i => q (1 + i)) _ oldest known ring bits stops num unit strips caps draw hw) (cwV 1 hts gX10_tell_X4_keep rfl rfl rfl (by decide +kernel) ⟨(Nat.le_of_ble_eq_true rfl), (Nat.le_of_ble_eq_true rfl)⟩) (by decide) rfl (fun _ => rfl) 4 2 rfl rfl rfl rfl hl.1 rfl (Nat.le_of_ble_eq_true rfl) dX10_tell_63 ⟨(Nat.le_of_ble_eq_true rfl), (Nat.le_of_ble_eq_true rfl)⟩ (fun u H locs hw hI => ?_)
        obtain ⟨oldest_c4, known_c5, ring_c6⟩ := u
        try dsimp only at hw
        have hI : wI s D A (fl (lX K q bits stops num unit strips caps draw oldest_c4 known_c5 ring_c6 im iold iknown iring hasIm letters tbits tlen tat fig shI shH shL shS seaOf queue snum cost heap wait off les gre abv blw needed ocut opole)) H locs := hI
        refine lv_iload_n hx hb dX10_tell_66 rfl (lv_at hl 2 rfl) ?_
        refine lv_if_ne (tgt := 81) hx hb dX10_tell_67 (by decide) (fun c7 => ?_) (fun c7 => ?_)
        · replace hw := hw.2 c7
          refine lv_iload_n hx hb dX10_tell_81 rfl (lv_at hl 2 rfl) ?_
          refine lv_iconst (v := (1 : Int32)) hx hb dX10_tell_82 (by decide) ?_
          refine lv_icmp_ne (tgt := 97) hx hb dX10_tell_83 (by decide) (fun c8 => ?_) (fun c8 => ?_)
          · replace hw := hw.2 c8
            refine lv_aload_n hx hb dX10_tell_97 rfl (lv_at hl 1 rfl) ?_
            refine x_get (v := .ref (q 1)) hC hI kX10_tell_cX10 0 rfl rfl 0 (by decide) kX10_tell_2 rfl rfl dX10_tell_98 ?_
            refine lv_iload_n hx hb dX10_tell_101 rfl (lv_at hl 3 rfl) ?_
            refine x_put (v := .int a2) hC hI kX10_tell_cX0 tyX0 tyX0_ok nmX0 1 rfl rfl 5 (by decide) kX10_tell_3 rfl rfl rfl rfl (Nat.le_of_ble_eq_true rfl) dX10_tell_102 (fun H locs hI => ?_)
            have hI : wI s D A (fl (lX K q bits stops num unit strips a2 draw oldest_c4 known_c5 ring_c6 im iold iknown iring hasIm letters tbits tlen tat fig shI shH shL shS seaOf queue snum cost heap wait off les gre abv blw needed ocut opole)) H locs := hI
            refine lv_iload_n hx hb dX10_tell_105 rfl (lv_at hl 0 rfl) ?_
            subst hQ
            exact x_iret (u := (unit, strips, a2, oldest_c4, known_c5, ring_c6)) hC hI hr hlk hw rfl dX10_tell_106
          · replace hw := hw.1 c8
            refine lv_aload_n hx hb dX10_tell_86 rfl (lv_at hl 1 rfl) ?_
            refine x_get (v := .ref (q 1)) hC hI kX10_tell_cX10 0 rfl rfl 0 (by decide) kX10_tell_2 rfl rfl dX10_tell_87 ?_
            refine lv_iload_n hx hb dX10_tell_90 rfl (lv_at hl 3 rfl) ?_
            refine x_put (v := .int a2) hC hI kX10_tell_cX0 tyX0 tyX0_ok nmX0 1 rfl rfl 4 (by decide) kX10_tell_5 rfl rfl rfl rfl (Nat.le_of_ble_eq_true rfl) dX10_tell_91 (fun H locs hI => ?_)
            have hI : wI s D A (fl (lX K q bits stops num unit a2 caps draw oldest_c4 known_c5 ring_c6 im iold iknown iring hasIm letters tbits tlen tat fig shI shH shL shS seaOf queue snum cost heap wait off les gre abv blw needed ocut opole)) H locs := hI
            refine lv_goto (tgt := 105) hx hb dX10_tell_94 (by decide) ?_
            refine lv_iload_n hx hb dX10_tell_105 rfl (lv_at hl 0 rfl) ?_
            subst hQ
            exact x_iret (u := (unit, a2, caps, oldest_c4, known_c5, ring_c6)) hC hI hr hlk hw rfl dX10_tell_106
        · replace hw := hw.1 c7
          refine lv_aload_n hx hb dX10_tell_70 rfl (lv_at hl 1 rfl) ?_
          refine x_get (v := .ref (q 1)) hC hI kX10_tell_cX10 0 rfl rfl 0 (by decide) kX10_tell_2 rfl rfl dX10_tell_71 ?_
          refine lv_iload_n hx hb dX10_tell_74 rfl (lv_at hl 3 rfl) ?_
          refine x_put (v := .int a2) hC hI kX10_tell_cX0 tyX0 tyX0_ok nmX0 1 rfl rfl 3 (by decide) kX10_tell_6 rfl rfl rfl rfl (Nat.le_of_ble_eq_true rfl) dX10_tell_75 (fun H locs hI => ?_)
          have hI : wI s D A (fl (lX K q bits stops num a2 strips caps draw oldest_c4 known_c5 ring_c6 im iold iknown iring hasIm letters tbits tlen tat fig shI shH shL shS seaOf queue snum cost heap wait off les gre abv blw needed ocut opole)) H locs := hI
          refine lv_goto (tgt := 105) hx hb dX10_tell_78 (by decide) ?_
          refine lv_iload_n hx hb dX10_tell_105 rfl (lv_at hl 0 rfl) ?_
          subst hQ
          exact x_iret (u := (a2, strips, caps, oldest_c4, known_c5, ring_c6)) hC hI hr hlk hw rfl dX10_tell_106
      · replace hw := hw.1 c3
        refine lv_bipush (v := (-2 : Int32)) hx hb dX10_tell_52 (by decide) ?_
        subst hQ
        exact x_iret (u := (unit, strips, caps, oldest, known, ring)) hC hI hr hlk hw rfl dX10_tell_54
    refine lv_if_ne (tgt := 24) hx hb dX10_tell_11 (by decide) (fun c9 => ?_) (fun c9 => ?_)
    · replace hw := hw.2 c9
      refine lv_iload_n hx hb dX10_tell_24 rfl (lv_at hl 1 rfl) ?_
      refine lv_iconst (v := (1 : Int32)) hx hb dX10_tell_25 (by decide) ?_
      refine lv_icmp_ne (tgt := 39) hx hb dX10_tell_26 (by decide) (fun c10 => ?_) (fun c10 => ?_)
      · replace hw := hw.2 c10
        refine lv_aload_n hx hb dX10_tell_39 rfl (lv_at hl 0 rfl) ?_
        refine x_get (v := .ref (q 1)) hC hI kX10_tell_cX10 0 rfl rfl 0 (by decide) kX10_tell_2 rfl rfl dX10_tell_40 ?_
        refine x_get (v := .int caps) hC hI kX10_tell_cX0 1 rfl rfl 5 (by decide) kX10_tell_3 rfl rfl dX10_tell_43 ?_
        exact jn46 caps ls H locs hw hI (lv_sub hl [0, 1, 2] rfl)
      · replace hw := hw.1 c10
        refine lv_aload_n hx hb dX10_tell_29 rfl (lv_at hl 0 rfl) ?_
        refine x_get (v := .ref (q 1)) hC hI kX10_tell_cX10 0 rfl rfl 0 (by decide) kX10_tell_2 rfl rfl dX10_tell_30 ?_
        refine x_get (v := .int strips) hC hI kX10_tell_cX0 1 rfl rfl 4 (by decide) kX10_tell_5 rfl rfl dX10_tell_33 ?_
        refine lv_goto (tgt := 46) hx hb dX10_tell_36 (by decide) ?_
        exact jn46 strips ls H locs hw hI (lv_sub hl [0, 1, 2] rfl)
    · replace hw := hw.1 c9
      refine lv_aload_n hx hb dX10_tell_14 rfl (lv_at hl 0 rfl) ?_
      refine x_get (v := .ref (q 1)) hC hI kX10_tell_cX10 0 rfl rfl 0 (by decide) kX10_tell_2 rfl rfl dX10_tell_15 ?_
      refine x_get (v := .int unit) hC hI kX10_tell_cX0 1 rfl rfl 3 (by decide) kX10_tell_6 rfl rfl dX10_tell_18 ?_
      refine lv_goto (tgt := 46) hx hb dX10_tell_21 (by decide) ?_
      exact jn46 unit ls H locs hw hI (lv_sub hl [0, 1, 2] rfl)
  · replace hw := hw.1 c2
    refine lv_iconst (v := (-1 : Int32)) hx hb dX10_tell_8 (by decide) ?_
    subst hQ
    exact x_iret (u := (unit, strips, caps, oldest, known, ring)) hC hI hr hlk hw rfl dX10_tell_9
