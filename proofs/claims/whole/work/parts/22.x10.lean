def wX10_tell (a1 : Int32) (a2 : Int32) (bits : Nat → Int64) (stops : Nat → Int32) (num : Int32) (unit : Int32) (strips : Int32) (caps : Int32) (draw : Int32) (oldest : Int32) (known : Int32) (ring : Nat → GS) (post : Int32 → Int32 → Int32 → Int32 → Int32 → Int32 → (Nat → GS) → Prop) : Prop := wX10_mayBeTold a1 a2 (fun (r1 : Int32) => ((r1 = 0 → post (-1 : Int32) unit strips caps oldest known ring) ∧ (¬ r1 = 0 → ∃ J46 : Int32 → Prop, (∀ (t_46 : Int32), J46 t_46 → ((t_46 = a2 → post (-2 : Int32) unit strips caps oldest known ring) ∧ (¬ t_46 = a2 → wX4_keep oldest known ring bits stops num unit strips caps draw (fun (oldest_4 : Int32) (known_5 : Int32) (ring_6 : Nat → GS) => ((a1 = 0 → post t_46 a2 strips caps oldest_4 known_5 ring_6) ∧ (¬ a1 = 0 → ((a1 = (1 : Int32) → post t_46 unit a2 caps oldest_4 known_5 ring_6) ∧ (¬ a1 = (1 : Int32) → post t_46 unit strips a2 oldest_4 known_5 ring_6)))))))) ∧ ((a1 = 0 → J46 unit) ∧ (¬ a1 = 0 → ((a1 = (1 : Int32) → J46 strips) ∧ (¬ a1 = (1 : Int32) → J46 caps)))))))
def rmX10_tell : Room := { frames := 3, cells := 0, slots := 0, locals := 82 }
theorem kX10_tell_0 : Cond.fieldLink RX10 19 "GoreGlobe" "past" "LGoreGlobe$Past;" ∈ wsX10_tell := List.mem_cons_of_mem _ (List.mem_append_left _ (List.mem_append_left _ (List.mem_append_left _ (List.mem_append_left _ (List.mem_of_getElem? (i := 4) rfl)))))
theorem kX10_tell_cX10 : ∀ w ∈ wsX100, w ∈ wsX10_tell := fun _ h => List.mem_cons_of_mem _ (List.mem_append_left _ (List.mem_append_left _ (List.mem_append_right _ h)))
theorem kX10_tell_2 : Cond.fieldLink RX10 10 "GoreGlobe" "now" "LGoreGlobe$Globe;" ∈ wsX10_tell := List.mem_cons_of_mem _ (List.mem_append_left _ (List.mem_append_left _ (List.mem_append_left _ (List.mem_append_left _ (List.mem_of_getElem? (i := 0) rfl)))))
theorem kX10_tell_3 : Cond.fieldLink RX10 134 "GoreGlobe$Globe" "caps" "I" ∈ wsX10_tell := List.mem_cons_of_mem _ (List.mem_append_left _ (List.mem_append_left _ (List.mem_append_left _ (List.mem_append_left _ (List.mem_of_getElem? (i := 3) rfl)))))
theorem kX10_tell_cX0 : ∀ w ∈ wsX00, w ∈ wsX10_tell := fun _ h => List.mem_cons_of_mem _ (List.mem_append_left _ (List.mem_append_right _ h))
theorem kX10_tell_5 : Cond.fieldLink RX10 226 "GoreGlobe$Globe" "strips" "I" ∈ wsX10_tell := List.mem_cons_of_mem _ (List.mem_append_left _ (List.mem_append_left _ (List.mem_append_left _ (List.mem_append_left _ (List.mem_of_getElem? (i := 2) rfl)))))
theorem kX10_tell_6 : Cond.fieldLink RX10 111 "GoreGlobe$Globe" "unit" "I" ∈ wsX10_tell := List.mem_cons_of_mem _ (List.mem_append_left _ (List.mem_append_left _ (List.mem_append_left _ (List.mem_append_left _ (List.mem_of_getElem? (i := 1) rfl)))))
set_option maxHeartbeats 4000000 in
set_option maxRecDepth 100000 in
theorem mX10_tell (l : Launch) (D : va_G) (K : Nat → ClassId) (q : Nat → Nat) (sz : Nat) (a1 : Int32) (a2 : Int32) (bits : Nat → Int64) (stops : Nat → Int32) (num : Int32) (unit : Int32) (strips : Int32) (caps : Int32) (draw : Int32) (oldest : Int32) (known : Int32) (ring : Nat → GS) (im : GS) (iold : Int32) (iknown : Int32) (iring : Nat → GS) (hasIm : Int32) (letters : Nat → Int32) (tbits : Nat → Int64) (tlen : Int32) (tat : Int32) (fig : Int32) (shI : Nat → Nat → Int64) (shH : Nat → Int32) (shL : Nat → Int32) (shS : Nat → Int32) (seaOf : Nat → Int32) (queue : Nat → Int32) (snum : Int32) (cost : Nat → Int32) (heap : Nat → Int64) (wait : Int32) (off : Int32) (les : Int32) (gre : Int32) (abv : Int64) (blw : Int64) (needed : Int32) (ocut : Int32) (opole : Int32)  {post : Int32 → Int32 → Int32 → Int32 → Int32 → Int32 → (Nat → GS) → Prop} (hw : wX10_tell a1 a2 bits stops num unit strips caps draw oldest known ring post) : Met l yX10_tell wsX10_tell rmX10_tell (va_Pc [.ref (q 0), .int a1, .int a2] (cP D K (wX K q bits stops num unit strips caps draw oldest known ring im iold iknown iring hasIm letters tbits tlen tat fig shI shH shL shS seaOf queue snum cost heap wait off les gre abv blw needed ocut opole) sz)) (va_Qi (fun (r : Int32) (u : Int32 × Int32 × Int32 × Int32 × Int32 × (Nat → GS)) => post r u.1 u.2.1 u.2.2.1 u.2.2.2.1 u.2.2.2.2.1 u.2.2.2.2.2) (fun u t => cQ D K (wX K q bits stops num u.1 u.2.1 u.2.2.1 draw u.2.2.2.1 u.2.2.2.2.1 u.2.2.2.2.2 im iold iknown iring hasIm letters tbits tlen tat fig shI shH shL shS seaOf queue snum cost heap wait off les gre abv blw needed ocut opole) (va_A (wX K q bits stops num unit strips caps draw oldest known ring im iold iknown iring hasIm letters tbits tlen tat fig shI shH shL shS seaOf queue snum cost heap wait off les gre abv blw needed ocut opole) sz) t) (va_A (wX K q bits stops num unit strips caps draw oldest known ring im iold iknown iring hasIm letters tbits tlen tat fig shI shH shL shS seaOf queue snum cost heap wait off les gre abv blw needed ocut opole) sz)) 0 0 (va_A (wX K q bits stops num unit strips caps draw oldest known ring im iold iknown iring hasIm letters tbits tlen tat fig shI shH shL shS seaOf queue snum cost heap wait off les gre abv blw needed ocut opole) sz) := by
  refine x_entry (cc := cX10_tell) (maxL := 4) (ret := (some .int)) (QA := fun A => va_Qi (fun (r : Int32) (u : Int32 × Int32 × Int32 × Int32 × Int32 × (Nat → GS)) => post r u.1 u.2.1 u.2.2.1 u.2.2.2.1 u.2.2.2.2.1 u.2.2.2.2.2) (fun u t => cQ D K (wX K q bits stops num u.1 u.2.1 u.2.2.1 draw u.2.2.2.1 u.2.2.2.2.1 u.2.2.2.2.2 im iold iknown iring hasIm letters tbits tlen tat fig shI shH shL shS seaOf queue snum cost heap wait off les gre abv blw needed ocut opole) A t) A) (plainFor_of_name (by decide)) rfl (Nat.le_of_ble_eq_true rfl) ?_
  intro p e s m args below meth c A ls H Q hQ hC hlk hr hnm hI hl
  obtain ⟨hx, hb, hml, hown, hts, hK, hA, hZ⟩ := id hC
  obtain ⟨locs, hlocs⟩ : ∃ y : List Loc, y = [] := ⟨_, rfl⟩
  rw [← hlocs] at hI ⊢
  clear hlocs
  replace hl : lv_has ls 4 [(0, .ref (q 0)), (1, .int a1), (2, .int a2)] := hl
  replace hw : wX10_mayBeTold a1 a2 (fun (r1 : Int32) => ((r1 = 0 → post (-1 : Int32) unit strips caps oldest known ring) ∧ (¬ r1 = 0 → ∃ J46 : Int32 → Prop, (∀ (t_46 : Int32), J46 t_46 → ((t_46 = a2 → post (-2 : Int32) unit strips caps oldest known ring) ∧ (¬ t_46 = a2 → wX4_keep oldest known ring bits stops num unit strips caps draw (fun (oldest_4 : Int32) (known_5 : Int32) (ring_6 : Nat → GS) => ((a1 = 0 → post t_46 a2 strips caps oldest_4 known_5 ring_6) ∧ (¬ a1 = 0 → ((a1 = (1 : Int32) → post t_46 unit a2 caps oldest_4 known_5 ring_6) ∧ (¬ a1 = (1 : Int32) → post t_46 unit strips a2 oldest_4 known_5 ring_6)))))))) ∧ ((a1 = 0 → J46 unit) ∧ (¬ a1 = 0 → ((a1 = (1 : Int32) → J46 strips) ∧ (¬ a1 = (1 : Int32) → J46 caps))))))) := hw
  refine lv_iload_n hx hb dX10_tell_0 rfl (lv_at hl 1 rfl) ?_
  refine lv_iload_n hx hb dX10_tell_1 rfl (lv_at hl 2 rfl) ?_
  refine x_callSi (rest := []) hC hI [] (mX10_mayBeTold l D K  _ a1 a2 hw) (va_cwS 2 hts gX10_tell_X10_mayBeTold rfl rfl rfl (by decide +kernel) ⟨(Nat.le_of_ble_eq_true rfl), (Nat.le_of_ble_eq_true rfl)⟩) rfl rfl (fun _ => rfl) rfl hl.1 rfl (Nat.le_of_ble_eq_true rfl) dX10_tell_2 ⟨(Nat.le_of_ble_eq_true rfl), (Nat.le_of_ble_eq_true rfl)⟩ (fun r1 u H locs hw hI => ?_)
  try dsimp only at hw
  have hI : wI s D A (wX K q bits stops num unit strips caps draw oldest known ring im iold iknown iring hasIm letters tbits tlen tat fig shI shH shL shS seaOf queue snum cost heap wait off les gre abv blw needed ocut opole) H locs := hI
  refine lv_if_ne (tgt := 10) hx hb dX10_tell_5 (by decide) (fun c2 => ?_) (fun c2 => ?_)
  · replace hw := hw.2 c2
    refine lv_iload_n hx hb dX10_tell_10 rfl (lv_at hl 1 rfl) ?_
    obtain ⟨J46, hJ46, hw⟩ := hw
    have jn46 : ∀ (t_46 : Int32) (ls : Array Slot) (H : Heap) (locs : List Loc), J46 t_46 → wI s D A (wX K q bits stops num unit strips caps draw oldest known ring im iold iknown iring hasIm letters tbits tlen tat fig shI shH shL shS seaOf queue snum cost heap wait off les gre abv blw needed ocut opole) H locs → lv_has ls 4 [(0, .ref (q 0)), (1, .int a1), (2, .int a2)] → W p l e rmX10_tell s m args below meth c H locs 0 0 Q (F0 m 46 ls [.int t_46]) := by
      intro t_46 ls H locs hw hI hl
      replace hw := hJ46 t_46 hw
      refine lv_istore_n (lv' := [(3, .int t_46), (0, .ref (q 0)), (1, .int a1), (2, .int a2)]) hx hb dX10_tell_46 rfl hl (by decide) rfl (fun ls hl => ?_)
      refine lv_iload_n hx hb dX10_tell_47 rfl (lv_at hl 0 rfl) ?_
      refine lv_iload_n hx hb dX10_tell_48 rfl (lv_at hl 3 rfl) ?_
      refine lv_icmp_ne (tgt := 55) hx hb dX10_tell_49 (by decide) (fun c3 => ?_) (fun c3 => ?_)
      · replace hw := hw.2 c3
        refine lv_aload_n hx hb dX10_tell_55 rfl (lv_at hl 1 rfl) ?_
        refine x_get (v := .ref (q 4)) hC hI kX10_tell_cX10 0 rfl rfl 1 (by decide) kX10_tell_0 rfl rfl dX10_tell_56 ?_
        refine lv_aload_n hx hb dX10_tell_59 rfl (lv_at hl 1 rfl) ?_
        refine x_get (v := .ref (q 1)) hC hI kX10_tell_cX10 0 rfl rfl 0 (by decide) kX10_tell_2 rfl rfl dX10_tell_60 ?_
        refine x_callVv (rest := []) hC hI [4, 5, 6, 7, 8, 9, 10, 11, 12, 13, 14, 15, 16, 17, 18, 19, 20, 21, 22, 23, 1, 2, 3] (mX4_keep l D K (fun i => q (4 + i)) (fun i => q (1 + i)) _ oldest known ring bits stops num unit strips caps draw hw) (cwV 1 hts gX10_tell_X4_keep rfl rfl rfl (by decide +kernel) ⟨(Nat.le_of_ble_eq_true rfl), (Nat.le_of_ble_eq_true rfl)⟩) rfl rfl (fun _ => rfl) 4 2 rfl rfl rfl rfl hl.1 rfl (Nat.le_of_ble_eq_true rfl) dX10_tell_63 ⟨(Nat.le_of_ble_eq_true rfl), (Nat.le_of_ble_eq_true rfl)⟩ (fun u H locs hw hI => ?_)
        obtain ⟨oldest_4, known_5, ring_6⟩ := u
        try dsimp only at hw
        have hI : wI s D A (wX K q bits stops num unit strips caps draw oldest_4 known_5 ring_6 im iold iknown iring hasIm letters tbits tlen tat fig shI shH shL shS seaOf queue snum cost heap wait off les gre abv blw needed ocut opole) H locs := hI
        refine lv_iload_n hx hb dX10_tell_66 rfl (lv_at hl 2 rfl) ?_
        refine lv_if_ne (tgt := 81) hx hb dX10_tell_67 (by decide) (fun c7 => ?_) (fun c7 => ?_)
        · replace hw := hw.2 c7
          refine lv_iload_n hx hb dX10_tell_81 rfl (lv_at hl 2 rfl) ?_
          refine lv_iconst (v := (1 : Int32)) hx hb dX10_tell_82 (by decide) ?_
          refine lv_icmp_ne (tgt := 97) hx hb dX10_tell_83 (by decide) (fun c8 => ?_) (fun c8 => ?_)
          · replace hw := hw.2 c8
            refine lv_aload_n hx hb dX10_tell_97 rfl (lv_at hl 1 rfl) ?_
            refine x_get (v := .ref (q 1)) hC hI kX10_tell_cX10 0 rfl rfl 0 (by decide) kX10_tell_2 rfl rfl dX10_tell_98 ?_
            refine lv_iload_n hx hb dX10_tell_101 rfl (lv_at hl 3 rfl) ?_
            refine x_put (v := .int a2) hC hI kX10_tell_cX0 tyX0 tyX0_ok nmX0 1 rfl rfl 5 (by decide) kX10_tell_3 rfl rfl rfl rfl (Nat.le_of_ble_eq_true rfl) dX10_tell_102 (fun H locs hI => ?_)
            have hI : wI s D A (wX K q bits stops num unit strips a2 draw oldest_4 known_5 ring_6 im iold iknown iring hasIm letters tbits tlen tat fig shI shH shL shS seaOf queue snum cost heap wait off les gre abv blw needed ocut opole) H locs := hI
            refine lv_iload_n hx hb dX10_tell_105 rfl (lv_at hl 0 rfl) ?_
            subst hQ
            exact x_iret (u := (unit, strips, a2, oldest_4, known_5, ring_6)) hC hI hr hlk hw rfl dX10_tell_106
          · replace hw := hw.1 c8
            refine lv_aload_n hx hb dX10_tell_86 rfl (lv_at hl 1 rfl) ?_
            refine x_get (v := .ref (q 1)) hC hI kX10_tell_cX10 0 rfl rfl 0 (by decide) kX10_tell_2 rfl rfl dX10_tell_87 ?_
            refine lv_iload_n hx hb dX10_tell_90 rfl (lv_at hl 3 rfl) ?_
            refine x_put (v := .int a2) hC hI kX10_tell_cX0 tyX0 tyX0_ok nmX0 1 rfl rfl 4 (by decide) kX10_tell_5 rfl rfl rfl rfl (Nat.le_of_ble_eq_true rfl) dX10_tell_91 (fun H locs hI => ?_)
            have hI : wI s D A (wX K q bits stops num unit a2 caps draw oldest_4 known_5 ring_6 im iold iknown iring hasIm letters tbits tlen tat fig shI shH shL shS seaOf queue snum cost heap wait off les gre abv blw needed ocut opole) H locs := hI
            refine lv_goto (tgt := 105) hx hb dX10_tell_94 (by decide) ?_
            refine lv_iload_n hx hb dX10_tell_105 rfl (lv_at hl 0 rfl) ?_
            subst hQ
            exact x_iret (u := (unit, a2, caps, oldest_4, known_5, ring_6)) hC hI hr hlk hw rfl dX10_tell_106
        · replace hw := hw.1 c7
          refine lv_aload_n hx hb dX10_tell_70 rfl (lv_at hl 1 rfl) ?_
          refine x_get (v := .ref (q 1)) hC hI kX10_tell_cX10 0 rfl rfl 0 (by decide) kX10_tell_2 rfl rfl dX10_tell_71 ?_
          refine lv_iload_n hx hb dX10_tell_74 rfl (lv_at hl 3 rfl) ?_
          refine x_put (v := .int a2) hC hI kX10_tell_cX0 tyX0 tyX0_ok nmX0 1 rfl rfl 3 (by decide) kX10_tell_6 rfl rfl rfl rfl (Nat.le_of_ble_eq_true rfl) dX10_tell_75 (fun H locs hI => ?_)
          have hI : wI s D A (wX K q bits stops num a2 strips caps draw oldest_4 known_5 ring_6 im iold iknown iring hasIm letters tbits tlen tat fig shI shH shL shS seaOf queue snum cost heap wait off les gre abv blw needed ocut opole) H locs := hI
          refine lv_goto (tgt := 105) hx hb dX10_tell_78 (by decide) ?_
          refine lv_iload_n hx hb dX10_tell_105 rfl (lv_at hl 0 rfl) ?_
          subst hQ
          exact x_iret (u := (a2, strips, caps, oldest_4, known_5, ring_6)) hC hI hr hlk hw rfl dX10_tell_106
      · replace hw := hw.1 c3
        refine lv_bipush (v := (-2 : Int32)) hx hb dX10_tell_52 (by decide) ?_
        subst hQ
        exact x_iret (u := (unit, strips, caps, oldest, known, ring)) hC hI hr hlk hw rfl dX10_tell_54
    refine lv_if_ne (tgt := 24) hx hb dX10_tell_11 (by decide) (fun c9 => ?_) (fun c9 => ?_)
    · replace hw := hw.2 c9
      refine lv_iload_n hx hb dX10_tell_24 rfl (lv_at hl 1 rfl) ?_
      refine lv_iconst (v := (1 : Int32)) hx hb dX10_tell_25 (by decide) ?_
      refine lv_icmp_ne (tgt := 39) hx hb dX10_tell_26 (by decide) (fun c10 => ?_) (fun c10 => ?_)
      · replace hw := hw.2 c10
        refine lv_aload_n hx hb dX10_tell_39 rfl (lv_at hl 0 rfl) ?_
        refine x_get (v := .ref (q 1)) hC hI kX10_tell_cX10 0 rfl rfl 0 (by decide) kX10_tell_2 rfl rfl dX10_tell_40 ?_
        refine x_get (v := .int caps) hC hI kX10_tell_cX0 1 rfl rfl 5 (by decide) kX10_tell_3 rfl rfl dX10_tell_43 ?_
        exact jn46 caps ls H locs hw hI (lv_sub hl [0, 1, 2] rfl)
      · replace hw := hw.1 c10
        refine lv_aload_n hx hb dX10_tell_29 rfl (lv_at hl 0 rfl) ?_
        refine x_get (v := .ref (q 1)) hC hI kX10_tell_cX10 0 rfl rfl 0 (by decide) kX10_tell_2 rfl rfl dX10_tell_30 ?_
        refine x_get (v := .int strips) hC hI kX10_tell_cX0 1 rfl rfl 4 (by decide) kX10_tell_5 rfl rfl dX10_tell_33 ?_
        refine lv_goto (tgt := 46) hx hb dX10_tell_36 (by decide) ?_
        exact jn46 strips ls H locs hw hI (lv_sub hl [0, 1, 2] rfl)
    · replace hw := hw.1 c9
      refine lv_aload_n hx hb dX10_tell_14 rfl (lv_at hl 0 rfl) ?_
      refine x_get (v := .ref (q 1)) hC hI kX10_tell_cX10 0 rfl rfl 0 (by decide) kX10_tell_2 rfl rfl dX10_tell_15 ?_
      refine x_get (v := .int unit) hC hI kX10_tell_cX0 1 rfl rfl 3 (by decide) kX10_tell_6 rfl rfl dX10_tell_18 ?_
      refine lv_goto (tgt := 46) hx hb dX10_tell_21 (by decide) ?_
      exact jn46 unit ls H locs hw hI (lv_sub hl [0, 1, 2] rfl)
  · replace hw := hw.1 c2
    refine lv_iconst (v := (-1 : Int32)) hx hb dX10_tell_8 (by decide) ?_
    subst hQ
    exact x_iret (u := (unit, strips, caps, oldest, known, ring)) hC hI hr hlk hw rfl dX10_tell_9

def wX10_add (a1 : Int32) (bits : Nat → Int64) (stops : Nat → Int32) (num : Int32) (unit : Int32) (strips : Int32) (caps : Int32) (draw : Int32) (oldest : Int32) (known : Int32) (ring : Nat → GS) (post : Int32 → (Nat → Int32) → Int32 → Int32 → Int32 → (Nat → GS) → Prop) : Prop := wX1_isNumber a1 (fun (r1 : Int32) => ((r1 = 0 → post (-1 : Int32) stops num oldest known ring) ∧ (¬ r1 = 0 → ((num < (8 : Int32) → wX4_keep oldest known ring bits stops num unit strips caps draw (fun (oldest_4 : Int32) (known_5 : Int32) (ring_6 : Nat → GS) => vp_in num 8 ∧ ∀ x8 : Int32, x8 = num + (1 : Int32) → post x8 (upd stops num.toNatClampNeg a1) x8 oldest_4 known_5 ring_6)) ∧ (¬ num < (8 : Int32) → post (-3 : Int32) stops num oldest known ring)))))
def rmX10_add : Room := { frames := 3, cells := 0, slots := 0, locals := 82 }
theorem kX10_add_0 : Cond.fieldLink RX10 10 "GoreGlobe" "now" "LGoreGlobe$Globe;" ∈ wsX10_add := List.mem_cons_of_mem _ (List.mem_append_left _ (List.mem_append_left _ (List.mem_append_left _ (List.mem_append_left _ (List.mem_of_getElem? (i := 0) rfl)))))
theorem kX10_add_cX10 : ∀ w ∈ wsX100, w ∈ wsX10_add := fun _ h => List.mem_cons_of_mem _ (List.mem_append_left _ (List.mem_append_left _ (List.mem_append_right _ h)))
theorem kX10_add_2 : Cond.fieldLink RX10 204 "GoreGlobe$Globe" "stopNumber" "I" ∈ wsX10_add := List.mem_cons_of_mem _ (List.mem_append_left _ (List.mem_append_left _ (List.mem_append_left _ (List.mem_append_left _ (List.mem_of_getElem? (i := 1) rfl)))))
theorem kX10_add_cX0 : ∀ w ∈ wsX00, w ∈ wsX10_add := fun _ h => List.mem_cons_of_mem _ (List.mem_append_left _ (List.mem_append_right _ h))
theorem kX10_add_4 : Cond.fieldLink RX10 19 "GoreGlobe" "past" "LGoreGlobe$Past;" ∈ wsX10_add := List.mem_cons_of_mem _ (List.mem_append_left _ (List.mem_append_left _ (List.mem_append_left _ (List.mem_append_left _ (List.mem_of_getElem? (i := 2) rfl)))))
theorem kX10_add_5 : Cond.fieldLink RX10 207 "GoreGlobe$Globe" "stops" "[I" ∈ wsX10_add := List.mem_cons_of_mem _ (List.mem_append_left _ (List.mem_append_left _ (List.mem_append_left _ (List.mem_append_left _ (List.mem_of_getElem? (i := 3) rfl)))))
set_option maxHeartbeats 4000000 in
set_option maxRecDepth 100000 in
theorem mX10_add (l : Launch) (D : va_G) (K : Nat → ClassId) (q : Nat → Nat) (sz : Nat) (a1 : Int32) (bits : Nat → Int64) (stops : Nat → Int32) (num : Int32) (unit : Int32) (strips : Int32) (caps : Int32) (draw : Int32) (oldest : Int32) (known : Int32) (ring : Nat → GS) (im : GS) (iold : Int32) (iknown : Int32) (iring : Nat → GS) (hasIm : Int32) (letters : Nat → Int32) (tbits : Nat → Int64) (tlen : Int32) (tat : Int32) (fig : Int32) (shI : Nat → Nat → Int64) (shH : Nat → Int32) (shL : Nat → Int32) (shS : Nat → Int32) (seaOf : Nat → Int32) (queue : Nat → Int32) (snum : Int32) (cost : Nat → Int32) (heap : Nat → Int64) (wait : Int32) (off : Int32) (les : Int32) (gre : Int32) (abv : Int64) (blw : Int64) (needed : Int32) (ocut : Int32) (opole : Int32)  {post : Int32 → (Nat → Int32) → Int32 → Int32 → Int32 → (Nat → GS) → Prop} (hw : wX10_add a1 bits stops num unit strips caps draw oldest known ring post) : Met l yX10_add wsX10_add rmX10_add (va_Pc [.ref (q 0), .int a1] (cP D K (wX K q bits stops num unit strips caps draw oldest known ring im iold iknown iring hasIm letters tbits tlen tat fig shI shH shL shS seaOf queue snum cost heap wait off les gre abv blw needed ocut opole) sz)) (va_Qi (fun (r : Int32) (u : (Nat → Int32) × Int32 × Int32 × Int32 × (Nat → GS)) => post r u.1 u.2.1 u.2.2.1 u.2.2.2.1 u.2.2.2.2) (fun u t => cQ D K (wX K q bits u.1 u.2.1 unit strips caps draw u.2.2.1 u.2.2.2.1 u.2.2.2.2 im iold iknown iring hasIm letters tbits tlen tat fig shI shH shL shS seaOf queue snum cost heap wait off les gre abv blw needed ocut opole) (va_A (wX K q bits stops num unit strips caps draw oldest known ring im iold iknown iring hasIm letters tbits tlen tat fig shI shH shL shS seaOf queue snum cost heap wait off les gre abv blw needed ocut opole) sz) t) (va_A (wX K q bits stops num unit strips caps draw oldest known ring im iold iknown iring hasIm letters tbits tlen tat fig shI shH shL shS seaOf queue snum cost heap wait off les gre abv blw needed ocut opole) sz)) 0 0 (va_A (wX K q bits stops num unit strips caps draw oldest known ring im iold iknown iring hasIm letters tbits tlen tat fig shI shH shL shS seaOf queue snum cost heap wait off les gre abv blw needed ocut opole) sz) := by
  refine x_entry (cc := cX10_add) (maxL := 2) (ret := (some .int)) (QA := fun A => va_Qi (fun (r : Int32) (u : (Nat → Int32) × Int32 × Int32 × Int32 × (Nat → GS)) => post r u.1 u.2.1 u.2.2.1 u.2.2.2.1 u.2.2.2.2) (fun u t => cQ D K (wX K q bits u.1 u.2.1 unit strips caps draw u.2.2.1 u.2.2.2.1 u.2.2.2.2 im iold iknown iring hasIm letters tbits tlen tat fig shI shH shL shS seaOf queue snum cost heap wait off les gre abv blw needed ocut opole) A t) A) (plainFor_of_name (by decide)) rfl (Nat.le_of_ble_eq_true rfl) ?_
  intro p e s m args below meth c A ls H Q hQ hC hlk hr hnm hI hl
  obtain ⟨hx, hb, hml, hown, hts, hK, hA, hZ⟩ := id hC
  obtain ⟨locs, hlocs⟩ : ∃ y : List Loc, y = [] := ⟨_, rfl⟩
  rw [← hlocs] at hI ⊢
  clear hlocs
  replace hl : lv_has ls 2 [(0, .ref (q 0)), (1, .int a1)] := hl
  replace hw : wX1_isNumber a1 (fun (r1 : Int32) => ((r1 = 0 → post (-1 : Int32) stops num oldest known ring) ∧ (¬ r1 = 0 → ((num < (8 : Int32) → wX4_keep oldest known ring bits stops num unit strips caps draw (fun (oldest_4 : Int32) (known_5 : Int32) (ring_6 : Nat → GS) => vp_in num 8 ∧ ∀ x8 : Int32, x8 = num + (1 : Int32) → post x8 (upd stops num.toNatClampNeg a1) x8 oldest_4 known_5 ring_6)) ∧ (¬ num < (8 : Int32) → post (-3 : Int32) stops num oldest known ring))))) := hw
  refine lv_iload_n hx hb dX10_add_0 rfl (lv_at hl 1 rfl) ?_
  refine x_callSi (rest := []) hC hI [] (mX1_isNumber l D K  _ a1 hw) (va_cwS 1 hts gX10_add_X1_isNumber rfl rfl rfl (by decide +kernel) ⟨(Nat.le_of_ble_eq_true rfl), (Nat.le_of_ble_eq_true rfl)⟩) rfl rfl (fun _ => rfl) rfl hl.1 rfl (Nat.le_of_ble_eq_true rfl) dX10_add_1 ⟨(Nat.le_of_ble_eq_true rfl), (Nat.le_of_ble_eq_true rfl)⟩ (fun r1 u H locs hw hI => ?_)
  try dsimp only at hw
  have hI : wI s D A (wX K q bits stops num unit strips caps draw oldest known ring im iold iknown iring hasIm letters tbits tlen tat fig shI shH shL shS seaOf queue snum cost heap wait off les gre abv blw needed ocut opole) H locs := hI
  refine lv_if_ne (tgt := 9) hx hb dX10_add_4 (by decide) (fun c2 => ?_) (fun c2 => ?_)
  · replace hw := hw.2 c2
    refine lv_aload_n hx hb dX10_add_9 rfl (lv_at hl 0 rfl) ?_
    refine x_get (v := .ref (q 1)) hC hI kX10_add_cX10 0 rfl rfl 0 (by decide) kX10_add_0 rfl rfl dX10_add_10 ?_
    refine x_get (v := .int num) hC hI kX10_add_cX0 1 rfl rfl 2 (by decide) kX10_add_2 rfl rfl dX10_add_13 ?_
    refine lv_bipush (v := (8 : Int32)) hx hb dX10_add_16 (by decide) ?_
    refine lv_icmp_lt (tgt := 24) hx hb dX10_add_18 (by decide) (fun c3 => ?_) (fun c3 => ?_)
    · replace hw := hw.1 c3
      refine lv_aload_n hx hb dX10_add_24 rfl (lv_at hl 0 rfl) ?_
      refine x_get (v := .ref (q 4)) hC hI kX10_add_cX10 0 rfl rfl 1 (by decide) kX10_add_4 rfl rfl dX10_add_25 ?_
      refine lv_aload_n hx hb dX10_add_28 rfl (lv_at hl 0 rfl) ?_
      refine x_get (v := .ref (q 1)) hC hI kX10_add_cX10 0 rfl rfl 0 (by decide) kX10_add_0 rfl rfl dX10_add_29 ?_
      refine x_callVv (rest := []) hC hI [4, 5, 6, 7, 8, 9, 10, 11, 12, 13, 14, 15, 16, 17, 18, 19, 20, 21, 22, 23, 1, 2, 3] (mX4_keep l D K (fun i => q (4 + i)) (fun i => q (1 + i)) _ oldest known ring bits stops num unit strips caps draw hw) (cwV 1 hts gX10_add_X4_keep rfl rfl rfl (by decide +kernel) ⟨(Nat.le_of_ble_eq_true rfl), (Nat.le_of_ble_eq_true rfl)⟩) rfl rfl (fun _ => rfl) 4 2 rfl rfl rfl rfl hl.1 rfl (Nat.le_of_ble_eq_true rfl) dX10_add_32 ⟨(Nat.le_of_ble_eq_true rfl), (Nat.le_of_ble_eq_true rfl)⟩ (fun u H locs hw hI => ?_)
      obtain ⟨oldest_4, known_5, ring_6⟩ := u
      try dsimp only at hw
      have hI : wI s D A (wX K q bits stops num unit strips caps draw oldest_4 known_5 ring_6 im iold iknown iring hasIm letters tbits tlen tat fig shI shH shL shS seaOf queue snum cost heap wait off les gre abv blw needed ocut opole) H locs := hI
      refine lv_aload_n hx hb dX10_add_35 rfl (lv_at hl 0 rfl) ?_
      refine x_get (v := .ref (q 1)) hC hI kX10_add_cX10 0 rfl rfl 0 (by decide) kX10_add_0 rfl rfl dX10_add_36 ?_
      refine x_get (v := .ref (q 3)) hC hI kX10_add_cX0 1 rfl rfl 1 (by decide) kX10_add_5 rfl rfl dX10_add_39 ?_
      refine lv_aload_n hx hb dX10_add_42 rfl (lv_at hl 0 rfl) ?_
      refine x_get (v := .ref (q 1)) hC hI kX10_add_cX10 0 rfl rfl 0 (by decide) kX10_add_0 rfl rfl dX10_add_43 ?_
      refine x_get (v := .int num) hC hI kX10_add_cX0 1 rfl rfl 2 (by decide) kX10_add_2 rfl rfl dX10_add_46 ?_
      refine lv_iload_n hx hb dX10_add_49 rfl (lv_at hl 1 rfl) ?_
      obtain ⟨hc7, hw⟩ := hw
      refine x_iast (f := stops) hC hI 3 rfl hc7 dX10_add_50 (fun H locs hI => ?_)
      have hI : wI s D A (wX K q bits (upd stops num.toNatClampNeg a1) num unit strips caps draw oldest_4 known_5 ring_6 im iold iknown iring hasIm letters tbits tlen tat fig shI shH shL shS seaOf queue snum cost heap wait off les gre abv blw needed ocut opole) H locs := hI
      refine lv_aload_n hx hb dX10_add_51 rfl (lv_at hl 0 rfl) ?_
      refine x_get (v := .ref (q 1)) hC hI kX10_add_cX10 0 rfl rfl 0 (by decide) kX10_add_0 rfl rfl dX10_add_52 ?_
      refine lv_dup hx hb dX10_add_55 rfl ?_
      refine x_get (v := .int num) hC hI kX10_add_cX0 1 rfl rfl 2 (by decide) kX10_add_2 rfl rfl dX10_add_56 ?_
      refine lv_iconst (v := (1 : Int32)) hx hb dX10_add_59 (by decide) ?_
      refine lv_iadd hx hb dX10_add_60 ?_
      refine lv_topi (fun x8 ex8 => ?_)
      replace hw := hw x8 ex8
      refine x_put (v := .int x8) hC hI kX10_add_cX0 tyX0 tyX0_ok nmX0 1 rfl rfl 2 (by decide) kX10_add_2 rfl rfl rfl rfl (Nat.le_of_ble_eq_true rfl) dX10_add_61 (fun H locs hI => ?_)
      have hI : wI s D A (wX K q bits (upd stops num.toNatClampNeg a1) x8 unit strips caps draw oldest_4 known_5 ring_6 im iold iknown iring hasIm letters tbits tlen tat fig shI shH shL shS seaOf queue snum cost heap wait off les gre abv blw needed ocut opole) H locs := hI
      refine lv_aload_n hx hb dX10_add_64 rfl (lv_at hl 0 rfl) ?_
      refine x_get (v := .ref (q 1)) hC hI kX10_add_cX10 0 rfl rfl 0 (by decide) kX10_add_0 rfl rfl dX10_add_65 ?_
      refine x_get (v := .int x8) hC hI kX10_add_cX0 1 rfl rfl 2 (by decide) kX10_add_2 rfl rfl dX10_add_68 ?_
      subst hQ
      exact x_iret (u := ((upd stops num.toNatClampNeg a1), x8, oldest_4, known_5, ring_6)) hC hI hr hlk hw rfl dX10_add_71
    · replace hw := hw.2 c3
      refine lv_bipush (v := (-3 : Int32)) hx hb dX10_add_21 (by decide) ?_
      subst hQ
      exact x_iret (u := (stops, num, oldest, known, ring)) hC hI hr hlk hw rfl dX10_add_23
  · replace hw := hw.1 c2
    refine lv_iconst (v := (-1 : Int32)) hx hb dX10_add_7 (by decide) ?_
    subst hQ
    exact x_iret (u := (stops, num, oldest, known, ring)) hC hI hr hlk hw rfl dX10_add_8

def wX10_out (a1 : Int32) (bits : Nat → Int64) (stops : Nat → Int32) (num : Int32) (unit : Int32) (strips : Int32) (caps : Int32) (draw : Int32) (oldest : Int32) (known : Int32) (ring : Nat → GS) (post : Int32 → (Nat → Int32) → Int32 → Int32 → Int32 → (Nat → GS) → Prop) : Prop := wX1_isNumber a1 (fun (r1 : Int32) => ((r1 = 0 → post (-1 : Int32) stops num oldest known ring) ∧ (¬ r1 = 0 → wX0_stopsAt a1 stops num (fun (r3 : Int32) => ((r3 = 0 → post (-4 : Int32) stops num oldest known ring) ∧ (¬ r3 = 0 → wX4_keep oldest known ring bits stops num unit strips caps draw (fun (oldest_5 : Int32) (known_6 : Int32) (ring_7 : Nat → GS) => wX0_withoutStop a1 stops num (fun (r10 : Int32) (stops_8 : Nat → Int32) (num_9 : Int32) => post r10 stops_8 num_9 oldest_5 known_6 ring_7))))))))
def rmX10_out : Room := { frames := 3, cells := 0, slots := 0, locals := 82 }
theorem kX10_out_0 : Cond.fieldLink RX10 10 "GoreGlobe" "now" "LGoreGlobe$Globe;" ∈ wsX10_out := List.mem_cons_of_mem _ (List.mem_append_left _ (List.mem_append_left _ (List.mem_append_left _ (List.mem_append_left _ (List.mem_of_getElem? (i := 0) rfl)))))
theorem kX10_out_cX10 : ∀ w ∈ wsX100, w ∈ wsX10_out := fun _ h => List.mem_cons_of_mem _ (List.mem_append_left _ (List.mem_append_left _ (List.mem_append_right _ h)))
theorem kX10_out_2 : Cond.fieldLink RX10 19 "GoreGlobe" "past" "LGoreGlobe$Past;" ∈ wsX10_out := List.mem_cons_of_mem _ (List.mem_append_left _ (List.mem_append_left _ (List.mem_append_left _ (List.mem_append_left _ (List.mem_of_getElem? (i := 1) rfl)))))
set_option maxHeartbeats 4000000 in
set_option maxRecDepth 100000 in
theorem mX10_out (l : Launch) (D : va_G) (K : Nat → ClassId) (q : Nat → Nat) (sz : Nat) (a1 : Int32) (bits : Nat → Int64) (stops : Nat → Int32) (num : Int32) (unit : Int32) (strips : Int32) (caps : Int32) (draw : Int32) (oldest : Int32) (known : Int32) (ring : Nat → GS) (im : GS) (iold : Int32) (iknown : Int32) (iring : Nat → GS) (hasIm : Int32) (letters : Nat → Int32) (tbits : Nat → Int64) (tlen : Int32) (tat : Int32) (fig : Int32) (shI : Nat → Nat → Int64) (shH : Nat → Int32) (shL : Nat → Int32) (shS : Nat → Int32) (seaOf : Nat → Int32) (queue : Nat → Int32) (snum : Int32) (cost : Nat → Int32) (heap : Nat → Int64) (wait : Int32) (off : Int32) (les : Int32) (gre : Int32) (abv : Int64) (blw : Int64) (needed : Int32) (ocut : Int32) (opole : Int32)  {post : Int32 → (Nat → Int32) → Int32 → Int32 → Int32 → (Nat → GS) → Prop} (hw : wX10_out a1 bits stops num unit strips caps draw oldest known ring post) : Met l yX10_out wsX10_out rmX10_out (va_Pc [.ref (q 0), .int a1] (cP D K (wX K q bits stops num unit strips caps draw oldest known ring im iold iknown iring hasIm letters tbits tlen tat fig shI shH shL shS seaOf queue snum cost heap wait off les gre abv blw needed ocut opole) sz)) (va_Qi (fun (r : Int32) (u : (Nat → Int32) × Int32 × Int32 × Int32 × (Nat → GS)) => post r u.1 u.2.1 u.2.2.1 u.2.2.2.1 u.2.2.2.2) (fun u t => cQ D K (wX K q bits u.1 u.2.1 unit strips caps draw u.2.2.1 u.2.2.2.1 u.2.2.2.2 im iold iknown iring hasIm letters tbits tlen tat fig shI shH shL shS seaOf queue snum cost heap wait off les gre abv blw needed ocut opole) (va_A (wX K q bits stops num unit strips caps draw oldest known ring im iold iknown iring hasIm letters tbits tlen tat fig shI shH shL shS seaOf queue snum cost heap wait off les gre abv blw needed ocut opole) sz) t) (va_A (wX K q bits stops num unit strips caps draw oldest known ring im iold iknown iring hasIm letters tbits tlen tat fig shI shH shL shS seaOf queue snum cost heap wait off les gre abv blw needed ocut opole) sz)) 0 0 (va_A (wX K q bits stops num unit strips caps draw oldest known ring im iold iknown iring hasIm letters tbits tlen tat fig shI shH shL shS seaOf queue snum cost heap wait off les gre abv blw needed ocut opole) sz) := by
  refine x_entry (cc := cX10_out) (maxL := 2) (ret := (some .int)) (QA := fun A => va_Qi (fun (r : Int32) (u : (Nat → Int32) × Int32 × Int32 × Int32 × (Nat → GS)) => post r u.1 u.2.1 u.2.2.1 u.2.2.2.1 u.2.2.2.2) (fun u t => cQ D K (wX K q bits u.1 u.2.1 unit strips caps draw u.2.2.1 u.2.2.2.1 u.2.2.2.2 im iold iknown iring hasIm letters tbits tlen tat fig shI shH shL shS seaOf queue snum cost heap wait off les gre abv blw needed ocut opole) A t) A) (plainFor_of_name (by decide)) rfl (Nat.le_of_ble_eq_true rfl) ?_
  intro p e s m args below meth c A ls H Q hQ hC hlk hr hnm hI hl
  obtain ⟨hx, hb, hml, hown, hts, hK, hA, hZ⟩ := id hC
  obtain ⟨locs, hlocs⟩ : ∃ y : List Loc, y = [] := ⟨_, rfl⟩
  rw [← hlocs] at hI ⊢
  clear hlocs
  replace hl : lv_has ls 2 [(0, .ref (q 0)), (1, .int a1)] := hl
  replace hw : wX1_isNumber a1 (fun (r1 : Int32) => ((r1 = 0 → post (-1 : Int32) stops num oldest known ring) ∧ (¬ r1 = 0 → wX0_stopsAt a1 stops num (fun (r3 : Int32) => ((r3 = 0 → post (-4 : Int32) stops num oldest known ring) ∧ (¬ r3 = 0 → wX4_keep oldest known ring bits stops num unit strips caps draw (fun (oldest_5 : Int32) (known_6 : Int32) (ring_7 : Nat → GS) => wX0_withoutStop a1 stops num (fun (r10 : Int32) (stops_8 : Nat → Int32) (num_9 : Int32) => post r10 stops_8 num_9 oldest_5 known_6 ring_7)))))))) := hw
  refine lv_iload_n hx hb dX10_out_0 rfl (lv_at hl 1 rfl) ?_
  refine x_callSi (rest := []) hC hI [] (mX1_isNumber l D K  _ a1 hw) (va_cwS 1 hts gX10_out_X1_isNumber rfl rfl rfl (by decide +kernel) ⟨(Nat.le_of_ble_eq_true rfl), (Nat.le_of_ble_eq_true rfl)⟩) rfl rfl (fun _ => rfl) rfl hl.1 rfl (Nat.le_of_ble_eq_true rfl) dX10_out_1 ⟨(Nat.le_of_ble_eq_true rfl), (Nat.le_of_ble_eq_true rfl)⟩ (fun r1 u H locs hw hI => ?_)
  try dsimp only at hw
  have hI : wI s D A (wX K q bits stops num unit strips caps draw oldest known ring im iold iknown iring hasIm letters tbits tlen tat fig shI shH shL shS seaOf queue snum cost heap wait off les gre abv blw needed ocut opole) H locs := hI
  refine lv_if_ne (tgt := 9) hx hb dX10_out_4 (by decide) (fun c2 => ?_) (fun c2 => ?_)
  · replace hw := hw.2 c2
    refine lv_aload_n hx hb dX10_out_9 rfl (lv_at hl 0 rfl) ?_
    refine x_get (v := .ref (q 1)) hC hI kX10_out_cX10 0 rfl rfl 0 (by decide) kX10_out_0 rfl rfl dX10_out_10 ?_
    refine lv_iload_n hx hb dX10_out_13 rfl (lv_at hl 1 rfl) ?_
    refine x_callVi (rest := []) hC hI [1, 2, 3] (mX0_stopsAt l D K (fun i => q (1 + i)) _ a1 bits stops num unit strips caps draw hw) (cwV 1 hts gX10_out_X0_stopsAt rfl rfl rfl (by decide +kernel) ⟨(Nat.le_of_ble_eq_true rfl), (Nat.le_of_ble_eq_true rfl)⟩) rfl rfl (fun _ => rfl) 1 0 rfl rfl rfl rfl hl.1 rfl (Nat.le_of_ble_eq_true rfl) dX10_out_14 ⟨(Nat.le_of_ble_eq_true rfl), (Nat.le_of_ble_eq_true rfl)⟩ (fun r3 u H locs hw hI => ?_)
    try dsimp only at hw
    have hI : wI s D A (wX K q bits stops num unit strips caps draw oldest known ring im iold iknown iring hasIm letters tbits tlen tat fig shI shH shL shS seaOf queue snum cost heap wait off les gre abv blw needed ocut opole) H locs := hI
    refine lv_if_ne (tgt := 23) hx hb dX10_out_17 (by decide) (fun c4 => ?_) (fun c4 => ?_)
    · replace hw := hw.2 c4
      refine lv_aload_n hx hb dX10_out_23 rfl (lv_at hl 0 rfl) ?_
      refine x_get (v := .ref (q 4)) hC hI kX10_out_cX10 0 rfl rfl 1 (by decide) kX10_out_2 rfl rfl dX10_out_24 ?_
      refine lv_aload_n hx hb dX10_out_27 rfl (lv_at hl 0 rfl) ?_
      refine x_get (v := .ref (q 1)) hC hI kX10_out_cX10 0 rfl rfl 0 (by decide) kX10_out_0 rfl rfl dX10_out_28 ?_
      refine x_callVv (rest := []) hC hI [4, 5, 6, 7, 8, 9, 10, 11, 12, 13, 14, 15, 16, 17, 18, 19, 20, 21, 22, 23, 1, 2, 3] (mX4_keep l D K (fun i => q (4 + i)) (fun i => q (1 + i)) _ oldest known ring bits stops num unit strips caps draw hw) (cwV 1 hts gX10_out_X4_keep rfl rfl rfl (by decide +kernel) ⟨(Nat.le_of_ble_eq_true rfl), (Nat.le_of_ble_eq_true rfl)⟩) rfl rfl (fun _ => rfl) 4 2 rfl rfl rfl rfl hl.1 rfl (Nat.le_of_ble_eq_true rfl) dX10_out_31 ⟨(Nat.le_of_ble_eq_true rfl), (Nat.le_of_ble_eq_true rfl)⟩ (fun u H locs hw hI => ?_)
      obtain ⟨oldest_5, known_6, ring_7⟩ := u
      try dsimp only at hw
      have hI : wI s D A (wX K q bits stops num unit strips caps draw oldest_5 known_6 ring_7 im iold iknown iring hasIm letters tbits tlen tat fig shI shH shL shS seaOf queue snum cost heap wait off les gre abv blw needed ocut opole) H locs := hI
      refine lv_aload_n hx hb dX10_out_34 rfl (lv_at hl 0 rfl) ?_
      refine x_get (v := .ref (q 1)) hC hI kX10_out_cX10 0 rfl rfl 0 (by decide) kX10_out_0 rfl rfl dX10_out_35 ?_
      refine lv_iload_n hx hb dX10_out_38 rfl (lv_at hl 1 rfl) ?_
      refine x_callVi (rest := []) hC hI [1, 2, 3] (mX0_withoutStop l D K (fun i => q (1 + i)) _ a1 bits stops num unit strips caps draw hw) (cwV 1 hts gX10_out_X0_withoutStop rfl rfl rfl (by decide +kernel) ⟨(Nat.le_of_ble_eq_true rfl), (Nat.le_of_ble_eq_true rfl)⟩) rfl rfl (fun _ => rfl) 1 0 rfl rfl rfl rfl hl.1 rfl (Nat.le_of_ble_eq_true rfl) dX10_out_39 ⟨(Nat.le_of_ble_eq_true rfl), (Nat.le_of_ble_eq_true rfl)⟩ (fun r10 u H locs hw hI => ?_)
      obtain ⟨stops_8, num_9⟩ := u
      try dsimp only at hw
      have hI : wI s D A (wX K q bits stops_8 num_9 unit strips caps draw oldest_5 known_6 ring_7 im iold iknown iring hasIm letters tbits tlen tat fig shI shH shL shS seaOf queue snum cost heap wait off les gre abv blw needed ocut opole) H locs := hI
      subst hQ
      exact x_iret (u := (stops_8, num_9, oldest_5, known_6, ring_7)) hC hI hr hlk hw rfl dX10_out_42
    · replace hw := hw.1 c4
      refine lv_bipush (v := (-4 : Int32)) hx hb dX10_out_20 (by decide) ?_
      subst hQ
      exact x_iret (u := (stops, num, oldest, known, ring)) hC hI hr hlk hw rfl dX10_out_22
  · replace hw := hw.1 c2
    refine lv_iconst (v := (-1 : Int32)) hx hb dX10_out_7 (by decide) ?_
    subst hQ
    exact x_iret (u := (stops, num, oldest, known, ring)) hC hI hr hlk hw rfl dX10_out_8

def wX10_reverse  (bits : Nat → Int64) (stops : Nat → Int32) (num : Int32) (unit : Int32) (strips : Int32) (caps : Int32) (draw : Int32) (oldest : Int32) (known : Int32) (ring : Nat → GS) (post : Int32 → (Nat → Int32) → Int32 → Int32 → (Nat → GS) → Prop) : Prop := (((2 : Int32) ≤ num → wX4_keep oldest known ring bits stops num unit strips caps draw (fun (oldest_2 : Int32) (known_3 : Int32) (ring_4 : Nat → GS) => wX0_turnRoute stops num (fun (stops_5 : Nat → Int32) => post (stops_5 (0 : Int32).toNatClampNeg) stops_5 oldest_2 known_3 ring_4))) ∧ (¬ (2 : Int32) ≤ num → post (-2 : Int32) stops oldest known ring))
def rmX10_reverse : Room := { frames := 3, cells := 0, slots := 0, locals := 82 }
theorem kX10_reverse_0 : Cond.fieldLink RX10 10 "GoreGlobe" "now" "LGoreGlobe$Globe;" ∈ wsX10_reverse := List.mem_cons_of_mem _ (List.mem_append_left _ (List.mem_append_left _ (List.mem_append_left _ (List.mem_append_left _ (List.mem_of_getElem? (i := 0) rfl)))))
theorem kX10_reverse_cX10 : ∀ w ∈ wsX100, w ∈ wsX10_reverse := fun _ h => List.mem_cons_of_mem _ (List.mem_append_left _ (List.mem_append_left _ (List.mem_append_right _ h)))
theorem kX10_reverse_2 : Cond.fieldLink RX10 204 "GoreGlobe$Globe" "stopNumber" "I" ∈ wsX10_reverse := List.mem_cons_of_mem _ (List.mem_append_left _ (List.mem_append_left _ (List.mem_append_left _ (List.mem_append_left _ (List.mem_of_getElem? (i := 1) rfl)))))
theorem kX10_reverse_cX0 : ∀ w ∈ wsX00, w ∈ wsX10_reverse := fun _ h => List.mem_cons_of_mem _ (List.mem_append_left _ (List.mem_append_right _ h))
theorem kX10_reverse_4 : Cond.fieldLink RX10 19 "GoreGlobe" "past" "LGoreGlobe$Past;" ∈ wsX10_reverse := List.mem_cons_of_mem _ (List.mem_append_left _ (List.mem_append_left _ (List.mem_append_left _ (List.mem_append_left _ (List.mem_of_getElem? (i := 2) rfl)))))
theorem kX10_reverse_5 : Cond.fieldLink RX10 207 "GoreGlobe$Globe" "stops" "[I" ∈ wsX10_reverse := List.mem_cons_of_mem _ (List.mem_append_left _ (List.mem_append_left _ (List.mem_append_left _ (List.mem_append_left _ (List.mem_of_getElem? (i := 3) rfl)))))
set_option maxHeartbeats 4000000 in
set_option maxRecDepth 100000 in
theorem mX10_reverse (l : Launch) (D : va_G) (K : Nat → ClassId) (q : Nat → Nat) (sz : Nat)  (bits : Nat → Int64) (stops : Nat → Int32) (num : Int32) (unit : Int32) (strips : Int32) (caps : Int32) (draw : Int32) (oldest : Int32) (known : Int32) (ring : Nat → GS) (im : GS) (iold : Int32) (iknown : Int32) (iring : Nat → GS) (hasIm : Int32) (letters : Nat → Int32) (tbits : Nat → Int64) (tlen : Int32) (tat : Int32) (fig : Int32) (shI : Nat → Nat → Int64) (shH : Nat → Int32) (shL : Nat → Int32) (shS : Nat → Int32) (seaOf : Nat → Int32) (queue : Nat → Int32) (snum : Int32) (cost : Nat → Int32) (heap : Nat → Int64) (wait : Int32) (off : Int32) (les : Int32) (gre : Int32) (abv : Int64) (blw : Int64) (needed : Int32) (ocut : Int32) (opole : Int32)  {post : Int32 → (Nat → Int32) → Int32 → Int32 → (Nat → GS) → Prop} (hw : wX10_reverse  bits stops num unit strips caps draw oldest known ring post) : Met l yX10_reverse wsX10_reverse rmX10_reverse (va_Pc [.ref (q 0)] (cP D K (wX K q bits stops num unit strips caps draw oldest known ring im iold iknown iring hasIm letters tbits tlen tat fig shI shH shL shS seaOf queue snum cost heap wait off les gre abv blw needed ocut opole) sz)) (va_Qi (fun (r : Int32) (u : (Nat → Int32) × Int32 × Int32 × (Nat → GS)) => post r u.1 u.2.1 u.2.2.1 u.2.2.2) (fun u t => cQ D K (wX K q bits u.1 num unit strips caps draw u.2.1 u.2.2.1 u.2.2.2 im iold iknown iring hasIm letters tbits tlen tat fig shI shH shL shS seaOf queue snum cost heap wait off les gre abv blw needed ocut opole) (va_A (wX K q bits stops num unit strips caps draw oldest known ring im iold iknown iring hasIm letters tbits tlen tat fig shI shH shL shS seaOf queue snum cost heap wait off les gre abv blw needed ocut opole) sz) t) (va_A (wX K q bits stops num unit strips caps draw oldest known ring im iold iknown iring hasIm letters tbits tlen tat fig shI shH shL shS seaOf queue snum cost heap wait off les gre abv blw needed ocut opole) sz)) 0 0 (va_A (wX K q bits stops num unit strips caps draw oldest known ring im iold iknown iring hasIm letters tbits tlen tat fig shI shH shL shS seaOf queue snum cost heap wait off les gre abv blw needed ocut opole) sz) := by
  refine x_entry (cc := cX10_reverse) (maxL := 1) (ret := (some .int)) (QA := fun A => va_Qi (fun (r : Int32) (u : (Nat → Int32) × Int32 × Int32 × (Nat → GS)) => post r u.1 u.2.1 u.2.2.1 u.2.2.2) (fun u t => cQ D K (wX K q bits u.1 num unit strips caps draw u.2.1 u.2.2.1 u.2.2.2 im iold iknown iring hasIm letters tbits tlen tat fig shI shH shL shS seaOf queue snum cost heap wait off les gre abv blw needed ocut opole) A t) A) (plainFor_of_name (by decide)) rfl (Nat.le_of_ble_eq_true rfl) ?_
  intro p e s m args below meth c A ls H Q hQ hC hlk hr hnm hI hl
  obtain ⟨hx, hb, hml, hown, hts, hK, hA, hZ⟩ := id hC
  obtain ⟨locs, hlocs⟩ : ∃ y : List Loc, y = [] := ⟨_, rfl⟩
  rw [← hlocs] at hI ⊢
  clear hlocs
  replace hl : lv_has ls 1 [(0, .ref (q 0))] := hl
  replace hw : (((2 : Int32) ≤ num → wX4_keep oldest known ring bits stops num unit strips caps draw (fun (oldest_2 : Int32) (known_3 : Int32) (ring_4 : Nat → GS) => wX0_turnRoute stops num (fun (stops_5 : Nat → Int32) => post (stops_5 (0 : Int32).toNatClampNeg) stops_5 oldest_2 known_3 ring_4))) ∧ (¬ (2 : Int32) ≤ num → post (-2 : Int32) stops oldest known ring)) := hw
  refine lv_aload_n hx hb dX10_reverse_0 rfl (lv_at hl 0 rfl) ?_
  refine x_get (v := .ref (q 1)) hC hI kX10_reverse_cX10 0 rfl rfl 0 (by decide) kX10_reverse_0 rfl rfl dX10_reverse_1 ?_
  refine x_get (v := .int num) hC hI kX10_reverse_cX0 1 rfl rfl 2 (by decide) kX10_reverse_2 rfl rfl dX10_reverse_4 ?_
  refine lv_iconst (v := (2 : Int32)) hx hb dX10_reverse_7 (by decide) ?_
  refine lv_icmp_ge (tgt := 14) hx hb dX10_reverse_8 (by decide) (fun c1 => ?_) (fun c1 => ?_)
  · replace hw := hw.1 c1
    refine lv_aload_n hx hb dX10_reverse_14 rfl (lv_at hl 0 rfl) ?_
    refine x_get (v := .ref (q 4)) hC hI kX10_reverse_cX10 0 rfl rfl 1 (by decide) kX10_reverse_4 rfl rfl dX10_reverse_15 ?_
    refine lv_aload_n hx hb dX10_reverse_18 rfl (lv_at hl 0 rfl) ?_
    refine x_get (v := .ref (q 1)) hC hI kX10_reverse_cX10 0 rfl rfl 0 (by decide) kX10_reverse_0 rfl rfl dX10_reverse_19 ?_
    refine x_callVv (rest := []) hC hI [4, 5, 6, 7, 8, 9, 10, 11, 12, 13, 14, 15, 16, 17, 18, 19, 20, 21, 22, 23, 1, 2, 3] (mX4_keep l D K (fun i => q (4 + i)) (fun i => q (1 + i)) _ oldest known ring bits stops num unit strips caps draw hw) (cwV 1 hts gX10_reverse_X4_keep rfl rfl rfl (by decide +kernel) ⟨(Nat.le_of_ble_eq_true rfl), (Nat.le_of_ble_eq_true rfl)⟩) rfl rfl (fun _ => rfl) 4 2 rfl rfl rfl rfl hl.1 rfl (Nat.le_of_ble_eq_true rfl) dX10_reverse_22 ⟨(Nat.le_of_ble_eq_true rfl), (Nat.le_of_ble_eq_true rfl)⟩ (fun u H locs hw hI => ?_)
    obtain ⟨oldest_2, known_3, ring_4⟩ := u
    try dsimp only at hw
    have hI : wI s D A (wX K q bits stops num unit strips caps draw oldest_2 known_3 ring_4 im iold iknown iring hasIm letters tbits tlen tat fig shI shH shL shS seaOf queue snum cost heap wait off les gre abv blw needed ocut opole) H locs := hI
    refine lv_aload_n hx hb dX10_reverse_25 rfl (lv_at hl 0 rfl) ?_
    refine x_get (v := .ref (q 1)) hC hI kX10_reverse_cX10 0 rfl rfl 0 (by decide) kX10_reverse_0 rfl rfl dX10_reverse_26 ?_
    refine x_callVv (rest := []) hC hI [1, 2, 3] (mX0_turnRoute l D K (fun i => q (1 + i)) _ bits stops num unit strips caps draw hw) (cwV 0 hts gX10_reverse_X0_turnRoute rfl rfl rfl (by decide +kernel) ⟨(Nat.le_of_ble_eq_true rfl), (Nat.le_of_ble_eq_true rfl)⟩) rfl rfl (fun _ => rfl) 1 0 rfl rfl rfl rfl hl.1 rfl (Nat.le_of_ble_eq_true rfl) dX10_reverse_29 ⟨(Nat.le_of_ble_eq_true rfl), (Nat.le_of_ble_eq_true rfl)⟩ (fun stops_5 H locs hw hI => ?_)
    have hI : wI s D A (wX K q bits stops_5 num unit strips caps draw oldest_2 known_3 ring_4 im iold iknown iring hasIm letters tbits tlen tat fig shI shH shL shS seaOf queue snum cost heap wait off les gre abv blw needed ocut opole) H locs := hI
    refine lv_aload_n hx hb dX10_reverse_32 rfl (lv_at hl 0 rfl) ?_
    refine x_get (v := .ref (q 1)) hC hI kX10_reverse_cX10 0 rfl rfl 0 (by decide) kX10_reverse_0 rfl rfl dX10_reverse_33 ?_
    refine x_get (v := .ref (q 3)) hC hI kX10_reverse_cX0 1 rfl rfl 1 (by decide) kX10_reverse_5 rfl rfl dX10_reverse_36 ?_
    refine lv_iconst (v := (0 : Int32)) hx hb dX10_reverse_39 (by decide) ?_
    refine x_iald (f := stops_5) hC hI 3 rfl (by unfold vp_in; decide) dX10_reverse_40 ?_
    subst hQ
    exact x_iret (u := (stops_5, oldest_2, known_3, ring_4)) hC hI hr hlk hw rfl dX10_reverse_41
  · replace hw := hw.2 c1
    refine lv_bipush (v := (-2 : Int32)) hx hb dX10_reverse_11 (by decide) ?_
    subst hQ
    exact x_iret (u := (stops, oldest, known, ring)) hC hI hr hlk hw rfl dX10_reverse_13

def wX10_type (a1 : Int32) (letters : Nat → Int32) (tlen : Int32) (post : Int32 → (Nat → Int32) → Int32 → Prop) : Prop := wX10_isIn a1 (32 : Int32) (126 : Int32) (fun (r1 : Int32) => ((r1 = 0 → post (-1 : Int32) letters tlen) ∧ (¬ r1 = 0 → ((tlen < (90 : Int32) → vp_in tlen 90 ∧ ∀ x5 : Int32, x5 = tlen + (1 : Int32) → post x5 (upd letters tlen.toNatClampNeg a1) x5) ∧ (¬ tlen < (90 : Int32) → post (-3 : Int32) letters tlen)))))
def rmX10_type : Room := { frames := 1, cells := 0, slots := 0, locals := 22 }
theorem kX10_type_0 : Cond.fieldLink RX10 32 "GoreGlobe" "tape" "LGoreGlobe$Tape;" ∈ wsX10_type := List.mem_cons_of_mem _ (List.mem_append_left _ (List.mem_append_left _ (List.mem_of_getElem? (i := 0) rfl)))
theorem kX10_type_cX10 : ∀ w ∈ wsX100, w ∈ wsX10_type := fun _ h => List.mem_cons_of_mem _ (List.mem_append_left _ (List.mem_append_right _ h))
theorem kX10_type_2 : Cond.fieldLink RX10 257 "GoreGlobe$Tape" "length" "I" ∈ wsX10_type := List.mem_cons_of_mem _ (List.mem_append_left _ (List.mem_append_left _ (List.mem_of_getElem? (i := 1) rfl)))
theorem kX10_type_cX7 : ∀ w ∈ wsX70, w ∈ wsX10_type := fun _ h => List.mem_cons_of_mem _ (List.mem_append_right _ h)
theorem kX10_type_4 : Cond.fieldLink RX10 260 "GoreGlobe$Tape" "letters" "[I" ∈ wsX10_type := List.mem_cons_of_mem _ (List.mem_append_left _ (List.mem_append_left _ (List.mem_of_getElem? (i := 2) rfl)))
set_option maxHeartbeats 4000000 in
set_option maxRecDepth 100000 in
theorem mX10_type (l : Launch) (D : va_G) (K : Nat → ClassId) (q : Nat → Nat) (sz : Nat) (a1 : Int32) (bits : Nat → Int64) (stops : Nat → Int32) (num : Int32) (unit : Int32) (strips : Int32) (caps : Int32) (draw : Int32) (oldest : Int32) (known : Int32) (ring : Nat → GS) (im : GS) (iold : Int32) (iknown : Int32) (iring : Nat → GS) (hasIm : Int32) (letters : Nat → Int32) (tbits : Nat → Int64) (tlen : Int32) (tat : Int32) (fig : Int32) (shI : Nat → Nat → Int64) (shH : Nat → Int32) (shL : Nat → Int32) (shS : Nat → Int32) (seaOf : Nat → Int32) (queue : Nat → Int32) (snum : Int32) (cost : Nat → Int32) (heap : Nat → Int64) (wait : Int32) (off : Int32) (les : Int32) (gre : Int32) (abv : Int64) (blw : Int64) (needed : Int32) (ocut : Int32) (opole : Int32)  {post : Int32 → (Nat → Int32) → Int32 → Prop} (hw : wX10_type a1 letters tlen post) : Met l yX10_type wsX10_type rmX10_type (va_Pc [.ref (q 0), .int a1] (cP D K (wX K q bits stops num unit strips caps draw oldest known ring im iold iknown iring hasIm letters tbits tlen tat fig shI shH shL shS seaOf queue snum cost heap wait off les gre abv blw needed ocut opole) sz)) (va_Qi (fun (r : Int32) (u : (Nat → Int32) × Int32) => post r u.1 u.2) (fun u t => cQ D K (wX K q bits stops num unit strips caps draw oldest known ring im iold iknown iring hasIm u.1 tbits u.2 tat fig shI shH shL shS seaOf queue snum cost heap wait off les gre abv blw needed ocut opole) (va_A (wX K q bits stops num unit strips caps draw oldest known ring im iold iknown iring hasIm letters tbits tlen tat fig shI shH shL shS seaOf queue snum cost heap wait off les gre abv blw needed ocut opole) sz) t) (va_A (wX K q bits stops num unit strips caps draw oldest known ring im iold iknown iring hasIm letters tbits tlen tat fig shI shH shL shS seaOf queue snum cost heap wait off les gre abv blw needed ocut opole) sz)) 0 0 (va_A (wX K q bits stops num unit strips caps draw oldest known ring im iold iknown iring hasIm letters tbits tlen tat fig shI shH shL shS seaOf queue snum cost heap wait off les gre abv blw needed ocut opole) sz) := by
  refine x_entry (cc := cX10_type) (maxL := 2) (ret := (some .int)) (QA := fun A => va_Qi (fun (r : Int32) (u : (Nat → Int32) × Int32) => post r u.1 u.2) (fun u t => cQ D K (wX K q bits stops num unit strips caps draw oldest known ring im iold iknown iring hasIm u.1 tbits u.2 tat fig shI shH shL shS seaOf queue snum cost heap wait off les gre abv blw needed ocut opole) A t) A) (plainFor_of_name (by decide)) rfl (Nat.le_of_ble_eq_true rfl) ?_
  intro p e s m args below meth c A ls H Q hQ hC hlk hr hnm hI hl
  obtain ⟨hx, hb, hml, hown, hts, hK, hA, hZ⟩ := id hC
  obtain ⟨locs, hlocs⟩ : ∃ y : List Loc, y = [] := ⟨_, rfl⟩
  rw [← hlocs] at hI ⊢
  clear hlocs
  replace hl : lv_has ls 2 [(0, .ref (q 0)), (1, .int a1)] := hl
  replace hw : wX10_isIn a1 (32 : Int32) (126 : Int32) (fun (r1 : Int32) => ((r1 = 0 → post (-1 : Int32) letters tlen) ∧ (¬ r1 = 0 → ((tlen < (90 : Int32) → vp_in tlen 90 ∧ ∀ x5 : Int32, x5 = tlen + (1 : Int32) → post x5 (upd letters tlen.toNatClampNeg a1) x5) ∧ (¬ tlen < (90 : Int32) → post (-3 : Int32) letters tlen))))) := hw
  refine lv_iload_n hx hb dX10_type_0 rfl (lv_at hl 1 rfl) ?_
  refine lv_bipush (v := (32 : Int32)) hx hb dX10_type_1 (by decide) ?_
  refine lv_bipush (v := (126 : Int32)) hx hb dX10_type_3 (by decide) ?_
  refine x_callSi (rest := []) hC hI [] (mX10_isIn l D K  _ a1 (32 : Int32) (126 : Int32) hw) (va_cwS 3 hts gX10_type_X10_isIn rfl rfl rfl (by decide +kernel) ⟨(Nat.le_of_ble_eq_true rfl), (Nat.le_of_ble_eq_true rfl)⟩) rfl rfl (fun _ => rfl) rfl hl.1 rfl (Nat.le_of_ble_eq_true rfl) dX10_type_5 ⟨(Nat.le_of_ble_eq_true rfl), (Nat.le_of_ble_eq_true rfl)⟩ (fun r1 u H locs hw hI => ?_)
  try dsimp only at hw
  have hI : wI s D A (wX K q bits stops num unit strips caps draw oldest known ring im iold iknown iring hasIm letters tbits tlen tat fig shI shH shL shS seaOf queue snum cost heap wait off les gre abv blw needed ocut opole) H locs := hI
  refine lv_if_ne (tgt := 13) hx hb dX10_type_8 (by decide) (fun c2 => ?_) (fun c2 => ?_)
  · replace hw := hw.2 c2
    refine lv_aload_n hx hb dX10_type_13 rfl (lv_at hl 0 rfl) ?_
    refine x_get (v := .ref (q 47)) hC hI kX10_type_cX10 0 rfl rfl 5 (by decide) kX10_type_0 rfl rfl dX10_type_14 ?_
    refine x_get (v := .int tlen) hC hI kX10_type_cX7 47 rfl rfl 1 (by decide) kX10_type_2 rfl rfl dX10_type_17 ?_
    refine lv_bipush (v := (90 : Int32)) hx hb dX10_type_20 (by decide) ?_
    refine lv_icmp_lt (tgt := 28) hx hb dX10_type_22 (by decide) (fun c3 => ?_) (fun c3 => ?_)
    · replace hw := hw.1 c3
      refine lv_aload_n hx hb dX10_type_28 rfl (lv_at hl 0 rfl) ?_
      refine x_get (v := .ref (q 47)) hC hI kX10_type_cX10 0 rfl rfl 5 (by decide) kX10_type_0 rfl rfl dX10_type_29 ?_
      refine x_get (v := .ref (q 48)) hC hI kX10_type_cX7 47 rfl rfl 0 (by decide) kX10_type_4 rfl rfl dX10_type_32 ?_
      refine lv_aload_n hx hb dX10_type_35 rfl (lv_at hl 0 rfl) ?_
      refine x_get (v := .ref (q 47)) hC hI kX10_type_cX10 0 rfl rfl 5 (by decide) kX10_type_0 rfl rfl dX10_type_36 ?_
      refine x_get (v := .int tlen) hC hI kX10_type_cX7 47 rfl rfl 1 (by decide) kX10_type_2 rfl rfl dX10_type_39 ?_
      refine lv_iload_n hx hb dX10_type_42 rfl (lv_at hl 1 rfl) ?_
      obtain ⟨hc4, hw⟩ := hw
      refine x_iast (f := letters) hC hI 48 rfl hc4 dX10_type_43 (fun H locs hI => ?_)
      have hI : wI s D A (wX K q bits stops num unit strips caps draw oldest known ring im iold iknown iring hasIm (upd letters tlen.toNatClampNeg a1) tbits tlen tat fig shI shH shL shS seaOf queue snum cost heap wait off les gre abv blw needed ocut opole) H locs := hI
      refine lv_aload_n hx hb dX10_type_44 rfl (lv_at hl 0 rfl) ?_
      refine x_get (v := .ref (q 47)) hC hI kX10_type_cX10 0 rfl rfl 5 (by decide) kX10_type_0 rfl rfl dX10_type_45 ?_
      refine lv_dup hx hb dX10_type_48 rfl ?_
      refine x_get (v := .int tlen) hC hI kX10_type_cX7 47 rfl rfl 1 (by decide) kX10_type_2 rfl rfl dX10_type_49 ?_
      refine lv_iconst (v := (1 : Int32)) hx hb dX10_type_52 (by decide) ?_
      refine lv_iadd hx hb dX10_type_53 ?_
      refine lv_topi (fun x5 ex5 => ?_)
      replace hw := hw x5 ex5
      refine x_put (v := .int x5) hC hI kX10_type_cX7 tyX7 tyX7_ok nmX7 47 rfl rfl 1 (by decide) kX10_type_2 rfl rfl rfl rfl (Nat.le_of_ble_eq_true rfl) dX10_type_54 (fun H locs hI => ?_)
      have hI : wI s D A (wX K q bits stops num unit strips caps draw oldest known ring im iold iknown iring hasIm (upd letters tlen.toNatClampNeg a1) tbits x5 tat fig shI shH shL shS seaOf queue snum cost heap wait off les gre abv blw needed ocut opole) H locs := hI
      refine lv_aload_n hx hb dX10_type_57 rfl (lv_at hl 0 rfl) ?_
      refine x_get (v := .ref (q 47)) hC hI kX10_type_cX10 0 rfl rfl 5 (by decide) kX10_type_0 rfl rfl dX10_type_58 ?_
      refine x_get (v := .int x5) hC hI kX10_type_cX7 47 rfl rfl 1 (by decide) kX10_type_2 rfl rfl dX10_type_61 ?_
      subst hQ
      exact x_iret (u := ((upd letters tlen.toNatClampNeg a1), x5)) hC hI hr hlk hw rfl dX10_type_64
    · replace hw := hw.2 c3
      refine lv_bipush (v := (-3 : Int32)) hx hb dX10_type_25 (by decide) ?_
      subst hQ
      exact x_iret (u := (letters, tlen)) hC hI hr hlk hw rfl dX10_type_27
  · replace hw := hw.1 c2
    refine lv_iconst (v := (-1 : Int32)) hx hb dX10_type_11 (by decide) ?_
    subst hQ
    exact x_iret (u := (letters, tlen)) hC hI hr hlk hw rfl dX10_type_12

def wX10_read  (bits : Nat → Int64) (stops : Nat → Int32) (num : Int32) (unit : Int32) (strips : Int32) (caps : Int32) (draw : Int32) (oldest : Int32) (known : Int32) (ring : Nat → GS) (letters : Nat → Int32) (tbits : Nat → Int64) (tlen : Int32) (fig : Int32) (post : Int32 → (Nat → Int64) → Int32 → Int32 → (Nat → GS) → (Nat → Int64) → Int32 → Int32 → Int32 → Prop) : Prop := wX7_understand letters tbits tlen fig (fun (r4 : Int32) (tbits_1 : Nat → Int64) (tat_2 : Int32) (fig_3 : Int32) => ((r4 = (-1 : Int32) → wX4_keep oldest known ring bits stops num unit strips caps draw (fun (oldest_6 : Int32) (known_7 : Int32) (ring_8 : Nat → GS) => wX0_landNumber (va_cpy tbits_1 bits 0 0 5) (fun (r9 : Int32) => post r9 (va_cpy tbits_1 bits 0 0 5) oldest_6 known_7 ring_8 tbits_1 (0 : Int32) tat_2 fig_3))) ∧ (¬ r4 = (-1 : Int32) → post ((-20 : Int32) - r4) bits oldest known ring tbits_1 (0 : Int32) tat_2 fig_3)))
def rmX10_read : Room := { frames := 5, cells := 0, slots := 0, locals := 114 }
theorem kX10_read_0 : Cond.fieldLink RX10 32 "GoreGlobe" "tape" "LGoreGlobe$Tape;" ∈ wsX10_read := List.mem_cons_of_mem _ (List.mem_append_left _ (List.mem_append_left _ (List.mem_append_left _ (List.mem_append_left _ (List.mem_append_left _ (List.mem_of_getElem? (i := 0) rfl))))))
theorem kX10_read_cX10 : ∀ w ∈ wsX100, w ∈ wsX10_read := fun _ h => List.mem_cons_of_mem _ (List.mem_append_left _ (List.mem_append_left _ (List.mem_append_left _ (List.mem_append_right _ h))))
theorem kX10_read_2 : Cond.fieldLink RX10 257 "GoreGlobe$Tape" "length" "I" ∈ wsX10_read := List.mem_cons_of_mem _ (List.mem_append_left _ (List.mem_append_left _ (List.mem_append_left _ (List.mem_append_left _ (List.mem_append_left _ (List.mem_of_getElem? (i := 1) rfl))))))
theorem kX10_read_cX7 : ∀ w ∈ wsX70, w ∈ wsX10_read := fun _ h => List.mem_cons_of_mem _ (List.mem_append_left _ (List.mem_append_left _ (List.mem_append_right _ h)))
theorem kX10_read_4 : Cond.fieldLink RX10 19 "GoreGlobe" "past" "LGoreGlobe$Past;" ∈ wsX10_read := List.mem_cons_of_mem _ (List.mem_append_left _ (List.mem_append_left _ (List.mem_append_left _ (List.mem_append_left _ (List.mem_append_left _ (List.mem_of_getElem? (i := 2) rfl))))))
theorem kX10_read_5 : Cond.fieldLink RX10 10 "GoreGlobe" "now" "LGoreGlobe$Globe;" ∈ wsX10_read := List.mem_cons_of_mem _ (List.mem_append_left _ (List.mem_append_left _ (List.mem_append_left _ (List.mem_append_left _ (List.mem_append_left _ (List.mem_of_getElem? (i := 3) rfl))))))
theorem kX10_read_6 : Cond.fieldLink RX10 266 "GoreGlobe$Tape" "landBits" "[J" ∈ wsX10_read := List.mem_cons_of_mem _ (List.mem_append_left _ (List.mem_append_left _ (List.mem_append_left _ (List.mem_append_left _ (List.mem_append_left _ (List.mem_of_getElem? (i := 4) rfl))))))
theorem kX10_read_7 : Cond.fieldLink RX10 270 "GoreGlobe$Globe" "landBits" "[J" ∈ wsX10_read := List.mem_cons_of_mem _ (List.mem_append_left _ (List.mem_append_left _ (List.mem_append_left _ (List.mem_append_left _ (List.mem_append_left _ (List.mem_of_getElem? (i := 5) rfl))))))
theorem kX10_read_cX0 : ∀ w ∈ wsX00, w ∈ wsX10_read := fun _ h => List.mem_cons_of_mem _ (List.mem_append_left _ (List.mem_append_right _ h))
theorem kX10_read_9 : Cond.methodLink RX10 271 arraycopyName ∈ wsX10_read := List.mem_cons_of_mem _ (List.mem_append_left _ (List.mem_append_left _ (List.mem_append_left _ (List.mem_append_left _ (List.mem_append_left _ (List.mem_of_getElem? (i := 6) rfl))))))
theorem kX10_read_10 : Cond.native arraycopyName ∈ wsX10_read := List.mem_cons_of_mem _ (List.mem_append_left _ (List.mem_append_left _ (List.mem_append_left _ (List.mem_append_left _ (List.mem_append_left _ (List.mem_of_getElem? (i := 7) rfl))))))
theorem kX10_read_11 : Cond.static arraycopyName ∈ wsX10_read := List.mem_cons_of_mem _ (List.mem_append_left _ (List.mem_append_left _ (List.mem_append_left _ (List.mem_append_left _ (List.mem_append_left _ (List.mem_of_getElem? (i := 8) rfl))))))
theorem kX10_read_12 : Cond.initialized "java/lang/System" ∈ wsX10_read := List.mem_cons_of_mem _ (List.mem_append_left _ (List.mem_append_left _ (List.mem_append_left _ (List.mem_append_left _ (List.mem_append_left _ (List.mem_of_getElem? (i := 9) rfl))))))
set_option maxHeartbeats 4000000 in
set_option maxRecDepth 100000 in
theorem mX10_read (l : Launch) (D : va_G) (K : Nat → ClassId) (q : Nat → Nat) (sz : Nat)  (bits : Nat → Int64) (stops : Nat → Int32) (num : Int32) (unit : Int32) (strips : Int32) (caps : Int32) (draw : Int32) (oldest : Int32) (known : Int32) (ring : Nat → GS) (im : GS) (iold : Int32) (iknown : Int32) (iring : Nat → GS) (hasIm : Int32) (letters : Nat → Int32) (tbits : Nat → Int64) (tlen : Int32) (tat : Int32) (fig : Int32) (shI : Nat → Nat → Int64) (shH : Nat → Int32) (shL : Nat → Int32) (shS : Nat → Int32) (seaOf : Nat → Int32) (queue : Nat → Int32) (snum : Int32) (cost : Nat → Int32) (heap : Nat → Int64) (wait : Int32) (off : Int32) (les : Int32) (gre : Int32) (abv : Int64) (blw : Int64) (needed : Int32) (ocut : Int32) (opole : Int32)  {post : Int32 → (Nat → Int64) → Int32 → Int32 → (Nat → GS) → (Nat → Int64) → Int32 → Int32 → Int32 → Prop} (hw : wX10_read  bits stops num unit strips caps draw oldest known ring letters tbits tlen fig post) : Met l yX10_read wsX10_read rmX10_read (va_Pc [.ref (q 0)] (cP D K (wX K q bits stops num unit strips caps draw oldest known ring im iold iknown iring hasIm letters tbits tlen tat fig shI shH shL shS seaOf queue snum cost heap wait off les gre abv blw needed ocut opole) sz)) (va_Qi (fun (r : Int32) (u : (Nat → Int64) × Int32 × Int32 × (Nat → GS) × (Nat → Int64) × Int32 × Int32 × Int32) => post r u.1 u.2.1 u.2.2.1 u.2.2.2.1 u.2.2.2.2.1 u.2.2.2.2.2.1 u.2.2.2.2.2.2.1 u.2.2.2.2.2.2.2) (fun u t => cQ D K (wX K q u.1 stops num unit strips caps draw u.2.1 u.2.2.1 u.2.2.2.1 im iold iknown iring hasIm letters u.2.2.2.2.1 u.2.2.2.2.2.1 u.2.2.2.2.2.2.1 u.2.2.2.2.2.2.2 shI shH shL shS seaOf queue snum cost heap wait off les gre abv blw needed ocut opole) (va_A (wX K q bits stops num unit strips caps draw oldest known ring im iold iknown iring hasIm letters tbits tlen tat fig shI shH shL shS seaOf queue snum cost heap wait off les gre abv blw needed ocut opole) sz) t) (va_A (wX K q bits stops num unit strips caps draw oldest known ring im iold iknown iring hasIm letters tbits tlen tat fig shI shH shL shS seaOf queue snum cost heap wait off les gre abv blw needed ocut opole) sz)) 0 0 (va_A (wX K q bits stops num unit strips caps draw oldest known ring im iold iknown iring hasIm letters tbits tlen tat fig shI shH shL shS seaOf queue snum cost heap wait off les gre abv blw needed ocut opole) sz) := by
  refine x_entry (cc := cX10_read) (maxL := 2) (ret := (some .int)) (QA := fun A => va_Qi (fun (r : Int32) (u : (Nat → Int64) × Int32 × Int32 × (Nat → GS) × (Nat → Int64) × Int32 × Int32 × Int32) => post r u.1 u.2.1 u.2.2.1 u.2.2.2.1 u.2.2.2.2.1 u.2.2.2.2.2.1 u.2.2.2.2.2.2.1 u.2.2.2.2.2.2.2) (fun u t => cQ D K (wX K q u.1 stops num unit strips caps draw u.2.1 u.2.2.1 u.2.2.2.1 im iold iknown iring hasIm letters u.2.2.2.2.1 u.2.2.2.2.2.1 u.2.2.2.2.2.2.1 u.2.2.2.2.2.2.2 shI shH shL shS seaOf queue snum cost heap wait off les gre abv blw needed ocut opole) A t) A) (plainFor_of_name (by decide)) rfl (Nat.le_of_ble_eq_true rfl) ?_
  intro p e s m args below meth c A ls H Q hQ hC hlk hr hnm hI hl
  obtain ⟨hx, hb, hml, hown, hts, hK, hA, hZ⟩ := id hC
  obtain ⟨locs, hlocs⟩ : ∃ y : List Loc, y = [] := ⟨_, rfl⟩
  rw [← hlocs] at hI ⊢
  clear hlocs
  replace hl : lv_has ls 2 [(0, .ref (q 0))] := hl
  replace hw : wX7_understand letters tbits tlen fig (fun (r4 : Int32) (tbits_1 : Nat → Int64) (tat_2 : Int32) (fig_3 : Int32) => ((r4 = (-1 : Int32) → wX4_keep oldest known ring bits stops num unit strips caps draw (fun (oldest_6 : Int32) (known_7 : Int32) (ring_8 : Nat → GS) => wX0_landNumber (va_cpy tbits_1 bits 0 0 5) (fun (r9 : Int32) => post r9 (va_cpy tbits_1 bits 0 0 5) oldest_6 known_7 ring_8 tbits_1 (0 : Int32) tat_2 fig_3))) ∧ (¬ r4 = (-1 : Int32) → post ((-20 : Int32) - r4) bits oldest known ring tbits_1 (0 : Int32) tat_2 fig_3))) := hw
  refine lv_aload_n hx hb dX10_read_0 rfl (lv_at hl 0 rfl) ?_
  refine x_get (v := .ref (q 47)) hC hI kX10_read_cX10 0 rfl rfl 5 (by decide) kX10_read_0 rfl rfl dX10_read_1 ?_
  refine x_callVi (rest := []) hC hI [47, 48, 49] (mX7_understand l D K (fun i => q (47 + i)) _ letters tbits tlen tat fig hw) (cwV 0 hts gX10_read_X7_understand rfl rfl rfl (by decide +kernel) ⟨(Nat.le_of_ble_eq_true rfl), (Nat.le_of_ble_eq_true rfl)⟩) rfl rfl (fun _ => rfl) 47 5 rfl rfl rfl rfl hl.1 rfl (Nat.le_of_ble_eq_true rfl) dX10_read_4 ⟨(Nat.le_of_ble_eq_true rfl), (Nat.le_of_ble_eq_true rfl)⟩ (fun r4 u H locs hw hI => ?_)
  obtain ⟨tbits_1, tat_2, fig_3⟩ := u
  try dsimp only at hw
  have hI : wI s D A (wX K q bits stops num unit strips caps draw oldest known ring im iold iknown iring hasIm letters tbits_1 tlen tat_2 fig_3 shI shH shL shS seaOf queue snum cost heap wait off les gre abv blw needed ocut opole) H locs := hI
  refine lv_istore_n (lv' := [(1, .int r4), (0, .ref (q 0))]) hx hb dX10_read_7 rfl hl (by decide) rfl (fun ls hl => ?_)
  refine lv_aload_n hx hb dX10_read_8 rfl (lv_at hl 1 rfl) ?_
  refine x_get (v := .ref (q 47)) hC hI kX10_read_cX10 0 rfl rfl 5 (by decide) kX10_read_0 rfl rfl dX10_read_9 ?_
  refine lv_iconst (v := (0 : Int32)) hx hb dX10_read_12 (by decide) ?_
  refine x_put (v := .int (0 : Int32)) hC hI kX10_read_cX7 tyX7 tyX7_ok nmX7 47 rfl rfl 1 (by decide) kX10_read_2 rfl rfl rfl rfl (Nat.le_of_ble_eq_true rfl) dX10_read_13 (fun H locs hI => ?_)
  have hI : wI s D A (wX K q bits stops num unit strips caps draw oldest known ring im iold iknown iring hasIm letters tbits_1 (0 : Int32) tat_2 fig_3 shI shH shL shS seaOf queue snum cost heap wait off les gre abv blw needed ocut opole) H locs := hI
  refine lv_iload_n hx hb dX10_read_16 rfl (lv_at hl 0 rfl) ?_
  refine lv_iconst (v := (-1 : Int32)) hx hb dX10_read_17 (by decide) ?_
  refine lv_icmp_eq (tgt := 26) hx hb dX10_read_18 (by decide) (fun c5 => ?_) (fun c5 => ?_)
  · replace hw := hw.1 c5
    refine lv_aload_n hx hb dX10_read_26 rfl (lv_at hl 1 rfl) ?_
    refine x_get (v := .ref (q 4)) hC hI kX10_read_cX10 0 rfl rfl 1 (by decide) kX10_read_4 rfl rfl dX10_read_27 ?_
    refine lv_aload_n hx hb dX10_read_30 rfl (lv_at hl 1 rfl) ?_
    refine x_get (v := .ref (q 1)) hC hI kX10_read_cX10 0 rfl rfl 0 (by decide) kX10_read_5 rfl rfl dX10_read_31 ?_
    refine x_callVv (rest := []) hC hI [4, 5, 6, 7, 8, 9, 10, 11, 12, 13, 14, 15, 16, 17, 18, 19, 20, 21, 22, 23, 1, 2, 3] (mX4_keep l D K (fun i => q (4 + i)) (fun i => q (1 + i)) _ oldest known ring bits stops num unit strips caps draw hw) (cwV 1 hts gX10_read_X4_keep rfl rfl rfl (by decide +kernel) ⟨(Nat.le_of_ble_eq_true rfl), (Nat.le_of_ble_eq_true rfl)⟩) rfl rfl (fun _ => rfl) 4 2 rfl rfl rfl rfl hl.1 rfl (Nat.le_of_ble_eq_true rfl) dX10_read_34 ⟨(Nat.le_of_ble_eq_true rfl), (Nat.le_of_ble_eq_true rfl)⟩ (fun u H locs hw hI => ?_)
    obtain ⟨oldest_6, known_7, ring_8⟩ := u
    try dsimp only at hw
    have hI : wI s D A (wX K q bits stops num unit strips caps draw oldest_6 known_7 ring_8 im iold iknown iring hasIm letters tbits_1 (0 : Int32) tat_2 fig_3 shI shH shL shS seaOf queue snum cost heap wait off les gre abv blw needed ocut opole) H locs := hI
    refine lv_aload_n hx hb dX10_read_37 rfl (lv_at hl 1 rfl) ?_
    refine x_get (v := .ref (q 47)) hC hI kX10_read_cX10 0 rfl rfl 5 (by decide) kX10_read_0 rfl rfl dX10_read_38 ?_
    refine x_get (v := .ref (q 49)) hC hI kX10_read_cX7 47 rfl rfl 2 (by decide) kX10_read_6 rfl rfl dX10_read_41 ?_
    refine lv_iconst (v := (0 : Int32)) hx hb dX10_read_44 (by decide) ?_
    refine lv_aload_n hx hb dX10_read_45 rfl (lv_at hl 1 rfl) ?_
    refine x_get (v := .ref (q 1)) hC hI kX10_read_cX10 0 rfl rfl 0 (by decide) kX10_read_5 rfl rfl dX10_read_46 ?_
    refine x_get (v := .ref (q 2)) hC hI kX10_read_cX0 1 rfl rfl 0 (by decide) kX10_read_7 rfl rfl dX10_read_49 ?_
    refine lv_iconst (v := (0 : Int32)) hx hb dX10_read_52 (by decide) ?_
    refine lv_iconst (v := (5 : Int32)) hx hb dX10_read_53 (by decide) ?_
    refine x_copyj (f := tbits_1) (g := bits) (n0 := 5) (n1 := 5) hC hI hl.1 kX10_read_9 kX10_read_10 kX10_read_11 kX10_read_12 49 2 rfl rfl (by decide) (by decide) (by decide) (by decide) (by decide) (Nat.le_of_ble_eq_true rfl) (Nat.le_of_ble_eq_true rfl) dX10_read_54 (fun H locs hI => ?_)
    have hI : wI s D A (wX K q (va_cpy tbits_1 bits 0 0 5) stops num unit strips caps draw oldest_6 known_7 ring_8 im iold iknown iring hasIm letters tbits_1 (0 : Int32) tat_2 fig_3 shI shH shL shS seaOf queue snum cost heap wait off les gre abv blw needed ocut opole) H locs := hI
    refine lv_aload_n hx hb dX10_read_57 rfl (lv_at hl 1 rfl) ?_
    refine x_get (v := .ref (q 1)) hC hI kX10_read_cX10 0 rfl rfl 0 (by decide) kX10_read_5 rfl rfl dX10_read_58 ?_
    refine x_callVi (rest := []) hC hI [1, 2, 3] (mX0_landNumber l D K (fun i => q (1 + i)) _ (va_cpy tbits_1 bits 0 0 5) stops num unit strips caps draw hw) (cwV 0 hts gX10_read_X0_landNumber rfl rfl rfl (by decide +kernel) ⟨(Nat.le_of_ble_eq_true rfl), (Nat.le_of_ble_eq_true rfl)⟩) rfl rfl (fun _ => rfl) 1 0 rfl rfl rfl rfl hl.1 rfl (Nat.le_of_ble_eq_true rfl) dX10_read_61 ⟨(Nat.le_of_ble_eq_true rfl), (Nat.le_of_ble_eq_true rfl)⟩ (fun r9 u H locs hw hI => ?_)
    try dsimp only at hw
    have hI : wI s D A (wX K q (va_cpy tbits_1 bits 0 0 5) stops num unit strips caps draw oldest_6 known_7 ring_8 im iold iknown iring hasIm letters tbits_1 (0 : Int32) tat_2 fig_3 shI shH shL shS seaOf queue snum cost heap wait off les gre abv blw needed ocut opole) H locs := hI
    subst hQ
    exact x_iret (u := ((va_cpy tbits_1 bits 0 0 5), oldest_6, known_7, ring_8, tbits_1, (0 : Int32), tat_2, fig_3)) hC hI hr hlk hw rfl dX10_read_64
  · replace hw := hw.2 c5
    refine lv_bipush (v := (-20 : Int32)) hx hb dX10_read_21 (by decide) ?_
    refine lv_iload_n hx hb dX10_read_23 rfl (lv_at hl 0 rfl) ?_
    refine lv_isub hx hb dX10_read_24 ?_
    subst hQ
    exact x_iret (u := (bits, oldest, known, ring, tbits_1, (0 : Int32), tat_2, fig_3)) hC hI hr hlk hw rfl dX10_read_25

def wX10_drift (a1 : Int32) (bits : Nat → Int64) (stops : Nat → Int32) (num : Int32) (unit : Int32) (strips : Int32) (caps : Int32) (draw : Int32) (oldest : Int32) (known : Int32) (ring : Nat → GS) (post : Int32 → (Nat → Int64) → Int32 → Int32 → Int32 → (Nat → GS) → Prop) : Prop := wX10_isIn a1 (1 : Int32) (40 : Int32) (fun (r1 : Int32) => ((r1 = 0 → post (-1 : Int32) bits draw oldest known ring) ∧ (¬ r1 = 0 → (∃ (I14 : Int32 → (Nat → Int64) → Int32 → Int32 → Int32 → (Nat → GS) → Prop) (mu14 : Int32 → (Nat → Int64) → Int32 → Int32 → Int32 → (Nat → GS) → Nat), I14 (0 : Int32) bits draw oldest known ring ∧ ∀ (l2_14 : Int32) (bits_14 : Nat → Int64) (draw_14 : Int32) (oldest_14 : Int32) (known_14 : Int32) (ring_14 : Nat → GS), I14 l2_14 bits_14 draw_14 oldest_14 known_14 ring_14 → ((a1 ≤ l2_14 → wX0_landNumber bits_14 (fun (r4 : Int32) => post r4 bits_14 draw_14 oldest_14 known_14 ring_14)) ∧ (¬ a1 ≤ l2_14 → wX4_keep oldest_14 known_14 ring_14 bits_14 stops num unit strips caps draw_14 (fun (oldest_5 : Int32) (known_6 : Int32) (ring_7 : Nat → GS) => wX0_driftOnce bits_14 draw_14 (fun (bits_8 : Nat → Int64) (draw_9 : Int32) => ∀ x10 : Int32, x10 = l2_14 + 1 → (I14 x10 bits_8 draw_9 oldest_5 known_6 ring_7 ∧ mu14 x10 bits_8 draw_9 oldest_5 known_6 ring_7 < mu14 l2_14 bits_14 draw_14 oldest_14 known_14 ring_14)))))))))
def rmX10_drift : Room := { frames := 3, cells := 0, slots := 0, locals := 82 }
theorem kX10_drift_0 : Cond.fieldLink RX10 10 "GoreGlobe" "now" "LGoreGlobe$Globe;" ∈ wsX10_drift := List.mem_cons_of_mem _ (List.mem_append_left _ (List.mem_append_left _ (List.mem_append_left _ (List.mem_append_left _ (List.mem_of_getElem? (i := 1) rfl)))))
theorem kX10_drift_cX10 : ∀ w ∈ wsX100, w ∈ wsX10_drift := fun _ h => List.mem_cons_of_mem _ (List.mem_append_left _ (List.mem_append_left _ (List.mem_append_right _ h)))
theorem kX10_drift_2 : Cond.fieldLink RX10 19 "GoreGlobe" "past" "LGoreGlobe$Past;" ∈ wsX10_drift := List.mem_cons_of_mem _ (List.mem_append_left _ (List.mem_append_left _ (List.mem_append_left _ (List.mem_append_left _ (List.mem_of_getElem? (i := 0) rfl)))))
set_option maxHeartbeats 4000000 in
set_option maxRecDepth 100000 in
theorem mX10_drift (l : Launch) (D : va_G) (K : Nat → ClassId) (q : Nat → Nat) (sz : Nat) (a1 : Int32) (bits : Nat → Int64) (stops : Nat → Int32) (num : Int32) (unit : Int32) (strips : Int32) (caps : Int32) (draw : Int32) (oldest : Int32) (known : Int32) (ring : Nat → GS) (im : GS) (iold : Int32) (iknown : Int32) (iring : Nat → GS) (hasIm : Int32) (letters : Nat → Int32) (tbits : Nat → Int64) (tlen : Int32) (tat : Int32) (fig : Int32) (shI : Nat → Nat → Int64) (shH : Nat → Int32) (shL : Nat → Int32) (shS : Nat → Int32) (seaOf : Nat → Int32) (queue : Nat → Int32) (snum : Int32) (cost : Nat → Int32) (heap : Nat → Int64) (wait : Int32) (off : Int32) (les : Int32) (gre : Int32) (abv : Int64) (blw : Int64) (needed : Int32) (ocut : Int32) (opole : Int32)  {post : Int32 → (Nat → Int64) → Int32 → Int32 → Int32 → (Nat → GS) → Prop} (hw : wX10_drift a1 bits stops num unit strips caps draw oldest known ring post) : Met l yX10_drift wsX10_drift rmX10_drift (va_Pc [.ref (q 0), .int a1] (cP D K (wX K q bits stops num unit strips caps draw oldest known ring im iold iknown iring hasIm letters tbits tlen tat fig shI shH shL shS seaOf queue snum cost heap wait off les gre abv blw needed ocut opole) sz)) (va_Qi (fun (r : Int32) (u : (Nat → Int64) × Int32 × Int32 × Int32 × (Nat → GS)) => post r u.1 u.2.1 u.2.2.1 u.2.2.2.1 u.2.2.2.2) (fun u t => cQ D K (wX K q u.1 stops num unit strips caps u.2.1 u.2.2.1 u.2.2.2.1 u.2.2.2.2 im iold iknown iring hasIm letters tbits tlen tat fig shI shH shL shS seaOf queue snum cost heap wait off les gre abv blw needed ocut opole) (va_A (wX K q bits stops num unit strips caps draw oldest known ring im iold iknown iring hasIm letters tbits tlen tat fig shI shH shL shS seaOf queue snum cost heap wait off les gre abv blw needed ocut opole) sz) t) (va_A (wX K q bits stops num unit strips caps draw oldest known ring im iold iknown iring hasIm letters tbits tlen tat fig shI shH shL shS seaOf queue snum cost heap wait off les gre abv blw needed ocut opole) sz)) 0 0 (va_A (wX K q bits stops num unit strips caps draw oldest known ring im iold iknown iring hasIm letters tbits tlen tat fig shI shH shL shS seaOf queue snum cost heap wait off les gre abv blw needed ocut opole) sz) := by
  refine x_entry (cc := cX10_drift) (maxL := 3) (ret := (some .int)) (QA := fun A => va_Qi (fun (r : Int32) (u : (Nat → Int64) × Int32 × Int32 × Int32 × (Nat → GS)) => post r u.1 u.2.1 u.2.2.1 u.2.2.2.1 u.2.2.2.2) (fun u t => cQ D K (wX K q u.1 stops num unit strips caps u.2.1 u.2.2.1 u.2.2.2.1 u.2.2.2.2 im iold iknown iring hasIm letters tbits tlen tat fig shI shH shL shS seaOf queue snum cost heap wait off les gre abv blw needed ocut opole) A t) A) (plainFor_of_name (by decide)) rfl (Nat.le_of_ble_eq_true rfl) ?_
  intro p e s m args below meth c A ls H Q hQ hC hlk hr hnm hI hl
  obtain ⟨hx, hb, hml, hown, hts, hK, hA, hZ⟩ := id hC
  obtain ⟨locs, hlocs⟩ : ∃ y : List Loc, y = [] := ⟨_, rfl⟩
  rw [← hlocs] at hI ⊢
  clear hlocs
  replace hl : lv_has ls 3 [(0, .ref (q 0)), (1, .int a1)] := hl
  replace hw : wX10_isIn a1 (1 : Int32) (40 : Int32) (fun (r1 : Int32) => ((r1 = 0 → post (-1 : Int32) bits draw oldest known ring) ∧ (¬ r1 = 0 → (∃ (I14 : Int32 → (Nat → Int64) → Int32 → Int32 → Int32 → (Nat → GS) → Prop) (mu14 : Int32 → (Nat → Int64) → Int32 → Int32 → Int32 → (Nat → GS) → Nat), I14 (0 : Int32) bits draw oldest known ring ∧ ∀ (l2_14 : Int32) (bits_14 : Nat → Int64) (draw_14 : Int32) (oldest_14 : Int32) (known_14 : Int32) (ring_14 : Nat → GS), I14 l2_14 bits_14 draw_14 oldest_14 known_14 ring_14 → ((a1 ≤ l2_14 → wX0_landNumber bits_14 (fun (r4 : Int32) => post r4 bits_14 draw_14 oldest_14 known_14 ring_14)) ∧ (¬ a1 ≤ l2_14 → wX4_keep oldest_14 known_14 ring_14 bits_14 stops num unit strips caps draw_14 (fun (oldest_5 : Int32) (known_6 : Int32) (ring_7 : Nat → GS) => wX0_driftOnce bits_14 draw_14 (fun (bits_8 : Nat → Int64) (draw_9 : Int32) => ∀ x10 : Int32, x10 = l2_14 + 1 → (I14 x10 bits_8 draw_9 oldest_5 known_6 ring_7 ∧ mu14 x10 bits_8 draw_9 oldest_5 known_6 ring_7 < mu14 l2_14 bits_14 draw_14 oldest_14 known_14 ring_14))))))))) := hw
  refine lv_iload_n hx hb dX10_drift_0 rfl (lv_at hl 1 rfl) ?_
  refine lv_iconst (v := (1 : Int32)) hx hb dX10_drift_1 (by decide) ?_
  refine lv_bipush (v := (40 : Int32)) hx hb dX10_drift_2 (by decide) ?_
  refine x_callSi (rest := []) hC hI [] (mX10_isIn l D K  _ a1 (1 : Int32) (40 : Int32) hw) (va_cwS 3 hts gX10_drift_X10_isIn rfl rfl rfl (by decide +kernel) ⟨(Nat.le_of_ble_eq_true rfl), (Nat.le_of_ble_eq_true rfl)⟩) rfl rfl (fun _ => rfl) rfl hl.1 rfl (Nat.le_of_ble_eq_true rfl) dX10_drift_4 ⟨(Nat.le_of_ble_eq_true rfl), (Nat.le_of_ble_eq_true rfl)⟩ (fun r1 u H locs hw hI => ?_)
  try dsimp only at hw
  have hI : wI s D A (wX K q bits stops num unit strips caps draw oldest known ring im iold iknown iring hasIm letters tbits tlen tat fig shI shH shL shS seaOf queue snum cost heap wait off les gre abv blw needed ocut opole) H locs := hI
  refine lv_if_ne (tgt := 12) hx hb dX10_drift_7 (by decide) (fun c2 => ?_) (fun c2 => ?_)
  · replace hw := hw.2 c2
    refine lv_iconst (v := (0 : Int32)) hx hb dX10_drift_12 (by decide) ?_
    refine lv_istore_n (lv' := [(2, .int (0 : Int32)), (0, .ref (q 0)), (1, .int a1)]) hx hb dX10_drift_13 rfl hl (by decide) rfl (fun ls hl => ?_)
    obtain ⟨I14, mu14, hw, hb14⟩ := hw
    have lp14 : ∀ (k : Nat) (l2_14 : Int32) (bits_14 : Nat → Int64) (draw_14 : Int32) (oldest_14 : Int32) (known_14 : Int32) (ring_14 : Nat → GS) (ls : Array Slot) (H : Heap) (locs : List Loc), mu14 l2_14 bits_14 draw_14 oldest_14 known_14 ring_14 < k → I14 l2_14 bits_14 draw_14 oldest_14 known_14 ring_14 → wI s D A (wX K q bits_14 stops num unit strips caps draw_14 oldest_14 known_14 ring_14 im iold iknown iring hasIm letters tbits tlen tat fig shI shH shL shS seaOf queue snum cost heap wait off les gre abv blw needed ocut opole) H locs → lv_has ls 3 [(0, .ref (q 0)), (1, .int a1), (2, .int l2_14)] → W p l e rmX10_drift s m args below meth c H locs 0 0 Q (F0 m 14 ls []) := by
      intro k
      induction k with
      | zero => intro l2_14 bits_14 draw_14 oldest_14 known_14 ring_14 ls H locs hmu; exact absurd hmu (Nat.not_lt_zero _)
      | succ k ih14 =>
        intro l2_14 bits_14 draw_14 oldest_14 known_14 ring_14 ls H locs hmu14 hw hI hl
        replace hw := hb14 l2_14 bits_14 draw_14 oldest_14 known_14 ring_14 hw
        refine lv_iload_n hx hb dX10_drift_14 rfl (lv_at hl 2 rfl) ?_
        refine lv_iload_n hx hb dX10_drift_15 rfl (lv_at hl 1 rfl) ?_
        refine lv_icmp_ge (tgt := 43) hx hb dX10_drift_16 (by decide) (fun c3 => ?_) (fun c3 => ?_)
        · replace hw := hw.1 c3
          refine lv_aload_n hx hb dX10_drift_43 rfl (lv_at hl 0 rfl) ?_
          refine x_get (v := .ref (q 1)) hC hI kX10_drift_cX10 0 rfl rfl 0 (by decide) kX10_drift_0 rfl rfl dX10_drift_44 ?_
          refine x_callVi (rest := []) hC hI [1, 2, 3] (mX0_landNumber l D K (fun i => q (1 + i)) _ bits_14 stops num unit strips caps draw_14 hw) (cwV 0 hts gX10_drift_X0_landNumber rfl rfl rfl (by decide +kernel) ⟨(Nat.le_of_ble_eq_true rfl), (Nat.le_of_ble_eq_true rfl)⟩) rfl rfl (fun _ => rfl) 1 0 rfl rfl rfl rfl hl.1 rfl (Nat.le_of_ble_eq_true rfl) dX10_drift_47 ⟨(Nat.le_of_ble_eq_true rfl), (Nat.le_of_ble_eq_true rfl)⟩ (fun r4 u H locs hw hI => ?_)
          try dsimp only at hw
          have hI : wI s D A (wX K q bits_14 stops num unit strips caps draw_14 oldest_14 known_14 ring_14 im iold iknown iring hasIm letters tbits tlen tat fig shI shH shL shS seaOf queue snum cost heap wait off les gre abv blw needed ocut opole) H locs := hI
          subst hQ
          exact x_iret (u := (bits_14, draw_14, oldest_14, known_14, ring_14)) hC hI hr hlk hw rfl dX10_drift_50
        · replace hw := hw.2 c3
          refine lv_aload_n hx hb dX10_drift_19 rfl (lv_at hl 0 rfl) ?_
          refine x_get (v := .ref (q 4)) hC hI kX10_drift_cX10 0 rfl rfl 1 (by decide) kX10_drift_2 rfl rfl dX10_drift_20 ?_
          refine lv_aload_n hx hb dX10_drift_23 rfl (lv_at hl 0 rfl) ?_
          refine x_get (v := .ref (q 1)) hC hI kX10_drift_cX10 0 rfl rfl 0 (by decide) kX10_drift_0 rfl rfl dX10_drift_24 ?_
          refine x_callVv (rest := []) hC hI [4, 5, 6, 7, 8, 9, 10, 11, 12, 13, 14, 15, 16, 17, 18, 19, 20, 21, 22, 23, 1, 2, 3] (mX4_keep l D K (fun i => q (4 + i)) (fun i => q (1 + i)) _ oldest_14 known_14 ring_14 bits_14 stops num unit strips caps draw_14 hw) (cwV 1 hts gX10_drift_X4_keep rfl rfl rfl (by decide +kernel) ⟨(Nat.le_of_ble_eq_true rfl), (Nat.le_of_ble_eq_true rfl)⟩) rfl rfl (fun _ => rfl) 4 2 rfl rfl rfl rfl hl.1 rfl (Nat.le_of_ble_eq_true rfl) dX10_drift_27 ⟨(Nat.le_of_ble_eq_true rfl), (Nat.le_of_ble_eq_true rfl)⟩ (fun u H locs hw hI => ?_)
          obtain ⟨oldest_5, known_6, ring_7⟩ := u
          try dsimp only at hw
          have hI : wI s D A (wX K q bits_14 stops num unit strips caps draw_14 oldest_5 known_6 ring_7 im iold iknown iring hasIm letters tbits tlen tat fig shI shH shL shS seaOf queue snum cost heap wait off les gre abv blw needed ocut opole) H locs := hI
          refine lv_aload_n hx hb dX10_drift_30 rfl (lv_at hl 0 rfl) ?_
          refine x_get (v := .ref (q 1)) hC hI kX10_drift_cX10 0 rfl rfl 0 (by decide) kX10_drift_0 rfl rfl dX10_drift_31 ?_
          refine x_callVv (rest := []) hC hI [1, 2, 3] (mX0_driftOnce l D K (fun i => q (1 + i)) _ bits_14 stops num unit strips caps draw_14 hw) (cwV 0 hts gX10_drift_X0_driftOnce rfl rfl rfl (by decide +kernel) ⟨(Nat.le_of_ble_eq_true rfl), (Nat.le_of_ble_eq_true rfl)⟩) rfl rfl (fun _ => rfl) 1 0 rfl rfl rfl rfl hl.1 rfl (Nat.le_of_ble_eq_true rfl) dX10_drift_34 ⟨(Nat.le_of_ble_eq_true rfl), (Nat.le_of_ble_eq_true rfl)⟩ (fun u H locs hw hI => ?_)
          obtain ⟨bits_8, draw_9⟩ := u
          try dsimp only at hw
          have hI : wI s D A (wX K q bits_8 stops num unit strips caps draw_9 oldest_5 known_6 ring_7 im iold iknown iring hasIm letters tbits tlen tat fig shI shH shL shS seaOf queue snum cost heap wait off les gre abv blw needed ocut opole) H locs := hI
          obtain ⟨x10, ex10⟩ : ∃ y : Int32, y = l2_14 + 1 := ⟨_, rfl⟩
          replace hw := hw x10 ex10
          refine lv_iinc (v := x10) (lv' := [(2, .int x10), (0, .ref (q 0)), (1, .int a1)]) hx hb dX10_drift_37 hl (k := 2) rfl (by rw [ex10]; rfl) (by decide) rfl (fun ls hl => ?_)
          refine lv_goto (tgt := 14) hx hb dX10_drift_40 (by decide) ?_
          exact ih14 x10 bits_8 draw_9 oldest_5 known_6 ring_7 ls H locs (Nat.lt_of_lt_of_le hw.2 (Nat.le_of_lt_succ hmu14)) hw.1 hI (lv_sub hl [1, 2, 0] rfl)
    exact lp14 (mu14 (0 : Int32) bits draw oldest known ring + 1) (0 : Int32) bits draw oldest known ring ls H locs (Nat.lt_succ_self _) hw hI (lv_sub hl [1, 2, 0] rfl)
  · replace hw := hw.1 c2
    refine lv_iconst (v := (-1 : Int32)) hx hb dX10_drift_10 (by decide) ?_
    subst hQ
    exact x_iret (u := (bits, draw, oldest, known, ring)) hC hI hr hlk hw rfl dX10_drift_11

def wX10_undo  (bits : Nat → Int64) (stops : Nat → Int32) (num : Int32) (unit : Int32) (strips : Int32) (caps : Int32) (draw : Int32) (oldest : Int32) (known : Int32) (ring : Nat → GS) (post : Int32 → (Nat → Int64) → (Nat → Int32) → Int32 → Int32 → Int32 → Int32 → Int32 → Int32 → Prop) : Prop := ((known = 0 → post (-4 : Int32) bits stops num unit strips caps draw known) ∧ (¬ known = 0 → wX4_takeBack oldest known ring bits stops (fun (known_2 : Int32) (bits_3 : Nat → Int64) (stops_4 : Nat → Int32) (num_5 : Int32) (unit_6 : Int32) (strips_7 : Int32) (caps_8 : Int32) (draw_9 : Int32) => post known_2 bits_3 stops_4 num_5 unit_6 strips_7 caps_8 draw_9 known_2)))
def rmX10_undo : Room := { frames := 3, cells := 0, slots := 0, locals := 82 }
theorem kX10_undo_0 : Cond.fieldLink RX10 19 "GoreGlobe" "past" "LGoreGlobe$Past;" ∈ wsX10_undo := List.mem_cons_of_mem _ (List.mem_append_left _ (List.mem_append_left _ (List.mem_append_left _ (List.mem_append_left _ (List.mem_of_getElem? (i := 0) rfl)))))
theorem kX10_undo_cX10 : ∀ w ∈ wsX100, w ∈ wsX10_undo := fun _ h => List.mem_cons_of_mem _ (List.mem_append_left _ (List.mem_append_left _ (List.mem_append_right _ h)))
theorem kX10_undo_2 : Cond.fieldLink RX10 235 "GoreGlobe$Past" "known" "I" ∈ wsX10_undo := List.mem_cons_of_mem _ (List.mem_append_left _ (List.mem_append_left _ (List.mem_append_left _ (List.mem_append_left _ (List.mem_of_getElem? (i := 1) rfl)))))
theorem kX10_undo_cX4 : ∀ w ∈ wsX40, w ∈ wsX10_undo := fun _ h => List.mem_cons_of_mem _ (List.mem_append_left _ (List.mem_append_right _ h))
theorem kX10_undo_4 : Cond.fieldLink RX10 10 "GoreGlobe" "now" "LGoreGlobe$Globe;" ∈ wsX10_undo := List.mem_cons_of_mem _ (List.mem_append_left _ (List.mem_append_left _ (List.mem_append_left _ (List.mem_append_left _ (List.mem_of_getElem? (i := 2) rfl)))))
set_option maxHeartbeats 4000000 in
set_option maxRecDepth 100000 in
theorem mX10_undo (l : Launch) (D : va_G) (K : Nat → ClassId) (q : Nat → Nat) (sz : Nat)  (bits : Nat → Int64) (stops : Nat → Int32) (num : Int32) (unit : Int32) (strips : Int32) (caps : Int32) (draw : Int32) (oldest : Int32) (known : Int32) (ring : Nat → GS) (im : GS) (iold : Int32) (iknown : Int32) (iring : Nat → GS) (hasIm : Int32) (letters : Nat → Int32) (tbits : Nat → Int64) (tlen : Int32) (tat : Int32) (fig : Int32) (shI : Nat → Nat → Int64) (shH : Nat → Int32) (shL : Nat → Int32) (shS : Nat → Int32) (seaOf : Nat → Int32) (queue : Nat → Int32) (snum : Int32) (cost : Nat → Int32) (heap : Nat → Int64) (wait : Int32) (off : Int32) (les : Int32) (gre : Int32) (abv : Int64) (blw : Int64) (needed : Int32) (ocut : Int32) (opole : Int32)  {post : Int32 → (Nat → Int64) → (Nat → Int32) → Int32 → Int32 → Int32 → Int32 → Int32 → Int32 → Prop} (hw : wX10_undo  bits stops num unit strips caps draw oldest known ring post) : Met l yX10_undo wsX10_undo rmX10_undo (va_Pc [.ref (q 0)] (cP D K (wX K q bits stops num unit strips caps draw oldest known ring im iold iknown iring hasIm letters tbits tlen tat fig shI shH shL shS seaOf queue snum cost heap wait off les gre abv blw needed ocut opole) sz)) (va_Qi (fun (r : Int32) (u : (Nat → Int64) × (Nat → Int32) × Int32 × Int32 × Int32 × Int32 × Int32 × Int32) => post r u.1 u.2.1 u.2.2.1 u.2.2.2.1 u.2.2.2.2.1 u.2.2.2.2.2.1 u.2.2.2.2.2.2.1 u.2.2.2.2.2.2.2) (fun u t => cQ D K (wX K q u.1 u.2.1 u.2.2.1 u.2.2.2.1 u.2.2.2.2.1 u.2.2.2.2.2.1 u.2.2.2.2.2.2.1 oldest u.2.2.2.2.2.2.2 ring im iold iknown iring hasIm letters tbits tlen tat fig shI shH shL shS seaOf queue snum cost heap wait off les gre abv blw needed ocut opole) (va_A (wX K q bits stops num unit strips caps draw oldest known ring im iold iknown iring hasIm letters tbits tlen tat fig shI shH shL shS seaOf queue snum cost heap wait off les gre abv blw needed ocut opole) sz) t) (va_A (wX K q bits stops num unit strips caps draw oldest known ring im iold iknown iring hasIm letters tbits tlen tat fig shI shH shL shS seaOf queue snum cost heap wait off les gre abv blw needed ocut opole) sz)) 0 0 (va_A (wX K q bits stops num unit strips caps draw oldest known ring im iold iknown iring hasIm letters tbits tlen tat fig shI shH shL shS seaOf queue snum cost heap wait off les gre abv blw needed ocut opole) sz) := by
  refine x_entry (cc := cX10_undo) (maxL := 1) (ret := (some .int)) (QA := fun A => va_Qi (fun (r : Int32) (u : (Nat → Int64) × (Nat → Int32) × Int32 × Int32 × Int32 × Int32 × Int32 × Int32) => post r u.1 u.2.1 u.2.2.1 u.2.2.2.1 u.2.2.2.2.1 u.2.2.2.2.2.1 u.2.2.2.2.2.2.1 u.2.2.2.2.2.2.2) (fun u t => cQ D K (wX K q u.1 u.2.1 u.2.2.1 u.2.2.2.1 u.2.2.2.2.1 u.2.2.2.2.2.1 u.2.2.2.2.2.2.1 oldest u.2.2.2.2.2.2.2 ring im iold iknown iring hasIm letters tbits tlen tat fig shI shH shL shS seaOf queue snum cost heap wait off les gre abv blw needed ocut opole) A t) A) (plainFor_of_name (by decide)) rfl (Nat.le_of_ble_eq_true rfl) ?_
  intro p e s m args below meth c A ls H Q hQ hC hlk hr hnm hI hl
  obtain ⟨hx, hb, hml, hown, hts, hK, hA, hZ⟩ := id hC
  obtain ⟨locs, hlocs⟩ : ∃ y : List Loc, y = [] := ⟨_, rfl⟩
  rw [← hlocs] at hI ⊢
  clear hlocs
  replace hl : lv_has ls 1 [(0, .ref (q 0))] := hl
  replace hw : ((known = 0 → post (-4 : Int32) bits stops num unit strips caps draw known) ∧ (¬ known = 0 → wX4_takeBack oldest known ring bits stops (fun (known_2 : Int32) (bits_3 : Nat → Int64) (stops_4 : Nat → Int32) (num_5 : Int32) (unit_6 : Int32) (strips_7 : Int32) (caps_8 : Int32) (draw_9 : Int32) => post known_2 bits_3 stops_4 num_5 unit_6 strips_7 caps_8 draw_9 known_2))) := hw
  refine lv_aload_n hx hb dX10_undo_0 rfl (lv_at hl 0 rfl) ?_
  refine x_get (v := .ref (q 4)) hC hI kX10_undo_cX10 0 rfl rfl 1 (by decide) kX10_undo_0 rfl rfl dX10_undo_1 ?_
  refine x_get (v := .int known) hC hI kX10_undo_cX4 4 rfl rfl 2 (by decide) kX10_undo_2 rfl rfl dX10_undo_4 ?_
  refine lv_if_ne (tgt := 13) hx hb dX10_undo_7 (by decide) (fun c1 => ?_) (fun c1 => ?_)
  · replace hw := hw.2 c1
    refine lv_aload_n hx hb dX10_undo_13 rfl (lv_at hl 0 rfl) ?_
    refine x_get (v := .ref (q 4)) hC hI kX10_undo_cX10 0 rfl rfl 1 (by decide) kX10_undo_0 rfl rfl dX10_undo_14 ?_
    refine lv_aload_n hx hb dX10_undo_17 rfl (lv_at hl 0 rfl) ?_
    refine x_get (v := .ref (q 1)) hC hI kX10_undo_cX10 0 rfl rfl 0 (by decide) kX10_undo_4 rfl rfl dX10_undo_18 ?_
    refine x_callVv (rest := []) hC hI [4, 5, 6, 7, 8, 9, 10, 11, 12, 13, 14, 15, 16, 17, 18, 19, 20, 21, 22, 23, 1, 2, 3] (mX4_takeBack l D K (fun i => q (4 + i)) (fun i => q (1 + i)) _ oldest known ring bits stops num unit strips caps draw hw) (cwV 1 hts gX10_undo_X4_takeBack rfl rfl rfl (by decide +kernel) ⟨(Nat.le_of_ble_eq_true rfl), (Nat.le_of_ble_eq_true rfl)⟩) rfl rfl (fun _ => rfl) 4 2 rfl rfl rfl rfl hl.1 rfl (Nat.le_of_ble_eq_true rfl) dX10_undo_21 ⟨(Nat.le_of_ble_eq_true rfl), (Nat.le_of_ble_eq_true rfl)⟩ (fun u H locs hw hI => ?_)
    obtain ⟨known_2, bits_3, stops_4, num_5, unit_6, strips_7, caps_8, draw_9⟩ := u
    try dsimp only at hw
    have hI : wI s D A (wX K q bits_3 stops_4 num_5 unit_6 strips_7 caps_8 draw_9 oldest known_2 ring im iold iknown iring hasIm letters tbits tlen tat fig shI shH shL shS seaOf queue snum cost heap wait off les gre abv blw needed ocut opole) H locs := hI
    refine lv_aload_n hx hb dX10_undo_24 rfl (lv_at hl 0 rfl) ?_
    refine x_get (v := .ref (q 4)) hC hI kX10_undo_cX10 0 rfl rfl 1 (by decide) kX10_undo_0 rfl rfl dX10_undo_25 ?_
    refine x_get (v := .int known_2) hC hI kX10_undo_cX4 4 rfl rfl 2 (by decide) kX10_undo_2 rfl rfl dX10_undo_28 ?_
    subst hQ
    exact x_iret (u := (bits_3, stops_4, num_5, unit_6, strips_7, caps_8, draw_9, known_2)) hC hI hr hlk hw rfl dX10_undo_31
  · replace hw := hw.1 c1
    refine lv_bipush (v := (-4 : Int32)) hx hb dX10_undo_10 (by decide) ?_
    subst hQ
    exact x_iret (u := (bits, stops, num, unit, strips, caps, draw, known)) hC hI hr hlk hw rfl dX10_undo_12

def wX10_seed (a1 : Int32) (draw : Int32) (post : Int32 → Int32 → Prop) : Prop := ((0 ≤ a1 → post draw a1) ∧ (¬ 0 ≤ a1 → post (-1 : Int32) draw))
def rmX10_seed : Room := { frames := 0, cells := 0, slots := 0, locals := 0 }
theorem kX10_seed_0 : Cond.fieldLink RX10 10 "GoreGlobe" "now" "LGoreGlobe$Globe;" ∈ wsX10_seed := List.mem_cons_of_mem _ (List.mem_append_left _ (List.mem_append_left _ (List.mem_of_getElem? (i := 0) rfl)))
theorem kX10_seed_cX10 : ∀ w ∈ wsX100, w ∈ wsX10_seed := fun _ h => List.mem_cons_of_mem _ (List.mem_append_left _ (List.mem_append_right _ h))
theorem kX10_seed_2 : Cond.fieldLink RX10 283 "GoreGlobe$Globe" "draw" "I" ∈ wsX10_seed := List.mem_cons_of_mem _ (List.mem_append_left _ (List.mem_append_left _ (List.mem_of_getElem? (i := 1) rfl)))
theorem kX10_seed_cX0 : ∀ w ∈ wsX00, w ∈ wsX10_seed := fun _ h => List.mem_cons_of_mem _ (List.mem_append_right _ h)
set_option maxHeartbeats 4000000 in
set_option maxRecDepth 100000 in
theorem mX10_seed (l : Launch) (D : va_G) (K : Nat → ClassId) (q : Nat → Nat) (sz : Nat) (a1 : Int32) (bits : Nat → Int64) (stops : Nat → Int32) (num : Int32) (unit : Int32) (strips : Int32) (caps : Int32) (draw : Int32) (oldest : Int32) (known : Int32) (ring : Nat → GS) (im : GS) (iold : Int32) (iknown : Int32) (iring : Nat → GS) (hasIm : Int32) (letters : Nat → Int32) (tbits : Nat → Int64) (tlen : Int32) (tat : Int32) (fig : Int32) (shI : Nat → Nat → Int64) (shH : Nat → Int32) (shL : Nat → Int32) (shS : Nat → Int32) (seaOf : Nat → Int32) (queue : Nat → Int32) (snum : Int32) (cost : Nat → Int32) (heap : Nat → Int64) (wait : Int32) (off : Int32) (les : Int32) (gre : Int32) (abv : Int64) (blw : Int64) (needed : Int32) (ocut : Int32) (opole : Int32)  {post : Int32 → Int32 → Prop} (hw : wX10_seed a1 draw post) : Met l yX10_seed wsX10_seed rmX10_seed (va_Pc [.ref (q 0), .int a1] (cP D K (wX K q bits stops num unit strips caps draw oldest known ring im iold iknown iring hasIm letters tbits tlen tat fig shI shH shL shS seaOf queue snum cost heap wait off les gre abv blw needed ocut opole) sz)) (va_Qi (fun (r : Int32) (u : Int32) => post r u) (fun u t => cQ D K (wX K q bits stops num unit strips caps u oldest known ring im iold iknown iring hasIm letters tbits tlen tat fig shI shH shL shS seaOf queue snum cost heap wait off les gre abv blw needed ocut opole) (va_A (wX K q bits stops num unit strips caps draw oldest known ring im iold iknown iring hasIm letters tbits tlen tat fig shI shH shL shS seaOf queue snum cost heap wait off les gre abv blw needed ocut opole) sz) t) (va_A (wX K q bits stops num unit strips caps draw oldest known ring im iold iknown iring hasIm letters tbits tlen tat fig shI shH shL shS seaOf queue snum cost heap wait off les gre abv blw needed ocut opole) sz)) 0 0 (va_A (wX K q bits stops num unit strips caps draw oldest known ring im iold iknown iring hasIm letters tbits tlen tat fig shI shH shL shS seaOf queue snum cost heap wait off les gre abv blw needed ocut opole) sz) := by
  refine x_entry (cc := cX10_seed) (maxL := 3) (ret := (some .int)) (QA := fun A => va_Qi (fun (r : Int32) (u : Int32) => post r u) (fun u t => cQ D K (wX K q bits stops num unit strips caps u oldest known ring im iold iknown iring hasIm letters tbits tlen tat fig shI shH shL shS seaOf queue snum cost heap wait off les gre abv blw needed ocut opole) A t) A) (plainFor_of_name (by decide)) rfl (Nat.le_of_ble_eq_true rfl) ?_
  intro p e s m args below meth c A ls H Q hQ hC hlk hr hnm hI hl
  obtain ⟨hx, hb, hml, hown, hts, hK, hA, hZ⟩ := id hC
  obtain ⟨locs, hlocs⟩ : ∃ y : List Loc, y = [] := ⟨_, rfl⟩
  rw [← hlocs] at hI ⊢
  clear hlocs
  replace hl : lv_has ls 3 [(0, .ref (q 0)), (1, .int a1)] := hl
  replace hw : ((0 ≤ a1 → post draw a1) ∧ (¬ 0 ≤ a1 → post (-1 : Int32) draw)) := hw
  refine lv_iload_n hx hb dX10_seed_0 rfl (lv_at hl 1 rfl) ?_
  refine lv_if_ge (tgt := 6) hx hb dX10_seed_1 (by decide) (fun c1 => ?_) (fun c1 => ?_)
  · replace hw := hw.1 c1
    refine lv_aload_n hx hb dX10_seed_6 rfl (lv_at hl 0 rfl) ?_
    refine x_get (v := .ref (q 1)) hC hI kX10_seed_cX10 0 rfl rfl 0 (by decide) kX10_seed_0 rfl rfl dX10_seed_7 ?_
    refine x_get (v := .int draw) hC hI kX10_seed_cX0 1 rfl rfl 6 (by decide) kX10_seed_2 rfl rfl dX10_seed_10 ?_
    refine lv_istore_n (lv' := [(2, .int draw), (0, .ref (q 0)), (1, .int a1)]) hx hb dX10_seed_13 rfl hl (by decide) rfl (fun ls hl => ?_)
    refine lv_aload_n hx hb dX10_seed_14 rfl (lv_at hl 1 rfl) ?_
    refine x_get (v := .ref (q 1)) hC hI kX10_seed_cX10 0 rfl rfl 0 (by decide) kX10_seed_0 rfl rfl dX10_seed_15 ?_
    refine lv_iload_n hx hb dX10_seed_18 rfl (lv_at hl 2 rfl) ?_
    refine x_put (v := .int a1) hC hI kX10_seed_cX0 tyX0 tyX0_ok nmX0 1 rfl rfl 6 (by decide) kX10_seed_2 rfl rfl rfl rfl (Nat.le_of_ble_eq_true rfl) dX10_seed_19 (fun H locs hI => ?_)
    have hI : wI s D A (wX K q bits stops num unit strips caps a1 oldest known ring im iold iknown iring hasIm letters tbits tlen tat fig shI shH shL shS seaOf queue snum cost heap wait off les gre abv blw needed ocut opole) H locs := hI
    refine lv_iload_n hx hb dX10_seed_22 rfl (lv_at hl 0 rfl) ?_
    subst hQ
    exact x_iret (u := a1) hC hI hr hlk hw rfl dX10_seed_23
  · replace hw := hw.2 c1
    refine lv_iconst (v := (-1 : Int32)) hx hb dX10_seed_4 (by decide) ?_
    subst hQ
    exact x_iret (u := draw) hC hI hr hlk hw rfl dX10_seed_5

def wX10_image  (bits : Nat → Int64) (stops : Nat → Int32) (num : Int32) (unit : Int32) (strips : Int32) (caps : Int32) (draw : Int32) (oldest : Int32) (known : Int32) (ring : Nat → GS) (im : GS) (iring : Nat → GS) (post : Int32 → GS → Int32 → Int32 → (Nat → GS) → Int32 → Prop) : Prop := wX0_become im.1 im.2.1 bits stops num unit strips caps draw (fun (bits_1 : Nat → Int64) (stops_2 : Nat → Int32) (num_3 : Int32) (unit_4 : Int32) (strips_5 : Int32) (caps_6 : Int32) (draw_7 : Int32) => wX4_become iring oldest known ring (fun (oldest_8 : Int32) (known_9 : Int32) (ring_10 : Nat → GS) => post (1 : Int32) (bits_1, stops_2, num_3, unit_4, strips_5, caps_6, draw_7) oldest_8 known_9 ring_10 (1 : Int32)))
def rmX10_image : Room := { frames := 3, cells := 0, slots := 0, locals := 83 }
theorem kX10_image_0 : Cond.fieldLink RX10 23 "GoreGlobe" "imaged" "LGoreGlobe$Globe;" ∈ wsX10_image := List.mem_cons_of_mem _ (List.mem_append_left _ (List.mem_append_left _ (List.mem_append_left _ (List.mem_append_left _ (List.mem_of_getElem? (i := 0) rfl)))))
theorem kX10_image_cX10 : ∀ w ∈ wsX100, w ∈ wsX10_image := fun _ h => List.mem_cons_of_mem _ (List.mem_append_left _ (List.mem_append_left _ (List.mem_append_right _ h)))
theorem kX10_image_2 : Cond.fieldLink RX10 10 "GoreGlobe" "now" "LGoreGlobe$Globe;" ∈ wsX10_image := List.mem_cons_of_mem _ (List.mem_append_left _ (List.mem_append_left _ (List.mem_append_left _ (List.mem_append_left _ (List.mem_of_getElem? (i := 1) rfl)))))
theorem kX10_image_3 : Cond.fieldLink RX10 26 "GoreGlobe" "imagedPast" "LGoreGlobe$Past;" ∈ wsX10_image := List.mem_cons_of_mem _ (List.mem_append_left _ (List.mem_append_left _ (List.mem_append_left _ (List.mem_append_left _ (List.mem_of_getElem? (i := 2) rfl)))))
theorem kX10_image_4 : Cond.fieldLink RX10 19 "GoreGlobe" "past" "LGoreGlobe$Past;" ∈ wsX10_image := List.mem_cons_of_mem _ (List.mem_append_left _ (List.mem_append_left _ (List.mem_append_left _ (List.mem_append_left _ (List.mem_of_getElem? (i := 3) rfl)))))
theorem kX10_image_5 : Cond.fieldLink RX10 292 "GoreGlobe" "hasImage" "Z" ∈ wsX10_image := List.mem_cons_of_mem _ (List.mem_append_left _ (List.mem_append_left _ (List.mem_append_left _ (List.mem_append_left _ (List.mem_of_getElem? (i := 4) rfl)))))
set_option maxHeartbeats 4000000 in
set_option maxRecDepth 100000 in
theorem mX10_image (l : Launch) (D : va_G) (K : Nat → ClassId) (q : Nat → Nat) (sz : Nat)  (bits : Nat → Int64) (stops : Nat → Int32) (num : Int32) (unit : Int32) (strips : Int32) (caps : Int32) (draw : Int32) (oldest : Int32) (known : Int32) (ring : Nat → GS) (im : GS) (iold : Int32) (iknown : Int32) (iring : Nat → GS) (hasIm : Int32) (letters : Nat → Int32) (tbits : Nat → Int64) (tlen : Int32) (tat : Int32) (fig : Int32) (shI : Nat → Nat → Int64) (shH : Nat → Int32) (shL : Nat → Int32) (shS : Nat → Int32) (seaOf : Nat → Int32) (queue : Nat → Int32) (snum : Int32) (cost : Nat → Int32) (heap : Nat → Int64) (wait : Int32) (off : Int32) (les : Int32) (gre : Int32) (abv : Int64) (blw : Int64) (needed : Int32) (ocut : Int32) (opole : Int32)  {post : Int32 → GS → Int32 → Int32 → (Nat → GS) → Int32 → Prop} (hw : wX10_image  bits stops num unit strips caps draw oldest known ring im iring post) : Met l yX10_image wsX10_image rmX10_image (va_Pc [.ref (q 0)] (cP D K (wX K q bits stops num unit strips caps draw oldest known ring im iold iknown iring hasIm letters tbits tlen tat fig shI shH shL shS seaOf queue snum cost heap wait off les gre abv blw needed ocut opole) sz)) (va_Qi (fun (r : Int32) (u : GS × Int32 × Int32 × (Nat → GS) × Int32) => post r u.1 u.2.1 u.2.2.1 u.2.2.2.1 u.2.2.2.2) (fun u t => cQ D K (wX K q bits stops num unit strips caps draw oldest known ring u.1 u.2.1 u.2.2.1 u.2.2.2.1 u.2.2.2.2 letters tbits tlen tat fig shI shH shL shS seaOf queue snum cost heap wait off les gre abv blw needed ocut opole) (va_A (wX K q bits stops num unit strips caps draw oldest known ring im iold iknown iring hasIm letters tbits tlen tat fig shI shH shL shS seaOf queue snum cost heap wait off les gre abv blw needed ocut opole) sz) t) (va_A (wX K q bits stops num unit strips caps draw oldest known ring im iold iknown iring hasIm letters tbits tlen tat fig shI shH shL shS seaOf queue snum cost heap wait off les gre abv blw needed ocut opole) sz)) 0 0 (va_A (wX K q bits stops num unit strips caps draw oldest known ring im iold iknown iring hasIm letters tbits tlen tat fig shI shH shL shS seaOf queue snum cost heap wait off les gre abv blw needed ocut opole) sz) := by
  refine x_entry (cc := cX10_image) (maxL := 1) (ret := (some .int)) (QA := fun A => va_Qi (fun (r : Int32) (u : GS × Int32 × Int32 × (Nat → GS) × Int32) => post r u.1 u.2.1 u.2.2.1 u.2.2.2.1 u.2.2.2.2) (fun u t => cQ D K (wX K q bits stops num unit strips caps draw oldest known ring u.1 u.2.1 u.2.2.1 u.2.2.2.1 u.2.2.2.2 letters tbits tlen tat fig shI shH shL shS seaOf queue snum cost heap wait off les gre abv blw needed ocut opole) A t) A) (plainFor_of_name (by decide)) rfl (Nat.le_of_ble_eq_true rfl) ?_
  intro p e s m args below meth c A ls H Q hQ hC hlk hr hnm hI hl
  obtain ⟨hx, hb, hml, hown, hts, hK, hA, hZ⟩ := id hC
  obtain ⟨locs, hlocs⟩ : ∃ y : List Loc, y = [] := ⟨_, rfl⟩
  rw [← hlocs] at hI ⊢
  clear hlocs
  replace hl : lv_has ls 1 [(0, .ref (q 0))] := hl
  replace hw : wX0_become im.1 im.2.1 bits stops num unit strips caps draw (fun (bits_1 : Nat → Int64) (stops_2 : Nat → Int32) (num_3 : Int32) (unit_4 : Int32) (strips_5 : Int32) (caps_6 : Int32) (draw_7 : Int32) => wX4_become iring oldest known ring (fun (oldest_8 : Int32) (known_9 : Int32) (ring_10 : Nat → GS) => post (1 : Int32) (bits_1, stops_2, num_3, unit_4, strips_5, caps_6, draw_7) oldest_8 known_9 ring_10 (1 : Int32))) := hw
  refine lv_aload_n hx hb dX10_image_0 rfl (lv_at hl 0 rfl) ?_
  refine x_get (v := .ref (q 24)) hC hI kX10_image_cX10 0 rfl rfl 2 (by decide) kX10_image_0 rfl rfl dX10_image_1 ?_
  refine lv_aload_n hx hb dX10_image_4 rfl (lv_at hl 0 rfl) ?_
  refine x_get (v := .ref (q 1)) hC hI kX10_image_cX10 0 rfl rfl 0 (by decide) kX10_image_2 rfl rfl dX10_image_5 ?_
  refine x_callVv (rest := []) hC hI [24, 25, 26, 1, 2, 3] (mX0_become l D K (fun i => q (24 + i)) (fun i => q (1 + i)) _ im.1 im.2.1 im.2.2.1 im.2.2.2.1 im.2.2.2.2.1 im.2.2.2.2.2.1 im.2.2.2.2.2.2 bits stops num unit strips caps draw hw) (cwV 1 hts gX10_image_X0_become rfl rfl rfl (by decide +kernel) ⟨(Nat.le_of_ble_eq_true rfl), (Nat.le_of_ble_eq_true rfl)⟩) rfl rfl (fun _ => rfl) 24 0 rfl rfl rfl rfl hl.1 rfl (Nat.le_of_ble_eq_true rfl) dX10_image_8 ⟨(Nat.le_of_ble_eq_true rfl), (Nat.le_of_ble_eq_true rfl)⟩ (fun u H locs hw hI => ?_)
  obtain ⟨bits_1, stops_2, num_3, unit_4, strips_5, caps_6, draw_7⟩ := u
  try dsimp only at hw
  have hI : wI s D A (wX K q bits stops num unit strips caps draw oldest known ring (bits_1, stops_2, num_3, unit_4, strips_5, caps_6, draw_7) iold iknown iring hasIm letters tbits tlen tat fig shI shH shL shS seaOf queue snum cost heap wait off les gre abv blw needed ocut opole) H locs := hI
  refine lv_aload_n hx hb dX10_image_11 rfl (lv_at hl 0 rfl) ?_
  refine x_get (v := .ref (q 27)) hC hI kX10_image_cX10 0 rfl rfl 3 (by decide) kX10_image_3 rfl rfl dX10_image_12 ?_
  refine lv_aload_n hx hb dX10_image_15 rfl (lv_at hl 0 rfl) ?_
  refine x_get (v := .ref (q 4)) hC hI kX10_image_cX10 0 rfl rfl 1 (by decide) kX10_image_4 rfl rfl dX10_image_16 ?_
  refine x_callVv (rest := []) hC hI [27, 28, 29, 30, 31, 32, 33, 34, 35, 36, 37, 38, 39, 40, 41, 42, 43, 44, 45, 46, 4, 5, 6, 7, 8, 9, 10, 11, 12, 13, 14, 15, 16, 17, 18, 19, 20, 21, 22, 23] (mX4_become l D K (fun i => q (27 + i)) (fun i => q (4 + i)) _ iold iknown iring oldest known ring hw) (cwV 1 hts gX10_image_X4_become rfl rfl rfl (by decide +kernel) ⟨(Nat.le_of_ble_eq_true rfl), (Nat.le_of_ble_eq_true rfl)⟩) rfl rfl (fun _ => rfl) 27 2 rfl rfl rfl rfl hl.1 rfl (Nat.le_of_ble_eq_true rfl) dX10_image_19 ⟨(Nat.le_of_ble_eq_true rfl), (Nat.le_of_ble_eq_true rfl)⟩ (fun u H locs hw hI => ?_)
  obtain ⟨oldest_8, known_9, ring_10⟩ := u
  try dsimp only at hw
  have hI : wI s D A (wX K q bits stops num unit strips caps draw oldest known ring (bits_1, stops_2, num_3, unit_4, strips_5, caps_6, draw_7) oldest_8 known_9 ring_10 hasIm letters tbits tlen tat fig shI shH shL shS seaOf queue snum cost heap wait off les gre abv blw needed ocut opole) H locs := hI
  refine lv_aload_n hx hb dX10_image_22 rfl (lv_at hl 0 rfl) ?_
  refine lv_iconst (v := (1 : Int32)) hx hb dX10_image_23 (by decide) ?_
  refine x_put (v := .int (1 : Int32)) hC hI kX10_image_cX10 tyX10 tyX10_ok nmX10 0 rfl rfl 4 (by decide) kX10_image_5 rfl rfl rfl rfl (Nat.le_of_ble_eq_true rfl) dX10_image_24 (fun H locs hI => ?_)
  have hI : wI s D A (wX K q bits stops num unit strips caps draw oldest known ring (bits_1, stops_2, num_3, unit_4, strips_5, caps_6, draw_7) oldest_8 known_9 ring_10 (1 : Int32) letters tbits tlen tat fig shI shH shL shS seaOf queue snum cost heap wait off les gre abv blw needed ocut opole) H locs := hI
  refine lv_iconst (v := (1 : Int32)) hx hb dX10_image_27 (by decide) ?_
  subst hQ
  exact x_iret (u := ((bits_1, stops_2, num_3, unit_4, strips_5, caps_6, draw_7), oldest_8, known_9, ring_10, (1 : Int32))) hC hI hr hlk hw rfl dX10_image_28
