def wX10_type (a1 : Int32) (letters : Nat → Int32) (tlen : Int32) (post : Int32 → (Nat → Int32) → Int32 → Prop) : Prop := wX10_isIn a1 (32 : Int32) (126 : Int32) (fun (r1 : Int32) => ((r1 = 0 → post (-1 : Int32) letters tlen) ∧ (¬ r1 = 0 → ((tlen < (90 : Int32) → vp_in tlen 90 ∧ ∀ x5 : Int32, x5 = tlen + (1 : Int32) → post x5 (upd letters tlen.toNatClampNeg a1) x5) ∧ (¬ tlen < (90 : Int32) → post (-3 : Int32) letters tlen)))))
def rmX10_type : Room := { frames := 1, cells := 0, slots := 0, locals := 22 }
theorem kX10_type_0 : Cond.fieldLink RX10 32 "GoreGlobe" "tape" "LGoreGlobe$Tape;" ∈ wsX10_type := List.mem_cons_of_mem _ (List.mem_append_left _ (List.mem_append_left _ (List.mem_of_getElem? (i := 0) rfl)))
theorem kX10_type_cX10 : ∀ w ∈ wsX100, w ∈ wsX10_type := fun _ h => List.mem_cons_of_mem _ (List.mem_append_left _ (List.mem_append_right _ h))
theorem kX10_type_2 : Cond.fieldLink RX10 257 "GoreGlobe$Tape" "length" "I" ∈ wsX10_type := List.mem_cons_of_mem _ (List.mem_append_left _ (List.mem_append_left _ (List.mem_of_getElem? (i := 1) rfl)))
theorem kX10_type_cX7 : ∀ w ∈ wsX70, w ∈ wsX10_type := fun _ h => List.mem_cons_of_mem _ (List.mem_append_right _ h)
theorem kX10_type_4 : Cond.fieldLink RX10 260 "GoreGlobe$Tape" "letters" "[I" ∈ wsX10_type := List.mem_cons_of_mem _ (List.mem_append_left _ (List.mem_append_left _ (List.mem_of_getElem? (i := 2) rfl)))
set_option maxHeartbeats 4000000 in
set_option maxRecDepth 100000 in
theorem mX10_type (l : Launch) (D : va_G) (K : Nat → ClassId) (q : Nat → Nat) (sz : Nat) (a1 : Int32) (bits : Nat → Int64) (stops : Nat → Int32) (num : Int32) (unit : Int32) (strips : Int32) (caps : Int32) (draw : Int32) (oldest : Int32) (known : Int32) (ring : Nat → GS) (im : GS) (iold : Int32) (iknown : Int32) (iring : Nat → GS) (hasIm : Int32) (letters : Nat → Int32) (tbits : Nat → Int64) (tlen : Int32) (tat : Int32) (fig : Int32) (shI : Nat → Nat → Int64) (shH : Nat → Int32) (shL : Nat → Int32) (shS : Nat → Int32) (seaOf : Nat → Int32) (queue : Nat → Int32) (snum : Int32) (cost : Nat → Int32) (heap : Nat → Int64) (wait : Int32) (off : Int32) (les : Int32) (gre : Int32) (abv : Int64) (blw : Int64) (needed : Int32) (ocut : Int32) (opole : Int32)  {post : Int32 → (Nat → Int32) → Int32 → Prop} (hw : wX10_type a1 letters tlen post) : Met l yX10_type wsX10_type rmX10_type (va_Pc [.ref (q 0), .int a1] (cP D K (fl (lX K q bits stops num unit strips caps draw oldest known ring im iold iknown iring hasIm letters tbits tlen tat fig shI shH shL shS seaOf queue snum cost heap wait off les gre abv blw needed ocut opole)) sz)) (va_Qi (fun (r : Int32) (u : (Nat → Int32) × Int32) => post r u.1 u.2) (fun u t => cQ D K (fl (lX K q bits stops num unit strips caps draw oldest known ring im iold iknown iring hasIm u.1 tbits u.2 tat fig shI shH shL shS seaOf queue snum cost heap wait off les gre abv blw needed ocut opole)) (va_A (fl (lX K q bits stops num unit strips caps draw oldest known ring im iold iknown iring hasIm letters tbits tlen tat fig shI shH shL shS seaOf queue snum cost heap wait off les gre abv blw needed ocut opole)) sz) t) (va_A (fl (lX K q bits stops num unit strips caps draw oldest known ring im iold iknown iring hasIm letters tbits tlen tat fig shI shH shL shS seaOf queue snum cost heap wait off les gre abv blw needed ocut opole)) sz)) 0 0 (va_A (fl (lX K q bits stops num unit strips caps draw oldest known ring im iold iknown iring hasIm letters tbits tlen tat fig shI shH shL shS seaOf queue snum cost heap wait off les gre abv blw needed ocut opole)) sz) := by
  refine x_entry (cc := cX10_type) (maxL := 2) (ret := (some .int)) (QA := fun A => va_Qi (fun (r : Int32) (u : (Nat → Int32) × Int32) => post r u.1 u.2) (fun u t => cQ D K (fl (lX K q bits stops num unit strips caps draw oldest known ring im iold iknown iring hasIm u.1 tbits u.2 tat fig shI shH shL shS seaOf queue snum cost heap wait off les gre abv blw needed ocut opole)) A t) A) (plainFor_of_name (by decide)) rfl (Nat.le_of_ble_eq_true rfl) ?_
  intro p e s m args below meth c A ls H Q hQ hC hlk hr hnm hI hl
  obtain ⟨hx, hb, hml, hown, hts, hK, hA, hZ⟩ := id hC
  obtain ⟨locs, hlocs⟩ : ∃ y : List Loc, y = [] := ⟨_, rfl⟩
  rw [← hlocs] at hI ⊢
  clear hlocs
  replace hl : lv_has ls 2 [(0, .ref (q 0)), (1, .int a1)] := hl
  replace hw : wX10_isIn a1 (32 : Int32) (126 : Int32) (fun (r1 : Int32) => ((r1 = 0 → post (-1 : Int32) letters tlen) ∧ (¬ r1 = 0 → ((tlen < (90 : Int32) → vp_in tlen 90 ∧ ∀ x5 : Int32, x5 = tlen + (1 : Int32) → post x5 (upd letters tlen.toNatClampNeg a1) x5) ∧ (¬ tlen < (90 : Int32) → post (-3 : Int32) letters tlen))))) := hw
  refine lv_iload_n hx hb dX10_type_0 rfl (lv_at hl 1 rfl) ?_
  refine lv_bipush (v := (32 : Int32)) hx hb dX10_type_1 (by decide) ?_
  refine lv_bipush (v := (126 : Int32)) hx hb dX10_type_3 (by decide) ?_
  refine x_callSi (rest := []) hC hI [] (mX10_isIn l D K  _ a1 (32 : Int32) (126 : Int32) hw) (va_cwS 3 hts gX10_type_X10_isIn rfl rfl rfl (by decide +kernel) ⟨(Nat.le_of_ble_eq_true rfl), (Nat.le_of_ble_eq_true rfl)⟩) (by decide) rfl (fun _ => rfl) rfl hl.1 rfl (Nat.le_of_ble_eq_true rfl) dX10_type_5 ⟨(Nat.le_of_ble_eq_true rfl), (Nat.le_of_ble_eq_true rfl)⟩ (fun r1 u H locs hw hI => ?_)
  try dsimp only at hw
  have hI : wI s D A (fl (lX K q bits stops num unit strips caps draw oldest known ring im iold iknown iring hasIm letters tbits tlen tat fig shI shH shL shS seaOf queue snum cost heap wait off les gre abv blw needed ocut opole)) H locs := hI
  refine lv_if_ne (tgt := 13) hx hb dX10_type_8 (by decide) (fun c2 => ?_) (fun c2 => ?_)
  · replace hw := hw.2 c2
    refine lv_aload_n hx hb dX10_type_13 rfl (lv_at hl 0 rfl) ?_
    refine x_get (v := .ref (q 47)) hC hI kX10_type_cX10 0 rfl rfl 5 (by decide) kX10_type_0 rfl rfl dX10_type_14 ?_
    refine x_get (v := .int tlen) hC hI kX10_type_cX7 47 rfl rfl 1 (by decide) kX10_type_2 rfl rfl dX10_type_17 ?_
    refine lv_bipush (v := (90 : Int32)) hx hb dX10_type_20 (by decide) ?_
    refine lv_icmp_lt (tgt := 28) hx hb dX10_type_22 (by decide) (fun c3 => ?_) (fun c3 => ?_)
    · replace hw := hw.1 c3
      refine lv_aload_n hx hb dX10_type_28 rfl (lv_at hl 0 rfl) ?_
      refine x_get (v := .ref (q 47)) hC hI kX10_type_cX10 0 rfl rfl 5 (by decide) kX10_type_0 rfl rfl dX10_type_29 ?_
      refine x_get (v := .ref (q 48)) hC hI kX10_type_cX7 47 rfl rfl 0 (by decide) kX10_type_4 rfl rfl dX10_type_32 ?_
      refine lv_aload_n hx hb dX10_type_35 rfl (lv_at hl 0 rfl) ?_
      refine x_get (v := .ref (q 47)) hC hI kX10_type_cX10 0 rfl rfl 5 (by decide) kX10_type_0 rfl rfl dX10_type_36 ?_
      refine x_get (v := .int tlen) hC hI kX10_type_cX7 47 rfl rfl 1 (by decide) kX10_type_2 rfl rfl dX10_type_39 ?_
      refine lv_iload_n hx hb dX10_type_42 rfl (lv_at hl 1 rfl) ?_
      obtain ⟨hc4, hw⟩ := hw
      refine x_iast (f := letters) hC hI 48 rfl hc4 dX10_type_43 (fun H locs hI => ?_)
      have hI : wI s D A (fl (lX K q bits stops num unit strips caps draw oldest known ring im iold iknown iring hasIm (upd letters tlen.toNatClampNeg a1) tbits tlen tat fig shI shH shL shS seaOf queue snum cost heap wait off les gre abv blw needed ocut opole)) H locs := hI
      refine lv_aload_n hx hb dX10_type_44 rfl (lv_at hl 0 rfl) ?_
      refine x_get (v := .ref (q 47)) hC hI kX10_type_cX10 0 rfl rfl 5 (by decide) kX10_type_0 rfl rfl dX10_type_45 ?_
      refine lv_dup hx hb dX10_type_48 rfl ?_
      refine x_get (v := .int tlen) hC hI kX10_type_cX7 47 rfl rfl 1 (by decide) kX10_type_2 rfl rfl dX10_type_49 ?_
      refine lv_iconst (v := (1 : Int32)) hx hb dX10_type_52 (by decide) ?_
      refine lv_iadd hx hb dX10_type_53 ?_
      refine lv_topi (fun x5 ex5 => ?_)
      replace hw := hw x5 ex5
      refine x_put (v := .int x5) hC hI kX10_type_cX7 tyX7 tyX7_ok nmX7 47 rfl rfl 1 (by decide) kX10_type_2 rfl rfl rfl rfl (Nat.le_of_ble_eq_true rfl) dX10_type_54 (fun H locs hI => ?_)
      have hI : wI s D A (fl (lX K q bits stops num unit strips caps draw oldest known ring im iold iknown iring hasIm (upd letters tlen.toNatClampNeg a1) tbits x5 tat fig shI shH shL shS seaOf queue snum cost heap wait off les gre abv blw needed ocut opole)) H locs := hI
      refine lv_aload_n hx hb dX10_type_57 rfl (lv_at hl 0 rfl) ?_
      refine x_get (v := .ref (q 47)) hC hI kX10_type_cX10 0 rfl rfl 5 (by decide) kX10_type_0 rfl rfl dX10_type_58 ?_
      refine x_get (v := .int x5) hC hI kX10_type_cX7 47 rfl rfl 1 (by decide) kX10_type_2 rfl rfl dX10_type_61 ?_
      subst hQ
      exact x_iret (u := ((upd letters tlen.toNatClampNeg a1), x5)) hC hI hr hlk hw rfl dX10_type_64
    · replace hw := hw.2 c3
      refine lv_bipush (v := (-3 : Int32)) hx hb dX10_type_25 (by decide) ?_
      subst hQ
      exact x_iret (u := (letters, tlen)) hC hI hr hlk hw rfl dX10_type_27
  · replace hw := hw.1 c2
    refine lv_iconst (v := (-1 : Int32)) hx hb dX10_type_11 (by decide) ?_
    subst hQ
    exact x_iret (u := (letters, tlen)) hC hI hr hlk hw rfl dX10_type_12
