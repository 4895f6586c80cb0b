def wX10_stop (a1 : Int32) (stops : Nat → Int32) (num : Int32) (post : Int32 → Prop) : Prop := ((0 ≤ a1 → ((num ≤ a1 → post (-4 : Int32)) ∧ (¬ num ≤ a1 → vp_in a1 8 ∧ post (stops a1.toNatClampNeg)))) ∧ (¬ 0 ≤ a1 → post (-1 : Int32)))
def rmX10_stop : Room := { frames := 0, cells := 0, slots := 0, locals := 0 }
theorem kX10_stop_0 : Cond.fieldLink RX10 10 "GoreGlobe" "now" "LGoreGlobe$Globe;" ∈ wsX10_stop := List.mem_cons_of_mem _ (List.mem_append_left _ (List.mem_append_left _ (List.mem_of_getElem? (i := 0) rfl)))
theorem kX10_stop_cX10 : ∀ w ∈ wsX100, w ∈ wsX10_stop := fun _ h => List.mem_cons_of_mem _ (List.mem_append_left _ (List.mem_append_right _ h))
theorem kX10_stop_2 : Cond.fieldLink RX10 204 "GoreGlobe$Globe" "stopNumber" "I" ∈ wsX10_stop := List.mem_cons_of_mem _ (List.mem_append_left _ (List.mem_append_left _ (List.mem_of_getElem? (i := 1) rfl)))
theorem kX10_stop_cX0 : ∀ w ∈ wsX00, w ∈ wsX10_stop := fun _ h => List.mem_cons_of_mem _ (List.mem_append_right _ h)
theorem kX10_stop_4 : Cond.fieldLink RX10 207 "GoreGlobe$Globe" "stops" "[I" ∈ wsX10_stop := List.mem_cons_of_mem _ (List.mem_append_left _ (List.mem_append_left _ (List.mem_of_getElem? (i := 2) rfl)))
set_option maxHeartbeats 4000000 in
set_option maxRecDepth 100000 in
theorem mX10_stop (l : Launch) (D : va_G) (K : Nat → ClassId) (q : Nat → Nat) (sz : Nat) (a1 : Int32) (bits : Nat → Int64) (stops : Nat → Int32) (num : Int32) (unit : Int32) (strips : Int32) (caps : Int32) (draw : Int32) (oldest : Int32) (known : Int32) (ring : Nat → GS) (im : GS) (iold : Int32) (iknown : Int32) (iring : Nat → GS) (hasIm : Int32) (letters : Nat → Int32) (tbits : Nat → Int64) (tlen : Int32) (tat : Int32) (fig : Int32) (shI : Nat → Nat → Int64) (shH : Nat → Int32) (shL : Nat → Int32) (shS : Nat → Int32) (seaOf : Nat → Int32) (queue : Nat → Int32) (snum : Int32) (cost : Nat → Int32) (heap : Nat → Int64) (wait : Int32) (off : Int32) (les : Int32) (gre : Int32) (abv : Int64) (blw : Int64) (needed : Int32) (ocut : Int32) (opole : Int32)  {post : Int32 → Prop} (hw : wX10_stop a1 stops num post) : Met l yX10_stop wsX10_stop rmX10_stop (va_Pc [.ref (q 0), .int a1] (cP D K (fl (lX K q bits stops num unit strips caps draw oldest known ring im iold iknown iring hasIm letters tbits tlen tat fig shI shH shL shS seaOf queue snum cost heap wait off les gre abv blw needed ocut opole)) sz)) (va_Qi (fun (r : Int32) (u : Unit) => post r) (fun u t => cQ D K (fl (lX K q bits stops num unit strips caps draw oldest known ring im iold iknown iring hasIm letters tbits tlen tat fig shI shH shL shS seaOf queue snum cost heap wait off les gre abv blw needed ocut opole)) (va_A (fl (lX K q bits stops num unit strips caps draw oldest known ring im iold iknown iring hasIm letters tbits tlen tat fig shI shH shL shS seaOf queue snum cost heap wait off les gre abv blw needed ocut opole)) sz) t) (va_A (fl (lX K q bits stops num unit strips caps draw oldest known ring im iold iknown iring hasIm letters tbits tlen tat fig shI shH shL shS seaOf queue snum cost heap wait off les gre abv blw needed ocut opole)) sz)) 0 0 (va_A (fl (lX K q bits stops num unit strips caps draw oldest known ring im iold iknown iring hasIm letters tbits tlen tat fig shI shH shL shS seaOf queue snum cost heap wait off les gre abv blw needed ocut opole)) sz) := by
  refine x_entry (cc := cX10_stop) (maxL := 2) (ret := (some .int)) (QA := fun A => va_Qi (fun (r : Int32) (u : Unit) => post r) (fun u t => cQ D K (fl (lX K q bits stops num unit strips caps draw oldest known ring im iold iknown iring hasIm letters tbits tlen tat fig shI shH shL shS seaOf queue snum cost heap wait off les gre abv blw needed ocut opole)) A t) A) (plainFor_of_name (by decide)) rfl (Nat.le_of_ble_eq_true rfl) ?_
  intro p e s m args below meth c A ls H Q hQ hC hlk hr hnm hI hl
  obtain ⟨hx, hb, hml, hown, hts, hK, hA, hZ⟩ := id hC
  obtain ⟨locs, hlocs⟩ : ∃ y : List Loc, y = [] := ⟨_, rfl⟩
  rw [← hlocs] at hI ⊢
  clear hlocs
  replace hl : lv_has ls 2 [(0, .ref (q 0)), (1, .int a1)] := hl
  replace hw : ((0 ≤ a1 → ((num ≤ a1 → post (-4 : Int32)) ∧ (¬ num ≤ a1 → vp_in a1 8 ∧ post (stops a1.toNatClampNeg)))) ∧ (¬ 0 ≤ a1 → post (-1 : Int32))) := hw
  refine lv_iload_n hx hb dX10_stop_0 rfl (lv_at hl 1 rfl) ?_
  refine lv_if_ge (tgt := 6) hx hb dX10_stop_1 (by decide) (fun c1 => ?_) (fun c1 => ?_)
  · replace hw := hw.1 c1
    refine lv_iload_n hx hb dX10_stop_6 rfl (lv_at hl 1 rfl) ?_
    refine lv_aload_n hx hb dX10_stop_7 rfl (lv_at hl 0 rfl) ?_
    refine x_get (v := .ref (q 1)) hC hI kX10_stop_cX10 0 rfl rfl 0 (by decide) kX10_stop_0 rfl rfl dX10_stop_8 ?_
    refine x_get (v := .int num) hC hI kX10_stop_cX0 1 rfl rfl 2 (by decide) kX10_stop_2 rfl rfl dX10_stop_11 ?_
    refine lv_icmp_ge (tgt := 29) hx hb dX10_stop_14 (by decide) (fun c2 => ?_) (fun c2 => ?_)
    · replace hw := hw.1 c2
      refine lv_bipush (v := (-4 : Int32)) hx hb dX10_stop_29 (by decide) ?_
      subst hQ
      exact x_iret (u := ()) hC hI hr hlk hw rfl dX10_stop_31
    · replace hw := hw.2 c2
      refine lv_aload_n hx hb dX10_stop_17 rfl (lv_at hl 0 rfl) ?_
      refine x_get (v := .ref (q 1)) hC hI kX10_stop_cX10 0 rfl rfl 0 (by decide) kX10_stop_0 rfl rfl dX10_stop_18 ?_
      refine x_get (v := .ref (q 3)) hC hI kX10_stop_cX0 1 rfl rfl 1 (by decide) kX10_stop_4 rfl rfl dX10_stop_21 ?_
      refine lv_iload_n hx hb dX10_stop_24 rfl (lv_at hl 1 rfl) ?_
      obtain ⟨hc3, hw⟩ := hw
      refine x_iald (f := stops) hC hI 3 rfl hc3 dX10_stop_25 ?_
      refine lv_goto (tgt := 31) hx hb dX10_stop_26 (by decide) ?_
      subst hQ
      exact x_iret (u := ()) hC hI hr hlk hw rfl dX10_stop_31
  · replace hw := hw.2 c1
    refine lv_iconst (v := (-1 : Int32)) hx hb dX10_stop_4 (by decide) ?_
    subst hQ
    exact x_iret (u := ()) hC hI hr hlk hw rfl dX10_stop_5
