def wX10_drop (a1 : Int32) (shH : Nat → Int32) (shS : Nat → Int32) (post : Int32 → (Nat → Int32) → Prop) : Prop := wX10_isIn a1 (0 : Int32) (3 : Int32) (fun (r1 : Int32) => ((r1 = 0 → post (-1 : Int32) shH) ∧ (¬ r1 = 0 → vp_in a1 4 ∧ ∀ k4 : Nat, k4 = a1.toNatClampNeg → (((shH k4) = 0 → post (-11 : Int32) shH) ∧ (¬ (shH k4) = 0 → post (shS k4) (va_up shH k4 (0 : Int32)))))))
def rmX10_drop : Room := { frames := 1, cells := 0, slots := 0, locals := 22 }
theorem kX10_drop_0 : Cond.fieldLink RX10 38 "GoreGlobe" "sheets" "[LGoreGlobe$Sheet;" ∈ wsX10_drop := List.mem_cons_of_mem _ (List.mem_append_left _ (List.mem_append_left _ (List.mem_of_getElem? (i := 0) rfl)))
theorem kX10_drop_cX10 : ∀ w ∈ wsX100, w ∈ wsX10_drop := fun _ h => List.mem_cons_of_mem _ (List.mem_append_left _ (List.mem_append_right _ h))
theorem kX10_drop_2 : Cond.fieldLink RX10 321 "GoreGlobe$Sheet" "isHeld" "Z" ∈ wsX10_drop := List.mem_cons_of_mem _ (List.mem_append_left _ (List.mem_append_left _ (List.mem_of_getElem? (i := 1) rfl)))
theorem kX10_drop_cX6 : ∀ w ∈ wsX60, w ∈ wsX10_drop := fun _ h => List.mem_cons_of_mem _ (List.mem_append_right _ h)
theorem kX10_drop_4 : Cond.fieldLink RX10 324 "GoreGlobe$Sheet" "size" "I" ∈ wsX10_drop := List.mem_cons_of_mem _ (List.mem_append_left _ (List.mem_append_left _ (List.mem_of_getElem? (i := 2) rfl)))
set_option maxHeartbeats 4000000 in
set_option maxRecDepth 100000 in
theorem mX10_drop (l : Launch) (D : va_G) (K : Nat → ClassId) (q : Nat → Nat) (sz : Nat) (a1 : Int32) (bits : Nat → Int64) (stops : Nat → Int32) (num : Int32) (unit : Int32) (strips : Int32) (caps : Int32) (draw : Int32) (oldest : Int32) (known : Int32) (ring : Nat → GS) (im : GS) (iold : Int32) (iknown : Int32) (iring : Nat → GS) (hasIm : Int32) (letters : Nat → Int32) (tbits : Nat → Int64) (tlen : Int32) (tat : Int32) (fig : Int32) (shI : Nat → Nat → Int64) (shH : Nat → Int32) (shL : Nat → Int32) (shS : Nat → Int32) (seaOf : Nat → Int32) (queue : Nat → Int32) (snum : Int32) (cost : Nat → Int32) (heap : Nat → Int64) (wait : Int32) (off : Int32) (les : Int32) (gre : Int32) (abv : Int64) (blw : Int64) (needed : Int32) (ocut : Int32) (opole : Int32)  {post : Int32 → (Nat → Int32) → Prop} (hw : wX10_drop a1 shH shS post) : Met l yX10_drop wsX10_drop rmX10_drop (va_Pc [.ref (q 0), .int a1] (cP D K (fl (lX K q bits stops num unit strips caps draw oldest known ring im iold iknown iring hasIm letters tbits tlen tat fig shI shH shL shS seaOf queue snum cost heap wait off les gre abv blw needed ocut opole)) sz)) (va_Qi (fun (r : Int32) (u : (Nat → Int32)) => post r u) (fun u t => cQ D K (fl (lX K q bits stops num unit strips caps draw oldest known ring im iold iknown iring hasIm letters tbits tlen tat fig shI u shL shS seaOf queue snum cost heap wait off les gre abv blw needed ocut opole)) (va_A (fl (lX K q bits stops num unit strips caps draw oldest known ring im iold iknown iring hasIm letters tbits tlen tat fig shI shH shL shS seaOf queue snum cost heap wait off les gre abv blw needed ocut opole)) sz) t) (va_A (fl (lX K q bits stops num unit strips caps draw oldest known ring im iold iknown iring hasIm letters tbits tlen tat fig shI shH shL shS seaOf queue snum cost heap wait off les gre abv blw needed ocut opole)) sz)) 0 0 (va_A (fl (lX K q bits stops num unit strips caps draw oldest known ring im iold iknown iring hasIm letters tbits tlen tat fig shI shH shL shS seaOf queue snum cost heap wait off les gre abv blw needed ocut opole)) sz) := by
  refine x_entry (cc := cX10_drop) (maxL := 3) (ret := (some .int)) (QA := fun A => va_Qi (fun (r : Int32) (u : (Nat → Int32)) => post r u) (fun u t => cQ D K (fl (lX K q bits stops num unit strips caps draw oldest known ring im iold iknown iring hasIm letters tbits tlen tat fig shI u shL shS seaOf queue snum cost heap wait off les gre abv blw needed ocut opole)) A t) A) (plainFor_of_name (by decide)) rfl (Nat.le_of_ble_eq_true rfl) ?_
  intro p e s m args below meth c A ls H Q hQ hC hlk hr hnm hI hl
  obtain ⟨hx, hb, hml, hown, hts, hK, hA, hZ⟩ := id hC
  obtain ⟨locs, hlocs⟩ : ∃ y : List Loc, y = [] := ⟨_, rfl⟩
  rw [← hlocs] at hI ⊢
  clear hlocs
  replace hl : lv_has ls 3 [(0, .ref (q 0)), (1, .int a1)] := hl
  replace hw : wX10_isIn a1 (0 : Int32) (3 : Int32) (fun (r1 : Int32) => ((r1 = 0 → post (-1 : Int32) shH) ∧ (¬ r1 = 0 → vp_in a1 4 ∧ ∀ k4 : Nat, k4 = a1.toNatClampNeg → (((shH k4) = 0 → post (-11 : Int32) shH) ∧ (¬ (shH k4) = 0 → post (shS k4) (va_up shH k4 (0 : Int32))))))) := hw
  refine lv_iload_n hx hb dX10_drop_0 rfl (lv_at hl 1 rfl) ?_
  refine lv_iconst (v := (0 : Int32)) hx hb dX10_drop_1 (by decide) ?_
  refine lv_iconst (v := (3 : Int32)) hx hb dX10_drop_2 (by decide) ?_
  refine x_callSi (rest := []) hC hI [] (mX10_isIn l D K  _ a1 (0 : Int32) (3 : Int32) hw) (va_cwS 3 hts gX10_drop_X10_isIn rfl rfl rfl (by decide +kernel) ⟨(Nat.le_of_ble_eq_true rfl), (Nat.le_of_ble_eq_true rfl)⟩) (by decide) rfl (fun _ => rfl) rfl hl.1 rfl (Nat.le_of_ble_eq_true rfl) dX10_drop_3 ⟨(Nat.le_of_ble_eq_true rfl), (Nat.le_of_ble_eq_true rfl)⟩ (fun r1 u H locs hw hI => ?_)
  try dsimp only at hw
  have hI : wI s D A (fl (lX K q bits stops num unit strips caps draw oldest known ring im iold iknown iring hasIm letters tbits tlen tat fig shI shH shL shS seaOf queue snum cost heap wait off les gre abv blw needed ocut opole)) H locs := hI
  refine lv_if_ne (tgt := 11) hx hb dX10_drop_6 (by decide) (fun c2 => ?_) (fun c2 => ?_)
  · replace hw := hw.2 c2
    refine lv_aload_n hx hb dX10_drop_11 rfl (lv_at hl 0 rfl) ?_
    refine x_get (v := .ref (q 50)) hC hI kX10_drop_cX10 0 rfl rfl 6 (by decide) kX10_drop_0 rfl rfl dX10_drop_12 ?_
    refine lv_iload_n hx hb dX10_drop_15 rfl (lv_at hl 1 rfl) ?_
    obtain ⟨hc3, hw⟩ := hw
    obtain ⟨k4, ek4⟩ : ∃ y : Nat, y = a1.toNatClampNeg := ⟨_, rfl⟩
    replace hw := hw k4 ek4
    have hk4 : k4 < 4 := by rw [ek4]; exact vp_lt hc3
    refine x_aald (x := q (51 + 2 * k4 + 0)) hC hI 50 3 rfl rfl hc3 (by rw [ek4]; rfl) dX10_drop_16 ?_
    refine lv_astore_n (lv' := [(2, .ref (q (51 + 2 * k4 + 0))), (0, .ref (q 0)), (1, .int a1)]) hx hb dX10_drop_17 rfl hl (by decide) rfl (fun ls hl => ?_)
    refine lv_aload_n hx hb dX10_drop_18 rfl (lv_at hl 0 rfl) ?_
    refine x_get (v := .int (shH k4)) (fs := [.ref (q (51 + 2 * k4 + 1)), .int (shH k4), .int (shL k4), .int (shS k4)]) (ci := 4) hC hI kX10_drop_cX6 (51 + 2 * k4 + 0) (by rcases lt4 hk4 with rfl | rfl | rfl | rfl <;> rfl) rfl 1 (by decide) kX10_drop_2 rfl rfl dX10_drop_19 ?_
    refine lv_if_ne (tgt := 28) hx hb dX10_drop_22 (by decide) (fun c5 => ?_) (fun c5 => ?_)
    · replace hw := hw.2 c5
      refine lv_aload_n hx hb dX10_drop_28 rfl (lv_at hl 0 rfl) ?_
      refine lv_iconst (v := (0 : Int32)) hx hb dX10_drop_29 (by decide) ?_
      refine x_put (v := .int (0 : Int32)) (fs := [.ref (q (51 + 2 * k4 + 1)), .int (shH k4), .int (shL k4), .int (shS k4)]) (ci := 4) (a := (q (51 + 2 * k4 + 0))) hC hI kX10_drop_cX6 tyX6 tyX6_ok nmX6 (51 + 2 * k4 + 0) (by rcases lt4 hk4 with rfl | rfl | rfl | rfl <;> rfl) rfl 1 (by decide) kX10_drop_2 rfl rfl rfl rfl (Nat.le_of_ble_eq_true rfl) dX10_drop_30 (fun H locs hI => ?_)
      have hI : wI s D A (fl (lX K q bits stops num unit strips caps draw oldest known ring im iold iknown iring hasIm letters tbits tlen tat fig shI (va_up shH k4 (0 : Int32)) shL shS seaOf queue snum cost heap wait off les gre abv blw needed ocut opole)) H locs := by rcases lt4 hk4 with rfl | rfl | rfl | rfl <;> exact hI
      refine lv_aload_n hx hb dX10_drop_33 rfl (lv_at hl 0 rfl) ?_
      refine x_get (v := .int (shS k4)) (fs := [.ref (q (51 + 2 * k4 + 1)), .int ((va_up shH k4 (0 : Int32)) k4), .int (shL k4), .int (shS k4)]) (ci := 4) hC hI kX10_drop_cX6 (51 + 2 * k4 + 0) (by rcases lt4 hk4 with rfl | rfl | rfl | rfl <;> rfl) rfl 3 (by decide) kX10_drop_4 rfl rfl dX10_drop_34 ?_
      subst hQ
      exact x_iret (u := (va_up shH k4 (0 : Int32))) hC hI hr hlk hw rfl dX10_drop_37
    · replace hw := hw.1 c5
      refine lv_bipush (v := (-11 : Int32)) hx hb dX10_drop_25 (by decide) ?_
      subst hQ
      exact x_iret (u := shH) hC hI hr hlk hw rfl dX10_drop_27
  · replace hw := hw.1 c2
    refine lv_iconst (v := (-1 : Int32)) hx hb dX10_drop_9 (by decide) ?_
    subst hQ
    exact x_iret (u := shH) hC hI hr hlk hw rfl dX10_drop_10
