def wX10_item (a1 : Int32) (a2 : Int32) (a3 : Int32) (a4 : Int64) (shI : Nat → Nat → Int64) (shH : Nat → Int32) (shL : Nat → Int32) (shS : Nat → Int32) (post : Int32 → (Nat → Nat → Int64) → Prop) : Prop := wX10_isSheetOfLane a1 a2 (fun (r1 : Int32) => ((r1 = 0 → post (-1 : Int32) shI) ∧ (¬ r1 = 0 → vp_in a1 4 ∧ ∀ k4 : Nat, k4 = a1.toNatClampNeg → wX6_refusal a2 a3 (1 : Int32) (shH k4) (shL k4) (shS k4) (fun (r5 : Int32) => ((r5 = 0 → wX6_put a3 a4 (shI k4) (shL k4) (fun (items_c7 : Nat → Int64) => post (1 : Int32) (va_up shI k4 items_c7))) ∧ (¬ r5 = 0 → post r5 shI))))))
def rmX10_item : Room := { frames := 2, cells := 0, slots := 0, locals := 45 }
theorem kX10_item_0 : Cond.fieldLink RX10 38 "GoreGlobe" "sheets" "[LGoreGlobe$Sheet;" ∈ wsX10_item := List.mem_cons_of_mem _ (List.mem_append_left _ (List.mem_append_left _ (List.mem_append_left _ (List.mem_of_getElem? (i := 0) rfl))))
theorem kX10_item_cX10 : ∀ w ∈ wsX100, w ∈ wsX10_item := fun _ h => List.mem_cons_of_mem _ (List.mem_append_left _ (List.mem_append_right _ h))
set_option maxHeartbeats 4000000 in
set_option maxRecDepth 100000 in
theorem mX10_item (l : Launch) (D : va_G) (K : Nat → ClassId) (q : Nat → Nat) (sz : Nat) (a1 : Int32) (a2 : Int32) (a3 : Int32) (a4 : Int64) (bits : Nat → Int64) (stops : Nat → Int32) (num : Int32) (unit : Int32) (strips : Int32) (caps : Int32) (draw : Int32) (oldest : Int32) (known : Int32) (ring : Nat → GS) (im : GS) (iold : Int32) (iknown : Int32) (iring : Nat → GS) (hasIm : Int32) (letters : Nat → Int32) (tbits : Nat → Int64) (tlen : Int32) (tat : Int32) (fig : Int32) (shI : Nat → Nat → Int64) (shH : Nat → Int32) (shL : Nat → Int32) (shS : Nat → Int32) (seaOf : Nat → Int32) (queue : Nat → Int32) (snum : Int32) (cost : Nat → Int32) (heap : Nat → Int64) (wait : Int32) (off : Int32) (les : Int32) (gre : Int32) (abv : Int64) (blw : Int64) (needed : Int32) (ocut : Int32) (opole : Int32)  {post : Int32 → (Nat → Nat → Int64) → Prop} (hw : wX10_item a1 a2 a3 a4 shI shH shL shS post) : Met l yX10_item wsX10_item rmX10_item (va_Pc [.ref (q 0), .int a1, .int a2, .int a3, .long a4] (cP D K (fl (lX K q bits stops num unit strips caps draw oldest known ring im iold iknown iring hasIm letters tbits tlen tat fig shI shH shL shS seaOf queue snum cost heap wait off les gre abv blw needed ocut opole)) sz)) (va_Qi (fun (r : Int32) (u : (Nat → Nat → Int64)) => post r u) (fun u t => cQ D K (fl (lX K q bits stops num unit strips caps draw oldest known ring im iold iknown iring hasIm letters tbits tlen tat fig u shH shL shS seaOf queue snum cost heap wait off les gre abv blw needed ocut opole)) (va_A (fl (lX K q bits stops num unit strips caps draw oldest known ring im iold iknown iring hasIm letters tbits tlen tat fig shI shH shL shS seaOf queue snum cost heap wait off les gre abv blw needed ocut opole)) sz) t) (va_A (fl (lX K q bits stops num unit strips caps draw oldest known ring im iold iknown iring hasIm letters tbits tlen tat fig shI shH shL shS seaOf queue snum cost heap wait off les gre abv blw needed ocut opole)) sz)) 0 0 (va_A (fl (lX K q bits stops num unit strips caps draw oldest known ring im iold iknown iring hasIm letters tbits tlen tat fig shI shH shL shS seaOf queue snum cost heap wait off les gre abv blw needed ocut opole)) sz) := by
  refine x_entry (cc := cX10_item) (maxL := 7) (ret := (some .int)) (QA := fun A => va_Qi (fun (r : Int32) (u : (Nat → Nat → Int64)) => post r u) (fun u t => cQ D K (fl (lX K q bits stops num unit strips caps draw oldest known ring im iold iknown iring hasIm letters tbits tlen tat fig u shH shL shS seaOf queue snum cost heap wait off les gre abv blw needed ocut opole)) A t) A) (plainFor_of_name (by decide)) rfl (Nat.le_of_ble_eq_true rfl) ?_
  intro p e s m args below meth c A ls H Q hQ hC hlk hr hnm hI hl
  obtain ⟨hx, hb, hml, hown, hts, hK, hA, hZ⟩ := id hC
  obtain ⟨locs, hlocs⟩ : ∃ y : List Loc, y = [] := ⟨_, rfl⟩
  rw [← hlocs] at hI ⊢
  clear hlocs
  replace hl : lv_has ls 7 [(0, .ref (q 0)), (1, .int a1), (2, .int a2), (3, .int a3), (4, .long a4)] := hl
  replace hw : wX10_isSheetOfLane a1 a2 (fun (r1 : Int32) => ((r1 = 0 → post (-1 : Int32) shI) ∧ (¬ r1 = 0 → vp_in a1 4 ∧ ∀ k4 : Nat, k4 = a1.toNatClampNeg → wX6_refusal a2 a3 (1 : Int32) (shH k4) (shL k4) (shS k4) (fun (r5 : Int32) => ((r5 = 0 → wX6_put a3 a4 (shI k4) (shL k4) (fun (items_c7 : Nat → Int64) => post (1 : Int32) (va_up shI k4 items_c7))) ∧ (¬ r5 = 0 → post r5 shI)))))) := hw
  refine lv_iload_n hx hb dX10_item_0 rfl (lv_at hl 1 rfl) ?_
  refine lv_iload_n hx hb dX10_item_1 rfl (lv_at hl 2 rfl) ?_
  refine x_callSi (rest := []) hC hI [] (mX10_isSheetOfLane l D K  _ a1 a2 hw) (va_cwS 2 hts gX10_item_X10_isSheetOfLane rfl rfl rfl (by decide +kernel) ⟨(Nat.le_of_ble_eq_true rfl), (Nat.le_of_ble_eq_true rfl)⟩) (by decide) rfl (fun _ => rfl) rfl hl.1 rfl (Nat.le_of_ble_eq_true rfl) dX10_item_2 ⟨(Nat.le_of_ble_eq_true rfl), (Nat.le_of_ble_eq_true rfl)⟩ (fun r1 u H locs hw hI => ?_)
  try dsimp only at hw
  have hI : wI s D A (fl (lX K q bits stops num unit strips caps draw oldest known ring im iold iknown iring hasIm letters tbits tlen tat fig shI shH shL shS seaOf queue snum cost heap wait off les gre abv blw needed ocut opole)) H locs := hI
  refine lv_if_ne (tgt := 10) hx hb dX10_item_5 (by decide) (fun c2 => ?_) (fun c2 => ?_)
  · replace hw := hw.2 c2
    refine lv_aload_n hx hb dX10_item_10 rfl (lv_at hl 0 rfl) ?_
    refine x_get (v := .ref (q 50)) hC hI kX10_item_cX10 0 rfl rfl 6 (by decide) kX10_item_0 rfl rfl dX10_item_11 ?_
    refine lv_iload_n hx hb dX10_item_14 rfl (lv_at hl 1 rfl) ?_
    obtain ⟨hc3, hw⟩ := hw
    obtain ⟨k4, ek4⟩ : ∃ y : Nat, y = a1.toNatClampNeg := ⟨_, rfl⟩
    replace hw := hw k4 ek4
    have hk4 : k4 < 4 := by rw [ek4]; exact vp_lt hc3
    refine x_aald (x := q (51 + 2 * k4 + 0)) hC hI 50 3 rfl rfl hc3 (by rw [ek4]; rfl) dX10_item_15 ?_
    refine lv_iload_n hx hb dX10_item_16 rfl (lv_at hl 2 rfl) ?_
    refine lv_iload_n hx hb dX10_item_17 rfl (lv_at hl 3 rfl) ?_
    refine lv_iconst (v := (1 : Int32)) hx hb dX10_item_18 (by decide) ?_
    refine x_callVi (fs := [.ref (q (51 + 2 * k4 + 1)), .int (shH k4), .int (shL k4), .int (shS k4)]) (rest := []) hC hI [(19 + k4)] (mX6_refusal l D K (fun i => q (51 + 2 * k4 + i)) _ a2 a3 (1 : Int32) (shI k4) (shH k4) (shL k4) (shS k4) hw) (cwV 3 hts gX10_item_X6_refusal rfl rfl rfl (by decide +kernel) ⟨(Nat.le_of_ble_eq_true rfl), (Nat.le_of_ble_eq_true rfl)⟩) (by rcases lt4 hk4 with rfl | rfl | rfl | rfl <;> rfl) (by rcases lt4 hk4 with rfl | rfl | rfl | rfl <;> rfl) (fun _ => rfl) (51 + 2 * k4 + 0) 4 rfl rfl (by rcases lt4 hk4 with rfl | rfl | rfl | rfl <;> rfl) rfl hl.1 rfl (Nat.le_of_ble_eq_true rfl) dX10_item_19 ⟨(Nat.le_of_ble_eq_true rfl), (Nat.le_of_ble_eq_true rfl)⟩ (fun r5 u H locs hw hI => ?_)
    try dsimp only at hw
    have hI : wI s D A (fl (lX K q bits stops num unit strips caps draw oldest known ring im iold iknown iring hasIm letters tbits tlen tat fig shI shH shL shS seaOf queue snum cost heap wait off les gre abv blw needed ocut opole)) H locs := by rcases lt4 hk4 with rfl | rfl | rfl | rfl <;> exact hI
    refine lv_istore (lv' := [(6, .int r5), (0, .ref (q 0)), (1, .int a1), (2, .int a2), (3, .int a3), (4, .long a4)]) hx hb dX10_item_22 hl (by decide) rfl (fun ls hl => ?_)
    refine lv_iload hx hb dX10_item_24 (lv_at hl 0 rfl) ?_
    refine lv_if_eq (tgt := 32) hx hb dX10_item_26 (by decide) (fun c6 => ?_) (fun c6 => ?_)
    · replace hw := hw.1 c6
      refine lv_aload_n hx hb dX10_item_32 rfl (lv_at hl 1 rfl) ?_
      refine x_get (v := .ref (q 50)) hC hI kX10_item_cX10 0 rfl rfl 6 (by decide) kX10_item_0 rfl rfl dX10_item_33 ?_
      refine lv_iload_n hx hb dX10_item_36 rfl (lv_at hl 2 rfl) ?_
      refine x_aald (x := q (51 + 2 * k4 + 0)) hC hI 50 3 rfl rfl hc3 (by rw [ek4]; rfl) dX10_item_37 ?_
      refine lv_iload_n hx hb dX10_item_38 rfl (lv_at hl 4 rfl) ?_
      refine lv_lload hx hb dX10_item_39 (lv_at hl 5 rfl) ?_
      refine x_callVv (fs := [.ref (q (51 + 2 * k4 + 1)), .int (shH k4), .int (shL k4), .int (shS k4)]) (rest := []) hC hI [(19 + k4)] (mX6_put l D K (fun i => q (51 + 2 * k4 + i)) _ a3 a4 (shI k4) (shH k4) (shL k4) (shS k4) hw) (cwV 2 hts gX10_item_X6_put rfl rfl rfl (by decide +kernel) ⟨(Nat.le_of_ble_eq_true rfl), (Nat.le_of_ble_eq_true rfl)⟩) (by rcases lt4 hk4 with rfl | rfl | rfl | rfl <;> rfl) (by rcases lt4 hk4 with rfl | rfl | rfl | rfl <;> rfl) (fun _ => rfl) (51 + 2 * k4 + 0) 4 rfl rfl (by rcases lt4 hk4 with rfl | rfl | rfl | rfl <;> rfl) rfl hl.1 rfl (Nat.le_of_ble_eq_true rfl) dX10_item_41 ⟨(Nat.le_of_ble_eq_true rfl), (Nat.le_of_ble_eq_true rfl)⟩ (fun items_c7 H locs hw hI => ?_)
      have hI : wI s D A (fl (lX K q bits stops num unit strips caps draw oldest known ring im iold iknown iring hasIm letters tbits tlen tat fig (va_up shI k4 items_c7) shH shL shS seaOf queue snum cost heap wait off les gre abv blw needed ocut opole)) H locs := by rcases lt4 hk4 with rfl | rfl | rfl | rfl <;> exact hI
      refine lv_iconst (v := (1 : Int32)) hx hb dX10_item_44 (by decide) ?_
      subst hQ
      exact x_iret (u := (va_up shI k4 items_c7)) hC hI hr hlk hw rfl dX10_item_45
    · replace hw := hw.2 c6
      refine lv_iload hx hb dX10_item_29 (lv_at hl 0 rfl) ?_
      subst hQ
      exact x_iret (u := shI) hC hI hr hlk hw rfl dX10_item_31
  · replace hw := hw.1 c2
    refine lv_iconst (v := (-1 : Int32)) hx hb dX10_item_8 (by decide) ?_
    subst hQ
    exact x_iret (u := shI) hC hI hr hlk hw rfl dX10_item_9
