def wX10_rolled (a1 : Int32) (a2 : Int32) (bits : Nat → Int64) (stops : Nat → Int32) (num : Int32) (unit : Int32) (cost : Nat → Int32) (heap : Nat → Int64) (wait : Int32) (post : Int32 → (Nat → Int32) → (Nat → Int64) → Int32 → Prop) : Prop := wX10_isIn a1 (1 : Int32) (10000 : Int32) (fun (r1 : Int32) => ((r1 = 0 → post (-1 : Int32) cost heap wait) ∧ (¬ r1 = 0 → wX10_isIn a2 (0 : Int32) (1 : Int32) (fun (r3 : Int32) => ((r3 = 0 → post (-1 : Int32) cost heap wait) ∧ (¬ r3 = 0 → wX10_routeLength bits stops num unit cost heap wait (fun (r8 : Int32) (cost_c5 : Nat → Int32) (heap_c6 : Nat → Int64) (wait_c7 : Int32) => ((r8 = (-4 : Int32) → post (-4 : Int32) cost_c5 heap_c6 wait_c7) ∧ (¬ r8 = (-4 : Int32) → ((a2 = 0 → ¬ a1 = 0 ∧ post (r8 / a1) cost_c5 heap_c6 wait_c7) ∧ (¬ a2 = 0 → ¬ a1 = 0 ∧ post (r8 - r8 / a1 * a1) cost_c5 heap_c6 wait_c7)))))))))))
def rmX10_rolled : Room := { frames := 6, cells := 0, slots := 0, locals := 141 }
set_option maxHeartbeats 4000000 in
set_option maxRecDepth 100000 in
theorem mX10_rolled (l : Launch) (D : va_G) (K : Nat → ClassId) (q : Nat → Nat) (sz : Nat) (a1 : Int32) (a2 : Int32) (bits : Nat → Int64) (stops : Nat → Int32) (num : Int32) (unit : Int32) (strips : Int32) (caps : Int32) (draw : Int32) (oldest : Int32) (known : Int32) (ring : Nat → GS) (im : GS) (iold : Int32) (iknown : Int32) (iring : Nat → GS) (hasIm : Int32) (letters : Nat → Int32) (tbits : Nat → Int64) (tlen : Int32) (tat : Int32) (fig : Int32) (shI : Nat → Nat → Int64) (shH : Nat → Int32) (shL : Nat → Int32) (shS : Nat → Int32) (seaOf : Nat → Int32) (queue : Nat → Int32) (snum : Int32) (cost : Nat → Int32) (heap : Nat → Int64) (wait : Int32) (off : Int32) (les : Int32) (gre : Int32) (abv : Int64) (blw : Int64) (needed : Int32) (ocut : Int32) (opole : Int32)  {post : Int32 → (Nat → Int32) → (Nat → Int64) → Int32 → Prop} (hw : wX10_rolled a1 a2 bits stops num unit cost heap wait post) : Met l yX10_rolled wsX10_rolled rmX10_rolled (va_Pc [.ref (q 0), .int a1, .int a2] (cP D K (fl (lX K q bits stops num unit strips caps draw oldest known ring im iold iknown iring hasIm letters tbits tlen tat fig shI shH shL shS seaOf queue snum cost heap wait off les gre abv blw needed ocut opole)) sz)) (va_Qi (fun (r : Int32) (u : (Nat → Int32) × (Nat → Int64) × Int32) => post r u.1 u.2.1 u.2.2) (fun u t => cQ D K (fl (lX K q bits stops num unit strips caps draw oldest known ring im iold iknown iring hasIm letters tbits tlen tat fig shI shH shL shS seaOf queue snum u.1 u.2.1 u.2.2 off les gre abv blw needed ocut opole)) (va_A (fl (lX K q bits stops num unit strips caps draw oldest known ring im iold iknown iring hasIm letters tbits tlen tat fig shI shH shL shS seaOf queue snum cost heap wait off les gre abv blw needed ocut opole)) sz) t) (va_A (fl (lX K q bits stops num unit strips caps draw oldest known ring im iold iknown iring hasIm letters tbits tlen tat fig shI shH shL shS seaOf queue snum cost heap wait off les gre abv blw needed ocut opole)) sz)) 0 0 (va_A (fl (lX K q bits stops num unit strips caps draw oldest known ring im iold iknown iring hasIm letters tbits tlen tat fig shI shH shL shS seaOf queue snum cost heap wait off les gre abv blw needed ocut opole)) sz) := by
  refine x_entry (cc := cX10_rolled) (maxL := 4) (ret := (some .int)) (QA := fun A => va_Qi (fun (r : Int32) (u : (Nat → Int32) × (Nat → Int64) × Int32) => post r u.1 u.2.1 u.2.2) (fun u t => cQ D K (fl (lX K q bits stops num unit strips caps draw oldest known ring im iold iknown iring hasIm letters tbits tlen tat fig shI shH shL shS seaOf queue snum u.1 u.2.1 u.2.2 off les gre abv blw needed ocut opole)) A t) A) (plainFor_of_name (by decide)) rfl (Nat.le_of_ble_eq_true rfl) ?_
  intro p e s m args below meth c A ls H Q hQ hC hlk hr hnm hI hl
  obtain ⟨hx, hb, hml, hown, hts, hK, hA, hZ⟩ := id hC
  obtain ⟨locs, hlocs⟩ : ∃ y : List Loc, y = [] := ⟨_, rfl⟩
  rw [← hlocs] at hI ⊢
  clear hlocs
  replace hl : lv_has ls 4 [(0, .ref (q 0)), (1, .int a1), (2, .int a2)] := hl
  replace hw : wX10_isIn a1 (1 : Int32) (10000 : Int32) (fun (r1 : Int32) => ((r1 = 0 → post (-1 : Int32) cost heap wait) ∧ (¬ r1 = 0 → wX10_isIn a2 (0 : Int32) (1 : Int32) (fun (r3 : Int32) => ((r3 = 0 → post (-1 : Int32) cost heap wait) ∧ (¬ r3 = 0 → wX10_routeLength bits stops num unit cost heap wait (fun (r8 : Int32) (cost_c5 : Nat → Int32) (heap_c6 : Nat → Int64) (wait_c7 : Int32) => ((r8 = (-4 : Int32) → post (-4 : Int32) cost_c5 heap_c6 wait_c7) ∧ (¬ r8 = (-4 : Int32) → ((a2 = 0 → ¬ a1 = 0 ∧ post (r8 / a1) cost_c5 heap_c6 wait_c7) ∧ (¬ a2 = 0 → ¬ a1 = 0 ∧ post (r8 - r8 / a1 * a1) cost_c5 heap_c6 wait_c7))))))))))) := hw
  refine lv_iload_n hx hb dX10_rolled_0 rfl (lv_at hl 1 rfl) ?_
  refine lv_iconst (v := (1 : Int32)) hx hb dX10_rolled_1 (by decide) ?_
  refine lv_sipush (v := (10000 : Int32)) hx hb dX10_rolled_2 (by decide) ?_
  refine x_callSi (rest := []) hC hI [] (mX10_isIn l D K  _ a1 (1 : Int32) (10000 : Int32) hw) (va_cwS 3 hts gX10_rolled_X10_isIn rfl rfl rfl (by decide +kernel) ⟨(Nat.le_of_ble_eq_true rfl), (Nat.le_of_ble_eq_true rfl)⟩) (by decide) rfl (fun _ => rfl) rfl hl.1 rfl (Nat.le_of_ble_eq_true rfl) dX10_rolled_5 ⟨(Nat.le_of_ble_eq_true rfl), (Nat.le_of_ble_eq_true rfl)⟩ (fun r1 u H locs hw hI => ?_)
  try dsimp only at hw
  have hI : wI s D A (fl (lX K q bits stops num unit strips caps draw oldest known ring im iold iknown iring hasIm letters tbits tlen tat fig shI shH shL shS seaOf queue snum cost heap wait off les gre abv blw needed ocut opole)) H locs := hI
  refine lv_if_eq (tgt := 20) hx hb dX10_rolled_8 (by decide) (fun c2 => ?_) (fun c2 => ?_)
  · replace hw := hw.1 c2
    refine lv_iconst (v := (-1 : Int32)) hx hb dX10_rolled_20 (by decide) ?_
    subst hQ
    exact x_iret (u := (cost, heap, wait)) hC hI hr hlk hw rfl dX10_rolled_21
  · replace hw := hw.2 c2
    refine lv_iload_n hx hb dX10_rolled_11 rfl (lv_at hl 2 rfl) ?_
    refine lv_iconst (v := (0 : Int32)) hx hb dX10_rolled_12 (by decide) ?_
    refine lv_iconst (v := (1 : Int32)) hx hb dX10_rolled_13 (by decide) ?_
    refine x_callSi (rest := []) hC hI [] (mX10_isIn l D K  _ a2 (0 : Int32) (1 : Int32) hw) (va_cwS 3 hts gX10_rolled_X10_isIn rfl rfl rfl (by decide +kernel) ⟨(Nat.le_of_ble_eq_true rfl), (Nat.le_of_ble_eq_true rfl)⟩) (by decide) rfl (fun _ => rfl) rfl hl.1 rfl (Nat.le_of_ble_eq_true rfl) dX10_rolled_14 ⟨(Nat.le_of_ble_eq_true rfl), (Nat.le_of_ble_eq_true rfl)⟩ (fun r3 u H locs hw hI => ?_)
    try dsimp only at hw
    have hI : wI s D A (fl (lX K q bits stops num unit strips caps draw oldest known ring im iold iknown iring hasIm letters tbits tlen tat fig shI shH shL shS seaOf queue snum cost heap wait off les gre abv blw needed ocut opole)) H locs := hI
    refine lv_if_ne (tgt := 22) hx hb dX10_rolled_17 (by decide) (fun c4 => ?_) (fun c4 => ?_)
    · replace hw := hw.2 c4
      refine lv_aload_n hx hb dX10_rolled_22 rfl (lv_at hl 0 rfl) ?_
      refine x_callWi (rest := []) hC hI (mX10_routeLength l D K q _ bits stops num unit strips caps draw oldest known ring im iold iknown iring hasIm letters tbits tlen tat fig shI shH shL shS seaOf queue snum cost heap wait off les gre abv blw needed ocut opole hw) (cwV 0 hts gX10_rolled_X10_routeLength rfl rfl rfl (by decide +kernel) ⟨(Nat.le_of_ble_eq_true rfl), (Nat.le_of_ble_eq_true rfl)⟩) (fun _ => rfl) 0 8 rfl rfl rfl rfl hl.1 rfl (Nat.le_of_ble_eq_true rfl) dX10_rolled_23 ⟨(Nat.le_of_ble_eq_true rfl), (Nat.le_of_ble_eq_true rfl)⟩ (fun r8 u H locs hw hI => ?_)
      obtain ⟨cost_c5, heap_c6, wait_c7⟩ := u
      try dsimp only at hw
      have hI : wI s D A (fl (lX K q bits stops num unit strips caps draw oldest known ring im iold iknown iring hasIm letters tbits tlen tat fig shI shH shL shS seaOf queue snum cost_c5 heap_c6 wait_c7 off les gre abv blw needed ocut opole)) H locs := hI
      refine lv_istore_n (lv' := [(3, .int r8), (0, .ref (q 0)), (1, .int a1), (2, .int a2)]) hx hb dX10_rolled_26 rfl hl (by decide) rfl (fun ls hl => ?_)
      refine lv_iload_n hx hb dX10_rolled_27 rfl (lv_at hl 0 rfl) ?_
      refine lv_bipush (v := (-4 : Int32)) hx hb dX10_rolled_28 (by decide) ?_
      refine lv_icmp_ne (tgt := 36) hx hb dX10_rolled_30 (by decide) (fun c9 => ?_) (fun c9 => ?_)
      · replace hw := hw.2 c9
        refine lv_iload_n hx hb dX10_rolled_36 rfl (lv_at hl 3 rfl) ?_
        refine lv_if_ne (tgt := 46) hx hb dX10_rolled_37 (by decide) (fun c10 => ?_) (fun c10 => ?_)
        · replace hw := hw.2 c10
          refine lv_iload_n hx hb dX10_rolled_46 rfl (lv_at hl 0 rfl) ?_
          refine lv_iload_n hx hb dX10_rolled_47 rfl (lv_at hl 2 rfl) ?_
          obtain ⟨hc11, hw⟩ := hw
          refine lv_irem hx hb dX10_rolled_48 hc11 ?_
          subst hQ
          exact x_iret (u := (cost_c5, heap_c6, wait_c7)) hC hI hr hlk hw rfl dX10_rolled_49
        · replace hw := hw.1 c10
          refine lv_iload_n hx hb dX10_rolled_40 rfl (lv_at hl 0 rfl) ?_
          refine lv_iload_n hx hb dX10_rolled_41 rfl (lv_at hl 2 rfl) ?_
          obtain ⟨hc12, hw⟩ := hw
          refine lv_idiv hx hb dX10_rolled_42 hc12 ?_
          refine lv_goto (tgt := 49) hx hb dX10_rolled_43 (by decide) ?_
          subst hQ
          exact x_iret (u := (cost_c5, heap_c6, wait_c7)) hC hI hr hlk hw rfl dX10_rolled_49
      · replace hw := hw.1 c9
        refine lv_bipush (v := (-4 : Int32)) hx hb dX10_rolled_33 (by decide) ?_
        subst hQ
        exact x_iret (u := (cost_c5, heap_c6, wait_c7)) hC hI hr hlk hw rfl dX10_rolled_35
    · replace hw := hw.1 c4
      refine lv_iconst (v := (-1 : Int32)) hx hb dX10_rolled_20 (by decide) ?_
      subst hQ
      exact x_iret (u := (cost, heap, wait)) hC hI hr hlk hw rfl dX10_rolled_21
