def wX10_sheet (a1 : Int32) (a2 : Int32) (a3 : Int32) (shI : Nat → Nat → Int64) (shH : Nat → Int32) (shL : Nat → Int32) (shS : Nat → Int32) (post : Int32 → (Nat → Nat → Int64) → (Nat → Int32) → (Nat → Int32) → (Nat → Int32) → Prop) : Prop := wX10_isSheetOfLane a1 a2 (fun (r1 : Int32) => ((r1 = 0 → post (-1 : Int32) shI shH shL shS) ∧ (¬ r1 = 0 → ((a3 ≤ (30 : Int32) → ((0 ≤ a3 → vp_in a1 4 ∧ ∀ k6 : Nat, k6 = a1.toNatClampNeg → wX6_renew a2 a3 (shI k6) (fun (items_c7 : Nat → Int64) (held_c8 : Int32) (lane_c9 : Int32) (size_c10 : Int32) => post a3 (va_up shI k6 items_c7) (va_up shH k6 held_c8) (va_up shL k6 lane_c9) (va_up shS k6 size_c10))) ∧ (¬ 0 ≤ a3 → post (-14 : Int32) shI shH shL shS))) ∧ (¬ a3 ≤ (30 : Int32) → post (-1 : Int32) shI shH shL shS)))))
def rmX10_sheet : Room := { frames := 2, cells := 0, slots := 0, locals := 46 }
theorem kX10_sheet_0 : Cond.fieldLink RX10 38 "GoreGlobe" "sheets" "[LGoreGlobe$Sheet;" ∈ wsX10_sheet := List.mem_cons_of_mem _ (List.mem_append_left _ (List.mem_append_left _ (List.mem_of_getElem? (i := 0) rfl)))
theorem kX10_sheet_cX10 : ∀ w ∈ wsX100, w ∈ wsX10_sheet := fun _ h => List.mem_cons_of_mem _ (List.mem_append_left _ (List.mem_append_right _ h))
set_option maxHeartbeats 4000000 in
set_option maxRecDepth 100000 in
theorem mX10_sheet (l : Launch) (D : va_G) (K : Nat → ClassId) (q : Nat → Nat) (sz : Nat) (a1 : Int32) (a2 : Int32) (a3 : Int32) (bits : Nat → Int64) (stops : Nat → Int32) (num : Int32) (unit : Int32) (strips : Int32) (caps : Int32) (draw : Int32) (oldest : Int32) (known : Int32) (ring : Nat → GS) (im : GS) (iold : Int32) (iknown : Int32) (iring : Nat → GS) (hasIm : Int32) (letters : Nat → Int32) (tbits : Nat → Int64) (tlen : Int32) (tat : Int32) (fig : Int32) (shI : Nat → Nat → Int64) (shH : Nat → Int32) (shL : Nat → Int32) (shS : Nat → Int32) (seaOf : Nat → Int32) (queue : Nat → Int32) (snum : Int32) (cost : Nat → Int32) (heap : Nat → Int64) (wait : Int32) (off : Int32) (les : Int32) (gre : Int32) (abv : Int64) (blw : Int64) (needed : Int32) (ocut : Int32) (opole : Int32)  {post : Int32 → (Nat → Nat → Int64) → (Nat → Int32) → (Nat → Int32) → (Nat → Int32) → Prop} (hw : wX10_sheet a1 a2 a3 shI shH shL shS post) : Met l yX10_sheet wsX10_sheet rmX10_sheet (va_Pc [.ref (q 0), .int a1, .int a2, .int a3] (cP D K (fl (lX K q bits stops num unit strips caps draw oldest known ring im iold iknown iring hasIm letters tbits tlen tat fig shI shH shL shS seaOf queue snum cost heap wait off les gre abv blw needed ocut opole)) sz)) (va_Qi (fun (r : Int32) (u : (Nat → Nat → Int64) × (Nat → Int32) × (Nat → Int32) × (Nat → Int32)) => post r u.1 u.2.1 u.2.2.1 u.2.2.2) (fun u t => cQ D K (fl (lX K q bits stops num unit strips caps draw oldest known ring im iold iknown iring hasIm letters tbits tlen tat fig u.1 u.2.1 u.2.2.1 u.2.2.2 seaOf queue snum cost heap wait off les gre abv blw needed ocut opole)) (va_A (fl (lX K q bits stops num unit strips caps draw oldest known ring im iold iknown iring hasIm letters tbits tlen tat fig shI shH shL shS seaOf queue snum cost heap wait off les gre abv blw needed ocut opole)) sz) t) (va_A (fl (lX K q bits stops num unit strips caps draw oldest known ring im iold iknown iring hasIm letters tbits tlen tat fig shI shH shL shS seaOf queue snum cost heap wait off les gre abv blw needed ocut opole)) sz)) 0 0 (va_A (fl (lX K q bits stops num unit strips caps draw oldest known ring im iold iknown iring hasIm letters tbits tlen tat fig shI shH shL shS seaOf queue snum cost heap wait off les gre abv blw needed ocut opole)) sz) := by
  refine x_entry (cc := cX10_sheet) (maxL := 4) (ret := (some .int)) (QA := fun A => va_Qi (fun (r : Int32) (u : (Nat → Nat → Int64) × (Nat → Int32) × (Nat → Int32) × (Nat → Int32)) => post r u.1 u.2.1 u.2.2.1 u.2.2.2) (fun u t => cQ D K (fl (lX K q bits stops num unit strips caps draw oldest known ring im iold iknown iring hasIm letters tbits tlen tat fig u.1 u.2.1 u.2.2.1 u.2.2.2 seaOf queue snum cost heap wait off les gre abv blw needed ocut opole)) A t) A) (plainFor_of_name (by decide)) rfl (Nat.le_of_ble_eq_true rfl) ?_
  intro p e s m args below meth c A ls H Q hQ hC hlk hr hnm hI hl
  obtain ⟨hx, hb, hml, hown, hts, hK, hA, hZ⟩ := id hC
  obtain ⟨locs, hlocs⟩ : ∃ y : List Loc, y = [] := ⟨_, rfl⟩
  rw [← hlocs] at hI ⊢
  clear hlocs
  replace hl : lv_has ls 4 [(0, .ref (q 0)), (1, .int a1), (2, .int a2), (3, .int a3)] := hl
  replace hw : wX10_isSheetOfLane a1 a2 (fun (r1 : Int32) => ((r1 = 0 → post (-1 : Int32) shI shH shL shS) ∧ (¬ r1 = 0 → ((a3 ≤ (30 : Int32) → ((0 ≤ a3 → vp_in a1 4 ∧ ∀ k6 : Nat, k6 = a1.toNatClampNeg → wX6_renew a2 a3 (shI k6) (fun (items_c7 : Nat → Int64) (held_c8 : Int32) (lane_c9 : Int32) (size_c10 : Int32) => post a3 (va_up shI k6 items_c7) (va_up shH k6 held_c8) (va_up shL k6 lane_c9) (va_up shS k6 size_c10))) ∧ (¬ 0 ≤ a3 → post (-14 : Int32) shI shH shL shS))) ∧ (¬ a3 ≤ (30 : Int32) → post (-1 : Int32) shI shH shL shS))))) := hw
  refine lv_iload_n hx hb dX10_sheet_0 rfl (lv_at hl 1 rfl) ?_
  refine lv_iload_n hx hb dX10_sheet_1 rfl (lv_at hl 2 rfl) ?_
  refine x_callSi (rest := []) hC hI [] (mX10_isSheetOfLane l D K  _ a1 a2 hw) (va_cwS 2 hts gX10_sheet_X10_isSheetOfLane rfl rfl rfl (by decide +kernel) ⟨(Nat.le_of_ble_eq_true rfl), (Nat.le_of_ble_eq_true rfl)⟩) (by decide) rfl (fun _ => rfl) rfl hl.1 rfl (Nat.le_of_ble_eq_true rfl) dX10_sheet_2 ⟨(Nat.le_of_ble_eq_true rfl), (Nat.le_of_ble_eq_true rfl)⟩ (fun r1 u H locs hw hI => ?_)
  try dsimp only at hw
  have hI : wI s D A (fl (lX K q bits stops num unit strips caps draw oldest known ring im iold iknown iring hasIm letters tbits tlen tat fig shI shH shL shS seaOf queue snum cost heap wait off les gre abv blw needed ocut opole)) H locs := hI
  refine lv_if_eq (tgt := 14) hx hb dX10_sheet_5 (by decide) (fun c2 => ?_) (fun c2 => ?_)
  · replace hw := hw.1 c2
    refine lv_iconst (v := (-1 : Int32)) hx hb dX10_sheet_14 (by decide) ?_
    subst hQ
    exact x_iret (u := (shI, shH, shL, shS)) hC hI hr hlk hw rfl dX10_sheet_15
  · replace hw := hw.2 c2
    refine lv_iload_n hx hb dX10_sheet_8 rfl (lv_at hl 3 rfl) ?_
    refine lv_bipush (v := (30 : Int32)) hx hb dX10_sheet_9 (by decide) ?_
    refine lv_icmp_le (tgt := 16) hx hb dX10_sheet_11 (by decide) (fun c3 => ?_) (fun c3 => ?_)
    · replace hw := hw.1 c3
      refine lv_iload_n hx hb dX10_sheet_16 rfl (lv_at hl 3 rfl) ?_
      refine lv_if_ge (tgt := 23) hx hb dX10_sheet_17 (by decide) (fun c4 => ?_) (fun c4 => ?_)
      · replace hw := hw.1 c4
        refine lv_aload_n hx hb dX10_sheet_23 rfl (lv_at hl 0 rfl) ?_
        refine x_get (v := .ref (q 50)) hC hI kX10_sheet_cX10 0 rfl rfl 6 (by decide) kX10_sheet_0 rfl rfl dX10_sheet_24 ?_
        refine lv_iload_n hx hb dX10_sheet_27 rfl (lv_at hl 1 rfl) ?_
        obtain ⟨hc5, hw⟩ := hw
        obtain ⟨k6, ek6⟩ : ∃ y : Nat, y = a1.toNatClampNeg := ⟨_, rfl⟩
        replace hw := hw k6 ek6
        have hk6 : k6 < 4 := by rw [ek6]; exact vp_lt hc5
        refine x_aald (x := q (51 + 2 * k6 + 0)) hC hI 50 3 rfl rfl hc5 (by rw [ek6]; rfl) dX10_sheet_28 ?_
        refine lv_iload_n hx hb dX10_sheet_29 rfl (lv_at hl 2 rfl) ?_
        refine lv_iload_n hx hb dX10_sheet_30 rfl (lv_at hl 3 rfl) ?_
        refine x_callVv (fs := [.ref (q (51 + 2 * k6 + 1)), .int (shH k6), .int (shL k6), .int (shS k6)]) (rest := []) hC hI [(19 + k6)] (mX6_renew l D K (fun i => q (51 + 2 * k6 + i)) _ a2 a3 (shI k6) (shH k6) (shL k6) (shS k6) hw) (cwV 2 hts gX10_sheet_X6_renew rfl rfl rfl (by decide +kernel) ⟨(Nat.le_of_ble_eq_true rfl), (Nat.le_of_ble_eq_true rfl)⟩) (by rcases lt4 hk6 with rfl | rfl | rfl | rfl <;> rfl) (by rcases lt4 hk6 with rfl | rfl | rfl | rfl <;> rfl) (fun _ => rfl) (51 + 2 * k6 + 0) 4 rfl rfl (by rcases lt4 hk6 with rfl | rfl | rfl | rfl <;> rfl) rfl hl.1 rfl (Nat.le_of_ble_eq_true rfl) dX10_sheet_31 ⟨(Nat.le_of_ble_eq_true rfl), (Nat.le_of_ble_eq_true rfl)⟩ (fun u H locs hw hI => ?_)
        obtain ⟨items_c7, held_c8, lane_c9, size_c10⟩ := u
        try dsimp only at hw
        have hI : wI s D A (fl (lX K q bits stops num unit strips caps draw oldest known ring im iold iknown iring hasIm letters tbits tlen tat fig (va_up shI k6 items_c7) (va_up shH k6 held_c8) (va_up shL k6 lane_c9) (va_up shS k6 size_c10) seaOf queue snum cost heap wait off les gre abv blw needed ocut opole)) H locs := by rcases lt4 hk6 with rfl | rfl | rfl | rfl <;> exact hI
        refine lv_iload_n hx hb dX10_sheet_34 rfl (lv_at hl 3 rfl) ?_
        subst hQ
        exact x_iret (u := ((va_up shI k6 items_c7), (va_up shH k6 held_c8), (va_up shL k6 lane_c9), (va_up shS k6 size_c10))) hC hI hr hlk hw rfl dX10_sheet_35
      · replace hw := hw.2 c4
        refine lv_bipush (v := (-14 : Int32)) hx hb dX10_sheet_20 (by decide) ?_
        subst hQ
        exact x_iret (u := (shI, shH, shL, shS)) hC hI hr hlk hw rfl dX10_sheet_22
    · replace hw := hw.2 c3
      refine lv_iconst (v := (-1 : Int32)) hx hb dX10_sheet_14 (by decide) ?_
      subst hQ
      exact x_iret (u := (shI, shH, shL, shS)) hC hI hr hlk hw rfl dX10_sheet_15
