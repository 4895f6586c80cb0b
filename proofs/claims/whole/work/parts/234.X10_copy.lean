def wX10_copy (a1 : Int32) (a2 : Int32) (a3 : Int32) (a4 : Int32) (a5 : Int32) (shI : Nat → Nat → Int64) (shH : Nat → Int32) (shL : Nat → Int32) (shS : Nat → Int32) (post : Int32 → (Nat → Nat → Int64) → Prop) : Prop := wX10_isIn a1 (0 : Int32) (3 : Int32) (fun (r1 : Int32) => ((r1 = 0 → post (-1 : Int32) shI) ∧ (¬ r1 = 0 → wX10_isIn a3 (0 : Int32) (3 : Int32) (fun (r3 : Int32) => ((r3 = 0 → post (-1 : Int32) shI) ∧ (¬ r3 = 0 → vp_in a1 4 ∧ ∀ k6 : Nat, k6 = a1.toNatClampNeg → vp_in a3 4 ∧ ∀ k8 : Nat, k8 = a3.toNatClampNeg → (((shH k6) = 0 → post (-11 : Int32) shI) ∧ (¬ (shH k6) = 0 → (((shH k8) = 0 → post (-11 : Int32) shI) ∧ (¬ (shH k8) = 0 → (((shL k6) = (shL k8) → wX6_hasItems a2 a5 (shS k6) (fun (r12 : Int32) => ((r12 = 0 → post (-13 : Int32) shI) ∧ (¬ r12 = 0 → wX6_hasItems a4 a5 (shS k8) (fun (r14 : Int32) => ((r14 = 0 → post (-13 : Int32) shI) ∧ (¬ r14 = 0 → ¬ a2 < 0 ∧ ¬ a4 < 0 ∧ ¬ a5 < 0 ∧ a2.toNatClampNeg + a5.toNatClampNeg ≤ 30 ∧ a4.toNatClampNeg + a5.toNatClampNeg ≤ 30 ∧ post a5 (va_up shI k8 (va_cpy (shI k6) (shI k8) a2.toNatClampNeg a4.toNatClampNeg a5.toNatClampNeg))))))))) ∧ (¬ (shL k6) = (shL k8) → post (-12 : Int32) shI))))))))))))
def rmX10_copy : Room := { frames := 1, cells := 0, slots := 0, locals := 40 }
theorem kX10_copy_0 : Cond.fieldLink RX10 38 "GoreGlobe" "sheets" "[LGoreGlobe$Sheet;" ∈ wsX10_copy := List.mem_cons_of_mem _ (List.mem_append_left _ (List.mem_append_left _ (List.mem_of_getElem? (i := 0) rfl)))
theorem kX10_copy_cX10 : ∀ w ∈ wsX100, w ∈ wsX10_copy := fun _ h => List.mem_cons_of_mem _ (List.mem_append_left _ (List.mem_append_right _ h))
theorem kX10_copy_2 : Cond.fieldLink RX10 321 "GoreGlobe$Sheet" "isHeld" "Z" ∈ wsX10_copy := List.mem_cons_of_mem _ (List.mem_append_left _ (List.mem_append_left _ (List.mem_of_getElem? (i := 1) rfl)))
theorem kX10_copy_cX6 : ∀ w ∈ wsX60, w ∈ wsX10_copy := fun _ h => List.mem_cons_of_mem _ (List.mem_append_right _ h)
theorem kX10_copy_4 : Cond.fieldLink RX10 327 "GoreGlobe$Sheet" "lane" "I" ∈ wsX10_copy := List.mem_cons_of_mem _ (List.mem_append_left _ (List.mem_append_left _ (List.mem_of_getElem? (i := 2) rfl)))
theorem kX10_copy_5 : Cond.fieldLink RX10 333 "GoreGlobe$Sheet" "items" "[J" ∈ wsX10_copy := List.mem_cons_of_mem _ (List.mem_append_left _ (List.mem_append_left _ (List.mem_of_getElem? (i := 3) rfl)))
theorem kX10_copy_6 : Cond.methodLink RX10 271 arraycopyName ∈ wsX10_copy := List.mem_cons_of_mem _ (List.mem_append_left _ (List.mem_append_left _ (List.mem_of_getElem? (i := 4) rfl)))
theorem kX10_copy_7 : Cond.native arraycopyName ∈ wsX10_copy := List.mem_cons_of_mem _ (List.mem_append_left _ (List.mem_append_left _ (List.mem_of_getElem? (i := 5) rfl)))
theorem kX10_copy_8 : Cond.static arraycopyName ∈ wsX10_copy := List.mem_cons_of_mem _ (List.mem_append_left _ (List.mem_append_left _ (List.mem_of_getElem? (i := 6) rfl)))
theorem kX10_copy_9 : Cond.initialized "java/lang/System" ∈ wsX10_copy := List.mem_cons_of_mem _ (List.mem_append_left _ (List.mem_append_left _ (List.mem_of_getElem? (i := 7) rfl)))
set_option maxHeartbeats 4000000 in
set_option maxRecDepth 100000 in
theorem mX10_copy (l : Launch) (D : va_G) (K : Nat → ClassId) (q : Nat → Nat) (sz : Nat) (a1 : Int32) (a2 : Int32) (a3 : Int32) (a4 : Int32) (a5 : Int32) (bits : Nat → Int64) (stops : Nat → Int32) (num : Int32) (unit : Int32) (strips : Int32) (caps : Int32) (draw : Int32) (oldest : Int32) (known : Int32) (ring : Nat → GS) (im : GS) (iold : Int32) (iknown : Int32) (iring : Nat → GS) (hasIm : Int32) (letters : Nat → Int32) (tbits : Nat → Int64) (tlen : Int32) (tat : Int32) (fig : Int32) (shI : Nat → Nat → Int64) (shH : Nat → Int32) (shL : Nat → Int32) (shS : Nat → Int32) (seaOf : Nat → Int32) (queue : Nat → Int32) (snum : Int32) (cost : Nat → Int32) (heap : Nat → Int64) (wait : Int32) (off : Int32) (les : Int32) (gre : Int32) (abv : Int64) (blw : Int64) (needed : Int32) (ocut : Int32) (opole : Int32)  {post : Int32 → (Nat → Nat → Int64) → Prop} (hw : wX10_copy a1 a2 a3 a4 a5 shI shH shL shS post) : Met l yX10_copy wsX10_copy rmX10_copy (va_Pc [.ref (q 0), .int a1, .int a2, .int a3, .int a4, .int a5] (cP D K (fl (lX K q bits stops num unit strips caps draw oldest known ring im iold iknown iring hasIm letters tbits tlen tat fig shI shH shL shS seaOf queue snum cost heap wait off les gre abv blw needed ocut opole)) sz)) (va_Qi (fun (r : Int32) (u : (Nat → Nat → Int64)) => post r u) (fun u t => cQ D K (fl (lX K q bits stops num unit strips caps draw oldest known ring im iold iknown iring hasIm letters tbits tlen tat fig u shH shL shS seaOf queue snum cost heap wait off les gre abv blw needed ocut opole)) (va_A (fl (lX K q bits stops num unit strips caps draw oldest known ring im iold iknown iring hasIm letters tbits tlen tat fig shI shH shL shS seaOf queue snum cost heap wait off les gre abv blw needed ocut opole)) sz) t) (va_A (fl (lX K q bits stops num unit strips caps draw oldest known ring im iold iknown iring hasIm letters tbits tlen tat fig shI shH shL shS seaOf queue snum cost heap wait off les gre abv blw needed ocut opole)) sz)) 0 0 (va_A (fl (lX K q bits stops num unit strips caps draw oldest known ring im iold iknown iring hasIm letters tbits tlen tat fig shI shH shL shS seaOf queue snum cost heap wait off les gre abv blw needed ocut opole)) sz) := by
  refine x_entry (cc := cX10_copy) (maxL := 8) (ret := (some .int)) (QA := fun A => va_Qi (fun (r : Int32) (u : (Nat → Nat → Int64)) => post r u) (fun u t => cQ D K (fl (lX K q bits stops num unit strips caps draw oldest known ring im iold iknown iring hasIm letters tbits tlen tat fig u shH shL shS seaOf queue snum cost heap wait off les gre abv blw needed ocut opole)) A t) A) (plainFor_of_name (by decide)) rfl (Nat.le_of_ble_eq_true rfl) ?_
  intro p e s m args below meth c A ls H Q hQ hC hlk hr hnm hI hl
  obtain ⟨hx, hb, hml, hown, hts, hK, hA, hZ⟩ := id hC
  obtain ⟨locs, hlocs⟩ : ∃ y : List Loc, y = [] := ⟨_, rfl⟩
  rw [← hlocs] at hI ⊢
  clear hlocs
  replace hl : lv_has ls 8 [(0, .ref (q 0)), (1, .int a1), (2, .int a2), (3, .int a3), (4, .int a4), (5, .int a5)] := hl
  replace hw : wX10_isIn a1 (0 : Int32) (3 : Int32) (fun (r1 : Int32) => ((r1 = 0 → post (-1 : Int32) shI) ∧ (¬ r1 = 0 → wX10_isIn a3 (0 : Int32) (3 : Int32) (fun (r3 : Int32) => ((r3 = 0 → post (-1 : Int32) shI) ∧ (¬ r3 = 0 → vp_in a1 4 ∧ ∀ k6 : Nat, k6 = a1.toNatClampNeg → vp_in a3 4 ∧ ∀ k8 : Nat, k8 = a3.toNatClampNeg → (((shH k6) = 0 → post (-11 : Int32) shI) ∧ (¬ (shH k6) = 0 → (((shH k8) = 0 → post (-11 : Int32) shI) ∧ (¬ (shH k8) = 0 → (((shL k6) = (shL k8) → wX6_hasItems a2 a5 (shS k6) (fun (r12 : Int32) => ((r12 = 0 → post (-13 : Int32) shI) ∧ (¬ r12 = 0 → wX6_hasItems a4 a5 (shS k8) (fun (r14 : Int32) => ((r14 = 0 → post (-13 : Int32) shI) ∧ (¬ r14 = 0 → ¬ a2 < 0 ∧ ¬ a4 < 0 ∧ ¬ a5 < 0 ∧ a2.toNatClampNeg + a5.toNatClampNeg ≤ 30 ∧ a4.toNatClampNeg + a5.toNatClampNeg ≤ 30 ∧ post a5 (va_up shI k8 (va_cpy (shI k6) (shI k8) a2.toNatClampNeg a4.toNatClampNeg a5.toNatClampNeg))))))))) ∧ (¬ (shL k6) = (shL k8) → post (-12 : Int32) shI)))))))))))) := hw
  refine lv_iload_n hx hb dX10_copy_0 rfl (lv_at hl 1 rfl) ?_
  refine lv_iconst (v := (0 : Int32)) hx hb dX10_copy_1 (by decide) ?_
  refine lv_iconst (v := (3 : Int32)) hx hb dX10_copy_2 (by decide) ?_
  refine x_callSi (rest := []) hC hI [] (mX10_isIn l D K  _ a1 (0 : Int32) (3 : Int32) hw) (va_cwS 3 hts gX10_copy_X10_isIn rfl rfl rfl (by decide +kernel) ⟨(Nat.le_of_ble_eq_true rfl), (Nat.le_of_ble_eq_true rfl)⟩) (by decide) rfl (fun _ => rfl) rfl hl.1 rfl (Nat.le_of_ble_eq_true rfl) dX10_copy_3 ⟨(Nat.le_of_ble_eq_true rfl), (Nat.le_of_ble_eq_true rfl)⟩ (fun r1 u H locs hw hI => ?_)
  try dsimp only at hw
  have hI : wI s D A (fl (lX K q bits stops num unit strips caps draw oldest known ring im iold iknown iring hasIm letters tbits tlen tat fig shI shH shL shS seaOf queue snum cost heap wait off les gre abv blw needed ocut opole)) H locs := hI
  refine lv_if_eq (tgt := 18) hx hb dX10_copy_6 (by decide) (fun c2 => ?_) (fun c2 => ?_)
  · replace hw := hw.1 c2
    refine lv_iconst (v := (-1 : Int32)) hx hb dX10_copy_18 (by decide) ?_
    subst hQ
    exact x_iret (u := shI) hC hI hr hlk hw rfl dX10_copy_19
  · replace hw := hw.2 c2
    refine lv_iload_n hx hb dX10_copy_9 rfl (lv_at hl 3 rfl) ?_
    refine lv_iconst (v := (0 : Int32)) hx hb dX10_copy_10 (by decide) ?_
    refine lv_iconst (v := (3 : Int32)) hx hb dX10_copy_11 (by decide) ?_
    refine x_callSi (rest := []) hC hI [] (mX10_isIn l D K  _ a3 (0 : Int32) (3 : Int32) hw) (va_cwS 3 hts gX10_copy_X10_isIn rfl rfl rfl (by decide +kernel) ⟨(Nat.le_of_ble_eq_true rfl), (Nat.le_of_ble_eq_true rfl)⟩) (by decide) rfl (fun _ => rfl) rfl hl.1 rfl (Nat.le_of_ble_eq_true rfl) dX10_copy_12 ⟨(Nat.le_of_ble_eq_true rfl), (Nat.le_of_ble_eq_true rfl)⟩ (fun r3 u H locs hw hI => ?_)
    try dsimp only at hw
    have hI : wI s D A (fl (lX K q bits stops num unit strips caps draw oldest known ring im iold iknown iring hasIm letters tbits tlen tat fig shI shH shL shS seaOf queue snum cost heap wait off les gre abv blw needed ocut opole)) H locs := hI
    refine lv_if_ne (tgt := 20) hx hb dX10_copy_15 (by decide) (fun c4 => ?_) (fun c4 => ?_)
    · replace hw := hw.2 c4
      refine lv_aload_n hx hb dX10_copy_20 rfl (lv_at hl 0 rfl) ?_
      refine x_get (v := .ref (q 50)) hC hI kX10_copy_cX10 0 rfl rfl 6 (by decide) kX10_copy_0 rfl rfl dX10_copy_21 ?_
      refine lv_iload_n hx hb dX10_copy_24 rfl (lv_at hl 1 rfl) ?_
      obtain ⟨hc5, hw⟩ := hw
      obtain ⟨k6, ek6⟩ : ∃ y : Nat, y = a1.toNatClampNeg := ⟨_, rfl⟩
      replace hw := hw k6 ek6
      have hk6 : k6 < 4 := by rw [ek6]; exact vp_lt hc5
      refine x_aald (x := q (51 + 2 * k6 + 0)) hC hI 50 3 rfl rfl hc5 (by rw [ek6]; rfl) dX10_copy_25 ?_
      refine lv_astore (lv' := [(6, .ref (q (51 + 2 * k6 + 0))), (0, .ref (q 0)), (1, .int a1), (2, .int a2), (3, .int a3), (4, .int a4), (5, .int a5)]) hx hb dX10_copy_26 hl (by decide) rfl (fun ls hl => ?_)
      refine lv_aload_n hx hb dX10_copy_28 rfl (lv_at hl 1 rfl) ?_
      refine x_get (v := .ref (q 50)) hC hI kX10_copy_cX10 0 rfl rfl 6 (by decide) kX10_copy_0 rfl rfl dX10_copy_29 ?_
      refine lv_iload_n hx hb dX10_copy_32 rfl (lv_at hl 4 rfl) ?_
      obtain ⟨hc7, hw⟩ := hw
      obtain ⟨k8, ek8⟩ : ∃ y : Nat, y = a3.toNatClampNeg := ⟨_, rfl⟩
      replace hw := hw k8 ek8
      have hk8 : k8 < 4 := by rw [ek8]; exact vp_lt hc7
      refine x_aald (x := q (51 + 2 * k8 + 0)) hC hI 50 3 rfl rfl hc7 (by rw [ek8]; rfl) dX10_copy_33 ?_
      refine lv_astore (lv' := [(7, .ref (q (51 + 2 * k8 + 0))), (6, .ref (q (51 + 2 * k6 + 0))), (0, .ref (q 0)), (1, .int a1), (2, .int a2), (3, .int a3), (4, .int a4), (5, .int a5)]) hx hb dX10_copy_34 hl (by decide) rfl (fun ls hl => ?_)
      refine lv_aload hx hb dX10_copy_36 (lv_at hl 1 rfl) ?_
      refine x_get (v := .int (shH k6)) (fs := [.ref (q (51 + 2 * k6 + 1)), .int (shH k6), .int (shL k6), .int (shS k6)]) (ci := 4) hC hI kX10_copy_cX6 (51 + 2 * k6 + 0) (by rcases lt4 hk6 with rfl | rfl | rfl | rfl <;> rfl) rfl 1 (by decide) kX10_copy_2 rfl rfl dX10_copy_38 ?_
      refine lv_if_eq (tgt := 52) hx hb dX10_copy_41 (by decide) (fun c9 => ?_) (fun c9 => ?_)
      · replace hw := hw.1 c9
        refine lv_bipush (v := (-11 : Int32)) hx hb dX10_copy_52 (by decide) ?_
        subst hQ
        exact x_iret (u := shI) hC hI hr hlk hw rfl dX10_copy_54
      · replace hw := hw.2 c9
        refine lv_aload hx hb dX10_copy_44 (lv_at hl 0 rfl) ?_
        refine x_get (v := .int (shH k8)) (fs := [.ref (q (51 + 2 * k8 + 1)), .int (shH k8), .int (shL k8), .int (shS k8)]) (ci := 4) hC hI kX10_copy_cX6 (51 + 2 * k8 + 0) (by rcases lt4 hk8 with rfl | rfl | rfl | rfl <;> rfl) rfl 1 (by decide) kX10_copy_2 rfl rfl dX10_copy_46 ?_
        refine lv_if_ne (tgt := 55) hx hb dX10_copy_49 (by decide) (fun c10 => ?_) (fun c10 => ?_)
        · replace hw := hw.2 c10
          refine lv_aload hx hb dX10_copy_55 (lv_at hl 1 rfl) ?_
          refine x_get (v := .int (shL k6)) (fs := [.ref (q (51 + 2 * k6 + 1)), .int (shH k6), .int (shL k6), .int (shS k6)]) (ci := 4) hC hI kX10_copy_cX6 (51 + 2 * k6 + 0) (by rcases lt4 hk6 with rfl | rfl | rfl | rfl <;> rfl) rfl 2 (by decide) kX10_copy_4 rfl rfl dX10_copy_57 ?_
          refine lv_aload hx hb dX10_copy_60 (lv_at hl 0 rfl) ?_
          refine x_get (v := .int (shL k8)) (fs := [.ref (q (51 + 2 * k8 + 1)), .int (shH k8), .int (shL k8), .int (shS k8)]) (ci := 4) hC hI kX10_copy_cX6 (51 + 2 * k8 + 0) (by rcases lt4 hk8 with rfl | rfl | rfl | rfl <;> rfl) rfl 2 (by decide) kX10_copy_4 rfl rfl dX10_copy_62 ?_
          refine lv_icmp_eq (tgt := 71) hx hb dX10_copy_65 (by decide) (fun c11 => ?_) (fun c11 => ?_)
          · replace hw := hw.1 c11
            refine lv_aload hx hb dX10_copy_71 (lv_at hl 1 rfl) ?_
            refine lv_iload_n hx hb dX10_copy_73 rfl (lv_at hl 4 rfl) ?_
            refine lv_iload hx hb dX10_copy_74 (lv_at hl 7 rfl) ?_
            refine x_callVi (fs := [.ref (q (51 + 2 * k6 + 1)), .int (shH k6), .int (shL k6), .int (shS k6)]) (rest := []) hC hI [(19 + k6)] (mX6_hasItems l D K (fun i => q (51 + 2 * k6 + i)) _ a2 a5 (shI k6) (shH k6) (shL k6) (shS k6) hw) (cwV 2 hts gX10_copy_X6_hasItems rfl rfl rfl (by decide +kernel) ⟨(Nat.le_of_ble_eq_true rfl), (Nat.le_of_ble_eq_true rfl)⟩) (by rcases lt4 hk6 with rfl | rfl | rfl | rfl <;> rfl) (by rcases lt4 hk6 with rfl | rfl | rfl | rfl <;> rfl) (fun _ => rfl) (51 + 2 * k6 + 0) 4 rfl rfl (by rcases lt4 hk6 with rfl | rfl | rfl | rfl <;> rfl) rfl hl.1 rfl (Nat.le_of_ble_eq_true rfl) dX10_copy_76 ⟨(Nat.le_of_ble_eq_true rfl), (Nat.le_of_ble_eq_true rfl)⟩ (fun r12 u H locs hw hI => ?_)
            try dsimp only at hw
            have hI : wI s D A (fl (lX K q bits stops num unit strips caps draw oldest known ring im iold iknown iring hasIm letters tbits tlen tat fig shI shH shL shS seaOf queue snum cost heap wait off les gre abv blw needed ocut opole)) H locs := by rcases lt4 hk6 with rfl | rfl | rfl | rfl <;> exact hI
            refine lv_if_eq (tgt := 94) hx hb dX10_copy_79 (by decide) (fun c13 => ?_) (fun c13 => ?_)
            · replace hw := hw.1 c13
              refine lv_bipush (v := (-13 : Int32)) hx hb dX10_copy_94 (by decide) ?_
              subst hQ
              exact x_iret (u := shI) hC hI hr hlk hw rfl dX10_copy_96
            · replace hw := hw.2 c13
              refine lv_aload hx hb dX10_copy_82 (lv_at hl 0 rfl) ?_
              refine lv_iload hx hb dX10_copy_84 (lv_at hl 6 rfl) ?_
              refine lv_iload hx hb dX10_copy_86 (lv_at hl 7 rfl) ?_
              refine x_callVi (fs := [.ref (q (51 + 2 * k8 + 1)), .int (shH k8), .int (shL k8), .int (shS k8)]) (rest := []) hC hI [(19 + k8)] (mX6_hasItems l D K (fun i => q (51 + 2 * k8 + i)) _ a4 a5 (shI k8) (shH k8) (shL k8) (shS k8) hw) (cwV 2 hts gX10_copy_X6_hasItems rfl rfl rfl (by decide +kernel) ⟨(Nat.le_of_ble_eq_true rfl), (Nat.le_of_ble_eq_true rfl)⟩) (by rcases lt4 hk8 with rfl | rfl | rfl | rfl <;> rfl) (by rcases lt4 hk8 with rfl | rfl | rfl | rfl <;> rfl) (fun _ => rfl) (51 + 2 * k8 + 0) 4 rfl rfl (by rcases lt4 hk8 with rfl | rfl | rfl | rfl <;> rfl) rfl hl.1 rfl (Nat.le_of_ble_eq_true rfl) dX10_copy_88 ⟨(Nat.le_of_ble_eq_true rfl), (Nat.le_of_ble_eq_true rfl)⟩ (fun r14 u H locs hw hI => ?_)
              try dsimp only at hw
              have hI : wI s D A (fl (lX K q bits stops num unit strips caps draw oldest known ring im iold iknown iring hasIm letters tbits tlen tat fig shI shH shL shS seaOf queue snum cost heap wait off les gre abv blw needed ocut opole)) H locs := by rcases lt4 hk8 with rfl | rfl | rfl | rfl <;> exact hI
              refine lv_if_ne (tgt := 97) hx hb dX10_copy_91 (by decide) (fun c15 => ?_) (fun c15 => ?_)
              · replace hw := hw.2 c15
                refine lv_aload hx hb dX10_copy_97 (lv_at hl 1 rfl) ?_
                refine x_get (v := .ref (q (51 + 2 * k6 + 1))) (fs := [.ref (q (51 + 2 * k6 + 1)), .int (shH k6), .int (shL k6), .int (shS k6)]) (ci := 4) hC hI kX10_copy_cX6 (51 + 2 * k6 + 0) (by rcases lt4 hk6 with rfl | rfl | rfl | rfl <;> rfl) rfl 0 (by decide) kX10_copy_5 rfl rfl dX10_copy_99 ?_
                refine lv_iload_n hx hb dX10_copy_102 rfl (lv_at hl 4 rfl) ?_
                refine lv_aload hx hb dX10_copy_103 (lv_at hl 0 rfl) ?_
                refine x_get (v := .ref (q (51 + 2 * k8 + 1))) (fs := [.ref (q (51 + 2 * k8 + 1)), .int (shH k8), .int (shL k8), .int (shS k8)]) (ci := 4) hC hI kX10_copy_cX6 (51 + 2 * k8 + 0) (by rcases lt4 hk8 with rfl | rfl | rfl | rfl <;> rfl) rfl 0 (by decide) kX10_copy_5 rfl rfl dX10_copy_105 ?_
                refine lv_iload hx hb dX10_copy_108 (lv_at hl 6 rfl) ?_
                refine lv_iload hx hb dX10_copy_110 (lv_at hl 7 rfl) ?_
                obtain ⟨hc16, hw⟩ := hw
                obtain ⟨hc17, hw⟩ := hw
                obtain ⟨hc18, hw⟩ := hw
                obtain ⟨hc19, hw⟩ := hw
                obtain ⟨hc20, hw⟩ := hw
                refine x_copyj (f := (shI k6)) (g := (shI k8)) (n0 := 30) (n1 := 30) hC hI hl.1 kX10_copy_6 kX10_copy_7 kX10_copy_8 kX10_copy_9 (51 + 2 * k6 + 1) (51 + 2 * k8 + 1) (by rcases lt4 hk6 with rfl | rfl | rfl | rfl <;> rfl) (by rcases lt4 hk8 with rfl | rfl | rfl | rfl <;> rfl) hc16 hc17 hc18 hc19 hc20 (Nat.le_of_ble_eq_true rfl) (Nat.le_of_ble_eq_true rfl) dX10_copy_112 (fun H locs hI => ?_)
                have hI : wI s D A (fl (lX K q bits stops num unit strips caps draw oldest known ring im iold iknown iring hasIm letters tbits tlen tat fig (va_up shI k8 (va_cpy (shI k6) (shI k8) a2.toNatClampNeg a4.toNatClampNeg a5.toNatClampNeg)) shH shL shS seaOf queue snum cost heap wait off les gre abv blw needed ocut opole)) H locs := by rcases lt4 hk8 with rfl | rfl | rfl | rfl <;> exact hI
                refine lv_iload hx hb dX10_copy_115 (lv_at hl 7 rfl) ?_
                subst hQ
                exact x_iret (u := (va_up shI k8 (va_cpy (shI k6) (shI k8) a2.toNatClampNeg a4.toNatClampNeg a5.toNatClampNeg))) hC hI hr hlk hw rfl dX10_copy_117
              · replace hw := hw.1 c15
                refine lv_bipush (v := (-13 : Int32)) hx hb dX10_copy_94 (by decide) ?_
                subst hQ
                exact x_iret (u := shI) hC hI hr hlk hw rfl dX10_copy_96
          · replace hw := hw.2 c11
            refine lv_bipush (v := (-12 : Int32)) hx hb dX10_copy_68 (by decide) ?_
            subst hQ
            exact x_iret (u := shI) hC hI hr hlk hw rfl dX10_copy_70
        · replace hw := hw.1 c10
          refine lv_bipush (v := (-11 : Int32)) hx hb dX10_copy_52 (by decide) ?_
          subst hQ
          exact x_iret (u := shI) hC hI hr hlk hw rfl dX10_copy_54
    · replace hw := hw.1 c4
      refine lv_iconst (v := (-1 : Int32)) hx hb dX10_copy_18 (by decide) ?_
      subst hQ
      exact x_iret (u := shI) hC hI hr hlk hw rfl dX10_copy_19
