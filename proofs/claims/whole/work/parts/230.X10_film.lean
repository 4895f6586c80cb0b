def wX10_film (a1 : Int32) (a2 : Int32) (a3 : Int32) (a4 : Int32) (unit : Int32) (strips : Int32) (caps : Int32) (shI : Nat → Nat → Int64) (shH : Nat → Int32) (shL : Nat → Int32) (shS : Nat → Int32) (post : Int32 → (Nat → Nat → Int64) → Prop) : Prop := wX1_isPlace a1 (0 : Int32) (fun (r1 : Int32) => ((r1 = 0 → post (-1 : Int32) shI) ∧ (¬ r1 = 0 → wX10_isSheetOfLane a2 a3 (fun (r3 : Int32) => ((r3 = 0 → post (-1 : Int32) shI) ∧ (¬ r3 = 0 → wX0_isOnStrips a1 caps (fun (r5 : Int32) => ((r5 = 0 → post (-2 : Int32) shI) ∧ (¬ r5 = 0 → vp_in a2 4 ∧ ∀ k8 : Nat, k8 = a2.toNatClampNeg → wX6_refusal a3 a4 (24 : Int32) (shH k8) (shL k8) (shS k8) (fun (r9 : Int32) => ((r9 = 0 → (∃ (I63 : Int32 → (Nat → Nat → Int64) → Prop) (mu63 : Int32 → (Nat → Nat → Int64) → Nat), I63 (0 : Int32) shI ∧ ∀ (l7_63 : Int32) (shI_63 : Nat → Nat → Int64), I63 l7_63 shI_63 → (((24 : Int32) ≤ l7_63 → post (24 : Int32) shI_63) ∧ (¬ (24 : Int32) ≤ l7_63 → wX1_numberOf a1 l7_63 (fun (r12 : Int32) => wX1_stepOf r12 (fun (r13 : Int32) => wX0_width strips (fun (r14 : Int32) => wX3_stripX unit r14 a1 r13 (fun (r15 : Int32) => wX6_put (a4 + l7_63) r15.toInt64 (shI_63 k8) (shL k8) (fun (items_c16 : Nat → Int64) => ∀ x17 : Int32, x17 = l7_63 + 1 → (I63 x17 (va_up shI_63 k8 items_c16) ∧ mu63 x17 (va_up shI_63 k8 items_c16) < mu63 l7_63 shI_63)))))))))) ∧ (¬ r9 = 0 → post r9 shI))))))))))))
def rmX10_film : Room := { frames := 3, cells := 0, slots := 0, locals := 68 }
theorem kX10_film_0 : Cond.fieldLink RX10 10 "GoreGlobe" "now" "LGoreGlobe$Globe;" ∈ wsX10_film := List.mem_cons_of_mem _ (List.mem_append_left _ (List.mem_append_left _ (List.mem_append_left _ (List.mem_append_left _ (List.mem_of_getElem? (i := 0) rfl)))))
theorem kX10_film_cX10 : ∀ w ∈ wsX100, w ∈ wsX10_film := fun _ h => List.mem_cons_of_mem _ (List.mem_append_left _ (List.mem_append_left _ (List.mem_append_right _ h)))
theorem kX10_film_2 : Cond.fieldLink RX10 38 "GoreGlobe" "sheets" "[LGoreGlobe$Sheet;" ∈ wsX10_film := List.mem_cons_of_mem _ (List.mem_append_left _ (List.mem_append_left _ (List.mem_append_left _ (List.mem_append_left _ (List.mem_of_getElem? (i := 1) rfl)))))
theorem kX10_film_3 : Cond.fieldLink RX10 111 "GoreGlobe$Globe" "unit" "I" ∈ wsX10_film := List.mem_cons_of_mem _ (List.mem_append_left _ (List.mem_append_left _ (List.mem_append_left _ (List.mem_append_left _ (List.mem_of_getElem? (i := 2) rfl)))))
theorem kX10_film_cX0 : ∀ w ∈ wsX00, w ∈ wsX10_film := fun _ h => List.mem_cons_of_mem _ (List.mem_append_left _ (List.mem_append_right _ h))
set_option maxHeartbeats 4000000 in
set_option maxRecDepth 100000 in
theorem mX10_film (l : Launch) (D : va_G) (K : Nat → ClassId) (q : Nat → Nat) (sz : Nat) (a1 : Int32) (a2 : Int32) (a3 : Int32) (a4 : Int32) (bits : Nat → Int64) (stops : Nat → Int32) (num : Int32) (unit : Int32) (strips : Int32) (caps : Int32) (draw : Int32) (oldest : Int32) (known : Int32) (ring : Nat → GS) (im : GS) (iold : Int32) (iknown : Int32) (iring : Nat → GS) (hasIm : Int32) (letters : Nat → Int32) (tbits : Nat → Int64) (tlen : Int32) (tat : Int32) (fig : Int32) (shI : Nat → Nat → Int64) (shH : Nat → Int32) (shL : Nat → Int32) (shS : Nat → Int32) (seaOf : Nat → Int32) (queue : Nat → Int32) (snum : Int32) (cost : Nat → Int32) (heap : Nat → Int64) (wait : Int32) (off : Int32) (les : Int32) (gre : Int32) (abv : Int64) (blw : Int64) (needed : Int32) (ocut : Int32) (opole : Int32)  {post : Int32 → (Nat → Nat → Int64) → Prop} (hw : wX10_film a1 a2 a3 a4 unit strips caps shI shH shL shS post) : Met l yX10_film wsX10_film rmX10_film (va_Pc [.ref (q 0), .int a1, .int a2, .int a3, .int a4] (cP D K (fl (lX K q bits stops num unit strips caps draw oldest known ring im iold iknown iring hasIm letters tbits tlen tat fig shI shH shL shS seaOf queue snum cost heap wait off les gre abv blw needed ocut opole)) sz)) (va_Qi (fun (r : Int32) (u : (Nat → Nat → Int64)) => post r u) (fun u t => cQ D K (fl (lX K q bits stops num unit strips caps draw oldest known ring im iold iknown iring hasIm letters tbits tlen tat fig u shH shL shS seaOf queue snum cost heap wait off les gre abv blw needed ocut opole)) (va_A (fl (lX K q bits stops num unit strips caps draw oldest known ring im iold iknown iring hasIm letters tbits tlen tat fig shI shH shL shS seaOf queue snum cost heap wait off les gre abv blw needed ocut opole)) sz) t) (va_A (fl (lX K q bits stops num unit strips caps draw oldest known ring im iold iknown iring hasIm letters tbits tlen tat fig shI shH shL shS seaOf queue snum cost heap wait off les gre abv blw needed ocut opole)) sz)) 0 0 (va_A (fl (lX K q bits stops num unit strips caps draw oldest known ring im iold iknown iring hasIm letters tbits tlen tat fig shI shH shL shS seaOf queue snum cost heap wait off les gre abv blw needed ocut opole)) sz) := by
  refine x_entry (cc := cX10_film) (maxL := 9) (ret := (some .int)) (QA := fun A => va_Qi (fun (r : Int32) (u : (Nat → Nat → Int64)) => post r u) (fun u t => cQ D K (fl (lX K q bits stops num unit strips caps draw oldest known ring im iold iknown iring hasIm letters tbits tlen tat fig u shH shL shS seaOf queue snum cost heap wait off les gre abv blw needed ocut opole)) A t) A) (plainFor_of_name (by decide)) rfl (Nat.le_of_ble_eq_true rfl) ?_
  intro p e s m args below meth c A ls H Q hQ hC hlk hr hnm hI hl
  obtain ⟨hx, hb, hml, hown, hts, hK, hA, hZ⟩ := id hC
  obtain ⟨locs, hlocs⟩ : ∃ y : List Loc, y = [] := ⟨_, rfl⟩
  rw [← hlocs] at hI ⊢
  clear hlocs
  replace hl : lv_has ls 9 [(0, .ref (q 0)), (1, .int a1), (2, .int a2), (3, .int a3), (4, .int a4)] := hl
  replace hw : wX1_isPlace a1 (0 : Int32) (fun (r1 : Int32) => ((r1 = 0 → post (-1 : Int32) shI) ∧ (¬ r1 = 0 → wX10_isSheetOfLane a2 a3 (fun (r3 : Int32) => ((r3 = 0 → post (-1 : Int32) shI) ∧ (¬ r3 = 0 → wX0_isOnStrips a1 caps (fun (r5 : Int32) => ((r5 = 0 → post (-2 : Int32) shI) ∧ (¬ r5 = 0 → vp_in a2 4 ∧ ∀ k8 : Nat, k8 = a2.toNatClampNeg → wX6_refusal a3 a4 (24 : Int32) (shH k8) (shL k8) (shS k8) (fun (r9 : Int32) => ((r9 = 0 → (∃ (I63 : Int32 → (Nat → Nat → Int64) → Prop) (mu63 : Int32 → (Nat → Nat → Int64) → Nat), I63 (0 : Int32) shI ∧ ∀ (l7_63 : Int32) (shI_63 : Nat → Nat → Int64), I63 l7_63 shI_63 → (((24 : Int32) ≤ l7_63 → post (24 : Int32) shI_63) ∧ (¬ (24 : Int32) ≤ l7_63 → wX1_numberOf a1 l7_63 (fun (r12 : Int32) => wX1_stepOf r12 (fun (r13 : Int32) => wX0_width strips (fun (r14 : Int32) => wX3_stripX unit r14 a1 r13 (fun (r15 : Int32) => wX6_put (a4 + l7_63) r15.toInt64 (shI_63 k8) (shL k8) (fun (items_c16 : Nat → Int64) => ∀ x17 : Int32, x17 = l7_63 + 1 → (I63 x17 (va_up shI_63 k8 items_c16) ∧ mu63 x17 (va_up shI_63 k8 items_c16) < mu63 l7_63 shI_63)))))))))) ∧ (¬ r9 = 0 → post r9 shI)))))))))))) := hw
  refine lv_iload_n hx hb dX10_film_0 rfl (lv_at hl 1 rfl) ?_
  refine lv_iconst (v := (0 : Int32)) hx hb dX10_film_1 (by decide) ?_
  refine x_callSi (rest := []) hC hI [] (mX1_isPlace l D K  _ a1 (0 : Int32) hw) (va_cwS 2 hts gX10_film_X1_isPlace rfl rfl rfl (by decide +kernel) ⟨(Nat.le_of_ble_eq_true rfl), (Nat.le_of_ble_eq_true rfl)⟩) (by decide) rfl (fun _ => rfl) rfl hl.1 rfl (Nat.le_of_ble_eq_true rfl) dX10_film_2 ⟨(Nat.le_of_ble_eq_true rfl), (Nat.le_of_ble_eq_true rfl)⟩ (fun r1 u H locs hw hI => ?_)
  try dsimp only at hw
  have hI : wI s D A (fl (lX K q bits stops num unit strips caps draw oldest known ring im iold iknown iring hasIm letters tbits tlen tat fig shI shH shL shS seaOf queue snum cost heap wait off les gre abv blw needed ocut opole)) H locs := hI
  refine lv_if_eq (tgt := 16) hx hb dX10_film_5 (by decide) (fun c2 => ?_) (fun c2 => ?_)
  · replace hw := hw.1 c2
    refine lv_iconst (v := (-1 : Int32)) hx hb dX10_film_16 (by decide) ?_
    subst hQ
    exact x_iret (u := shI) hC hI hr hlk hw rfl dX10_film_17
  · replace hw := hw.2 c2
    refine lv_iload_n hx hb dX10_film_8 rfl (lv_at hl 2 rfl) ?_
    refine lv_iload_n hx hb dX10_film_9 rfl (lv_at hl 3 rfl) ?_
    refine x_callSi (rest := []) hC hI [] (mX10_isSheetOfLane l D K  _ a2 a3 hw) (va_cwS 2 hts gX10_film_X10_isSheetOfLane rfl rfl rfl (by decide +kernel) ⟨(Nat.le_of_ble_eq_true rfl), (Nat.le_of_ble_eq_true rfl)⟩) (by decide) rfl (fun _ => rfl) rfl hl.1 rfl (Nat.le_of_ble_eq_true rfl) dX10_film_10 ⟨(Nat.le_of_ble_eq_true rfl), (Nat.le_of_ble_eq_true rfl)⟩ (fun r3 u H locs hw hI => ?_)
    try dsimp only at hw
    have hI : wI s D A (fl (lX K q bits stops num unit strips caps draw oldest known ring im iold iknown iring hasIm letters tbits tlen tat fig shI shH shL shS seaOf queue snum cost heap wait off les gre abv blw needed ocut opole)) H locs := hI
    refine lv_if_ne (tgt := 18) hx hb dX10_film_13 (by decide) (fun c4 => ?_) (fun c4 => ?_)
    · replace hw := hw.2 c4
      refine lv_aload_n hx hb dX10_film_18 rfl (lv_at hl 0 rfl) ?_
      refine x_get (v := .ref (q 1)) hC hI kX10_film_cX10 0 rfl rfl 0 (by decide) kX10_film_0 rfl rfl dX10_film_19 ?_
      refine lv_iload_n hx hb dX10_film_22 rfl (lv_at hl 1 rfl) ?_
      refine x_callVi (rest := []) hC hI [1] (mX0_isOnStrips l D K (fun i => q (1 + i)) _ a1 bits stops num unit strips caps draw hw) (cwV 1 hts gX10_film_X0_isOnStrips rfl rfl rfl (by decide +kernel) ⟨(Nat.le_of_ble_eq_true rfl), (Nat.le_of_ble_eq_true rfl)⟩) (by decide) rfl (fun _ => rfl) 1 0 rfl rfl rfl rfl hl.1 rfl (Nat.le_of_ble_eq_true rfl) dX10_film_23 ⟨(Nat.le_of_ble_eq_true rfl), (Nat.le_of_ble_eq_true rfl)⟩ (fun r5 u H locs hw hI => ?_)
      try dsimp only at hw
      have hI : wI s D A (fl (lX K q bits stops num unit strips caps draw oldest known ring im iold iknown iring hasIm letters tbits tlen tat fig shI shH shL shS seaOf queue snum cost heap wait off les gre abv blw needed ocut opole)) H locs := hI
      refine lv_if_ne (tgt := 32) hx hb dX10_film_26 (by decide) (fun c6 => ?_) (fun c6 => ?_)
      · replace hw := hw.2 c6
        refine lv_aload_n hx hb dX10_film_32 rfl (lv_at hl 0 rfl) ?_
        refine x_get (v := .ref (q 50)) hC hI kX10_film_cX10 0 rfl rfl 6 (by decide) kX10_film_2 rfl rfl dX10_film_33 ?_
        refine lv_iload_n hx hb dX10_film_36 rfl (lv_at hl 2 rfl) ?_
        obtain ⟨hc7, hw⟩ := hw
        obtain ⟨k8, ek8⟩ : ∃ y : Nat, y = a2.toNatClampNeg := ⟨_, rfl⟩
        replace hw := hw k8 ek8
        have hk8 : k8 < 4 := by rw [ek8]; exact vp_lt hc7
        refine x_aald (x := q (51 + 2 * k8 + 0)) hC hI 50 3 rfl rfl hc7 (by rw [ek8]; rfl) dX10_film_37 ?_
        refine lv_astore (lv' := [(5, .ref (q (51 + 2 * k8 + 0))), (0, .ref (q 0)), (1, .int a1), (2, .int a2), (3, .int a3), (4, .int a4)]) hx hb dX10_film_38 hl (by decide) rfl (fun ls hl => ?_)
        refine lv_aload hx hb dX10_film_40 (lv_at hl 0 rfl) ?_
        refine lv_iload_n hx hb dX10_film_42 rfl (lv_at hl 4 rfl) ?_
        refine lv_iload hx hb dX10_film_43 (lv_at hl 5 rfl) ?_
        refine lv_bipush (v := (24 : Int32)) hx hb dX10_film_45 (by decide) ?_
        refine x_callVi (fs := [.ref (q (51 + 2 * k8 + 1)), .int (shH k8), .int (shL k8), .int (shS k8)]) (rest := []) hC hI [(19 + k8)] (mX6_refusal l D K (fun i => q (51 + 2 * k8 + i)) _ a3 a4 (24 : Int32) (shI k8) (shH k8) (shL k8) (shS k8) hw) (cwV 3 hts gX10_film_X6_refusal rfl rfl rfl (by decide +kernel) ⟨(Nat.le_of_ble_eq_true rfl), (Nat.le_of_ble_eq_true rfl)⟩) (by rcases lt4 hk8 with rfl | rfl | rfl | rfl <;> rfl) (by rcases lt4 hk8 with rfl | rfl | rfl | rfl <;> rfl) (fun _ => rfl) (51 + 2 * k8 + 0) 4 rfl rfl (by rcases lt4 hk8 with rfl | rfl | rfl | rfl <;> rfl) rfl hl.1 rfl (Nat.le_of_ble_eq_true rfl) dX10_film_47 ⟨(Nat.le_of_ble_eq_true rfl), (Nat.le_of_ble_eq_true rfl)⟩ (fun r9 u H locs hw hI => ?_)
        try dsimp only at hw
        have hI : wI s D A (fl (lX K q bits stops num unit strips caps draw oldest known ring im iold iknown iring hasIm letters tbits tlen tat fig shI shH shL shS seaOf queue snum cost heap wait off les gre abv blw needed ocut opole)) H locs := by rcases lt4 hk8 with rfl | rfl | rfl | rfl <;> exact hI
        refine lv_istore (lv' := [(6, .int r9), (5, .ref (q (51 + 2 * k8 + 0))), (0, .ref (q 0)), (1, .int a1), (2, .int a2), (3, .int a3), (4, .int a4)]) hx hb dX10_film_50 hl (by decide) rfl (fun ls hl => ?_)
        refine lv_iload hx hb dX10_film_52 (lv_at hl 0 rfl) ?_
        refine lv_if_eq (tgt := 60) hx hb dX10_film_54 (by decide) (fun c10 => ?_) (fun c10 => ?_)
        · replace hw := hw.1 c10
          refine lv_iconst (v := (0 : Int32)) hx hb dX10_film_60 (by decide) ?_
          refine lv_istore (lv' := [(7, .int (0 : Int32)), (6, .int r9), (5, .ref (q (51 + 2 * k8 + 0))), (0, .ref (q 0)), (1, .int a1), (2, .int a2), (3, .int a3), (4, .int a4)]) hx hb dX10_film_61 hl (by decide) rfl (fun ls hl => ?_)
          obtain ⟨I63, mu63, hw, hb63⟩ := hw
          have lp63 : ∀ (k : Nat) (l7_63 : Int32) (shI_63 : Nat → Nat → Int64) (ls : Array Slot) (H : Heap) (locs : List Loc), mu63 l7_63 shI_63 < k → I63 l7_63 shI_63 → wI s D A (fl (lX K q bits stops num unit strips caps draw oldest known ring im iold iknown iring hasIm letters tbits tlen tat fig shI_63 shH shL shS seaOf queue snum cost heap wait off les gre abv blw needed ocut opole)) H locs → lv_has ls 9 [(0, .ref (q 0)), (1, .int a1), (4, .int a4), (5, .ref (q (51 + 2 * k8 + 0))), (7, .int l7_63)] → W p l e rmX10_film s m args below meth c H locs 0 0 Q (F0 m 63 ls []) := by
            intro k
            induction k with
            | zero => intro l7_63 shI_63 ls H locs hmu; exact absurd hmu (Nat.not_lt_zero _)
            | succ k ih63 =>
              intro l7_63 shI_63 ls H locs hmu63 hw hI hl
              replace hw := hb63 l7_63 shI_63 hw
              refine lv_iload hx hb dX10_film_63 (lv_at hl 4 rfl) ?_
              refine lv_bipush (v := (24 : Int32)) hx hb dX10_film_65 (by decide) ?_
              refine lv_icmp_ge (tgt := 118) hx hb dX10_film_67 (by decide) (fun c11 => ?_) (fun c11 => ?_)
              · replace hw := hw.1 c11
                refine lv_bipush (v := (24 : Int32)) hx hb dX10_film_118 (by decide) ?_
                subst hQ
                exact x_iret (u := shI_63) hC hI hr hlk hw rfl dX10_film_120
              · replace hw := hw.2 c11
                refine lv_iload_n hx hb dX10_film_70 rfl (lv_at hl 1 rfl) ?_
                refine lv_iload hx hb dX10_film_71 (lv_at hl 4 rfl) ?_
                refine x_callSi (rest := []) hC hI [] (mX1_numberOf l D K  _ a1 l7_63 hw) (va_cwS 2 hts gX10_film_X1_numberOf rfl rfl rfl (by decide +kernel) ⟨(Nat.le_of_ble_eq_true rfl), (Nat.le_of_ble_eq_true rfl)⟩) (by decide) rfl (fun _ => rfl) rfl hl.1 rfl (Nat.le_of_ble_eq_true rfl) dX10_film_73 ⟨(Nat.le_of_ble_eq_true rfl), (Nat.le_of_ble_eq_true rfl)⟩ (fun r12 u H locs hw hI => ?_)
                try dsimp only at hw
                have hI : wI s D A (fl (lX K q bits stops num unit strips caps draw oldest known ring im iold iknown iring hasIm letters tbits tlen tat fig shI_63 shH shL shS seaOf queue snum cost heap wait off les gre abv blw needed ocut opole)) H locs := hI
                refine x_callSi (rest := []) hC hI [] (mX1_stepOf l D K  _ r12 hw) (va_cwS 1 hts gX10_film_X1_stepOf rfl rfl rfl (by decide +kernel) ⟨(Nat.le_of_ble_eq_true rfl), (Nat.le_of_ble_eq_true rfl)⟩) (by decide) rfl (fun _ => rfl) rfl hl.1 rfl (Nat.le_of_ble_eq_true rfl) dX10_film_76 ⟨(Nat.le_of_ble_eq_true rfl), (Nat.le_of_ble_eq_true rfl)⟩ (fun r13 u H locs hw hI => ?_)
                try dsimp only at hw
                have hI : wI s D A (fl (lX K q bits stops num unit strips caps draw oldest known ring im iold iknown iring hasIm letters tbits tlen tat fig shI_63 shH shL shS seaOf queue snum cost heap wait off les gre abv blw needed ocut opole)) H locs := hI
                refine lv_istore (lv' := [(8, .int r13), (0, .ref (q 0)), (1, .int a1), (4, .int a4), (5, .ref (q (51 + 2 * k8 + 0))), (7, .int l7_63)]) hx hb dX10_film_79 hl (by decide) rfl (fun ls hl => ?_)
                refine lv_aload hx hb dX10_film_81 (lv_at hl 4 rfl) ?_
                refine lv_iload hx hb dX10_film_83 (lv_at hl 3 rfl) ?_
                refine lv_iload hx hb dX10_film_85 (lv_at hl 5 rfl) ?_
                refine lv_iadd hx hb dX10_film_87 ?_
                refine lv_aload_n hx hb dX10_film_88 rfl (lv_at hl 1 rfl) ?_
                refine x_get (v := .ref (q 1)) hC hI kX10_film_cX10 0 rfl rfl 0 (by decide) kX10_film_0 rfl rfl dX10_film_89 ?_
                refine x_get (v := .int unit) hC hI kX10_film_cX0 1 rfl rfl 3 (by decide) kX10_film_3 rfl rfl dX10_film_92 ?_
                refine lv_aload_n hx hb dX10_film_95 rfl (lv_at hl 1 rfl) ?_
                refine x_get (v := .ref (q 1)) hC hI kX10_film_cX10 0 rfl rfl 0 (by decide) kX10_film_0 rfl rfl dX10_film_96 ?_
                refine x_callVi (rest := [.int unit, .int (a4 + l7_63), .ref (q (51 + 2 * k8 + 0))]) hC hI [1] (mX0_width l D K (fun i => q (1 + i)) _ bits stops num unit strips caps draw hw) (cwV 0 hts gX10_film_X0_width rfl rfl rfl (by decide +kernel) ⟨(Nat.le_of_ble_eq_true rfl), (Nat.le_of_ble_eq_true rfl)⟩) (by decide) rfl (fun _ => rfl) 1 0 rfl rfl rfl rfl hl.1 rfl (Nat.le_of_ble_eq_true rfl) dX10_film_99 ⟨(Nat.le_of_ble_eq_true rfl), (Nat.le_of_ble_eq_true rfl)⟩ (fun r14 u H locs hw hI => ?_)
                try dsimp only at hw
                have hI : wI s D A (fl (lX K q bits stops num unit strips caps draw oldest known ring im iold iknown iring hasIm letters tbits tlen tat fig shI_63 shH shL shS seaOf queue snum cost heap wait off les gre abv blw needed ocut opole)) H locs := hI
                refine lv_iload_n hx hb dX10_film_102 rfl (lv_at hl 2 rfl) ?_
                refine lv_iload hx hb dX10_film_103 (lv_at hl 0 rfl) ?_
                refine x_callSi (rest := [.int (a4 + l7_63), .ref (q (51 + 2 * k8 + 0))]) hC hI [] (mX3_stripX l D K  _ unit r14 a1 r13 hw) (va_cwS 4 hts gX10_film_X3_stripX rfl rfl rfl (by decide +kernel) ⟨(Nat.le_of_ble_eq_true rfl), (Nat.le_of_ble_eq_true rfl)⟩) (by decide) rfl (fun _ => rfl) rfl hl.1 rfl (Nat.le_of_ble_eq_true rfl) dX10_film_105 ⟨(Nat.le_of_ble_eq_true rfl), (Nat.le_of_ble_eq_true rfl)⟩ (fun r15 u H locs hw hI => ?_)
                try dsimp only at hw
                have hI : wI s D A (fl (lX K q bits stops num unit strips caps draw oldest known ring im iold iknown iring hasIm letters tbits tlen tat fig shI_63 shH shL shS seaOf queue snum cost heap wait off les gre abv blw needed ocut opole)) H locs := hI
                refine lv_i2l (v := r15.toInt64) hx hb dX10_film_108 rfl ?_
                refine x_callVv (fs := [.ref (q (51 + 2 * k8 + 1)), .int (shH k8), .int (shL k8), .int (shS k8)]) (rest := []) hC hI [(19 + k8)] (mX6_put l D K (fun i => q (51 + 2 * k8 + i)) _ (a4 + l7_63) r15.toInt64 (shI_63 k8) (shH k8) (shL k8) (shS k8) hw) (cwV 2 hts gX10_film_X6_put rfl rfl rfl (by decide +kernel) ⟨(Nat.le_of_ble_eq_true rfl), (Nat.le_of_ble_eq_true rfl)⟩) (by rcases lt4 hk8 with rfl | rfl | rfl | rfl <;> rfl) (by rcases lt4 hk8 with rfl | rfl | rfl | rfl <;> rfl) (fun _ => rfl) (51 + 2 * k8 + 0) 4 rfl rfl (by rcases lt4 hk8 with rfl | rfl | rfl | rfl <;> rfl) rfl hl.1 rfl (Nat.le_of_ble_eq_true rfl) dX10_film_109 ⟨(Nat.le_of_ble_eq_true rfl), (Nat.le_of_ble_eq_true rfl)⟩ (fun items_c16 H locs hw hI => ?_)
                have hI : wI s D A (fl (lX K q bits stops num unit strips caps draw oldest known ring im iold iknown iring hasIm letters tbits tlen tat fig (va_up shI_63 k8 items_c16) shH shL shS seaOf queue snum cost heap wait off les gre abv blw needed ocut opole)) H locs := by rcases lt4 hk8 with rfl | rfl | rfl | rfl <;> exact hI
                obtain ⟨x17, ex17⟩ : ∃ y : Int32, y = l7_63 + 1 := ⟨_, rfl⟩
                replace hw := hw x17 ex17
                refine lv_iinc (v := x17) (lv' := [(7, .int x17), (8, .int r13), (0, .ref (q 0)), (1, .int a1), (4, .int a4), (5, .ref (q (51 + 2 * k8 + 0)))]) hx hb dX10_film_112 hl (k := 5) rfl (by rw [ex17]; rfl) (by decide) rfl (fun ls hl => ?_)
                refine lv_goto (tgt := 63) hx hb dX10_film_115 (by decide) ?_
                exact ih63 x17 (va_up shI_63 k8 items_c16) ls H locs (Nat.lt_of_lt_of_le hw.2 (Nat.le_of_lt_succ hmu63)) hw.1 hI (lv_sub hl [2, 3, 4, 5, 0] rfl)
          exact lp63 (mu63 (0 : Int32) shI + 1) (0 : Int32) shI ls H locs (Nat.lt_succ_self _) hw hI (lv_sub hl [3, 4, 7, 2, 0] rfl)
        · replace hw := hw.2 c10
          refine lv_iload hx hb dX10_film_57 (lv_at hl 0 rfl) ?_
          subst hQ
          exact x_iret (u := shI) hC hI hr hlk hw rfl dX10_film_59
      · replace hw := hw.1 c6
        refine lv_bipush (v := (-2 : Int32)) hx hb dX10_film_29 (by decide) ?_
        subst hQ
        exact x_iret (u := shI) hC hI hr hlk hw rfl dX10_film_31
    · replace hw := hw.1 c4
      refine lv_iconst (v := (-1 : Int32)) hx hb dX10_film_16 (by decide) ?_
      subst hQ
      exact x_iret (u := shI) hC hI hr hlk hw rfl dX10_film_17
