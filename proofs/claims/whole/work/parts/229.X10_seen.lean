def wX10_seen (a1 : Int32) (a2 : Int32) (a3 : Int32) (a4 : Int32) (unit : Int32) (shI : Nat → Nat → Int64) (shH : Nat → Int32) (shL : Nat → Int32) (shS : Nat → Int32) (post : Int32 → Prop) : Prop := wX10_isSheetOfLane a1 a2 (fun (r1 : Int32) => ((r1 = 0 → post (-1 : Int32)) ∧ (¬ r1 = 0 → wX10_isIn a4 (1 : Int32) (8 : Int32) (fun (r3 : Int32) => ((r3 = 0 → post (-1 : Int32)) ∧ (¬ r3 = 0 → vp_in a1 4 ∧ ∀ k6 : Nat, k6 = a1.toNatClampNeg → wX6_refusal a2 a3 ((3 : Int32) * a4) (shH k6) (shL k6) (shS k6) (fun (r7 : Int32) => ((r7 = 0 → (∃ (I53 : Int32 → Prop) (mu53 : Int32 → Nat), I53 a3 ∧ ∀ (l7_53 : Int32), I53 l7_53 → (((a3 + ((3 : Int32) * a4)) ≤ l7_53 → (∃ (I89 : Int32 → Int32 → Prop) (mu89 : Int32 → Int32 → Nat), I89 (0 : Int32) (0 : Int32) ∧ ∀ (l7_89 : Int32) (l8_89 : Int32), I89 l7_89 l8_89 → (((6 : Int32) ≤ l8_89 → post l7_89) ∧ (¬ (6 : Int32) ≤ l8_89 → vp_in l8_89 6 ∧ ¬ (stripsF l8_89.toNatClampNeg) = 0 ∧ wX6_agreesWith unit ((24 : Int32) / (stripsF l8_89.toNatClampNeg)) a3 a4 (shI k6) (fun (r15 : Int32) => ((r15 = 0 → ∀ x17 : Int32, x17 = l8_89 + 1 → (I89 l7_89 x17 ∧ mu89 l7_89 x17 < mu89 l7_89 l8_89)) ∧ (¬ r15 = 0 → ∀ x18 : Int32, x18 = l7_89 ||| ((1 : Int32) <<< (l8_89 &&& 31)) → ∀ x19 : Int32, x19 = l8_89 + 1 → (I89 x18 x19 ∧ mu89 x18 x19 < mu89 l7_89 l8_89)))))))) ∧ (¬ (a3 + ((3 : Int32) * a4)) ≤ l7_53 → wX6_tellsPlaceAt l7_53 (shI k6) (fun (r20 : Int32) => ((r20 = 0 → post (-2 : Int32)) ∧ (¬ r20 = 0 → ∀ x22 : Int32, x22 = l7_53 + 3 → (I53 x22 ∧ mu53 x22 < mu53 l7_53)))))))) ∧ (¬ r7 = 0 → post r7)))))))))
def rmX10_seen : Room := { frames := 4, cells := 0, slots := 0, locals := 95 }
theorem kX10_seen_0 : Cond.fieldLink RX10 38 "GoreGlobe" "sheets" "[LGoreGlobe$Sheet;" ∈ wsX10_seen := List.mem_cons_of_mem _ (List.mem_append_left _ (List.mem_append_left _ (List.mem_append_left _ (List.mem_append_left _ (List.mem_of_getElem? (i := 0) rfl)))))
theorem kX10_seen_cX10 : ∀ w ∈ wsX100, w ∈ wsX10_seen := fun _ h => List.mem_cons_of_mem _ (List.mem_append_left _ (List.mem_append_left _ (List.mem_append_right _ h)))
theorem kX10_seen_2 : Cond.fieldLink RX10 306 "GoreGlobe" "STRIP_NUMBERS" "[I" ∈ wsX10_seen := List.mem_cons_of_mem _ (List.mem_append_left _ (List.mem_append_left _ (List.mem_append_left _ (List.mem_append_left _ (List.mem_of_getElem? (i := 1) rfl)))))
theorem kX10_seen_3 : Cond.fieldLink RX10 10 "GoreGlobe" "now" "LGoreGlobe$Globe;" ∈ wsX10_seen := List.mem_cons_of_mem _ (List.mem_append_left _ (List.mem_append_left _ (List.mem_append_left _ (List.mem_append_left _ (List.mem_of_getElem? (i := 2) rfl)))))
theorem kX10_seen_4 : Cond.fieldLink RX10 111 "GoreGlobe$Globe" "unit" "I" ∈ wsX10_seen := List.mem_cons_of_mem _ (List.mem_append_left _ (List.mem_append_left _ (List.mem_append_left _ (List.mem_append_left _ (List.mem_of_getElem? (i := 3) rfl)))))
theorem kX10_seen_cX0 : ∀ w ∈ wsX00, w ∈ wsX10_seen := fun _ h => List.mem_cons_of_mem _ (List.mem_append_left _ (List.mem_append_right _ h))
set_option maxHeartbeats 4000000 in
set_option maxRecDepth 100000 in
theorem mX10_seen (l : Launch) (D : va_G) (K : Nat → ClassId) (q : Nat → Nat) (sz : Nat) (a1 : Int32) (a2 : Int32) (a3 : Int32) (a4 : Int32) (bits : Nat → Int64) (stops : Nat → Int32) (num : Int32) (unit : Int32) (strips : Int32) (caps : Int32) (draw : Int32) (oldest : Int32) (known : Int32) (ring : Nat → GS) (im : GS) (iold : Int32) (iknown : Int32) (iring : Nat → GS) (hasIm : Int32) (letters : Nat → Int32) (tbits : Nat → Int64) (tlen : Int32) (tat : Int32) (fig : Int32) (shI : Nat → Nat → Int64) (shH : Nat → Int32) (shL : Nat → Int32) (shS : Nat → Int32) (seaOf : Nat → Int32) (queue : Nat → Int32) (snum : Int32) (cost : Nat → Int32) (heap : Nat → Int64) (wait : Int32) (off : Int32) (les : Int32) (gre : Int32) (abv : Int64) (blw : Int64) (needed : Int32) (ocut : Int32) (opole : Int32)  {post : Int32 → Prop} (hw : wX10_seen a1 a2 a3 a4 unit shI shH shL shS post) : Met l yX10_seen wsX10_seen rmX10_seen (va_Pc [.ref (q 0), .int a1, .int a2, .int a3, .int a4] (cP D K (fl (lX K q bits stops num unit strips caps draw oldest known ring im iold iknown iring hasIm letters tbits tlen tat fig shI shH shL shS seaOf queue snum cost heap wait off les gre abv blw needed ocut opole)) sz)) (va_Qi (fun (r : Int32) (u : Unit) => post r) (fun u t => cQ D K (fl (lX K q bits stops num unit strips caps draw oldest known ring im iold iknown iring hasIm letters tbits tlen tat fig shI shH shL shS seaOf queue snum cost heap wait off les gre abv blw needed ocut opole)) (va_A (fl (lX K q bits stops num unit strips caps draw oldest known ring im iold iknown iring hasIm letters tbits tlen tat fig shI shH shL shS seaOf queue snum cost heap wait off les gre abv blw needed ocut opole)) sz) t) (va_A (fl (lX K q bits stops num unit strips caps draw oldest known ring im iold iknown iring hasIm letters tbits tlen tat fig shI shH shL shS seaOf queue snum cost heap wait off les gre abv blw needed ocut opole)) sz)) 0 0 (va_A (fl (lX K q bits stops num unit strips caps draw oldest known ring im iold iknown iring hasIm letters tbits tlen tat fig shI shH shL shS seaOf queue snum cost heap wait off les gre abv blw needed ocut opole)) sz) := by
  refine x_entry (cc := cX10_seen) (maxL := 9) (ret := (some .int)) (QA := fun A => va_Qi (fun (r : Int32) (u : Unit) => post r) (fun u t => cQ D K (fl (lX K q bits stops num unit strips caps draw oldest known ring im iold iknown iring hasIm letters tbits tlen tat fig shI shH shL shS seaOf queue snum cost heap wait off les gre abv blw needed ocut opole)) A t) A) (plainFor_of_name (by decide)) rfl (Nat.le_of_ble_eq_true rfl) ?_
  intro p e s m args below meth c A ls H Q hQ hC hlk hr hnm hI hl
  obtain ⟨hx, hb, hml, hown, hts, hK, hA, hZ⟩ := id hC
  obtain ⟨locs, hlocs⟩ : ∃ y : List Loc, y = [] := ⟨_, rfl⟩
  rw [← hlocs] at hI ⊢
  clear hlocs
  replace hl : lv_has ls 9 [(0, .ref (q 0)), (1, .int a1), (2, .int a2), (3, .int a3), (4, .int a4)] := hl
  replace hw : wX10_isSheetOfLane a1 a2 (fun (r1 : Int32) => ((r1 = 0 → post (-1 : Int32)) ∧ (¬ r1 = 0 → wX10_isIn a4 (1 : Int32) (8 : Int32) (fun (r3 : Int32) => ((r3 = 0 → post (-1 : Int32)) ∧ (¬ r3 = 0 → vp_in a1 4 ∧ ∀ k6 : Nat, k6 = a1.toNatClampNeg → wX6_refusal a2 a3 ((3 : Int32) * a4) (shH k6) (shL k6) (shS k6) (fun (r7 : Int32) => ((r7 = 0 → (∃ (I53 : Int32 → Prop) (mu53 : Int32 → Nat), I53 a3 ∧ ∀ (l7_53 : Int32), I53 l7_53 → (((a3 + ((3 : Int32) * a4)) ≤ l7_53 → (∃ (I89 : Int32 → Int32 → Prop) (mu89 : Int32 → Int32 → Nat), I89 (0 : Int32) (0 : Int32) ∧ ∀ (l7_89 : Int32) (l8_89 : Int32), I89 l7_89 l8_89 → (((6 : Int32) ≤ l8_89 → post l7_89) ∧ (¬ (6 : Int32) ≤ l8_89 → vp_in l8_89 6 ∧ ¬ (stripsF l8_89.toNatClampNeg) = 0 ∧ wX6_agreesWith unit ((24 : Int32) / (stripsF l8_89.toNatClampNeg)) a3 a4 (shI k6) (fun (r15 : Int32) => ((r15 = 0 → ∀ x17 : Int32, x17 = l8_89 + 1 → (I89 l7_89 x17 ∧ mu89 l7_89 x17 < mu89 l7_89 l8_89)) ∧ (¬ r15 = 0 → ∀ x18 : Int32, x18 = l7_89 ||| ((1 : Int32) <<< (l8_89 &&& 31)) → ∀ x19 : Int32, x19 = l8_89 + 1 → (I89 x18 x19 ∧ mu89 x18 x19 < mu89 l7_89 l8_89)))))))) ∧ (¬ (a3 + ((3 : Int32) * a4)) ≤ l7_53 → wX6_tellsPlaceAt l7_53 (shI k6) (fun (r20 : Int32) => ((r20 = 0 → post (-2 : Int32)) ∧ (¬ r20 = 0 → ∀ x22 : Int32, x22 = l7_53 + 3 → (I53 x22 ∧ mu53 x22 < mu53 l7_53)))))))) ∧ (¬ r7 = 0 → post r7))))))))) := hw
  refine lv_iload_n hx hb dX10_seen_0 rfl (lv_at hl 1 rfl) ?_
  refine lv_iload_n hx hb dX10_seen_1 rfl (lv_at hl 2 rfl) ?_
  refine x_callSi (rest := []) hC hI [] (mX10_isSheetOfLane l D K  _ a1 a2 hw) (va_cwS 2 hts gX10_seen_X10_isSheetOfLane rfl rfl rfl (by decide +kernel) ⟨(Nat.le_of_ble_eq_true rfl), (Nat.le_of_ble_eq_true rfl)⟩) (by decide) rfl (fun _ => rfl) rfl hl.1 rfl (Nat.le_of_ble_eq_true rfl) dX10_seen_2 ⟨(Nat.le_of_ble_eq_true rfl), (Nat.le_of_ble_eq_true rfl)⟩ (fun r1 u H locs hw hI => ?_)
  try dsimp only at hw
  have hI : wI s D A (fl (lX K q bits stops num unit strips caps draw oldest known ring im iold iknown iring hasIm letters tbits tlen tat fig shI shH shL shS seaOf queue snum cost heap wait off les gre abv blw needed ocut opole)) H locs := hI
  refine lv_if_eq (tgt := 19) hx hb dX10_seen_5 (by decide) (fun c2 => ?_) (fun c2 => ?_)
  · replace hw := hw.1 c2
    refine lv_iconst (v := (-1 : Int32)) hx hb dX10_seen_19 (by decide) ?_
    subst hQ
    exact x_iret (u := ()) hC hI hr hlk hw rfl dX10_seen_20
  · replace hw := hw.2 c2
    refine lv_iload hx hb dX10_seen_8 (lv_at hl 4 rfl) ?_
    refine lv_iconst (v := (1 : Int32)) hx hb dX10_seen_10 (by decide) ?_
    refine lv_bipush (v := (8 : Int32)) hx hb dX10_seen_11 (by decide) ?_
    refine x_callSi (rest := []) hC hI [] (mX10_isIn l D K  _ a4 (1 : Int32) (8 : Int32) hw) (va_cwS 3 hts gX10_seen_X10_isIn rfl rfl rfl (by decide +kernel) ⟨(Nat.le_of_ble_eq_true rfl), (Nat.le_of_ble_eq_true rfl)⟩) (by decide) rfl (fun _ => rfl) rfl hl.1 rfl (Nat.le_of_ble_eq_true rfl) dX10_seen_13 ⟨(Nat.le_of_ble_eq_true rfl), (Nat.le_of_ble_eq_true rfl)⟩ (fun r3 u H locs hw hI => ?_)
    try dsimp only at hw
    have hI : wI s D A (fl (lX K q bits stops num unit strips caps draw oldest known ring im iold iknown iring hasIm letters tbits tlen tat fig shI shH shL shS seaOf queue snum cost heap wait off les gre abv blw needed ocut opole)) H locs := hI
    refine lv_if_ne (tgt := 21) hx hb dX10_seen_16 (by decide) (fun c4 => ?_) (fun c4 => ?_)
    · replace hw := hw.2 c4
      refine lv_aload_n hx hb dX10_seen_21 rfl (lv_at hl 0 rfl) ?_
      refine x_get (v := .ref (q 50)) hC hI kX10_seen_cX10 0 rfl rfl 6 (by decide) kX10_seen_0 rfl rfl dX10_seen_22 ?_
      refine lv_iload_n hx hb dX10_seen_25 rfl (lv_at hl 1 rfl) ?_
      obtain ⟨hc5, hw⟩ := hw
      obtain ⟨k6, ek6⟩ : ∃ y : Nat, y = a1.toNatClampNeg := ⟨_, rfl⟩
      replace hw := hw k6 ek6
      have hk6 : k6 < 4 := by rw [ek6]; exact vp_lt hc5
      refine x_aald (x := q (51 + 2 * k6 + 0)) hC hI 50 3 rfl rfl hc5 (by rw [ek6]; rfl) dX10_seen_26 ?_
      refine lv_astore (lv' := [(5, .ref (q (51 + 2 * k6 + 0))), (0, .ref (q 0)), (1, .int a1), (2, .int a2), (3, .int a3), (4, .int a4)]) hx hb dX10_seen_27 hl (by decide) rfl (fun ls hl => ?_)
      refine lv_aload hx hb dX10_seen_29 (lv_at hl 0 rfl) ?_
      refine lv_iload_n hx hb dX10_seen_31 rfl (lv_at hl 3 rfl) ?_
      refine lv_iload_n hx hb dX10_seen_32 rfl (lv_at hl 4 rfl) ?_
      refine lv_iconst (v := (3 : Int32)) hx hb dX10_seen_33 (by decide) ?_
      refine lv_iload hx hb dX10_seen_34 (lv_at hl 5 rfl) ?_
      refine lv_imul hx hb dX10_seen_36 ?_
      refine x_callVi (fs := [.ref (q (51 + 2 * k6 + 1)), .int (shH k6), .int (shL k6), .int (shS k6)]) (rest := []) hC hI [(19 + k6)] (mX6_refusal l D K (fun i => q (51 + 2 * k6 + i)) _ a2 a3 ((3 : Int32) * a4) (shI k6) (shH k6) (shL k6) (shS k6) hw) (cwV 3 hts gX10_seen_X6_refusal rfl rfl rfl (by decide +kernel) ⟨(Nat.le_of_ble_eq_true rfl), (Nat.le_of_ble_eq_true rfl)⟩) (by rcases lt4 hk6 with rfl | rfl | rfl | rfl <;> rfl) (by rcases lt4 hk6 with rfl | rfl | rfl | rfl <;> rfl) (fun _ => rfl) (51 + 2 * k6 + 0) 4 rfl rfl (by rcases lt4 hk6 with rfl | rfl | rfl | rfl <;> rfl) rfl hl.1 rfl (Nat.le_of_ble_eq_true rfl) dX10_seen_37 ⟨(Nat.le_of_ble_eq_true rfl), (Nat.le_of_ble_eq_true rfl)⟩ (fun r7 u H locs hw hI => ?_)
      try dsimp only at hw
      have hI : wI s D A (fl (lX K q bits stops num unit strips caps draw oldest known ring im iold iknown iring hasIm letters tbits tlen tat fig shI shH shL shS seaOf queue snum cost heap wait off les gre abv blw needed ocut opole)) H locs := by rcases lt4 hk6 with rfl | rfl | rfl | rfl <;> exact hI
      refine lv_istore (lv' := [(6, .int r7), (5, .ref (q (51 + 2 * k6 + 0))), (0, .ref (q 0)), (1, .int a1), (2, .int a2), (3, .int a3), (4, .int a4)]) hx hb dX10_seen_40 hl (by decide) rfl (fun ls hl => ?_)
      refine lv_iload hx hb dX10_seen_42 (lv_at hl 0 rfl) ?_
      refine lv_if_eq (tgt := 50) hx hb dX10_seen_44 (by decide) (fun c8 => ?_) (fun c8 => ?_)
      · replace hw := hw.1 c8
        refine lv_iload_n hx hb dX10_seen_50 rfl (lv_at hl 5 rfl) ?_
        refine lv_istore (lv' := [(7, .int a3), (6, .int r7), (5, .ref (q (51 + 2 * k6 + 0))), (0, .ref (q 0)), (1, .int a1), (2, .int a2), (3, .int a3), (4, .int a4)]) hx hb dX10_seen_51 hl (by decide) rfl (fun ls hl => ?_)
        obtain ⟨I53, mu53, hw, hb53⟩ := hw
        have lp53 : ∀ (k : Nat) (l7_53 : Int32) (ls : Array Slot) (H : Heap) (locs : List Loc), mu53 l7_53 < k → I53 l7_53 → wI s D A (fl (lX K q bits stops num unit strips caps draw oldest known ring im iold iknown iring hasIm letters tbits tlen tat fig shI shH shL shS seaOf queue snum cost heap wait off les gre abv blw needed ocut opole)) H locs → lv_has ls 9 [(0, .ref (q 0)), (3, .int a3), (4, .int a4), (5, .ref (q (51 + 2 * k6 + 0))), (7, .int l7_53)] → W p l e rmX10_seen s m args below meth c H locs 0 0 Q (F0 m 53 ls []) := by
          intro k
          induction k with
          | zero => intro l7_53 ls H locs hmu; exact absurd hmu (Nat.not_lt_zero _)
          | succ k ih53 =>
            intro l7_53 ls H locs hmu53 hw hI hl
            replace hw := hb53 l7_53 hw
            refine lv_iload hx hb dX10_seen_53 (lv_at hl 4 rfl) ?_
            refine lv_iload_n hx hb dX10_seen_55 rfl (lv_at hl 1 rfl) ?_
            refine lv_iconst (v := (3 : Int32)) hx hb dX10_seen_56 (by decide) ?_
            refine lv_iload hx hb dX10_seen_57 (lv_at hl 2 rfl) ?_
            refine lv_imul hx hb dX10_seen_59 ?_
            refine lv_iadd hx hb dX10_seen_60 ?_
            refine lv_icmp_ge (tgt := 83) hx hb dX10_seen_61 (by decide) (fun c9 => ?_) (fun c9 => ?_)
            · replace hw := hw.1 c9
              refine lv_iconst (v := (0 : Int32)) hx hb dX10_seen_83 (by decide) ?_
              refine lv_istore (lv' := [(7, .int (0 : Int32)), (0, .ref (q 0)), (3, .int a3), (4, .int a4), (5, .ref (q (51 + 2 * k6 + 0)))]) hx hb dX10_seen_84 hl (by decide) rfl (fun ls hl => ?_)
              refine lv_iconst (v := (0 : Int32)) hx hb dX10_seen_86 (by decide) ?_
              refine lv_istore (lv' := [(8, .int (0 : Int32)), (7, .int (0 : Int32)), (0, .ref (q 0)), (3, .int a3), (4, .int a4), (5, .ref (q (51 + 2 * k6 + 0)))]) hx hb dX10_seen_87 hl (by decide) rfl (fun ls hl => ?_)
              obtain ⟨I89, mu89, hw, hb89⟩ := hw
              have lp89 : ∀ (k : Nat) (l7_89 : Int32) (l8_89 : Int32) (ls : Array Slot) (H : Heap) (locs : List Loc), mu89 l7_89 l8_89 < k → I89 l7_89 l8_89 → wI s D A (fl (lX K q bits stops num unit strips caps draw oldest known ring im iold iknown iring hasIm letters tbits tlen tat fig shI shH shL shS seaOf queue snum cost heap wait off les gre abv blw needed ocut opole)) H locs → lv_has ls 9 [(0, .ref (q 0)), (3, .int a3), (4, .int a4), (5, .ref (q (51 + 2 * k6 + 0))), (7, .int l7_89), (8, .int l8_89)] → W p l e rmX10_seen s m args below meth c H locs 0 0 Q (F0 m 89 ls []) := by
                intro k
                induction k with
                | zero => intro l7_89 l8_89 ls H locs hmu; exact absurd hmu (Nat.not_lt_zero _)
                | succ k ih89 =>
                  intro l7_89 l8_89 ls H locs hmu89 hw hI hl
                  replace hw := hb89 l7_89 l8_89 hw
                  refine lv_iload hx hb dX10_seen_89 (lv_at hl 5 rfl) ?_
                  refine x_gets hC hI hZ.2 kX10_seen_2 dX10_seen_91 (fun t10 ht10 => ?_)
                  refine x_tlen (v := (6 : Int32)) hC hI ht10 rfl dX10_seen_94 ?_
                  refine lv_icmp_ge (tgt := 140) hx hb dX10_seen_95 (by decide) (fun c11 => ?_) (fun c11 => ?_)
                  · replace hw := hw.1 c11
                    refine lv_iload hx hb dX10_seen_140 (lv_at hl 4 rfl) ?_
                    subst hQ
                    exact x_iret (u := ()) hC hI hr hlk hw rfl dX10_seen_142
                  · replace hw := hw.2 c11
                    refine lv_aload hx hb dX10_seen_98 (lv_at hl 3 rfl) ?_
                    refine lv_aload_n hx hb dX10_seen_100 rfl (lv_at hl 0 rfl) ?_
                    refine x_get (v := .ref (q 1)) hC hI kX10_seen_cX10 0 rfl rfl 0 (by decide) kX10_seen_3 rfl rfl dX10_seen_101 ?_
                    refine x_get (v := .int unit) hC hI kX10_seen_cX0 1 rfl rfl 3 (by decide) kX10_seen_4 rfl rfl dX10_seen_104 ?_
                    refine lv_bipush (v := (24 : Int32)) hx hb dX10_seen_107 (by decide) ?_
                    refine x_gets hC hI hZ.2 kX10_seen_2 dX10_seen_109 (fun t12 ht12 => ?_)
                    refine lv_iload hx hb dX10_seen_112 (lv_at hl 5 rfl) ?_
                    obtain ⟨hc13, hw⟩ := hw
                    refine x_ti hC hI ht12 hc13 dX10_seen_114 ?_
                    obtain ⟨hc14, hw⟩ := hw
                    refine lv_idiv hx hb dX10_seen_115 hc14 ?_
                    refine lv_iload_n hx hb dX10_seen_116 rfl (lv_at hl 1 rfl) ?_
                    refine lv_iload hx hb dX10_seen_117 (lv_at hl 2 rfl) ?_
                    refine x_callVi (fs := [.ref (q (51 + 2 * k6 + 1)), .int (shH k6), .int (shL k6), .int (shS k6)]) (rest := []) hC hI [(19 + k6)] (mX6_agreesWith l D K (fun i => q (51 + 2 * k6 + i)) _ unit ((24 : Int32) / (stripsF l8_89.toNatClampNeg)) a3 a4 (shI k6) (shH k6) (shL k6) (shS k6) hw) (cwV 4 hts gX10_seen_X6_agreesWith rfl rfl rfl (by decide +kernel) ⟨(Nat.le_of_ble_eq_true rfl), (Nat.le_of_ble_eq_true rfl)⟩) (by rcases lt4 hk6 with rfl | rfl | rfl | rfl <;> rfl) (by rcases lt4 hk6 with rfl | rfl | rfl | rfl <;> rfl) (fun _ => rfl) (51 + 2 * k6 + 0) 4 rfl rfl (by rcases lt4 hk6 with rfl | rfl | rfl | rfl <;> rfl) rfl hl.1 rfl (Nat.le_of_ble_eq_true rfl) dX10_seen_119 ⟨(Nat.le_of_ble_eq_true rfl), (Nat.le_of_ble_eq_true rfl)⟩ (fun r15 u H locs hw hI => ?_)
                    try dsimp only at hw
                    have hI : wI s D A (fl (lX K q bits stops num unit strips caps draw oldest known ring im iold iknown iring hasIm letters tbits tlen tat fig shI shH shL shS seaOf queue snum cost heap wait off les gre abv blw needed ocut opole)) H locs := by rcases lt4 hk6 with rfl | rfl | rfl | rfl <;> exact hI
                    refine lv_if_eq (tgt := 134) hx hb dX10_seen_122 (by decide) (fun c16 => ?_) (fun c16 => ?_)
                    · replace hw := hw.1 c16
                      obtain ⟨x17, ex17⟩ : ∃ y : Int32, y = l8_89 + 1 := ⟨_, rfl⟩
                      replace hw := hw x17 ex17
                      refine lv_iinc (v := x17) (lv' := [(8, .int x17), (0, .ref (q 0)), (3, .int a3), (4, .int a4), (5, .ref (q (51 + 2 * k6 + 0))), (7, .int l7_89)]) hx hb dX10_seen_134 hl (k := 5) rfl (by rw [ex17]; rfl) (by decide) rfl (fun ls hl => ?_)
                      refine lv_goto (tgt := 89) hx hb dX10_seen_137 (by decide) ?_
                      exact ih89 l7_89 x17 ls H locs (Nat.lt_of_lt_of_le hw.2 (Nat.le_of_lt_succ hmu89)) hw.1 hI (lv_sub hl [1, 2, 3, 4, 5, 0] rfl)
                    · replace hw := hw.2 c16
                      refine lv_iload hx hb dX10_seen_125 (lv_at hl 4 rfl) ?_
                      refine lv_iconst (v := (1 : Int32)) hx hb dX10_seen_127 (by decide) ?_
                      refine lv_iload hx hb dX10_seen_128 (lv_at hl 5 rfl) ?_
                      refine lv_ishl hx hb dX10_seen_130 ?_
                      refine lv_ior hx hb dX10_seen_131 ?_
                      refine lv_topi (fun x18 ex18 => ?_)
                      replace hw := hw x18 ex18
                      refine lv_istore (lv' := [(7, .int x18), (0, .ref (q 0)), (3, .int a3), (4, .int a4), (5, .ref (q (51 + 2 * k6 + 0))), (8, .int l8_89)]) hx hb dX10_seen_132 hl (by decide) rfl (fun ls hl => ?_)
                      obtain ⟨x19, ex19⟩ : ∃ y : Int32, y = l8_89 + 1 := ⟨_, rfl⟩
                      replace hw := hw x19 ex19
                      refine lv_iinc (v := x19) (lv' := [(8, .int x19), (7, .int x18), (0, .ref (q 0)), (3, .int a3), (4, .int a4), (5, .ref (q (51 + 2 * k6 + 0)))]) hx hb dX10_seen_134 hl (k := 5) rfl (by rw [ex19]; rfl) (by decide) rfl (fun ls hl => ?_)
                      refine lv_goto (tgt := 89) hx hb dX10_seen_137 (by decide) ?_
                      exact ih89 x18 x19 ls H locs (Nat.lt_of_lt_of_le hw.2 (Nat.le_of_lt_succ hmu89)) hw.1 hI (lv_sub hl [2, 3, 4, 5, 1, 0] rfl)
              exact lp89 (mu89 (0 : Int32) (0 : Int32) + 1) (0 : Int32) (0 : Int32) ls H locs (Nat.lt_succ_self _) hw hI (lv_sub hl [2, 3, 4, 5, 1, 0] rfl)
            · replace hw := hw.2 c9
              refine lv_aload hx hb dX10_seen_64 (lv_at hl 3 rfl) ?_
              refine lv_iload hx hb dX10_seen_66 (lv_at hl 4 rfl) ?_
              refine x_callVi (fs := [.ref (q (51 + 2 * k6 + 1)), .int (shH k6), .int (shL k6), .int (shS k6)]) (rest := []) hC hI [(19 + k6)] (mX6_tellsPlaceAt l D K (fun i => q (51 + 2 * k6 + i)) _ l7_53 (shI k6) (shH k6) (shL k6) (shS k6) hw) (cwV 1 hts gX10_seen_X6_tellsPlaceAt rfl rfl rfl (by decide +kernel) ⟨(Nat.le_of_ble_eq_true rfl), (Nat.le_of_ble_eq_true rfl)⟩) (by rcases lt4 hk6 with rfl | rfl | rfl | rfl <;> rfl) (by rcases lt4 hk6 with rfl | rfl | rfl | rfl <;> rfl) (fun _ => rfl) (51 + 2 * k6 + 0) 4 rfl rfl (by rcases lt4 hk6 with rfl | rfl | rfl | rfl <;> rfl) rfl hl.1 rfl (Nat.le_of_ble_eq_true rfl) dX10_seen_68 ⟨(Nat.le_of_ble_eq_true rfl), (Nat.le_of_ble_eq_true rfl)⟩ (fun r20 u H locs hw hI => ?_)
              try dsimp only at hw
              have hI : wI s D A (fl (lX K q bits stops num unit strips caps draw oldest known ring im iold iknown iring hasIm letters tbits tlen tat fig shI shH shL shS seaOf queue snum cost heap wait off les gre abv blw needed ocut opole)) H locs := by rcases lt4 hk6 with rfl | rfl | rfl | rfl <;> exact hI
              refine lv_if_ne (tgt := 77) hx hb dX10_seen_71 (by decide) (fun c21 => ?_) (fun c21 => ?_)
              · replace hw := hw.2 c21
                obtain ⟨x22, ex22⟩ : ∃ y : Int32, y = l7_53 + 3 := ⟨_, rfl⟩
                replace hw := hw x22 ex22
                refine lv_iinc (v := x22) (lv' := [(7, .int x22), (0, .ref (q 0)), (3, .int a3), (4, .int a4), (5, .ref (q (51 + 2 * k6 + 0)))]) hx hb dX10_seen_77 hl (k := 4) rfl (by rw [ex22]; rfl) (by decide) rfl (fun ls hl => ?_)
                refine lv_goto (tgt := 53) hx hb dX10_seen_80 (by decide) ?_
                exact ih53 x22 ls H locs (Nat.lt_of_lt_of_le hw.2 (Nat.le_of_lt_succ hmu53)) hw.1 hI (lv_sub hl [1, 2, 3, 4, 0] rfl)
              · replace hw := hw.1 c21
                refine lv_bipush (v := (-2 : Int32)) hx hb dX10_seen_74 (by decide) ?_
                subst hQ
                exact x_iret (u := ()) hC hI hr hlk hw rfl dX10_seen_76
        exact lp53 (mu53 a3 + 1) a3 ls H locs (Nat.lt_succ_self _) hw hI (lv_sub hl [3, 6, 7, 2, 0] rfl)
      · replace hw := hw.2 c8
        refine lv_iload hx hb dX10_seen_47 (lv_at hl 0 rfl) ?_
        subst hQ
        exact x_iret (u := ()) hC hI hr hlk hw rfl dX10_seen_49
    · replace hw := hw.1 c4
      refine lv_iconst (v := (-1 : Int32)) hx hb dX10_seen_19 (by decide) ?_
      subst hQ
      exact x_iret (u := ()) hC hI hr hlk hw rfl dX10_seen_20
