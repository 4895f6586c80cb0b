def wX10_routeLength  (bits : Nat → Int64) (stops : Nat → Int32) (num : Int32) (unit : Int32) (cost : Nat → Int32) (heap : Nat → Int64) (wait : Int32) (post : Int32 → (Nat → Int32) → (Nat → Int64) → Int32 → Prop) : Prop := (∃ (I4 : Int32 → Int32 → (Nat → Int32) → (Nat → Int64) → Int32 → Prop) (mu4 : Int32 → Int32 → (Nat → Int32) → (Nat → Int64) → Int32 → Nat), I4 (0 : Int32) (1 : Int32) cost heap wait ∧ ∀ (l1_4 : Int32) (l2_4 : Int32) (cost_4 : Nat → Int32) (heap_4 : Nat → Int64) (wait_4 : Int32), I4 l1_4 l2_4 cost_4 heap_4 wait_4 → ((num ≤ l2_4 → post l1_4 cost_4 heap_4 wait_4) ∧ (¬ num ≤ l2_4 → vp_in (l2_4 - (1 : Int32)) 8 ∧ ∀ x3 : Int32, x3 = stops (l2_4 - (1 : Int32)).toNatClampNeg → vp_in l2_4 8 ∧ ∀ x5 : Int32, x5 = stops l2_4.toNatClampNeg → wX8_spread x3 x5 cost_4 heap_4 bits unit (fun (cost_c6 : Nat → Int32) (heap_c7 : Nat → Int64) (wait_c8 : Int32) => vp_in x5 266 ∧ ∀ x10 : Int32, x10 = cost_c6 x5.toNatClampNeg → ((x10 = (2147483647 : Int32) → post (-4 : Int32) cost_c6 heap_c7 wait_c8) ∧ (¬ x10 = (2147483647 : Int32) → wX8_farOf x10 (fun (r12 : Int32) => ∀ x13 : Int32, x13 = l1_4 + r12 → ∀ x14 : Int32, x14 = l2_4 + 1 → (I4 x13 x14 cost_c6 heap_c7 wait_c8 ∧ mu4 x13 x14 cost_c6 heap_c7 wait_c8 < mu4 l1_4 l2_4 cost_4 heap_4 wait_4))))))))
def rmX10_routeLength : Room := { frames := 5, cells := 0, slots := 0, locals := 116 }
theorem kX10_routeLength_0 : Cond.fieldLink RX10 10 "GoreGlobe" "now" "LGoreGlobe$Globe;" ∈ wsX10_routeLength := List.mem_cons_of_mem _ (List.mem_append_left _ (List.mem_append_left _ (List.mem_append_left _ (List.mem_append_left _ (List.mem_of_getElem? (i := 0) rfl)))))
theorem kX10_routeLength_cX10 : ∀ w ∈ wsX100, w ∈ wsX10_routeLength := fun _ h => List.mem_cons_of_mem _ (List.mem_append_left _ (List.mem_append_left _ (List.mem_append_right _ h)))
theorem kX10_routeLength_2 : Cond.fieldLink RX10 204 "GoreGlobe$Globe" "stopNumber" "I" ∈ wsX10_routeLength := List.mem_cons_of_mem _ (List.mem_append_left _ (List.mem_append_left _ (List.mem_append_left _ (List.mem_append_left _ (List.mem_of_getElem? (i := 1) rfl)))))
theorem kX10_routeLength_cX0 : ∀ w ∈ wsX00, w ∈ wsX10_routeLength := fun _ h => List.mem_cons_of_mem _ (List.mem_append_left _ (List.mem_append_right _ h))
theorem kX10_routeLength_4 : Cond.fieldLink RX10 207 "GoreGlobe$Globe" "stops" "[I" ∈ wsX10_routeLength := List.mem_cons_of_mem _ (List.mem_append_left _ (List.mem_append_left _ (List.mem_append_left _ (List.mem_append_left _ (List.mem_of_getElem? (i := 2) rfl)))))
theorem kX10_routeLength_5 : Cond.fieldLink RX10 52 "GoreGlobe" "ways" "LGoreGlobe$Ways;" ∈ wsX10_routeLength := List.mem_cons_of_mem _ (List.mem_append_left _ (List.mem_append_left _ (List.mem_append_left _ (List.mem_append_left _ (List.mem_of_getElem? (i := 3) rfl)))))
theorem kX10_routeLength_6 : Cond.fieldLink RX10 178 "GoreGlobe$Ways" "cost" "[I" ∈ wsX10_routeLength := List.mem_cons_of_mem _ (List.mem_append_left _ (List.mem_append_left _ (List.mem_append_left _ (List.mem_append_left _ (List.mem_of_getElem? (i := 4) rfl)))))
theorem kX10_routeLength_cX8 : ∀ w ∈ wsX80, w ∈ wsX10_routeLength := fun _ h => List.mem_cons_of_mem _ (List.mem_append_right _ h)
theorem kX10_routeLength_8 : Cond.constant RX10 181 (2147483647) ∈ wsX10_routeLength := List.mem_cons_of_mem _ (List.mem_append_left _ (List.mem_append_left _ (List.mem_append_left _ (List.mem_append_left _ (List.mem_of_getElem? (i := 5) rfl)))))
set_option maxHeartbeats 4000000 in
set_option maxRecDepth 100000 in
theorem mX10_routeLength (l : Launch) (D : va_G) (K : Nat → ClassId) (q : Nat → Nat) (sz : Nat)  (bits : Nat → Int64) (stops : Nat → Int32) (num : Int32) (unit : Int32) (strips : Int32) (caps : Int32) (draw : Int32) (oldest : Int32) (known : Int32) (ring : Nat → GS) (im : GS) (iold : Int32) (iknown : Int32) (iring : Nat → GS) (hasIm : Int32) (letters : Nat → Int32) (tbits : Nat → Int64) (tlen : Int32) (tat : Int32) (fig : Int32) (shI : Nat → Nat → Int64) (shH : Nat → Int32) (shL : Nat → Int32) (shS : Nat → Int32) (seaOf : Nat → Int32) (queue : Nat → Int32) (snum : Int32) (cost : Nat → Int32) (heap : Nat → Int64) (wait : Int32) (off : Int32) (les : Int32) (gre : Int32) (abv : Int64) (blw : Int64) (needed : Int32) (ocut : Int32) (opole : Int32)  {post : Int32 → (Nat → Int32) → (Nat → Int64) → Int32 → Prop} (hw : wX10_routeLength  bits stops num unit cost heap wait post) : Met l yX10_routeLength wsX10_routeLength rmX10_routeLength (va_Pc [.ref (q 0)] (cP D K (fl (lX K q bits stops num unit strips caps draw oldest known ring im iold iknown iring hasIm letters tbits tlen tat fig shI shH shL shS seaOf queue snum cost heap wait off les gre abv blw needed ocut opole)) sz)) (va_Qi (fun (r : Int32) (u : (Nat → Int32) × (Nat → Int64) × Int32) => post r u.1 u.2.1 u.2.2) (fun u t => cQ D K (fl (lX K q bits stops num unit strips caps draw oldest known ring im iold iknown iring hasIm letters tbits tlen tat fig shI shH shL shS seaOf queue snum u.1 u.2.1 u.2.2 off les gre abv blw needed ocut opole)) (va_A (fl (lX K q bits stops num unit strips caps draw oldest known ring im iold iknown iring hasIm letters tbits tlen tat fig shI shH shL shS seaOf queue snum cost heap wait off les gre abv blw needed ocut opole)) sz) t) (va_A (fl (lX K q bits stops num unit strips caps draw oldest known ring im iold iknown iring hasIm letters tbits tlen tat fig shI shH shL shS seaOf queue snum cost heap wait off les gre abv blw needed ocut opole)) sz)) 0 0 (va_A (fl (lX K q bits stops num unit strips caps draw oldest known ring im iold iknown iring hasIm letters tbits tlen tat fig shI shH shL shS seaOf queue snum cost heap wait off les gre abv blw needed ocut opole)) sz) := by
  refine x_entry (cc := cX10_routeLength) (maxL := 6) (ret := (some .int)) (QA := fun A => va_Qi (fun (r : Int32) (u : (Nat → Int32) × (Nat → Int64) × Int32) => post r u.1 u.2.1 u.2.2) (fun u t => cQ D K (fl (lX K q bits stops num unit strips caps draw oldest known ring im iold iknown iring hasIm letters tbits tlen tat fig shI shH shL shS seaOf queue snum u.1 u.2.1 u.2.2 off les gre abv blw needed ocut opole)) A t) A) (plainFor_of_name (by decide)) rfl (Nat.le_of_ble_eq_true rfl) ?_
  intro p e s m args below meth c A ls H Q hQ hC hlk hr hnm hI hl
  obtain ⟨hx, hb, hml, hown, hts, hK, hA, hZ⟩ := id hC
  obtain ⟨locs, hlocs⟩ : ∃ y : List Loc, y = [] := ⟨_, rfl⟩
  rw [← hlocs] at hI ⊢
  clear hlocs
  replace hl : lv_has ls 6 [(0, .ref (q 0))] := hl
  replace hw : (∃ (I4 : Int32 → Int32 → (Nat → Int32) → (Nat → Int64) → Int32 → Prop) (mu4 : Int32 → Int32 → (Nat → Int32) → (Nat → Int64) → Int32 → Nat), I4 (0 : Int32) (1 : Int32) cost heap wait ∧ ∀ (l1_4 : Int32) (l2_4 : Int32) (cost_4 : Nat → Int32) (heap_4 : Nat → Int64) (wait_4 : Int32), I4 l1_4 l2_4 cost_4 heap_4 wait_4 → ((num ≤ l2_4 → post l1_4 cost_4 heap_4 wait_4) ∧ (¬ num ≤ l2_4 → vp_in (l2_4 - (1 : Int32)) 8 ∧ ∀ x3 : Int32, x3 = stops (l2_4 - (1 : Int32)).toNatClampNeg → vp_in l2_4 8 ∧ ∀ x5 : Int32, x5 = stops l2_4.toNatClampNeg → wX8_spread x3 x5 cost_4 heap_4 bits unit (fun (cost_c6 : Nat → Int32) (heap_c7 : Nat → Int64) (wait_c8 : Int32) => vp_in x5 266 ∧ ∀ x10 : Int32, x10 = cost_c6 x5.toNatClampNeg → ((x10 = (2147483647 : Int32) → post (-4 : Int32) cost_c6 heap_c7 wait_c8) ∧ (¬ x10 = (2147483647 : Int32) → wX8_farOf x10 (fun (r12 : Int32) => ∀ x13 : Int32, x13 = l1_4 + r12 → ∀ x14 : Int32, x14 = l2_4 + 1 → (I4 x13 x14 cost_c6 heap_c7 wait_c8 ∧ mu4 x13 x14 cost_c6 heap_c7 wait_c8 < mu4 l1_4 l2_4 cost_4 heap_4 wait_4)))))))) := hw
  refine lv_iconst (v := (0 : Int32)) hx hb dX10_routeLength_0 (by decide) ?_
  refine lv_istore_n (lv' := [(1, .int (0 : Int32)), (0, .ref (q 0))]) hx hb dX10_routeLength_1 rfl hl (by decide) rfl (fun ls hl => ?_)
  refine lv_iconst (v := (1 : Int32)) hx hb dX10_routeLength_2 (by decide) ?_
  refine lv_istore_n (lv' := [(2, .int (1 : Int32)), (1, .int (0 : Int32)), (0, .ref (q 0))]) hx hb dX10_routeLength_3 rfl hl (by decide) rfl (fun ls hl => ?_)
  obtain ⟨I4, mu4, hw, hb4⟩ := hw
  have lp4 : ∀ (k : Nat) (l1_4 : Int32) (l2_4 : Int32) (cost_4 : Nat → Int32) (heap_4 : Nat → Int64) (wait_4 : Int32) (ls : Array Slot) (H : Heap) (locs : List Loc), mu4 l1_4 l2_4 cost_4 heap_4 wait_4 < k → I4 l1_4 l2_4 cost_4 heap_4 wait_4 → wI s D A (fl (lX K q bits stops num unit strips caps draw oldest known ring im iold iknown iring hasIm letters tbits tlen tat fig shI shH shL shS seaOf queue snum cost_4 heap_4 wait_4 off les gre abv blw needed ocut opole)) H locs → lv_has ls 6 [(0, .ref (q 0)), (1, .int l1_4), (2, .int l2_4)] → W p l e rmX10_routeLength s m args below meth c H locs 0 0 Q (F0 m 4 ls []) := by
    intro k
    induction k with
    | zero => intro l1_4 l2_4 cost_4 heap_4 wait_4 ls H locs hmu; exact absurd hmu (Nat.not_lt_zero _)
    | succ k ih4 =>
      intro l1_4 l2_4 cost_4 heap_4 wait_4 ls H locs hmu4 hw hI hl
      replace hw := hb4 l1_4 l2_4 cost_4 heap_4 wait_4 hw
      refine lv_iload_n hx hb dX10_routeLength_4 rfl (lv_at hl 2 rfl) ?_
      refine lv_aload_n hx hb dX10_routeLength_5 rfl (lv_at hl 0 rfl) ?_
      refine x_get (v := .ref (q 1)) hC hI kX10_routeLength_cX10 0 rfl rfl 0 (by decide) kX10_routeLength_0 rfl rfl dX10_routeLength_6 ?_
      refine x_get (v := .int num) hC hI kX10_routeLength_cX0 1 rfl rfl 2 (by decide) kX10_routeLength_2 rfl rfl dX10_routeLength_9 ?_
      refine lv_icmp_ge (tgt := 88) hx hb dX10_routeLength_12 (by decide) (fun c1 => ?_) (fun c1 => ?_)
      · replace hw := hw.1 c1
        refine lv_iload_n hx hb dX10_routeLength_88 rfl (lv_at hl 1 rfl) ?_
        subst hQ
        exact x_iret (u := (cost_4, heap_4, wait_4)) hC hI hr hlk hw rfl dX10_routeLength_89
      · replace hw := hw.2 c1
        refine lv_aload_n hx hb dX10_routeLength_15 rfl (lv_at hl 0 rfl) ?_
        refine x_get (v := .ref (q 1)) hC hI kX10_routeLength_cX10 0 rfl rfl 0 (by decide) kX10_routeLength_0 rfl rfl dX10_routeLength_16 ?_
        refine x_get (v := .ref (q 3)) hC hI kX10_routeLength_cX0 1 rfl rfl 1 (by decide) kX10_routeLength_4 rfl rfl dX10_routeLength_19 ?_
        refine lv_iload_n hx hb dX10_routeLength_22 rfl (lv_at hl 2 rfl) ?_
        refine lv_iconst (v := (1 : Int32)) hx hb dX10_routeLength_23 (by decide) ?_
        refine lv_isub hx hb dX10_routeLength_24 ?_
        obtain ⟨hc2, hw⟩ := hw
        refine x_iald (f := stops) hC hI 3 rfl hc2 dX10_routeLength_25 ?_
        refine lv_topi (fun x3 ex3 => ?_)
        replace hw := hw x3 ex3
        refine lv_istore_n (lv' := [(3, .int x3), (0, .ref (q 0)), (1, .int l1_4), (2, .int l2_4)]) hx hb dX10_routeLength_26 rfl hl (by decide) rfl (fun ls hl => ?_)
        refine lv_aload_n hx hb dX10_routeLength_27 rfl (lv_at hl 1 rfl) ?_
        refine x_get (v := .ref (q 1)) hC hI kX10_routeLength_cX10 0 rfl rfl 0 (by decide) kX10_routeLength_0 rfl rfl dX10_routeLength_28 ?_
        refine x_get (v := .ref (q 3)) hC hI kX10_routeLength_cX0 1 rfl rfl 1 (by decide) kX10_routeLength_4 rfl rfl dX10_routeLength_31 ?_
        refine lv_iload_n hx hb dX10_routeLength_34 rfl (lv_at hl 3 rfl) ?_
        obtain ⟨hc4, hw⟩ := hw
        refine x_iald (f := stops) hC hI 3 rfl hc4 dX10_routeLength_35 ?_
        refine lv_topi (fun x5 ex5 => ?_)
        replace hw := hw x5 ex5
        refine lv_istore (lv' := [(4, .int x5), (3, .int x3), (0, .ref (q 0)), (1, .int l1_4), (2, .int l2_4)]) hx hb dX10_routeLength_36 hl (by decide) rfl (fun ls hl => ?_)
        refine lv_aload_n hx hb dX10_routeLength_38 rfl (lv_at hl 2 rfl) ?_
        refine x_get (v := .ref (q 62)) hC hI kX10_routeLength_cX10 0 rfl rfl 8 (by decide) kX10_routeLength_5 rfl rfl dX10_routeLength_39 ?_
        refine lv_aload_n hx hb dX10_routeLength_42 rfl (lv_at hl 2 rfl) ?_
        refine x_get (v := .ref (q 1)) hC hI kX10_routeLength_cX10 0 rfl rfl 0 (by decide) kX10_routeLength_0 rfl rfl dX10_routeLength_43 ?_
        refine lv_iload_n hx hb dX10_routeLength_46 rfl (lv_at hl 1 rfl) ?_
        refine lv_iload hx hb dX10_routeLength_47 (lv_at hl 0 rfl) ?_
        refine x_callVv (rest := []) hC hI [24, 1] (mX8_spread l D K (fun i => q (62 + i)) (fun i => q (1 + i)) _ x3 x5 cost_4 heap_4 wait_4 bits stops num unit strips caps draw hw) (cwV 3 hts gX10_routeLength_X8_spread rfl rfl rfl (by decide +kernel) ⟨(Nat.le_of_ble_eq_true rfl), (Nat.le_of_ble_eq_true rfl)⟩) (by decide) rfl (fun _ => rfl) 62 6 rfl rfl rfl rfl hl.1 rfl (Nat.le_of_ble_eq_true rfl) dX10_routeLength_49 ⟨(Nat.le_of_ble_eq_true rfl), (Nat.le_of_ble_eq_true rfl)⟩ (fun u H locs hw hI => ?_)
        obtain ⟨cost_c6, heap_c7, wait_c8⟩ := u
        try dsimp only at hw
        have hI : wI s D A (fl (lX K q bits stops num unit strips caps draw oldest known ring im iold iknown iring hasIm letters tbits tlen tat fig shI shH shL shS seaOf queue snum cost_c6 heap_c7 wait_c8 off les gre abv blw needed ocut opole)) H locs := hI
        refine lv_aload_n hx hb dX10_routeLength_52 rfl (lv_at hl 2 rfl) ?_
        refine x_get (v := .ref (q 62)) hC hI kX10_routeLength_cX10 0 rfl rfl 8 (by decide) kX10_routeLength_5 rfl rfl dX10_routeLength_53 ?_
        refine x_get (v := .ref (q 63)) hC hI kX10_routeLength_cX8 62 rfl rfl 0 (by decide) kX10_routeLength_6 rfl rfl dX10_routeLength_56 ?_
        refine lv_iload hx hb dX10_routeLength_59 (lv_at hl 0 rfl) ?_
        obtain ⟨hc9, hw⟩ := hw
        refine x_iald (f := cost_c6) hC hI 63 rfl hc9 dX10_routeLength_61 ?_
        refine lv_topi (fun x10 ex10 => ?_)
        replace hw := hw x10 ex10
        refine lv_istore (lv' := [(5, .int x10), (4, .int x5), (3, .int x3), (0, .ref (q 0)), (1, .int l1_4), (2, .int l2_4)]) hx hb dX10_routeLength_62 hl (by decide) rfl (fun ls hl => ?_)
        refine lv_iload hx hb dX10_routeLength_64 (lv_at hl 0 rfl) ?_
        refine lv_ldc (v := (2147483647 : Int32)) hx hb hown (hts _ kX10_routeLength_8) dX10_routeLength_66 ?_
        refine lv_icmp_ne (tgt := 74) hx hb dX10_routeLength_68 (by decide) (fun c11 => ?_) (fun c11 => ?_)
        · replace hw := hw.2 c11
          refine lv_iload_n hx hb dX10_routeLength_74 rfl (lv_at hl 4 rfl) ?_
          refine lv_iload hx hb dX10_routeLength_75 (lv_at hl 0 rfl) ?_
          refine x_callSi (rest := [.int l1_4]) hC hI [] (mX8_farOf l D K  _ x10 hw) (va_cwS 1 hts gX10_routeLength_X8_farOf rfl rfl rfl (by decide +kernel) ⟨(Nat.le_of_ble_eq_true rfl), (Nat.le_of_ble_eq_true rfl)⟩) (by decide) rfl (fun _ => rfl) rfl hl.1 rfl (Nat.le_of_ble_eq_true rfl) dX10_routeLength_77 ⟨(Nat.le_of_ble_eq_true rfl), (Nat.le_of_ble_eq_true rfl)⟩ (fun r12 u H locs hw hI => ?_)
          try dsimp only at hw
          have hI : wI s D A (fl (lX K q bits stops num unit strips caps draw oldest known ring im iold iknown iring hasIm letters tbits tlen tat fig shI shH shL shS seaOf queue snum cost_c6 heap_c7 wait_c8 off les gre abv blw needed ocut opole)) H locs := hI
          refine lv_iadd hx hb dX10_routeLength_80 ?_
          refine lv_topi (fun x13 ex13 => ?_)
          replace hw := hw x13 ex13
          refine lv_istore_n (lv' := [(1, .int x13), (5, .int x10), (4, .int x5), (3, .int x3), (0, .ref (q 0)), (2, .int l2_4)]) hx hb dX10_routeLength_81 rfl hl (by decide) rfl (fun ls hl => ?_)
          obtain ⟨x14, ex14⟩ : ∃ y : Int32, y = l2_4 + 1 := ⟨_, rfl⟩
          replace hw := hw x14 ex14
          refine lv_iinc (v := x14) (lv' := [(2, .int x14), (1, .int x13), (5, .int x10), (4, .int x5), (3, .int x3), (0, .ref (q 0))]) hx hb dX10_routeLength_82 hl (k := 5) rfl (by rw [ex14]; rfl) (by decide) rfl (fun ls hl => ?_)
          refine lv_goto (tgt := 4) hx hb dX10_routeLength_85 (by decide) ?_
          exact ih4 x13 x14 cost_c6 heap_c7 wait_c8 ls H locs (Nat.lt_of_lt_of_le hw.2 (Nat.le_of_lt_succ hmu4)) hw.1 hI (lv_sub hl [5, 1, 0] rfl)
        · replace hw := hw.1 c11
          refine lv_bipush (v := (-4 : Int32)) hx hb dX10_routeLength_71 (by decide) ?_
          subst hQ
          exact x_iret (u := (cost_c6, heap_c7, wait_c8)) hC hI hr hlk hw rfl dX10_routeLength_73
  exact lp4 (mu4 (0 : Int32) (1 : Int32) cost heap wait + 1) (0 : Int32) (1 : Int32) cost heap wait ls H locs (Nat.lt_succ_self _) hw hI (lv_sub hl [2, 1, 0] rfl)
