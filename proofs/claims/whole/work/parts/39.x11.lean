def wX11_film (a1 : Int32) (a2 : Int32) (a3 : Int32) (a4 : Int32) (st : Nat → Int32) (laneOf : Nat → Int32) (sizeOf : Nat → Int32) (items : Nat → Int64) (post : Int32 → (Nat → Int64) → Prop) : Prop := wX11_in a1 (-6 : Int32) (6 : Int32) (fun (r1 : Int32) => ((r1 = 0 → post (-1 : Int32) items) ∧ (¬ r1 = 0 → wX11_isSheet a2 a3 (fun (r3 : Int32) => ((r3 = 0 → post (-1 : Int32) items) ∧ (¬ r3 = 0 → wX11_isOnStrips a1 st (fun (r5 : Int32) => ((r5 = 0 → post (-2 : Int32) items) ∧ (¬ r5 = 0 → wX11_found a2 a3 a4 (24 : Int32) laneOf sizeOf (fun (r7 : Int32) => ((r7 = 0 → (∃ (I55 : Int32 → (Nat → Int64) → Prop) (mu55 : Int32 → (Nat → Int64) → Nat), I55 (0 : Int32) items ∧ ∀ (l6_55 : Int32) (items_55 : Nat → Int64), I55 l6_55 items_55 → (((24 : Int32) ≤ l6_55 → post (24 : Int32) items_55) ∧ (¬ (24 : Int32) ≤ l6_55 → wX11_numberOf a1 l6_55 (fun (r10 : Int32) => wX11_xOf r10 st (fun (r11 : Int32) => wX11_lowest r11.toInt64 a3 (fun (r12 : Int64) => vp_in ((((30 : Int32) * a2) + a4) + l6_55) 120 ∧ ∀ x14 : Int32, x14 = l6_55 + 1 → (I55 x14 (vp_updL items_55 ((((30 : Int32) * a2) + a4) + l6_55).toNatClampNeg r12) ∧ mu55 x14 (vp_updL items_55 ((((30 : Int32) * a2) + a4) + l6_55).toNatClampNeg r12) < mu55 l6_55 items_55)))))))) ∧ (¬ r7 = 0 → post r7 items))))))))))))
def rmX11_film : Room := { frames := 7, cells := 0, slots := 0, locals := 151 }
theorem kX11_film_0 : Cond.fieldLink RX11 35 "GoreGlobeModel" "items" "[J" ∈ wsX11_film := List.mem_cons_of_mem _ (List.mem_append_left _ (List.mem_append_left _ (List.mem_of_getElem? (i := 0) rfl)))
theorem kX11_film_cX11 : ∀ w ∈ wsX110, w ∈ wsX11_film := fun _ h => List.mem_cons_of_mem _ (List.mem_append_right _ h)
set_option maxHeartbeats 4000000 in
set_option maxRecDepth 100000 in
theorem mX11_film (l : Launch) (D : va_G) (K : Nat → ClassId) (h : Nat → Nat) (sz : Nat) (a1 : Int32) (a2 : Int32) (a3 : Int32) (a4 : Int32) (st : Nat → Int32) (past : Nat → Int32) (acts : Int32) (image : Nat → Int32) (ipast : Nat → Int32) (iacts : Int32) (tape : Nat → Int32) (tmany : Int32) (laneOf : Nat → Int32) (sizeOf : Nat → Int32) (items : Nat → Int64) (seaFirst : Nat → Int32) (worstOf : Nat → Int32) (farTo : Nat → Int32) (stepsTo : Nat → Int32) (needs : Nat → Int32) (nmany : Int32) (mat : Int32) (told : Nat → Int32)  {post : Int32 → (Nat → Int64) → Prop} (hw : wX11_film a1 a2 a3 a4 st laneOf sizeOf items post) : Met l yX11_film wsX11_film rmX11_film (va_Pc [.ref (h 0), .int a1, .int a2, .int a3, .int a4] (cP D K (fl [wMo K h st past acts image ipast iacts tape tmany laneOf sizeOf items seaFirst worstOf farTo stepsTo needs nmany mat told]) sz)) (va_Qi (fun (r : Int32) (u : (Nat → Int64)) => post r u) (fun u t => cQ D K (fl [wMo K h st past acts image ipast iacts tape tmany laneOf sizeOf u seaFirst worstOf farTo stepsTo needs nmany mat told]) (va_A (fl [wMo K h st past acts image ipast iacts tape tmany laneOf sizeOf items seaFirst worstOf farTo stepsTo needs nmany mat told]) sz) t) (va_A (fl [wMo K h st past acts image ipast iacts tape tmany laneOf sizeOf items seaFirst worstOf farTo stepsTo needs nmany mat told]) sz)) 0 0 (va_A (fl [wMo K h st past acts image ipast iacts tape tmany laneOf sizeOf items seaFirst worstOf farTo stepsTo needs nmany mat told]) sz) := by
  refine x_entry (cc := cX11_film) (maxL := 7) (ret := (some .int)) (QA := fun A => va_Qi (fun (r : Int32) (u : (Nat → Int64)) => post r u) (fun u t => cQ D K (fl [wMo K h st past acts image ipast iacts tape tmany laneOf sizeOf u seaFirst worstOf farTo stepsTo needs nmany mat told]) A t) A) (plainFor_of_name (by decide)) rfl (Nat.le_of_ble_eq_true rfl) ?_
  intro p e s m args below meth c A ls H Q hQ hC hlk hr hnm hI hl
  obtain ⟨hx, hb, hml, hown, hts, hK, hA, hZ⟩ := id hC
  obtain ⟨locs, hlocs⟩ : ∃ y : List Loc, y = [] := ⟨_, rfl⟩
  rw [← hlocs] at hI ⊢
  clear hlocs
  replace hl : lv_has ls 7 [(0, .ref (h 0)), (1, .int a1), (2, .int a2), (3, .int a3), (4, .int a4)] := hl
  replace hw : wX11_in a1 (-6 : Int32) (6 : Int32) (fun (r1 : Int32) => ((r1 = 0 → post (-1 : Int32) items) ∧ (¬ r1 = 0 → wX11_isSheet a2 a3 (fun (r3 : Int32) => ((r3 = 0 → post (-1 : Int32) items) ∧ (¬ r3 = 0 → wX11_isOnStrips a1 st (fun (r5 : Int32) => ((r5 = 0 → post (-2 : Int32) items) ∧ (¬ r5 = 0 → wX11_found a2 a3 a4 (24 : Int32) laneOf sizeOf (fun (r7 : Int32) => ((r7 = 0 → (∃ (I55 : Int32 → (Nat → Int64) → Prop) (mu55 : Int32 → (Nat → Int64) → Nat), I55 (0 : Int32) items ∧ ∀ (l6_55 : Int32) (items_55 : Nat → Int64), I55 l6_55 items_55 → (((24 : Int32) ≤ l6_55 → post (24 : Int32) items_55) ∧ (¬ (24 : Int32) ≤ l6_55 → wX11_numberOf a1 l6_55 (fun (r10 : Int32) => wX11_xOf r10 st (fun (r11 : Int32) => wX11_lowest r11.toInt64 a3 (fun (r12 : Int64) => vp_in ((((30 : Int32) * a2) + a4) + l6_55) 120 ∧ ∀ x14 : Int32, x14 = l6_55 + 1 → (I55 x14 (vp_updL items_55 ((((30 : Int32) * a2) + a4) + l6_55).toNatClampNeg r12) ∧ mu55 x14 (vp_updL items_55 ((((30 : Int32) * a2) + a4) + l6_55).toNatClampNeg r12) < mu55 l6_55 items_55)))))))) ∧ (¬ r7 = 0 → post r7 items)))))))))))) := hw
  refine lv_iload_n hx hb dX11_film_0 rfl (lv_at hl 1 rfl) ?_
  refine lv_bipush (v := (-6 : Int32)) hx hb dX11_film_1 (by decide) ?_
  refine lv_bipush (v := (6 : Int32)) hx hb dX11_film_3 (by decide) ?_
  refine x_callSi (rest := []) hC hI [] (mX11_in l D K  _ a1 (-6 : Int32) (6 : Int32) hw) (va_cwS 3 hts gX11_film_X11_in rfl rfl rfl (by decide +kernel) ⟨(Nat.le_of_ble_eq_true rfl), (Nat.le_of_ble_eq_true rfl)⟩) (by decide) rfl (fun _ => rfl) rfl hl.1 rfl (Nat.le_of_ble_eq_true rfl) dX11_film_5 ⟨(Nat.le_of_ble_eq_true rfl), (Nat.le_of_ble_eq_true rfl)⟩ (fun r1 u H locs hw hI => ?_)
  try dsimp only at hw
  have hI : wI s D A (fl [wMo K h st past acts image ipast iacts tape tmany laneOf sizeOf items seaFirst worstOf farTo stepsTo needs nmany mat told]) H locs := hI
  refine lv_if_eq (tgt := 19) hx hb dX11_film_8 (by decide) (fun c2 => ?_) (fun c2 => ?_)
  · replace hw := hw.1 c2
    refine lv_iconst (v := (-1 : Int32)) hx hb dX11_film_19 (by decide) ?_
    subst hQ
    exact x_iret (u := items) hC hI hr hlk hw rfl dX11_film_20
  · replace hw := hw.2 c2
    refine lv_iload_n hx hb dX11_film_11 rfl (lv_at hl 2 rfl) ?_
    refine lv_iload_n hx hb dX11_film_12 rfl (lv_at hl 3 rfl) ?_
    refine x_callSi (rest := []) hC hI [] (mX11_isSheet l D K  _ a2 a3 hw) (va_cwS 2 hts gX11_film_X11_isSheet rfl rfl rfl (by decide +kernel) ⟨(Nat.le_of_ble_eq_true rfl), (Nat.le_of_ble_eq_true rfl)⟩) (by decide) rfl (fun _ => rfl) rfl hl.1 rfl (Nat.le_of_ble_eq_true rfl) dX11_film_13 ⟨(Nat.le_of_ble_eq_true rfl), (Nat.le_of_ble_eq_true rfl)⟩ (fun r3 u H locs hw hI => ?_)
    try dsimp only at hw
    have hI : wI s D A (fl [wMo K h st past acts image ipast iacts tape tmany laneOf sizeOf items seaFirst worstOf farTo stepsTo needs nmany mat told]) H locs := hI
    refine lv_if_ne (tgt := 21) hx hb dX11_film_16 (by decide) (fun c4 => ?_) (fun c4 => ?_)
    · replace hw := hw.2 c4
      refine lv_aload_n hx hb dX11_film_21 rfl (lv_at hl 0 rfl) ?_
      refine lv_iload_n hx hb dX11_film_22 rfl (lv_at hl 1 rfl) ?_
      refine x_callWi (rest := []) hC hI (mX11_isOnStrips l D K h _ a1 st past acts image ipast iacts tape tmany laneOf sizeOf items seaFirst worstOf farTo stepsTo needs nmany mat told hw) (cwV 1 hts gX11_film_X11_isOnStrips rfl rfl rfl (by decide +kernel) ⟨(Nat.le_of_ble_eq_true rfl), (Nat.le_of_ble_eq_true rfl)⟩) (fun _ => rfl) 0 9 rfl rfl rfl rfl hl.1 rfl (Nat.le_of_ble_eq_true rfl) dX11_film_23 ⟨(Nat.le_of_ble_eq_true rfl), (Nat.le_of_ble_eq_true rfl)⟩ (fun r5 u H locs hw hI => ?_)
      try dsimp only at hw
      have hI : wI s D A (fl [wMo K h st past acts image ipast iacts tape tmany laneOf sizeOf items seaFirst worstOf farTo stepsTo needs nmany mat told]) H locs := hI
      refine lv_if_ne (tgt := 32) hx hb dX11_film_26 (by decide) (fun c6 => ?_) (fun c6 => ?_)
      · replace hw := hw.2 c6
        refine lv_aload_n hx hb dX11_film_32 rfl (lv_at hl 0 rfl) ?_
        refine lv_iload_n hx hb dX11_film_33 rfl (lv_at hl 2 rfl) ?_
        refine lv_iload_n hx hb dX11_film_34 rfl (lv_at hl 3 rfl) ?_
        refine lv_iload hx hb dX11_film_35 (lv_at hl 4 rfl) ?_
        refine lv_bipush (v := (24 : Int32)) hx hb dX11_film_37 (by decide) ?_
        refine x_callWi (rest := []) hC hI (mX11_found l D K h _ a2 a3 a4 (24 : Int32) st past acts image ipast iacts tape tmany laneOf sizeOf items seaFirst worstOf farTo stepsTo needs nmany mat told hw) (cwV 4 hts gX11_film_X11_found rfl rfl rfl (by decide +kernel) ⟨(Nat.le_of_ble_eq_true rfl), (Nat.le_of_ble_eq_true rfl)⟩) (fun _ => rfl) 0 9 rfl rfl rfl rfl hl.1 rfl (Nat.le_of_ble_eq_true rfl) dX11_film_39 ⟨(Nat.le_of_ble_eq_true rfl), (Nat.le_of_ble_eq_true rfl)⟩ (fun r7 u H locs hw hI => ?_)
        try dsimp only at hw
        have hI : wI s D A (fl [wMo K h st past acts image ipast iacts tape tmany laneOf sizeOf items seaFirst worstOf farTo stepsTo needs nmany mat told]) H locs := hI
        refine lv_istore (lv' := [(5, .int r7), (0, .ref (h 0)), (1, .int a1), (2, .int a2), (3, .int a3), (4, .int a4)]) hx hb dX11_film_42 hl (by decide) rfl (fun ls hl => ?_)
        refine lv_iload hx hb dX11_film_44 (lv_at hl 0 rfl) ?_
        refine lv_if_eq (tgt := 52) hx hb dX11_film_46 (by decide) (fun c8 => ?_) (fun c8 => ?_)
        · replace hw := hw.1 c8
          refine lv_iconst (v := (0 : Int32)) hx hb dX11_film_52 (by decide) ?_
          refine lv_istore (lv' := [(6, .int (0 : Int32)), (5, .int r7), (0, .ref (h 0)), (1, .int a1), (2, .int a2), (3, .int a3), (4, .int a4)]) hx hb dX11_film_53 hl (by decide) rfl (fun ls hl => ?_)
          obtain ⟨I55, mu55, hw, hb55⟩ := hw
          have lp55 : ∀ (k : Nat) (l6_55 : Int32) (items_55 : Nat → Int64) (ls : Array Slot) (H : Heap) (locs : List Loc), mu55 l6_55 items_55 < k → I55 l6_55 items_55 → wI s D A (fl [wMo K h st past acts image ipast iacts tape tmany laneOf sizeOf items_55 seaFirst worstOf farTo stepsTo needs nmany mat told]) H locs → lv_has ls 7 [(0, .ref (h 0)), (1, .int a1), (2, .int a2), (3, .int a3), (4, .int a4), (6, .int l6_55)] → W p l e rmX11_film s m args below meth c H locs 0 0 Q (F0 m 55 ls []) := by
            intro k
            induction k with
            | zero => intro l6_55 items_55 ls H locs hmu; exact absurd hmu (Nat.not_lt_zero _)
            | succ k ih55 =>
              intro l6_55 items_55 ls H locs hmu55 hw hI hl
              replace hw := hb55 l6_55 items_55 hw
              refine lv_iload hx hb dX11_film_55 (lv_at hl 5 rfl) ?_
              refine lv_bipush (v := (24 : Int32)) hx hb dX11_film_57 (by decide) ?_
              refine lv_icmp_ge (tgt := 98) hx hb dX11_film_59 (by decide) (fun c9 => ?_) (fun c9 => ?_)
              · replace hw := hw.1 c9
                refine lv_bipush (v := (24 : Int32)) hx hb dX11_film_98 (by decide) ?_
                subst hQ
                exact x_iret (u := items_55) hC hI hr hlk hw rfl dX11_film_100
              · replace hw := hw.2 c9
                refine lv_aload_n hx hb dX11_film_62 rfl (lv_at hl 0 rfl) ?_
                refine x_get (v := .ref (h 8)) hC hI kX11_film_cX11 0 rfl rfl 10 (by decide) kX11_film_0 rfl rfl dX11_film_63 ?_
                refine lv_bipush (v := (30 : Int32)) hx hb dX11_film_66 (by decide) ?_
                refine lv_iload_n hx hb dX11_film_68 rfl (lv_at hl 2 rfl) ?_
                refine lv_imul hx hb dX11_film_69 ?_
                refine lv_iload hx hb dX11_film_70 (lv_at hl 4 rfl) ?_
                refine lv_iadd hx hb dX11_film_72 ?_
                refine lv_iload hx hb dX11_film_73 (lv_at hl 5 rfl) ?_
                refine lv_iadd hx hb dX11_film_75 ?_
                refine lv_aload_n hx hb dX11_film_76 rfl (lv_at hl 0 rfl) ?_
                refine lv_iload_n hx hb dX11_film_77 rfl (lv_at hl 1 rfl) ?_
                refine lv_iload hx hb dX11_film_78 (lv_at hl 5 rfl) ?_
                refine x_callSi (rest := [.ref (h 0), .int ((((30 : Int32) * a2) + a4) + l6_55), .ref (h 8)]) hC hI [] (mX11_numberOf l D K  _ a1 l6_55 hw) (va_cwS 2 hts gX11_film_X11_numberOf rfl rfl rfl (by decide +kernel) ⟨(Nat.le_of_ble_eq_true rfl), (Nat.le_of_ble_eq_true rfl)⟩) (by decide) rfl (fun _ => rfl) rfl hl.1 rfl (Nat.le_of_ble_eq_true rfl) dX11_film_80 ⟨(Nat.le_of_ble_eq_true rfl), (Nat.le_of_ble_eq_true rfl)⟩ (fun r10 u H locs hw hI => ?_)
                try dsimp only at hw
                have hI : wI s D A (fl [wMo K h st past acts image ipast iacts tape tmany laneOf sizeOf items_55 seaFirst worstOf farTo stepsTo needs nmany mat told]) H locs := hI
                refine x_callWi (rest := [.int ((((30 : Int32) * a2) + a4) + l6_55), .ref (h 8)]) hC hI (mX11_xOf l D K h _ r10 st past acts image ipast iacts tape tmany laneOf sizeOf items_55 seaFirst worstOf farTo stepsTo needs nmany mat told hw) (cwV 1 hts gX11_film_X11_xOf rfl rfl rfl (by decide +kernel) ⟨(Nat.le_of_ble_eq_true rfl), (Nat.le_of_ble_eq_true rfl)⟩) (fun _ => rfl) 0 9 rfl rfl rfl rfl hl.1 rfl (Nat.le_of_ble_eq_true rfl) dX11_film_83 ⟨(Nat.le_of_ble_eq_true rfl), (Nat.le_of_ble_eq_true rfl)⟩ (fun r11 u H locs hw hI => ?_)
                try dsimp only at hw
                have hI : wI s D A (fl [wMo K h st past acts image ipast iacts tape tmany laneOf sizeOf items_55 seaFirst worstOf farTo stepsTo needs nmany mat told]) H locs := hI
                refine lv_i2l (v := r11.toInt64) hx hb dX11_film_86 rfl ?_
                refine lv_iload_n hx hb dX11_film_87 rfl (lv_at hl 3 rfl) ?_
                refine x_callSl (rest := [.int ((((30 : Int32) * a2) + a4) + l6_55), .ref (h 8)]) hC hI [] (mX11_lowest l D K  _ r11.toInt64 a3 hw) (va_cwS 2 hts gX11_film_X11_lowest rfl rfl rfl (by decide +kernel) ⟨(Nat.le_of_ble_eq_true rfl), (Nat.le_of_ble_eq_true rfl)⟩) (by decide) rfl (fun _ => rfl) rfl hl.1 rfl (Nat.le_of_ble_eq_true rfl) dX11_film_88 ⟨(Nat.le_of_ble_eq_true rfl), (Nat.le_of_ble_eq_true rfl)⟩ (fun r12 u H locs hw hI => ?_)
                try dsimp only at hw
                have hI : wI s D A (fl [wMo K h st past acts image ipast iacts tape tmany laneOf sizeOf items_55 seaFirst worstOf farTo stepsTo needs nmany mat told]) H locs := hI
                obtain ⟨hc13, hw⟩ := hw
                refine x_last (f := items_55) hC hI 8 rfl hc13 dX11_film_91 (fun H locs hI => ?_)
                have hI : wI s D A (fl [wMo K h st past acts image ipast iacts tape tmany laneOf sizeOf (vp_updL items_55 ((((30 : Int32) * a2) + a4) + l6_55).toNatClampNeg r12) seaFirst worstOf farTo stepsTo needs nmany mat told]) H locs := hI
                obtain ⟨x14, ex14⟩ : ∃ y : Int32, y = l6_55 + 1 := ⟨_, rfl⟩
                replace hw := hw x14 ex14
                refine lv_iinc (v := x14) (lv' := [(6, .int x14), (0, .ref (h 0)), (1, .int a1), (2, .int a2), (3, .int a3), (4, .int a4)]) hx hb dX11_film_92 hl (k := 5) rfl (by rw [ex14]; rfl) (by decide) rfl (fun ls hl => ?_)
                refine lv_goto (tgt := 55) hx hb dX11_film_95 (by decide) ?_
                exact ih55 x14 (vp_updL items_55 ((((30 : Int32) * a2) + a4) + l6_55).toNatClampNeg r12) ls H locs (Nat.lt_of_lt_of_le hw.2 (Nat.le_of_lt_succ hmu55)) hw.1 hI (lv_sub hl [1, 2, 3, 4, 5, 0] rfl)
          exact lp55 (mu55 (0 : Int32) items + 1) (0 : Int32) items ls H locs (Nat.lt_succ_self _) hw hI (lv_sub hl [2, 3, 4, 5, 6, 0] rfl)
        · replace hw := hw.2 c8
          refine lv_iload hx hb dX11_film_49 (lv_at hl 0 rfl) ?_
          subst hQ
          exact x_iret (u := items) hC hI hr hlk hw rfl dX11_film_51
      · replace hw := hw.1 c6
        refine lv_bipush (v := (-2 : Int32)) hx hb dX11_film_29 (by decide) ?_
        subst hQ
        exact x_iret (u := items) hC hI hr hlk hw rfl dX11_film_31
    · replace hw := hw.1 c4
      refine lv_iconst (v := (-1 : Int32)) hx hb dX11_film_19 (by decide) ?_
      subst hQ
      exact x_iret (u := items) hC hI hr hlk hw rfl dX11_film_20

def wX11_sheet (a1 : Int32) (a2 : Int32) (a3 : Int32) (laneOf : Nat → Int32) (sizeOf : Nat → Int32) (items : Nat → Int64) (post : Int32 → (Nat → Int32) → (Nat → Int32) → (Nat → Int64) → Prop) : Prop := wX11_isSheet a1 a2 (fun (r1 : Int32) => ((r1 = 0 → post (-1 : Int32) laneOf sizeOf items) ∧ (¬ r1 = 0 → ((a3 ≤ (30 : Int32) → ((0 ≤ a3 → vp_in a1 4 ∧ vp_in a1 4 ∧ (∃ (I40 : Int32 → (Nat → Int64) → Prop) (mu40 : Int32 → (Nat → Int64) → Nat), I40 (0 : Int32) items ∧ ∀ (l4_40 : Int32) (items_40 : Nat → Int64), I40 l4_40 items_40 → ((a3 ≤ l4_40 → post a3 (upd laneOf a1.toNatClampNeg a2) (upd sizeOf a1.toNatClampNeg a3) items_40) ∧ (¬ a3 ≤ l4_40 → vp_in (((30 : Int32) * a1) + l4_40) 120 ∧ ∀ x9 : Int32, x9 = l4_40 + 1 → (I40 x9 (vp_updL items_40 (((30 : Int32) * a1) + l4_40).toNatClampNeg (0 : Int64)) ∧ mu40 x9 (vp_updL items_40 (((30 : Int32) * a1) + l4_40).toNatClampNeg (0 : Int64)) < mu40 l4_40 items_40))))) ∧ (¬ 0 ≤ a3 → post (-14 : Int32) laneOf sizeOf items))) ∧ (¬ a3 ≤ (30 : Int32) → post (-1 : Int32) laneOf sizeOf items)))))
def rmX11_sheet : Room := { frames := 2, cells := 0, slots := 0, locals := 43 }
theorem kX11_sheet_0 : Cond.fieldLink RX11 29 "GoreGlobeModel" "laneOf" "[I" ∈ wsX11_sheet := List.mem_cons_of_mem _ (List.mem_append_left _ (List.mem_of_getElem? (i := 0) rfl))
theorem kX11_sheet_cX11 : ∀ w ∈ wsX110, w ∈ wsX11_sheet := fun _ h => List.mem_cons_of_mem _ (List.mem_append_right _ h)
theorem kX11_sheet_2 : Cond.fieldLink RX11 32 "GoreGlobeModel" "sizeOf" "[I" ∈ wsX11_sheet := List.mem_cons_of_mem _ (List.mem_append_left _ (List.mem_of_getElem? (i := 1) rfl))
theorem kX11_sheet_3 : Cond.fieldLink RX11 35 "GoreGlobeModel" "items" "[J" ∈ wsX11_sheet := List.mem_cons_of_mem _ (List.mem_append_left _ (List.mem_of_getElem? (i := 2) rfl))
set_option maxHeartbeats 4000000 in
set_option maxRecDepth 100000 in
theorem mX11_sheet (l : Launch) (D : va_G) (K : Nat → ClassId) (h : Nat → Nat) (sz : Nat) (a1 : Int32) (a2 : Int32) (a3 : Int32) (st : Nat → Int32) (past : Nat → Int32) (acts : Int32) (image : Nat → Int32) (ipast : Nat → Int32) (iacts : Int32) (tape : Nat → Int32) (tmany : Int32) (laneOf : Nat → Int32) (sizeOf : Nat → Int32) (items : Nat → Int64) (seaFirst : Nat → Int32) (worstOf : Nat → Int32) (farTo : Nat → Int32) (stepsTo : Nat → Int32) (needs : Nat → Int32) (nmany : Int32) (mat : Int32) (told : Nat → Int32)  {post : Int32 → (Nat → Int32) → (Nat → Int32) → (Nat → Int64) → Prop} (hw : wX11_sheet a1 a2 a3 laneOf sizeOf items post) : Met l yX11_sheet wsX11_sheet rmX11_sheet (va_Pc [.ref (h 0), .int a1, .int a2, .int a3] (cP D K (fl [wMo K h st past acts image ipast iacts tape tmany laneOf sizeOf items seaFirst worstOf farTo stepsTo needs nmany mat told]) sz)) (va_Qi (fun (r : Int32) (u : (Nat → Int32) × (Nat → Int32) × (Nat → Int64)) => post r u.1 u.2.1 u.2.2) (fun u t => cQ D K (fl [wMo K h st past acts image ipast iacts tape tmany u.1 u.2.1 u.2.2 seaFirst worstOf farTo stepsTo needs nmany mat told]) (va_A (fl [wMo K h st past acts image ipast iacts tape tmany laneOf sizeOf items seaFirst worstOf farTo stepsTo needs nmany mat told]) sz) t) (va_A (fl [wMo K h st past acts image ipast iacts tape tmany laneOf sizeOf items seaFirst worstOf farTo stepsTo needs nmany mat told]) sz)) 0 0 (va_A (fl [wMo K h st past acts image ipast iacts tape tmany laneOf sizeOf items seaFirst worstOf farTo stepsTo needs nmany mat told]) sz) := by
  refine x_entry (cc := cX11_sheet) (maxL := 5) (ret := (some .int)) (QA := fun A => va_Qi (fun (r : Int32) (u : (Nat → Int32) × (Nat → Int32) × (Nat → Int64)) => post r u.1 u.2.1 u.2.2) (fun u t => cQ D K (fl [wMo K h st past acts image ipast iacts tape tmany u.1 u.2.1 u.2.2 seaFirst worstOf farTo stepsTo needs nmany mat told]) A t) A) (plainFor_of_name (by decide)) rfl (Nat.le_of_ble_eq_true rfl) ?_
  intro p e s m args below meth c A ls H Q hQ hC hlk hr hnm hI hl
  obtain ⟨hx, hb, hml, hown, hts, hK, hA, hZ⟩ := id hC
  obtain ⟨locs, hlocs⟩ : ∃ y : List Loc, y = [] := ⟨_, rfl⟩
  rw [← hlocs] at hI ⊢
  clear hlocs
  replace hl : lv_has ls 5 [(0, .ref (h 0)), (1, .int a1), (2, .int a2), (3, .int a3)] := hl
  replace hw : wX11_isSheet a1 a2 (fun (r1 : Int32) => ((r1 = 0 → post (-1 : Int32) laneOf sizeOf items) ∧ (¬ r1 = 0 → ((a3 ≤ (30 : Int32) → ((0 ≤ a3 → vp_in a1 4 ∧ vp_in a1 4 ∧ (∃ (I40 : Int32 → (Nat → Int64) → Prop) (mu40 : Int32 → (Nat → Int64) → Nat), I40 (0 : Int32) items ∧ ∀ (l4_40 : Int32) (items_40 : Nat → Int64), I40 l4_40 items_40 → ((a3 ≤ l4_40 → post a3 (upd laneOf a1.toNatClampNeg a2) (upd sizeOf a1.toNatClampNeg a3) items_40) ∧ (¬ a3 ≤ l4_40 → vp_in (((30 : Int32) * a1) + l4_40) 120 ∧ ∀ x9 : Int32, x9 = l4_40 + 1 → (I40 x9 (vp_updL items_40 (((30 : Int32) * a1) + l4_40).toNatClampNeg (0 : Int64)) ∧ mu40 x9 (vp_updL items_40 (((30 : Int32) * a1) + l4_40).toNatClampNeg (0 : Int64)) < mu40 l4_40 items_40))))) ∧ (¬ 0 ≤ a3 → post (-14 : Int32) laneOf sizeOf items))) ∧ (¬ a3 ≤ (30 : Int32) → post (-1 : Int32) laneOf sizeOf items))))) := hw
  refine lv_iload_n hx hb dX11_sheet_0 rfl (lv_at hl 1 rfl) ?_
  refine lv_iload_n hx hb dX11_sheet_1 rfl (lv_at hl 2 rfl) ?_
  refine x_callSi (rest := []) hC hI [] (mX11_isSheet l D K  _ a1 a2 hw) (va_cwS 2 hts gX11_sheet_X11_isSheet rfl rfl rfl (by decide +kernel) ⟨(Nat.le_of_ble_eq_true rfl), (Nat.le_of_ble_eq_true rfl)⟩) (by decide) rfl (fun _ => rfl) rfl hl.1 rfl (Nat.le_of_ble_eq_true rfl) dX11_sheet_2 ⟨(Nat.le_of_ble_eq_true rfl), (Nat.le_of_ble_eq_true rfl)⟩ (fun r1 u H locs hw hI => ?_)
  try dsimp only at hw
  have hI : wI s D A (fl [wMo K h st past acts image ipast iacts tape tmany laneOf sizeOf items seaFirst worstOf farTo stepsTo needs nmany mat told]) H locs := hI
  refine lv_if_eq (tgt := 14) hx hb dX11_sheet_5 (by decide) (fun c2 => ?_) (fun c2 => ?_)
  · replace hw := hw.1 c2
    refine lv_iconst (v := (-1 : Int32)) hx hb dX11_sheet_14 (by decide) ?_
    subst hQ
    exact x_iret (u := (laneOf, sizeOf, items)) hC hI hr hlk hw rfl dX11_sheet_15
  · replace hw := hw.2 c2
    refine lv_iload_n hx hb dX11_sheet_8 rfl (lv_at hl 3 rfl) ?_
    refine lv_bipush (v := (30 : Int32)) hx hb dX11_sheet_9 (by decide) ?_
    refine lv_icmp_le (tgt := 16) hx hb dX11_sheet_11 (by decide) (fun c3 => ?_) (fun c3 => ?_)
    · replace hw := hw.1 c3
      refine lv_iload_n hx hb dX11_sheet_16 rfl (lv_at hl 3 rfl) ?_
      refine lv_if_ge (tgt := 23) hx hb dX11_sheet_17 (by decide) (fun c4 => ?_) (fun c4 => ?_)
      · replace hw := hw.1 c4
        refine lv_aload_n hx hb dX11_sheet_23 rfl (lv_at hl 0 rfl) ?_
        refine x_get (v := .ref (h 6)) hC hI kX11_sheet_cX11 0 rfl rfl 8 (by decide) kX11_sheet_0 rfl rfl dX11_sheet_24 ?_
        refine lv_iload_n hx hb dX11_sheet_27 rfl (lv_at hl 1 rfl) ?_
        refine lv_iload_n hx hb dX11_sheet_28 rfl (lv_at hl 2 rfl) ?_
        obtain ⟨hc5, hw⟩ := hw
        refine x_iast (f := laneOf) hC hI 6 rfl hc5 dX11_sheet_29 (fun H locs hI => ?_)
        have hI : wI s D A (fl [wMo K h st past acts image ipast iacts tape tmany (upd laneOf a1.toNatClampNeg a2) sizeOf items seaFirst worstOf farTo stepsTo needs nmany mat told]) H locs := hI
        refine lv_aload_n hx hb dX11_sheet_30 rfl (lv_at hl 0 rfl) ?_
        refine x_get (v := .ref (h 7)) hC hI kX11_sheet_cX11 0 rfl rfl 9 (by decide) kX11_sheet_2 rfl rfl dX11_sheet_31 ?_
        refine lv_iload_n hx hb dX11_sheet_34 rfl (lv_at hl 1 rfl) ?_
        refine lv_iload_n hx hb dX11_sheet_35 rfl (lv_at hl 3 rfl) ?_
        obtain ⟨hc6, hw⟩ := hw
        refine x_iast (f := sizeOf) hC hI 7 rfl hc6 dX11_sheet_36 (fun H locs hI => ?_)
        have hI : wI s D A (fl [wMo K h st past acts image ipast iacts tape tmany (upd laneOf a1.toNatClampNeg a2) (upd sizeOf a1.toNatClampNeg a3) items seaFirst worstOf farTo stepsTo needs nmany mat told]) H locs := hI
        refine lv_iconst (v := (0 : Int32)) hx hb dX11_sheet_37 (by decide) ?_
        refine lv_istore (lv' := [(4, .int (0 : Int32)), (0, .ref (h 0)), (1, .int a1), (2, .int a2), (3, .int a3)]) hx hb dX11_sheet_38 hl (by decide) rfl (fun ls hl => ?_)
        obtain ⟨I40, mu40, hw, hb40⟩ := hw
        have lp40 : ∀ (k : Nat) (l4_40 : Int32) (items_40 : Nat → Int64) (ls : Array Slot) (H : Heap) (locs : List Loc), mu40 l4_40 items_40 < k → I40 l4_40 items_40 → wI s D A (fl [wMo K h st past acts image ipast iacts tape tmany (upd laneOf a1.toNatClampNeg a2) (upd sizeOf a1.toNatClampNeg a3) items_40 seaFirst worstOf farTo stepsTo needs nmany mat told]) H locs → lv_has ls 5 [(0, .ref (h 0)), (1, .int a1), (3, .int a3), (4, .int l4_40)] → W p l e rmX11_sheet s m args below meth c H locs 0 0 Q (F0 m 40 ls []) := by
          intro k
          induction k with
          | zero => intro l4_40 items_40 ls H locs hmu; exact absurd hmu (Nat.not_lt_zero _)
          | succ k ih40 =>
            intro l4_40 items_40 ls H locs hmu40 hw hI hl
            replace hw := hb40 l4_40 items_40 hw
            refine lv_iload hx hb dX11_sheet_40 (lv_at hl 3 rfl) ?_
            refine lv_iload_n hx hb dX11_sheet_42 rfl (lv_at hl 2 rfl) ?_
            refine lv_icmp_ge (tgt := 65) hx hb dX11_sheet_43 (by decide) (fun c7 => ?_) (fun c7 => ?_)
            · replace hw := hw.1 c7
              refine lv_iload_n hx hb dX11_sheet_65 rfl (lv_at hl 2 rfl) ?_
              subst hQ
              exact x_iret (u := ((upd laneOf a1.toNatClampNeg a2), (upd sizeOf a1.toNatClampNeg a3), items_40)) hC hI hr hlk hw rfl dX11_sheet_66
            · replace hw := hw.2 c7
              refine lv_aload_n hx hb dX11_sheet_46 rfl (lv_at hl 0 rfl) ?_
              refine x_get (v := .ref (h 8)) hC hI kX11_sheet_cX11 0 rfl rfl 10 (by decide) kX11_sheet_3 rfl rfl dX11_sheet_47 ?_
              refine lv_bipush (v := (30 : Int32)) hx hb dX11_sheet_50 (by decide) ?_
              refine lv_iload_n hx hb dX11_sheet_52 rfl (lv_at hl 1 rfl) ?_
              refine lv_imul hx hb dX11_sheet_53 ?_
              refine lv_iload hx hb dX11_sheet_54 (lv_at hl 3 rfl) ?_
              refine lv_iadd hx hb dX11_sheet_56 ?_
              refine lv_lconst (v := (0 : Int64)) hx hb dX11_sheet_57 (by decide) ?_
              obtain ⟨hc8, hw⟩ := hw
              refine x_last (f := items_40) hC hI 8 rfl hc8 dX11_sheet_58 (fun H locs hI => ?_)
              have hI : wI s D A (fl [wMo K h st past acts image ipast iacts tape tmany (upd laneOf a1.toNatClampNeg a2) (upd sizeOf a1.toNatClampNeg a3) (vp_updL items_40 (((30 : Int32) * a1) + l4_40).toNatClampNeg (0 : Int64)) seaFirst worstOf farTo stepsTo needs nmany mat told]) H locs := hI
              obtain ⟨x9, ex9⟩ : ∃ y : Int32, y = l4_40 + 1 := ⟨_, rfl⟩
              replace hw := hw x9 ex9
              refine lv_iinc (v := x9) (lv' := [(4, .int x9), (0, .ref (h 0)), (1, .int a1), (3, .int a3)]) hx hb dX11_sheet_59 hl (k := 3) rfl (by rw [ex9]; rfl) (by decide) rfl (fun ls hl => ?_)
              refine lv_goto (tgt := 40) hx hb dX11_sheet_62 (by decide) ?_
              exact ih40 x9 (vp_updL items_40 (((30 : Int32) * a1) + l4_40).toNatClampNeg (0 : Int64)) ls H locs (Nat.lt_of_lt_of_le hw.2 (Nat.le_of_lt_succ hmu40)) hw.1 hI (lv_sub hl [1, 2, 3, 0] rfl)
        exact lp40 (mu40 (0 : Int32) items + 1) (0 : Int32) items ls H locs (Nat.lt_succ_self _) hw hI (lv_sub hl [1, 2, 4, 0] rfl)
      · replace hw := hw.2 c4
        refine lv_bipush (v := (-14 : Int32)) hx hb dX11_sheet_20 (by decide) ?_
        subst hQ
        exact x_iret (u := (laneOf, sizeOf, items)) hC hI hr hlk hw rfl dX11_sheet_22
    · replace hw := hw.2 c3
      refine lv_iconst (v := (-1 : Int32)) hx hb dX11_sheet_14 (by decide) ?_
      subst hQ
      exact x_iret (u := (laneOf, sizeOf, items)) hC hI hr hlk hw rfl dX11_sheet_15

def wX11_drop (a1 : Int32) (laneOf : Nat → Int32) (sizeOf : Nat → Int32) (post : Int32 → (Nat → Int32) → Prop) : Prop := wX11_in a1 (0 : Int32) (3 : Int32) (fun (r1 : Int32) => ((r1 = 0 → post (-1 : Int32) laneOf) ∧ (¬ r1 = 0 → vp_in a1 4 ∧ ((0 ≤ (laneOf a1.toNatClampNeg) → vp_in a1 4 ∧ vp_in a1 4 ∧ post (sizeOf a1.toNatClampNeg) (upd laneOf a1.toNatClampNeg (-4 : Int32))) ∧ (¬ 0 ≤ (laneOf a1.toNatClampNeg) → post (-11 : Int32) laneOf)))))
def rmX11_drop : Room := { frames := 1, cells := 0, slots := 0, locals := 22 }
theorem kX11_drop_0 : Cond.fieldLink RX11 29 "GoreGlobeModel" "laneOf" "[I" ∈ wsX11_drop := List.mem_cons_of_mem _ (List.mem_append_left _ (List.mem_of_getElem? (i := 0) rfl))
theorem kX11_drop_cX11 : ∀ w ∈ wsX110, w ∈ wsX11_drop := fun _ h => List.mem_cons_of_mem _ (List.mem_append_right _ h)
theorem kX11_drop_2 : Cond.fieldLink RX11 32 "GoreGlobeModel" "sizeOf" "[I" ∈ wsX11_drop := List.mem_cons_of_mem _ (List.mem_append_left _ (List.mem_of_getElem? (i := 1) rfl))
set_option maxHeartbeats 4000000 in
set_option maxRecDepth 100000 in
theorem mX11_drop (l : Launch) (D : va_G) (K : Nat → ClassId) (h : Nat → Nat) (sz : Nat) (a1 : Int32) (st : Nat → Int32) (past : Nat → Int32) (acts : Int32) (image : Nat → Int32) (ipast : Nat → Int32) (iacts : Int32) (tape : Nat → Int32) (tmany : Int32) (laneOf : Nat → Int32) (sizeOf : Nat → Int32) (items : Nat → Int64) (seaFirst : Nat → Int32) (worstOf : Nat → Int32) (farTo : Nat → Int32) (stepsTo : Nat → Int32) (needs : Nat → Int32) (nmany : Int32) (mat : Int32) (told : Nat → Int32)  {post : Int32 → (Nat → Int32) → Prop} (hw : wX11_drop a1 laneOf sizeOf post) : Met l yX11_drop wsX11_drop rmX11_drop (va_Pc [.ref (h 0), .int a1] (cP D K (fl [wMo K h st past acts image ipast iacts tape tmany laneOf sizeOf items seaFirst worstOf farTo stepsTo needs nmany mat told]) sz)) (va_Qi (fun (r : Int32) (u : (Nat → Int32)) => post r u) (fun u t => cQ D K (fl [wMo K h st past acts image ipast iacts tape tmany u sizeOf items seaFirst worstOf farTo stepsTo needs nmany mat told]) (va_A (fl [wMo K h st past acts image ipast iacts tape tmany laneOf sizeOf items seaFirst worstOf farTo stepsTo needs nmany mat told]) sz) t) (va_A (fl [wMo K h st past acts image ipast iacts tape tmany laneOf sizeOf items seaFirst worstOf farTo stepsTo needs nmany mat told]) sz)) 0 0 (va_A (fl [wMo K h st past acts image ipast iacts tape tmany laneOf sizeOf items seaFirst worstOf farTo stepsTo needs nmany mat told]) sz) := by
  refine x_entry (cc := cX11_drop) (maxL := 2) (ret := (some .int)) (QA := fun A => va_Qi (fun (r : Int32) (u : (Nat → Int32)) => post r u) (fun u t => cQ D K (fl [wMo K h st past acts image ipast iacts tape tmany u sizeOf items seaFirst worstOf farTo stepsTo needs nmany mat told]) A t) A) (plainFor_of_name (by decide)) rfl (Nat.le_of_ble_eq_true rfl) ?_
  intro p e s m args below meth c A ls H Q hQ hC hlk hr hnm hI hl
  obtain ⟨hx, hb, hml, hown, hts, hK, hA, hZ⟩ := id hC
  obtain ⟨locs, hlocs⟩ : ∃ y : List Loc, y = [] := ⟨_, rfl⟩
  rw [← hlocs] at hI ⊢
  clear hlocs
  replace hl : lv_has ls 2 [(0, .ref (h 0)), (1, .int a1)] := hl
  replace hw : wX11_in a1 (0 : Int32) (3 : Int32) (fun (r1 : Int32) => ((r1 = 0 → post (-1 : Int32) laneOf) ∧ (¬ r1 = 0 → vp_in a1 4 ∧ ((0 ≤ (laneOf a1.toNatClampNeg) → vp_in a1 4 ∧ vp_in a1 4 ∧ post (sizeOf a1.toNatClampNeg) (upd laneOf a1.toNatClampNeg (-4 : Int32))) ∧ (¬ 0 ≤ (laneOf a1.toNatClampNeg) → post (-11 : Int32) laneOf))))) := hw
  refine lv_iload_n hx hb dX11_drop_0 rfl (lv_at hl 1 rfl) ?_
  refine lv_iconst (v := (0 : Int32)) hx hb dX11_drop_1 (by decide) ?_
  refine lv_iconst (v := (3 : Int32)) hx hb dX11_drop_2 (by decide) ?_
  refine x_callSi (rest := []) hC hI [] (mX11_in l D K  _ a1 (0 : Int32) (3 : Int32) hw) (va_cwS 3 hts gX11_drop_X11_in rfl rfl rfl (by decide +kernel) ⟨(Nat.le_of_ble_eq_true rfl), (Nat.le_of_ble_eq_true rfl)⟩) (by decide) rfl (fun _ => rfl) rfl hl.1 rfl (Nat.le_of_ble_eq_true rfl) dX11_drop_3 ⟨(Nat.le_of_ble_eq_true rfl), (Nat.le_of_ble_eq_true rfl)⟩ (fun r1 u H locs hw hI => ?_)
  try dsimp only at hw
  have hI : wI s D A (fl [wMo K h st past acts image ipast iacts tape tmany laneOf sizeOf items seaFirst worstOf farTo stepsTo needs nmany mat told]) H locs := hI
  refine lv_if_ne (tgt := 11) hx hb dX11_drop_6 (by decide) (fun c2 => ?_) (fun c2 => ?_)
  · replace hw := hw.2 c2
    refine lv_aload_n hx hb dX11_drop_11 rfl (lv_at hl 0 rfl) ?_
    refine x_get (v := .ref (h 6)) hC hI kX11_drop_cX11 0 rfl rfl 8 (by decide) kX11_drop_0 rfl rfl dX11_drop_12 ?_
    refine lv_iload_n hx hb dX11_drop_15 rfl (lv_at hl 1 rfl) ?_
    obtain ⟨hc3, hw⟩ := hw
    refine x_iald (f := laneOf) hC hI 6 rfl hc3 dX11_drop_16 ?_
    refine lv_if_ge (tgt := 23) hx hb dX11_drop_17 (by decide) (fun c4 => ?_) (fun c4 => ?_)
    · replace hw := hw.1 c4
      refine lv_aload_n hx hb dX11_drop_23 rfl (lv_at hl 0 rfl) ?_
      refine x_get (v := .ref (h 6)) hC hI kX11_drop_cX11 0 rfl rfl 8 (by decide) kX11_drop_0 rfl rfl dX11_drop_24 ?_
      refine lv_iload_n hx hb dX11_drop_27 rfl (lv_at hl 1 rfl) ?_
      refine lv_bipush (v := (-4 : Int32)) hx hb dX11_drop_28 (by decide) ?_
      obtain ⟨hc5, hw⟩ := hw
      refine x_iast (f := laneOf) hC hI 6 rfl hc5 dX11_drop_30 (fun H locs hI => ?_)
      have hI : wI s D A (fl [wMo K h st past acts image ipast iacts tape tmany (upd laneOf a1.toNatClampNeg (-4 : Int32)) sizeOf items seaFirst worstOf farTo stepsTo needs nmany mat told]) H locs := hI
      refine lv_aload_n hx hb dX11_drop_31 rfl (lv_at hl 0 rfl) ?_
      refine x_get (v := .ref (h 7)) hC hI kX11_drop_cX11 0 rfl rfl 9 (by decide) kX11_drop_2 rfl rfl dX11_drop_32 ?_
      refine lv_iload_n hx hb dX11_drop_35 rfl (lv_at hl 1 rfl) ?_
      obtain ⟨hc6, hw⟩ := hw
      refine x_iald (f := sizeOf) hC hI 7 rfl hc6 dX11_drop_36 ?_
      subst hQ
      exact x_iret (u := (upd laneOf a1.toNatClampNeg (-4 : Int32))) hC hI hr hlk hw rfl dX11_drop_37
    · replace hw := hw.2 c4
      refine lv_bipush (v := (-11 : Int32)) hx hb dX11_drop_20 (by decide) ?_
      subst hQ
      exact x_iret (u := laneOf) hC hI hr hlk hw rfl dX11_drop_22
  · replace hw := hw.1 c2
    refine lv_iconst (v := (-1 : Int32)) hx hb dX11_drop_9 (by decide) ?_
    subst hQ
    exact x_iret (u := laneOf) hC hI hr hlk hw rfl dX11_drop_10

def wX11_item (a1 : Int32) (a2 : Int32) (a3 : Int32) (a4 : Int64) (laneOf : Nat → Int32) (sizeOf : Nat → Int32) (items : Nat → Int64) (post : Int32 → (Nat → Int64) → Prop) : Prop := wX11_isSheet a1 a2 (fun (r1 : Int32) => ((r1 = 0 → post (-1 : Int32) items) ∧ (¬ r1 = 0 → wX11_found a1 a2 a3 (1 : Int32) laneOf sizeOf (fun (r3 : Int32) => ((r3 = 0 → wX11_lowest a4 a2 (fun (r5 : Int64) => vp_in (((30 : Int32) * a1) + a3) 120 ∧ post (1 : Int32) (vp_updL items (((30 : Int32) * a1) + a3).toNatClampNeg r5))) ∧ (¬ r3 = 0 → post r3 items))))))
def rmX11_item : Room := { frames := 2, cells := 0, slots := 0, locals := 43 }
theorem kX11_item_0 : Cond.fieldLink RX11 35 "GoreGlobeModel" "items" "[J" ∈ wsX11_item := List.mem_cons_of_mem _ (List.mem_append_left _ (List.mem_of_getElem? (i := 0) rfl))
theorem kX11_item_cX11 : ∀ w ∈ wsX110, w ∈ wsX11_item := fun _ h => List.mem_cons_of_mem _ (List.mem_append_right _ h)
set_option maxHeartbeats 4000000 in
set_option maxRecDepth 100000 in
theorem mX11_item (l : Launch) (D : va_G) (K : Nat → ClassId) (h : Nat → Nat) (sz : Nat) (a1 : Int32) (a2 : Int32) (a3 : Int32) (a4 : Int64) (st : Nat → Int32) (past : Nat → Int32) (acts : Int32) (image : Nat → Int32) (ipast : Nat → Int32) (iacts : Int32) (tape : Nat → Int32) (tmany : Int32) (laneOf : Nat → Int32) (sizeOf : Nat → Int32) (items : Nat → Int64) (seaFirst : Nat → Int32) (worstOf : Nat → Int32) (farTo : Nat → Int32) (stepsTo : Nat → Int32) (needs : Nat → Int32) (nmany : Int32) (mat : Int32) (told : Nat → Int32)  {post : Int32 → (Nat → Int64) → Prop} (hw : wX11_item a1 a2 a3 a4 laneOf sizeOf items post) : Met l yX11_item wsX11_item rmX11_item (va_Pc [.ref (h 0), .int a1, .int a2, .int a3, .long a4] (cP D K (fl [wMo K h st past acts image ipast iacts tape tmany laneOf sizeOf items seaFirst worstOf farTo stepsTo needs nmany mat told]) sz)) (va_Qi (fun (r : Int32) (u : (Nat → Int64)) => post r u) (fun u t => cQ D K (fl [wMo K h st past acts image ipast iacts tape tmany laneOf sizeOf u seaFirst worstOf farTo stepsTo needs nmany mat told]) (va_A (fl [wMo K h st past acts image ipast iacts tape tmany laneOf sizeOf items seaFirst worstOf farTo stepsTo needs nmany mat told]) sz) t) (va_A (fl [wMo K h st past acts image ipast iacts tape tmany laneOf sizeOf items seaFirst worstOf farTo stepsTo needs nmany mat told]) sz)) 0 0 (va_A (fl [wMo K h st past acts image ipast iacts tape tmany laneOf sizeOf items seaFirst worstOf farTo stepsTo needs nmany mat told]) sz) := by
  refine x_entry (cc := cX11_item) (maxL := 7) (ret := (some .int)) (QA := fun A => va_Qi (fun (r : Int32) (u : (Nat → Int64)) => post r u) (fun u t => cQ D K (fl [wMo K h st past acts image ipast iacts tape tmany laneOf sizeOf u seaFirst worstOf farTo stepsTo needs nmany mat told]) A t) A) (plainFor_of_name (by decide)) rfl (Nat.le_of_ble_eq_true rfl) ?_
  intro p e s m args below meth c A ls H Q hQ hC hlk hr hnm hI hl
  obtain ⟨hx, hb, hml, hown, hts, hK, hA, hZ⟩ := id hC
  obtain ⟨locs, hlocs⟩ : ∃ y : List Loc, y = [] := ⟨_, rfl⟩
  rw [← hlocs] at hI ⊢
  clear hlocs
  replace hl : lv_has ls 7 [(0, .ref (h 0)), (1, .int a1), (2, .int a2), (3, .int a3), (4, .long a4)] := hl
  replace hw : wX11_isSheet a1 a2 (fun (r1 : Int32) => ((r1 = 0 → post (-1 : Int32) items) ∧ (¬ r1 = 0 → wX11_found a1 a2 a3 (1 : Int32) laneOf sizeOf (fun (r3 : Int32) => ((r3 = 0 → wX11_lowest a4 a2 (fun (r5 : Int64) => vp_in (((30 : Int32) * a1) + a3) 120 ∧ post (1 : Int32) (vp_updL items (((30 : Int32) * a1) + a3).toNatClampNeg r5))) ∧ (¬ r3 = 0 → post r3 items)))))) := hw
  refine lv_iload_n hx hb dX11_item_0 rfl (lv_at hl 1 rfl) ?_
  refine lv_iload_n hx hb dX11_item_1 rfl (lv_at hl 2 rfl) ?_
  refine x_callSi (rest := []) hC hI [] (mX11_isSheet l D K  _ a1 a2 hw) (va_cwS 2 hts gX11_item_X11_isSheet rfl rfl rfl (by decide +kernel) ⟨(Nat.le_of_ble_eq_true rfl), (Nat.le_of_ble_eq_true rfl)⟩) (by decide) rfl (fun _ => rfl) rfl hl.1 rfl (Nat.le_of_ble_eq_true rfl) dX11_item_2 ⟨(Nat.le_of_ble_eq_true rfl), (Nat.le_of_ble_eq_true rfl)⟩ (fun r1 u H locs hw hI => ?_)
  try dsimp only at hw
  have hI : wI s D A (fl [wMo K h st past acts image ipast iacts tape tmany laneOf sizeOf items seaFirst worstOf farTo stepsTo needs nmany mat told]) H locs := hI
  refine lv_if_ne (tgt := 10) hx hb dX11_item_5 (by decide) (fun c2 => ?_) (fun c2 => ?_)
  · replace hw := hw.2 c2
    refine lv_aload_n hx hb dX11_item_10 rfl (lv_at hl 0 rfl) ?_
    refine lv_iload_n hx hb dX11_item_11 rfl (lv_at hl 1 rfl) ?_
    refine lv_iload_n hx hb dX11_item_12 rfl (lv_at hl 2 rfl) ?_
    refine lv_iload_n hx hb dX11_item_13 rfl (lv_at hl 3 rfl) ?_
    refine lv_iconst (v := (1 : Int32)) hx hb dX11_item_14 (by decide) ?_
    refine x_callWi (rest := []) hC hI (mX11_found l D K h _ a1 a2 a3 (1 : Int32) st past acts image ipast iacts tape tmany laneOf sizeOf items seaFirst worstOf farTo stepsTo needs nmany mat told hw) (cwV 4 hts gX11_item_X11_found rfl rfl rfl (by decide +kernel) ⟨(Nat.le_of_ble_eq_true rfl), (Nat.le_of_ble_eq_true rfl)⟩) (fun _ => rfl) 0 9 rfl rfl rfl rfl hl.1 rfl (Nat.le_of_ble_eq_true rfl) dX11_item_15 ⟨(Nat.le_of_ble_eq_true rfl), (Nat.le_of_ble_eq_true rfl)⟩ (fun r3 u H locs hw hI => ?_)
    try dsimp only at hw
    have hI : wI s D A (fl [wMo K h st past acts image ipast iacts tape tmany laneOf sizeOf items seaFirst worstOf farTo stepsTo needs nmany mat told]) H locs := hI
    refine lv_istore (lv' := [(6, .int r3), (0, .ref (h 0)), (1, .int a1), (2, .int a2), (3, .int a3), (4, .long a4)]) hx hb dX11_item_18 hl (by decide) rfl (fun ls hl => ?_)
    refine lv_iload hx hb dX11_item_20 (lv_at hl 0 rfl) ?_
    refine lv_if_eq (tgt := 28) hx hb dX11_item_22 (by decide) (fun c4 => ?_) (fun c4 => ?_)
    · replace hw := hw.1 c4
      refine lv_aload_n hx hb dX11_item_28 rfl (lv_at hl 1 rfl) ?_
      refine x_get (v := .ref (h 8)) hC hI kX11_item_cX11 0 rfl rfl 10 (by decide) kX11_item_0 rfl rfl dX11_item_29 ?_
      refine lv_bipush (v := (30 : Int32)) hx hb dX11_item_32 (by decide) ?_
      refine lv_iload_n hx hb dX11_item_34 rfl (lv_at hl 2 rfl) ?_
      refine lv_imul hx hb dX11_item_35 ?_
      refine lv_iload_n hx hb dX11_item_36 rfl (lv_at hl 4 rfl) ?_
      refine lv_iadd hx hb dX11_item_37 ?_
      refine lv_lload hx hb dX11_item_38 (lv_at hl 5 rfl) ?_
      refine lv_iload_n hx hb dX11_item_40 rfl (lv_at hl 3 rfl) ?_
      refine x_callSl (rest := [.int (((30 : Int32) * a1) + a3), .ref (h 8)]) hC hI [] (mX11_lowest l D K  _ a4 a2 hw) (va_cwS 2 hts gX11_item_X11_lowest rfl rfl rfl (by decide +kernel) ⟨(Nat.le_of_ble_eq_true rfl), (Nat.le_of_ble_eq_true rfl)⟩) (by decide) rfl (fun _ => rfl) rfl hl.1 rfl (Nat.le_of_ble_eq_true rfl) dX11_item_41 ⟨(Nat.le_of_ble_eq_true rfl), (Nat.le_of_ble_eq_true rfl)⟩ (fun r5 u H locs hw hI => ?_)
      try dsimp only at hw
      have hI : wI s D A (fl [wMo K h st past acts image ipast iacts tape tmany laneOf sizeOf items seaFirst worstOf farTo stepsTo needs nmany mat told]) H locs := hI
      obtain ⟨hc6, hw⟩ := hw
      refine x_last (f := items) hC hI 8 rfl hc6 dX11_item_44 (fun H locs hI => ?_)
      have hI : wI s D A (fl [wMo K h st past acts image ipast iacts tape tmany laneOf sizeOf (vp_updL items (((30 : Int32) * a1) + a3).toNatClampNeg r5) seaFirst worstOf farTo stepsTo needs nmany mat told]) H locs := hI
      refine lv_iconst (v := (1 : Int32)) hx hb dX11_item_45 (by decide) ?_
      subst hQ
      exact x_iret (u := (vp_updL items (((30 : Int32) * a1) + a3).toNatClampNeg r5)) hC hI hr hlk hw rfl dX11_item_46
    · replace hw := hw.2 c4
      refine lv_iload hx hb dX11_item_25 (lv_at hl 0 rfl) ?_
      subst hQ
      exact x_iret (u := items) hC hI hr hlk hw rfl dX11_item_27
  · replace hw := hw.1 c2
    refine lv_iconst (v := (-1 : Int32)) hx hb dX11_item_8 (by decide) ?_
    subst hQ
    exact x_iret (u := items) hC hI hr hlk hw rfl dX11_item_9

def wX11_copy (a1 : Int32) (a2 : Int32) (a3 : Int32) (a4 : Int32) (a5 : Int32) (laneOf : Nat → Int32) (sizeOf : Nat → Int32) (items : Nat → Int64) (post : Int32 → (Nat → Int64) → Prop) : Prop := wX11_in a1 (0 : Int32) (3 : Int32) (fun (r1 : Int32) => ((r1 = 0 → post (-1 : Int32) items) ∧ (¬ r1 = 0 → wX11_in a3 (0 : Int32) (3 : Int32) (fun (r3 : Int32) => ((r3 = 0 → post (-1 : Int32) items) ∧ (¬ r3 = 0 → vp_in a1 4 ∧ (((laneOf a1.toNatClampNeg) < 0 → post (-11 : Int32) items) ∧ (¬ (laneOf a1.toNatClampNeg) < 0 → vp_in a3 4 ∧ ((0 ≤ (laneOf a3.toNatClampNeg) → vp_in a1 4 ∧ vp_in a3 4 ∧ (((laneOf a1.toNatClampNeg) = (laneOf a3.toNatClampNeg) → ((a5 < 0 → post (-13 : Int32) items) ∧ (¬ a5 < 0 → (((30 : Int32) < a5 → post (-13 : Int32) items) ∧ (¬ (30 : Int32) < a5 → ((a2 < 0 → post (-13 : Int32) items) ∧ (¬ a2 < 0 → ((a4 < 0 → post (-13 : Int32) items) ∧ (¬ a4 < 0 → vp_in a1 4 ∧ ((((sizeOf a1.toNatClampNeg) - a5) < a2 → post (-13 : Int32) items) ∧ (¬ ((sizeOf a1.toNatClampNeg) - a5) < a2 → vp_in a3 4 ∧ ((a4 ≤ ((sizeOf a3.toNatClampNeg) - a5) → ∃ J121 : Int32 → Prop, (∀ (t_121 : Int32), J121 t_121 → (∃ (I126 : Int32 → (Nat → Int64) → Prop) (mu126 : Int32 → (Nat → Int64) → Nat), I126 (0 : Int32) items ∧ ∀ (l7_126 : Int32) (items_126 : Nat → Int64), I126 l7_126 items_126 → ((a5 ≤ l7_126 → post a5 items_126) ∧ (¬ a5 ≤ l7_126 → ∃ J150 : Int32 → Prop, (∀ (t_150 : Int32), J150 t_150 → vp_in ((((30 : Int32) * a1) + a2) + t_150) 120 ∧ vp_in ((((30 : Int32) * a3) + a4) + t_150) 120 ∧ ∀ x23 : Int32, x23 = l7_126 + 1 → (I126 x23 (vp_updL items_126 ((((30 : Int32) * a3) + a4) + t_150).toNatClampNeg (items_126 ((((30 : Int32) * a1) + a2) + t_150).toNatClampNeg)) ∧ mu126 x23 (vp_updL items_126 ((((30 : Int32) * a3) + a4) + t_150).toNatClampNeg (items_126 ((((30 : Int32) * a1) + a2) + t_150).toNatClampNeg)) < mu126 l7_126 items_126)) ∧ ((t_121 = 0 → J150 l7_126) ∧ (¬ t_121 = 0 → J150 ((a5 - (1 : Int32)) - l7_126))))))) ∧ ((a4 ≤ a2 → J121 (0 : Int32)) ∧ (¬ a4 ≤ a2 → J121 (1 : Int32)))) ∧ (¬ a4 ≤ ((sizeOf a3.toNatClampNeg) - a5) → post (-13 : Int32) items))))))))))))) ∧ (¬ (laneOf a1.toNatClampNeg) = (laneOf a3.toNatClampNeg) → post (-12 : Int32) items))) ∧ (¬ 0 ≤ (laneOf a3.toNatClampNeg) → post (-11 : Int32) items))))))))))
def rmX11_copy : Room := { frames := 1, cells := 0, slots := 0, locals := 22 }
theorem kX11_copy_0 : Cond.fieldLink RX11 29 "GoreGlobeModel" "laneOf" "[I" ∈ wsX11_copy := List.mem_cons_of_mem _ (List.mem_append_left _ (List.mem_of_getElem? (i := 0) rfl))
theorem kX11_copy_cX11 : ∀ w ∈ wsX110, w ∈ wsX11_copy := fun _ h => List.mem_cons_of_mem _ (List.mem_append_right _ h)
theorem kX11_copy_2 : Cond.fieldLink RX11 32 "GoreGlobeModel" "sizeOf" "[I" ∈ wsX11_copy := List.mem_cons_of_mem _ (List.mem_append_left _ (List.mem_of_getElem? (i := 1) rfl))
theorem kX11_copy_3 : Cond.fieldLink RX11 35 "GoreGlobeModel" "items" "[J" ∈ wsX11_copy := List.mem_cons_of_mem _ (List.mem_append_left _ (List.mem_of_getElem? (i := 2) rfl))
set_option maxHeartbeats 4000000 in
set_option maxRecDepth 100000 in
theorem mX11_copy (l : Launch) (D : va_G) (K : Nat → ClassId) (h : Nat → Nat) (sz : Nat) (a1 : Int32) (a2 : Int32) (a3 : Int32) (a4 : Int32) (a5 : Int32) (st : Nat → Int32) (past : Nat → Int32) (acts : Int32) (image : Nat → Int32) (ipast : Nat → Int32) (iacts : Int32) (tape : Nat → Int32) (tmany : Int32) (laneOf : Nat → Int32) (sizeOf : Nat → Int32) (items : Nat → Int64) (seaFirst : Nat → Int32) (worstOf : Nat → Int32) (farTo : Nat → Int32) (stepsTo : Nat → Int32) (needs : Nat → Int32) (nmany : Int32) (mat : Int32) (told : Nat → Int32)  {post : Int32 → (Nat → Int64) → Prop} (hw : wX11_copy a1 a2 a3 a4 a5 laneOf sizeOf items post) : Met l yX11_copy wsX11_copy rmX11_copy (va_Pc [.ref (h 0), .int a1, .int a2, .int a3, .int a4, .int a5] (cP D K (fl [wMo K h st past acts image ipast iacts tape tmany laneOf sizeOf items seaFirst worstOf farTo stepsTo needs nmany mat told]) sz)) (va_Qi (fun (r : Int32) (u : (Nat → Int64)) => post r u) (fun u t => cQ D K (fl [wMo K h st past acts image ipast iacts tape tmany laneOf sizeOf u seaFirst worstOf farTo stepsTo needs nmany mat told]) (va_A (fl [wMo K h st past acts image ipast iacts tape tmany laneOf sizeOf items seaFirst worstOf farTo stepsTo needs nmany mat told]) sz) t) (va_A (fl [wMo K h st past acts image ipast iacts tape tmany laneOf sizeOf items seaFirst worstOf farTo stepsTo needs nmany mat told]) sz)) 0 0 (va_A (fl [wMo K h st past acts image ipast iacts tape tmany laneOf sizeOf items seaFirst worstOf farTo stepsTo needs nmany mat told]) sz) := by
  refine x_entry (cc := cX11_copy) (maxL := 9) (ret := (some .int)) (QA := fun A => va_Qi (fun (r : Int32) (u : (Nat → Int64)) => post r u) (fun u t => cQ D K (fl [wMo K h st past acts image ipast iacts tape tmany laneOf sizeOf u seaFirst worstOf farTo stepsTo needs nmany mat told]) A t) A) (plainFor_of_name (by decide)) rfl (Nat.le_of_ble_eq_true rfl) ?_
  intro p e s m args below meth c A ls H Q hQ hC hlk hr hnm hI hl
  obtain ⟨hx, hb, hml, hown, hts, hK, hA, hZ⟩ := id hC
  obtain ⟨locs, hlocs⟩ : ∃ y : List Loc, y = [] := ⟨_, rfl⟩
  rw [← hlocs] at hI ⊢
  clear hlocs
  replace hl : lv_has ls 9 [(0, .ref (h 0)), (1, .int a1), (2, .int a2), (3, .int a3), (4, .int a4), (5, .int a5)] := hl
  replace hw : wX11_in a1 (0 : Int32) (3 : Int32) (fun (r1 : Int32) => ((r1 = 0 → post (-1 : Int32) items) ∧ (¬ r1 = 0 → wX11_in a3 (0 : Int32) (3 : Int32) (fun (r3 : Int32) => ((r3 = 0 → post (-1 : Int32) items) ∧ (¬ r3 = 0 → vp_in a1 4 ∧ (((laneOf a1.toNatClampNeg) < 0 → post (-11 : Int32) items) ∧ (¬ (laneOf a1.toNatClampNeg) < 0 → vp_in a3 4 ∧ ((0 ≤ (laneOf a3.toNatClampNeg) → vp_in a1 4 ∧ vp_in a3 4 ∧ (((laneOf a1.toNatClampNeg) = (laneOf a3.toNatClampNeg) → ((a5 < 0 → post (-13 : Int32) items) ∧ (¬ a5 < 0 → (((30 : Int32) < a5 → post (-13 : Int32) items) ∧ (¬ (30 : Int32) < a5 → ((a2 < 0 → post (-13 : Int32) items) ∧ (¬ a2 < 0 → ((a4 < 0 → post (-13 : Int32) items) ∧ (¬ a4 < 0 → vp_in a1 4 ∧ ((((sizeOf a1.toNatClampNeg) - a5) < a2 → post (-13 : Int32) items) ∧ (¬ ((sizeOf a1.toNatClampNeg) - a5) < a2 → vp_in a3 4 ∧ ((a4 ≤ ((sizeOf a3.toNatClampNeg) - a5) → ∃ J121 : Int32 → Prop, (∀ (t_121 : Int32), J121 t_121 → (∃ (I126 : Int32 → (Nat → Int64) → Prop) (mu126 : Int32 → (Nat → Int64) → Nat), I126 (0 : Int32) items ∧ ∀ (l7_126 : Int32) (items_126 : Nat → Int64), I126 l7_126 items_126 → ((a5 ≤ l7_126 → post a5 items_126) ∧ (¬ a5 ≤ l7_126 → ∃ J150 : Int32 → Prop, (∀ (t_150 : Int32), J150 t_150 → vp_in ((((30 : Int32) * a1) + a2) + t_150) 120 ∧ vp_in ((((30 : Int32) * a3) + a4) + t_150) 120 ∧ ∀ x23 : Int32, x23 = l7_126 + 1 → (I126 x23 (vp_updL items_126 ((((30 : Int32) * a3) + a4) + t_150).toNatClampNeg (items_126 ((((30 : Int32) * a1) + a2) + t_150).toNatClampNeg)) ∧ mu126 x23 (vp_updL items_126 ((((30 : Int32) * a3) + a4) + t_150).toNatClampNeg (items_126 ((((30 : Int32) * a1) + a2) + t_150).toNatClampNeg)) < mu126 l7_126 items_126)) ∧ ((t_121 = 0 → J150 l7_126) ∧ (¬ t_121 = 0 → J150 ((a5 - (1 : Int32)) - l7_126))))))) ∧ ((a4 ≤ a2 → J121 (0 : Int32)) ∧ (¬ a4 ≤ a2 → J121 (1 : Int32)))) ∧ (¬ a4 ≤ ((sizeOf a3.toNatClampNeg) - a5) → post (-13 : Int32) items))))))))))))) ∧ (¬ (laneOf a1.toNatClampNeg) = (laneOf a3.toNatClampNeg) → post (-12 : Int32) items))) ∧ (¬ 0 ≤ (laneOf a3.toNatClampNeg) → post (-11 : Int32) items)))))))))) := hw
  refine lv_iload_n hx hb dX11_copy_0 rfl (lv_at hl 1 rfl) ?_
  refine lv_iconst (v := (0 : Int32)) hx hb dX11_copy_1 (by decide) ?_
  refine lv_iconst (v := (3 : Int32)) hx hb dX11_copy_2 (by decide) ?_
  refine x_callSi (rest := []) hC hI [] (mX11_in l D K  _ a1 (0 : Int32) (3 : Int32) hw) (va_cwS 3 hts gX11_copy_X11_in rfl rfl rfl (by decide +kernel) ⟨(Nat.le_of_ble_eq_true rfl), (Nat.le_of_ble_eq_true rfl)⟩) (by decide) rfl (fun _ => rfl) rfl hl.1 rfl (Nat.le_of_ble_eq_true rfl) dX11_copy_3 ⟨(Nat.le_of_ble_eq_true rfl), (Nat.le_of_ble_eq_true rfl)⟩ (fun r1 u H locs hw hI => ?_)
  try dsimp only at hw
  have hI : wI s D A (fl [wMo K h st past acts image ipast iacts tape tmany laneOf sizeOf items seaFirst worstOf farTo stepsTo needs nmany mat told]) H locs := hI
  refine lv_if_eq (tgt := 18) hx hb dX11_copy_6 (by decide) (fun c2 => ?_) (fun c2 => ?_)
  · replace hw := hw.1 c2
    refine lv_iconst (v := (-1 : Int32)) hx hb dX11_copy_18 (by decide) ?_
    subst hQ
    exact x_iret (u := items) hC hI hr hlk hw rfl dX11_copy_19
  · replace hw := hw.2 c2
    refine lv_iload_n hx hb dX11_copy_9 rfl (lv_at hl 3 rfl) ?_
    refine lv_iconst (v := (0 : Int32)) hx hb dX11_copy_10 (by decide) ?_
    refine lv_iconst (v := (3 : Int32)) hx hb dX11_copy_11 (by decide) ?_
    refine x_callSi (rest := []) hC hI [] (mX11_in l D K  _ a3 (0 : Int32) (3 : Int32) hw) (va_cwS 3 hts gX11_copy_X11_in rfl rfl rfl (by decide +kernel) ⟨(Nat.le_of_ble_eq_true rfl), (Nat.le_of_ble_eq_true rfl)⟩) (by decide) rfl (fun _ => rfl) rfl hl.1 rfl (Nat.le_of_ble_eq_true rfl) dX11_copy_12 ⟨(Nat.le_of_ble_eq_true rfl), (Nat.le_of_ble_eq_true rfl)⟩ (fun r3 u H locs hw hI => ?_)
    try dsimp only at hw
    have hI : wI s D A (fl [wMo K h st past acts image ipast iacts tape tmany laneOf sizeOf items seaFirst worstOf farTo stepsTo needs nmany mat told]) H locs := hI
    refine lv_if_ne (tgt := 20) hx hb dX11_copy_15 (by decide) (fun c4 => ?_) (fun c4 => ?_)
    · replace hw := hw.2 c4
      refine lv_aload_n hx hb dX11_copy_20 rfl (lv_at hl 0 rfl) ?_
      refine x_get (v := .ref (h 6)) hC hI kX11_copy_cX11 0 rfl rfl 8 (by decide) kX11_copy_0 rfl rfl dX11_copy_21 ?_
      refine lv_iload_n hx hb dX11_copy_24 rfl (lv_at hl 1 rfl) ?_
      obtain ⟨hc5, hw⟩ := hw
      refine x_iald (f := laneOf) hC hI 6 rfl hc5 dX11_copy_25 ?_
      refine lv_if_lt (tgt := 38) hx hb dX11_copy_26 (by decide) (fun c6 => ?_) (fun c6 => ?_)
      · replace hw := hw.1 c6
        refine lv_bipush (v := (-11 : Int32)) hx hb dX11_copy_38 (by decide) ?_
        subst hQ
        exact x_iret (u := items) hC hI hr hlk hw rfl dX11_copy_40
      · replace hw := hw.2 c6
        refine lv_aload_n hx hb dX11_copy_29 rfl (lv_at hl 0 rfl) ?_
        refine x_get (v := .ref (h 6)) hC hI kX11_copy_cX11 0 rfl rfl 8 (by decide) kX11_copy_0 rfl rfl dX11_copy_30 ?_
        refine lv_iload_n hx hb dX11_copy_33 rfl (lv_at hl 3 rfl) ?_
        obtain ⟨hc7, hw⟩ := hw
        refine x_iald (f := laneOf) hC hI 6 rfl hc7 dX11_copy_34 ?_
        refine lv_if_ge (tgt := 41) hx hb dX11_copy_35 (by decide) (fun c8 => ?_) (fun c8 => ?_)
        · replace hw := hw.1 c8
          refine lv_aload_n hx hb dX11_copy_41 rfl (lv_at hl 0 rfl) ?_
          refine x_get (v := .ref (h 6)) hC hI kX11_copy_cX11 0 rfl rfl 8 (by decide) kX11_copy_0 rfl rfl dX11_copy_42 ?_
          refine lv_iload_n hx hb dX11_copy_45 rfl (lv_at hl 1 rfl) ?_
          obtain ⟨hc9, hw⟩ := hw
          refine x_iald (f := laneOf) hC hI 6 rfl hc9 dX11_copy_46 ?_
          refine lv_aload_n hx hb dX11_copy_47 rfl (lv_at hl 0 rfl) ?_
          refine x_get (v := .ref (h 6)) hC hI kX11_copy_cX11 0 rfl rfl 8 (by decide) kX11_copy_0 rfl rfl dX11_copy_48 ?_
          refine lv_iload_n hx hb dX11_copy_51 rfl (lv_at hl 3 rfl) ?_
          obtain ⟨hc10, hw⟩ := hw
          refine x_iald (f := laneOf) hC hI 6 rfl hc10 dX11_copy_52 ?_
          refine lv_icmp_eq (tgt := 59) hx hb dX11_copy_53 (by decide) (fun c11 => ?_) (fun c11 => ?_)
          · replace hw := hw.1 c11
            refine lv_iload hx hb dX11_copy_59 (lv_at hl 5 rfl) ?_
            refine lv_if_lt (tgt := 107) hx hb dX11_copy_61 (by decide) (fun c12 => ?_) (fun c12 => ?_)
            · replace hw := hw.1 c12
              refine lv_bipush (v := (-13 : Int32)) hx hb dX11_copy_107 (by decide) ?_
              subst hQ
              exact x_iret (u := items) hC hI hr hlk hw rfl dX11_copy_109
            · replace hw := hw.2 c12
              refine lv_iload hx hb dX11_copy_64 (lv_at hl 5 rfl) ?_
              refine lv_bipush (v := (30 : Int32)) hx hb dX11_copy_66 (by decide) ?_
              refine lv_icmp_gt (tgt := 107) hx hb dX11_copy_68 (by decide) (fun c13 => ?_) (fun c13 => ?_)
              · replace hw := hw.1 c13
                refine lv_bipush (v := (-13 : Int32)) hx hb dX11_copy_107 (by decide) ?_
                subst hQ
                exact x_iret (u := items) hC hI hr hlk hw rfl dX11_copy_109
              · replace hw := hw.2 c13
                refine lv_iload_n hx hb dX11_copy_71 rfl (lv_at hl 2 rfl) ?_
                refine lv_if_lt (tgt := 107) hx hb dX11_copy_72 (by decide) (fun c14 => ?_) (fun c14 => ?_)
                · replace hw := hw.1 c14
                  refine lv_bipush (v := (-13 : Int32)) hx hb dX11_copy_107 (by decide) ?_
                  subst hQ
                  exact x_iret (u := items) hC hI hr hlk hw rfl dX11_copy_109
                · replace hw := hw.2 c14
                  refine lv_iload hx hb dX11_copy_75 (lv_at hl 4 rfl) ?_
                  refine lv_if_lt (tgt := 107) hx hb dX11_copy_77 (by decide) (fun c15 => ?_) (fun c15 => ?_)
                  · replace hw := hw.1 c15
                    refine lv_bipush (v := (-13 : Int32)) hx hb dX11_copy_107 (by decide) ?_
                    subst hQ
                    exact x_iret (u := items) hC hI hr hlk hw rfl dX11_copy_109
                  · replace hw := hw.2 c15
                    refine lv_iload_n hx hb dX11_copy_80 rfl (lv_at hl 2 rfl) ?_
                    refine lv_aload_n hx hb dX11_copy_81 rfl (lv_at hl 0 rfl) ?_
                    refine x_get (v := .ref (h 7)) hC hI kX11_copy_cX11 0 rfl rfl 9 (by decide) kX11_copy_2 rfl rfl dX11_copy_82 ?_
                    refine lv_iload_n hx hb dX11_copy_85 rfl (lv_at hl 1 rfl) ?_
                    obtain ⟨hc16, hw⟩ := hw
                    refine x_iald (f := sizeOf) hC hI 7 rfl hc16 dX11_copy_86 ?_
                    refine lv_iload hx hb dX11_copy_87 (lv_at hl 5 rfl) ?_
                    refine lv_isub hx hb dX11_copy_89 ?_
                    refine lv_icmp_gt (tgt := 107) hx hb dX11_copy_90 (by decide) (fun c17 => ?_) (fun c17 => ?_)
                    · replace hw := hw.1 c17
                      refine lv_bipush (v := (-13 : Int32)) hx hb dX11_copy_107 (by decide) ?_
                      subst hQ
                      exact x_iret (u := items) hC hI hr hlk hw rfl dX11_copy_109
                    · replace hw := hw.2 c17
                      refine lv_iload hx hb dX11_copy_93 (lv_at hl 4 rfl) ?_
                      refine lv_aload_n hx hb dX11_copy_95 rfl (lv_at hl 0 rfl) ?_
                      refine x_get (v := .ref (h 7)) hC hI kX11_copy_cX11 0 rfl rfl 9 (by decide) kX11_copy_2 rfl rfl dX11_copy_96 ?_
                      refine lv_iload_n hx hb dX11_copy_99 rfl (lv_at hl 3 rfl) ?_
                      obtain ⟨hc18, hw⟩ := hw
                      refine x_iald (f := sizeOf) hC hI 7 rfl hc18 dX11_copy_100 ?_
                      refine lv_iload hx hb dX11_copy_101 (lv_at hl 5 rfl) ?_
                      refine lv_isub hx hb dX11_copy_103 ?_
                      refine lv_icmp_le (tgt := 110) hx hb dX11_copy_104 (by decide) (fun c19 => ?_) (fun c19 => ?_)
                      · replace hw := hw.1 c19
                        refine lv_iload hx hb dX11_copy_110 (lv_at hl 4 rfl) ?_
                        refine lv_iload_n hx hb dX11_copy_112 rfl (lv_at hl 2 rfl) ?_
                        obtain ⟨J121, hJ121, hw⟩ := hw
                        have jn121 : ∀ (t_121 : Int32) (ls : Array Slot) (H : Heap) (locs : List Loc), J121 t_121 → wI s D A (fl [wMo K h st past acts image ipast iacts tape tmany laneOf sizeOf items seaFirst worstOf farTo stepsTo needs nmany mat told]) H locs → lv_has ls 9 [(0, .ref (h 0)), (1, .int a1), (2, .int a2), (3, .int a3), (4, .int a4), (5, .int a5)] → W p l e rmX11_copy s m args below meth c H locs 0 0 Q (F0 m 121 ls [.int t_121]) := by
                          intro t_121 ls H locs hw hI hl
                          replace hw := hJ121 t_121 hw
                          refine lv_istore (lv' := [(6, .int t_121), (0, .ref (h 0)), (1, .int a1), (2, .int a2), (3, .int a3), (4, .int a4), (5, .int a5)]) hx hb dX11_copy_121 hl (by decide) rfl (fun ls hl => ?_)
                          refine lv_iconst (v := (0 : Int32)) hx hb dX11_copy_123 (by decide) ?_
                          refine lv_istore (lv' := [(7, .int (0 : Int32)), (6, .int t_121), (0, .ref (h 0)), (1, .int a1), (2, .int a2), (3, .int a3), (4, .int a4), (5, .int a5)]) hx hb dX11_copy_124 hl (by decide) rfl (fun ls hl => ?_)
                          obtain ⟨I126, mu126, hw, hb126⟩ := hw
                          have lp126 : ∀ (k : Nat) (l7_126 : Int32) (items_126 : Nat → Int64) (ls : Array Slot) (H : Heap) (locs : List Loc), mu126 l7_126 items_126 < k → I126 l7_126 items_126 → wI s D A (fl [wMo K h st past acts image ipast iacts tape tmany laneOf sizeOf items_126 seaFirst worstOf farTo stepsTo needs nmany mat told]) H locs → lv_has ls 9 [(0, .ref (h 0)), (1, .int a1), (2, .int a2), (3, .int a3), (4, .int a4), (5, .int a5), (6, .int t_121), (7, .int l7_126)] → W p l e rmX11_copy s m args below meth c H locs 0 0 Q (F0 m 126 ls []) := by
                            intro k
                            induction k with
                            | zero => intro l7_126 items_126 ls H locs hmu; exact absurd hmu (Nat.not_lt_zero _)
                            | succ k ih126 =>
                              intro l7_126 items_126 ls H locs hmu126 hw hI hl
                              replace hw := hb126 l7_126 items_126 hw
                              refine lv_iload hx hb dX11_copy_126 (lv_at hl 7 rfl) ?_
                              refine lv_iload hx hb dX11_copy_128 (lv_at hl 5 rfl) ?_
                              refine lv_icmp_ge (tgt := 187) hx hb dX11_copy_130 (by decide) (fun c20 => ?_) (fun c20 => ?_)
                              · replace hw := hw.1 c20
                                refine lv_iload hx hb dX11_copy_187 (lv_at hl 5 rfl) ?_
                                subst hQ
                                exact x_iret (u := items_126) hC hI hr hlk hw rfl dX11_copy_189
                              · replace hw := hw.2 c20
                                refine lv_iload hx hb dX11_copy_133 (lv_at hl 6 rfl) ?_
                                obtain ⟨J150, hJ150, hw⟩ := hw
                                have jn150 : ∀ (t_150 : Int32) (ls : Array Slot) (H : Heap) (locs : List Loc), J150 t_150 → wI s D A (fl [wMo K h st past acts image ipast iacts tape tmany laneOf sizeOf items_126 seaFirst worstOf farTo stepsTo needs nmany mat told]) H locs → lv_has ls 9 [(0, .ref (h 0)), (1, .int a1), (2, .int a2), (3, .int a3), (4, .int a4), (5, .int a5), (6, .int t_121), (7, .int l7_126)] → W p l e rmX11_copy s m args below meth c H locs 0 0 Q (F0 m 150 ls [.int t_150]) := by
                                  intro t_150 ls H locs hw hI hl
                                  replace hw := hJ150 t_150 hw
                                  refine lv_istore (lv' := [(8, .int t_150), (0, .ref (h 0)), (1, .int a1), (2, .int a2), (3, .int a3), (4, .int a4), (5, .int a5), (6, .int t_121), (7, .int l7_126)]) hx hb dX11_copy_150 hl (by decide) rfl (fun ls hl => ?_)
                                  refine lv_aload_n hx hb dX11_copy_152 rfl (lv_at hl 1 rfl) ?_
                                  refine x_get (v := .ref (h 8)) hC hI kX11_copy_cX11 0 rfl rfl 10 (by decide) kX11_copy_3 rfl rfl dX11_copy_153 ?_
                                  refine lv_bipush (v := (30 : Int32)) hx hb dX11_copy_156 (by decide) ?_
                                  refine lv_iload_n hx hb dX11_copy_158 rfl (lv_at hl 4 rfl) ?_
                                  refine lv_imul hx hb dX11_copy_159 ?_
                                  refine lv_iload hx hb dX11_copy_160 (lv_at hl 5 rfl) ?_
                                  refine lv_iadd hx hb dX11_copy_162 ?_
                                  refine lv_iload hx hb dX11_copy_163 (lv_at hl 0 rfl) ?_
                                  refine lv_iadd hx hb dX11_copy_165 ?_
                                  refine lv_aload_n hx hb dX11_copy_166 rfl (lv_at hl 1 rfl) ?_
                                  refine x_get (v := .ref (h 8)) hC hI kX11_copy_cX11 0 rfl rfl 10 (by decide) kX11_copy_3 rfl rfl dX11_copy_167 ?_
                                  refine lv_bipush (v := (30 : Int32)) hx hb dX11_copy_170 (by decide) ?_
                                  refine lv_iload_n hx hb dX11_copy_172 rfl (lv_at hl 2 rfl) ?_
                                  refine lv_imul hx hb dX11_copy_173 ?_
                                  refine lv_iload_n hx hb dX11_copy_174 rfl (lv_at hl 3 rfl) ?_
                                  refine lv_iadd hx hb dX11_copy_175 ?_
                                  refine lv_iload hx hb dX11_copy_176 (lv_at hl 0 rfl) ?_
                                  refine lv_iadd hx hb dX11_copy_178 ?_
                                  obtain ⟨hc21, hw⟩ := hw
                                  refine x_lald (f := items_126) hC hI 8 rfl hc21 dX11_copy_179 ?_
                                  obtain ⟨hc22, hw⟩ := hw
                                  refine x_last (f := items_126) hC hI 8 rfl hc22 dX11_copy_180 (fun H locs hI => ?_)
                                  have hI : wI s D A (fl [wMo K h st past acts image ipast iacts tape tmany laneOf sizeOf (vp_updL items_126 ((((30 : Int32) * a3) + a4) + t_150).toNatClampNeg (items_126 ((((30 : Int32) * a1) + a2) + t_150).toNatClampNeg)) seaFirst worstOf farTo stepsTo needs nmany mat told]) H locs := hI
                                  obtain ⟨x23, ex23⟩ : ∃ y : Int32, y = l7_126 + 1 := ⟨_, rfl⟩
                                  replace hw := hw x23 ex23
                                  refine lv_iinc (v := x23) (lv' := [(7, .int x23), (8, .int t_150), (0, .ref (h 0)), (1, .int a1), (2, .int a2), (3, .int a3), (4, .int a4), (5, .int a5), (6, .int t_121)]) hx hb dX11_copy_181 hl (k := 8) rfl (by rw [ex23]; rfl) (by decide) rfl (fun ls hl => ?_)
                                  refine lv_goto (tgt := 126) hx hb dX11_copy_184 (by decide) ?_
                                  exact ih126 x23 (vp_updL items_126 ((((30 : Int32) * a3) + a4) + t_150).toNatClampNeg (items_126 ((((30 : Int32) * a1) + a2) + t_150).toNatClampNeg)) ls H locs (Nat.lt_of_lt_of_le hw.2 (Nat.le_of_lt_succ hmu126)) hw.1 hI (lv_sub hl [2, 3, 4, 5, 6, 7, 8, 0] rfl)
                                refine lv_if_eq (tgt := 148) hx hb dX11_copy_135 (by decide) (fun c24 => ?_) (fun c24 => ?_)
                                · replace hw := hw.1 c24
                                  refine lv_iload hx hb dX11_copy_148 (lv_at hl 7 rfl) ?_
                                  exact jn150 l7_126 ls H locs hw hI (lv_sub hl [0, 1, 2, 3, 4, 5, 6, 7] rfl)
                                · replace hw := hw.2 c24
                                  refine lv_iload hx hb dX11_copy_138 (lv_at hl 5 rfl) ?_
                                  refine lv_iconst (v := (1 : Int32)) hx hb dX11_copy_140 (by decide) ?_
                                  refine lv_isub hx hb dX11_copy_141 ?_
                                  refine lv_iload hx hb dX11_copy_142 (lv_at hl 7 rfl) ?_
                                  refine lv_isub hx hb dX11_copy_144 ?_
                                  refine lv_goto (tgt := 150) hx hb dX11_copy_145 (by decide) ?_
                                  exact jn150 ((a5 - (1 : Int32)) - l7_126) ls H locs hw hI (lv_sub hl [0, 1, 2, 3, 4, 5, 6, 7] rfl)
                          exact lp126 (mu126 (0 : Int32) items + 1) (0 : Int32) items ls H locs (Nat.lt_succ_self _) hw hI (lv_sub hl [2, 3, 4, 5, 6, 7, 1, 0] rfl)
                        refine lv_icmp_le (tgt := 120) hx hb dX11_copy_113 (by decide) (fun c25 => ?_) (fun c25 => ?_)
                        · replace hw := hw.1 c25
                          refine lv_iconst (v := (0 : Int32)) hx hb dX11_copy_120 (by decide) ?_
                          exact jn121 (0 : Int32) ls H locs hw hI (lv_sub hl [0, 1, 2, 3, 4, 5] rfl)
                        · replace hw := hw.2 c25
                          refine lv_iconst (v := (1 : Int32)) hx hb dX11_copy_116 (by decide) ?_
                          refine lv_goto (tgt := 121) hx hb dX11_copy_117 (by decide) ?_
                          exact jn121 (1 : Int32) ls H locs hw hI (lv_sub hl [0, 1, 2, 3, 4, 5] rfl)
                      · replace hw := hw.2 c19
                        refine lv_bipush (v := (-13 : Int32)) hx hb dX11_copy_107 (by decide) ?_
                        subst hQ
                        exact x_iret (u := items) hC hI hr hlk hw rfl dX11_copy_109
          · replace hw := hw.2 c11
            refine lv_bipush (v := (-12 : Int32)) hx hb dX11_copy_56 (by decide) ?_
            subst hQ
            exact x_iret (u := items) hC hI hr hlk hw rfl dX11_copy_58
        · replace hw := hw.2 c8
          refine lv_bipush (v := (-11 : Int32)) hx hb dX11_copy_38 (by decide) ?_
          subst hQ
          exact x_iret (u := items) hC hI hr hlk hw rfl dX11_copy_40
    · replace hw := hw.1 c4
      refine lv_iconst (v := (-1 : Int32)) hx hb dX11_copy_18 (by decide) ?_
      subst hQ
      exact x_iret (u := items) hC hI hr hlk hw rfl dX11_copy_19
