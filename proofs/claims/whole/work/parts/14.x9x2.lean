def wX2_gather  (bits : Nat → Int64) (strips : Int32) (caps : Int32) (post : Int32 → Int32 → Int32 → Prop) : Prop := wX0_width strips (fun (r1 : Int32) => (∃ (I22 : Int32 → Int32 → Int32 → Int32 → Prop) (mu22 : Int32 → Int32 → Int32 → Int32 → Nat), I22 (0 : Int32) (0 : Int32) (0 : Int32) (0 : Int32) ∧ ∀ (l3_22 : Int32) (needed_22 : Int32) (ocut_22 : Int32) (opole_22 : Int32), I22 l3_22 needed_22 ocut_22 opole_22 → (((266 : Int32) ≤ l3_22 → post needed_22 ocut_22 opole_22) ∧ (¬ (266 : Int32) ≤ l3_22 → wX0_isLand l3_22 bits (fun (r3 : Int32) => ((r3 = 0 → ∀ x5 : Int32, x5 = l3_22 + 1 → (I22 x5 needed_22 ocut_22 opole_22 ∧ mu22 x5 needed_22 ocut_22 opole_22 < mu22 l3_22 needed_22 ocut_22 opole_22)) ∧ (¬ r3 = 0 → wX1_rowOf l3_22 (fun (r6 : Int32) => wX0_isOnStrips r6 caps (fun (r7 : Int32) => ((r7 = 0 → ∀ x21 : Int32, x21 = l3_22 + 1 → (I22 x21 needed_22 ocut_22 opole_22 ∧ mu22 x21 needed_22 ocut_22 opole_22 < mu22 l3_22 needed_22 ocut_22 opole_22)) ∧ (¬ r7 = 0 → wX1_stepOf l3_22 (fun (r9 : Int32) => wX1_isPole l3_22 (fun (r10 : Int32) => ((r10 = 0 → ¬ r1 = 0 ∧ (((r9 - r9 / r1 * r1) = 0 → ¬ r1 = 0 ∧ ∀ x18 : Int32, x18 = ocut_22 ||| ((1 : Int32) <<< ((r9 / r1) &&& 31)) → ∀ x19 : Int32, x19 = l3_22 + 1 → (I22 x19 needed_22 x18 opole_22 ∧ mu22 x19 needed_22 x18 opole_22 < mu22 l3_22 needed_22 ocut_22 opole_22)) ∧ (¬ (r9 - r9 / r1 * r1) = 0 → ¬ r1 = 0 ∧ ∀ x15 : Int32, x15 = needed_22 ||| ((1 : Int32) <<< ((r9 / r1) &&& 31)) → ∀ x16 : Int32, x16 = l3_22 + 1 → (I22 x16 x15 ocut_22 opole_22 ∧ mu22 x16 x15 ocut_22 opole_22 < mu22 l3_22 needed_22 ocut_22 opole_22)))) ∧ (¬ r10 = 0 → ∀ x20 : Int32, x20 = l3_22 + 1 → (I22 x20 needed_22 ocut_22 (1 : Int32) ∧ mu22 x20 needed_22 ocut_22 (1 : Int32) < mu22 l3_22 needed_22 ocut_22 opole_22))))))))))))))))
def rmX2_gather : Room := { frames := 2, cells := 0, slots := 0, locals := 44 }
theorem kX2_gather_0 : Cond.fieldLink RX2 29 "GoreGlobe$Odds" "needed" "I" ∈ wsX2_gather := List.mem_cons_of_mem _ (List.mem_append_left _ (List.mem_append_left _ (List.mem_append_left _ (List.mem_of_getElem? (i := 0) rfl))))
theorem kX2_gather_cX2 : ∀ w ∈ wsX20, w ∈ wsX2_gather := fun _ h => List.mem_cons_of_mem _ (List.mem_append_left _ (List.mem_append_right _ h))
theorem kX2_gather_2 : Cond.fieldLink RX2 32 "GoreGlobe$Odds" "cut" "I" ∈ wsX2_gather := List.mem_cons_of_mem _ (List.mem_append_left _ (List.mem_append_left _ (List.mem_append_left _ (List.mem_of_getElem? (i := 1) rfl))))
theorem kX2_gather_3 : Cond.fieldLink RX2 25 "GoreGlobe$Odds" "poleIsLand" "Z" ∈ wsX2_gather := List.mem_cons_of_mem _ (List.mem_append_left _ (List.mem_append_left _ (List.mem_append_left _ (List.mem_of_getElem? (i := 2) rfl))))
set_option maxHeartbeats 4000000 in
set_option maxRecDepth 100000 in
theorem mX2_gather (l : Launch) (D : va_G) (K : Nat → ClassId) (h0 : Nat → Nat) (h1 : Nat → Nat) (sz : Nat)  (abv : Int64) (blw : Int64) (needed : Int32) (ocut : Int32) (opole : Int32) (bits : Nat → Int64) (stops : Nat → Int32) (num : Int32) (unit : Int32) (strips : Int32) (caps : Int32) (draw : Int32)  {post : Int32 → Int32 → Int32 → Prop} (hw : wX2_gather  bits strips caps post) : Met l yX2_gather wsX2_gather rmX2_gather (va_Pc [.ref (h0 0), .ref (h1 0)] (cP D K (fl [wOd K h0 abv blw needed ocut opole, wGl K h1 (bits, stops, num, unit, strips, caps, draw)]) sz)) (va_Qv (fun (u : Int32 × Int32 × Int32) => post u.1 u.2.1 u.2.2) (fun u t => cQ D K (fl [wOd K h0 abv blw u.1 u.2.1 u.2.2, wGl K h1 (bits, stops, num, unit, strips, caps, draw)]) (va_A (fl [wOd K h0 abv blw needed ocut opole, wGl K h1 (bits, stops, num, unit, strips, caps, draw)]) sz) t) (va_A (fl [wOd K h0 abv blw needed ocut opole, wGl K h1 (bits, stops, num, unit, strips, caps, draw)]) sz)) 0 0 (va_A (fl [wOd K h0 abv blw needed ocut opole, wGl K h1 (bits, stops, num, unit, strips, caps, draw)]) sz) := by
  refine x_entry (cc := cX2_gather) (maxL := 5) (ret := none) (QA := fun A => va_Qv (fun (u : Int32 × Int32 × Int32) => post u.1 u.2.1 u.2.2) (fun u t => cQ D K (fl [wOd K h0 abv blw u.1 u.2.1 u.2.2, wGl K h1 (bits, stops, num, unit, strips, caps, draw)]) A t) A) (plainFor_of_name (by decide)) rfl (Nat.le_of_ble_eq_true rfl) ?_
  intro p e s m args below meth c A ls H Q hQ hC hlk hr hnm hI hl
  obtain ⟨hx, hb, hml, hown, hts, hK, hA, hZ⟩ := id hC
  obtain ⟨locs, hlocs⟩ : ∃ y : List Loc, y = [] := ⟨_, rfl⟩
  rw [← hlocs] at hI ⊢
  clear hlocs
  replace hl : lv_has ls 5 [(0, .ref (h0 0)), (1, .ref (h1 0))] := hl
  replace hw : wX0_width strips (fun (r1 : Int32) => (∃ (I22 : Int32 → Int32 → Int32 → Int32 → Prop) (mu22 : Int32 → Int32 → Int32 → Int32 → Nat), I22 (0 : Int32) (0 : Int32) (0 : Int32) (0 : Int32) ∧ ∀ (l3_22 : Int32) (needed_22 : Int32) (ocut_22 : Int32) (opole_22 : Int32), I22 l3_22 needed_22 ocut_22 opole_22 → (((266 : Int32) ≤ l3_22 → post needed_22 ocut_22 opole_22) ∧ (¬ (266 : Int32) ≤ l3_22 → wX0_isLand l3_22 bits (fun (r3 : Int32) => ((r3 = 0 → ∀ x5 : Int32, x5 = l3_22 + 1 → (I22 x5 needed_22 ocut_22 opole_22 ∧ mu22 x5 needed_22 ocut_22 opole_22 < mu22 l3_22 needed_22 ocut_22 opole_22)) ∧ (¬ r3 = 0 → wX1_rowOf l3_22 (fun (r6 : Int32) => wX0_isOnStrips r6 caps (fun (r7 : Int32) => ((r7 = 0 → ∀ x21 : Int32, x21 = l3_22 + 1 → (I22 x21 needed_22 ocut_22 opole_22 ∧ mu22 x21 needed_22 ocut_22 opole_22 < mu22 l3_22 needed_22 ocut_22 opole_22)) ∧ (¬ r7 = 0 → wX1_stepOf l3_22 (fun (r9 : Int32) => wX1_isPole l3_22 (fun (r10 : Int32) => ((r10 = 0 → ¬ r1 = 0 ∧ (((r9 - r9 / r1 * r1) = 0 → ¬ r1 = 0 ∧ ∀ x18 : Int32, x18 = ocut_22 ||| ((1 : Int32) <<< ((r9 / r1) &&& 31)) → ∀ x19 : Int32, x19 = l3_22 + 1 → (I22 x19 needed_22 x18 opole_22 ∧ mu22 x19 needed_22 x18 opole_22 < mu22 l3_22 needed_22 ocut_22 opole_22)) ∧ (¬ (r9 - r9 / r1 * r1) = 0 → ¬ r1 = 0 ∧ ∀ x15 : Int32, x15 = needed_22 ||| ((1 : Int32) <<< ((r9 / r1) &&& 31)) → ∀ x16 : Int32, x16 = l3_22 + 1 → (I22 x16 x15 ocut_22 opole_22 ∧ mu22 x16 x15 ocut_22 opole_22 < mu22 l3_22 needed_22 ocut_22 opole_22)))) ∧ (¬ r10 = 0 → ∀ x20 : Int32, x20 = l3_22 + 1 → (I22 x20 needed_22 ocut_22 (1 : Int32) ∧ mu22 x20 needed_22 ocut_22 (1 : Int32) < mu22 l3_22 needed_22 ocut_22 opole_22)))))))))))))))) := hw
  refine lv_aload_n hx hb dX2_gather_0 rfl (lv_at hl 0 rfl) ?_
  refine lv_iconst (v := (0 : Int32)) hx hb dX2_gather_1 (by decide) ?_
  refine x_put (v := .int (0 : Int32)) hC hI kX2_gather_cX2 tyX2 tyX2_ok nmX2 0 rfl rfl 2 (by decide) kX2_gather_0 rfl rfl rfl rfl (Nat.le_of_ble_eq_true rfl) dX2_gather_2 (fun H locs hI => ?_)
  have hI : wI s D A (fl [wOd K h0 abv blw (0 : Int32) ocut opole, wGl K h1 (bits, stops, num, unit, strips, caps, draw)]) H locs := hI
  refine lv_aload_n hx hb dX2_gather_5 rfl (lv_at hl 0 rfl) ?_
  refine lv_iconst (v := (0 : Int32)) hx hb dX2_gather_6 (by decide) ?_
  refine x_put (v := .int (0 : Int32)) hC hI kX2_gather_cX2 tyX2 tyX2_ok nmX2 0 rfl rfl 3 (by decide) kX2_gather_2 rfl rfl rfl rfl (Nat.le_of_ble_eq_true rfl) dX2_gather_7 (fun H locs hI => ?_)
  have hI : wI s D A (fl [wOd K h0 abv blw (0 : Int32) (0 : Int32) opole, wGl K h1 (bits, stops, num, unit, strips, caps, draw)]) H locs := hI
  refine lv_aload_n hx hb dX2_gather_10 rfl (lv_at hl 0 rfl) ?_
  refine lv_iconst (v := (0 : Int32)) hx hb dX2_gather_11 (by decide) ?_
  refine x_put (v := .int (0 : Int32)) hC hI kX2_gather_cX2 tyX2 tyX2_ok nmX2 0 rfl rfl 4 (by decide) kX2_gather_3 rfl rfl rfl rfl (Nat.le_of_ble_eq_true rfl) dX2_gather_12 (fun H locs hI => ?_)
  have hI : wI s D A (fl [wOd K h0 abv blw (0 : Int32) (0 : Int32) (0 : Int32), wGl K h1 (bits, stops, num, unit, strips, caps, draw)]) H locs := hI
  refine lv_aload_n hx hb dX2_gather_15 rfl (lv_at hl 1 rfl) ?_
  refine x_callVi (rest := []) hC hI [1] (mX0_width l D K h1 _ bits stops num unit strips caps draw hw) (cwV 0 hts gX2_gather_X0_width rfl rfl rfl (by decide +kernel) ⟨(Nat.le_of_ble_eq_true rfl), (Nat.le_of_ble_eq_true rfl)⟩) (by decide) rfl (fun _ => rfl) 1 0 rfl rfl rfl rfl hl.1 rfl (Nat.le_of_ble_eq_true rfl) dX2_gather_16 ⟨(Nat.le_of_ble_eq_true rfl), (Nat.le_of_ble_eq_true rfl)⟩ (fun r1 u H locs hw hI => ?_)
  try dsimp only at hw
  have hI : wI s D A (fl [wOd K h0 abv blw (0 : Int32) (0 : Int32) (0 : Int32), wGl K h1 (bits, stops, num, unit, strips, caps, draw)]) H locs := hI
  refine lv_istore_n (lv' := [(2, .int r1), (0, .ref (h0 0)), (1, .ref (h1 0))]) hx hb dX2_gather_19 rfl hl (by decide) rfl (fun ls hl => ?_)
  refine lv_iconst (v := (0 : Int32)) hx hb dX2_gather_20 (by decide) ?_
  refine lv_istore_n (lv' := [(3, .int (0 : Int32)), (2, .int r1), (0, .ref (h0 0)), (1, .ref (h1 0))]) hx hb dX2_gather_21 rfl hl (by decide) rfl (fun ls hl => ?_)
  obtain ⟨I22, mu22, hw, hb22⟩ := hw
  have lp22 : ∀ (k : Nat) (l3_22 : Int32) (needed_22 : Int32) (ocut_22 : Int32) (opole_22 : Int32) (ls : Array Slot) (H : Heap) (locs : List Loc), mu22 l3_22 needed_22 ocut_22 opole_22 < k → I22 l3_22 needed_22 ocut_22 opole_22 → wI s D A (fl [wOd K h0 abv blw needed_22 ocut_22 opole_22, wGl K h1 (bits, stops, num, unit, strips, caps, draw)]) H locs → lv_has ls 5 [(0, .ref (h0 0)), (1, .ref (h1 0)), (2, .int r1), (3, .int l3_22)] → W p l e rmX2_gather s m args below meth c H locs 0 0 Q (F0 m 22 ls []) := by
    intro k
    induction k with
    | zero => intro l3_22 needed_22 ocut_22 opole_22 ls H locs hmu; exact absurd hmu (Nat.not_lt_zero _)
    | succ k ih22 =>
      intro l3_22 needed_22 ocut_22 opole_22 ls H locs hmu22 hw hI hl
      replace hw := hb22 l3_22 needed_22 ocut_22 opole_22 hw
      refine lv_iload_n hx hb dX2_gather_22 rfl (lv_at hl 3 rfl) ?_
      refine lv_sipush (v := (266 : Int32)) hx hb dX2_gather_23 (by decide) ?_
      refine lv_icmp_ge (tgt := 118) hx hb dX2_gather_26 (by decide) (fun c2 => ?_) (fun c2 => ?_)
      · replace hw := hw.1 c2
        subst hQ
        exact x_vret (u := (needed_22, ocut_22, opole_22)) hC hI hr hlk hw rfl dX2_gather_118
      · replace hw := hw.2 c2
        refine lv_aload_n hx hb dX2_gather_29 rfl (lv_at hl 1 rfl) ?_
        refine lv_iload_n hx hb dX2_gather_30 rfl (lv_at hl 3 rfl) ?_
        refine x_callVi (rest := []) hC hI [1] (mX0_isLand l D K h1 _ l3_22 bits stops num unit strips caps draw hw) (cwV 1 hts gX2_gather_X0_isLand rfl rfl rfl (by decide +kernel) ⟨(Nat.le_of_ble_eq_true rfl), (Nat.le_of_ble_eq_true rfl)⟩) (by decide) rfl (fun _ => rfl) 1 0 rfl rfl rfl rfl hl.1 rfl (Nat.le_of_ble_eq_true rfl) dX2_gather_31 ⟨(Nat.le_of_ble_eq_true rfl), (Nat.le_of_ble_eq_true rfl)⟩ (fun r3 u H locs hw hI => ?_)
        try dsimp only at hw
        have hI : wI s D A (fl [wOd K h0 abv blw needed_22 ocut_22 opole_22, wGl K h1 (bits, stops, num, unit, strips, caps, draw)]) H locs := hI
        refine lv_if_eq (tgt := 112) hx hb dX2_gather_34 (by decide) (fun c4 => ?_) (fun c4 => ?_)
        · replace hw := hw.1 c4
          obtain ⟨x5, ex5⟩ : ∃ y : Int32, y = l3_22 + 1 := ⟨_, rfl⟩
          replace hw := hw x5 ex5
          refine lv_iinc (v := x5) (lv' := [(3, .int x5), (0, .ref (h0 0)), (1, .ref (h1 0)), (2, .int r1)]) hx hb dX2_gather_112 hl (k := 3) rfl (by rw [ex5]; rfl) (by decide) rfl (fun ls hl => ?_)
          refine lv_goto (tgt := 22) hx hb dX2_gather_115 (by decide) ?_
          exact ih22 x5 needed_22 ocut_22 opole_22 ls H locs (Nat.lt_of_lt_of_le hw.2 (Nat.le_of_lt_succ hmu22)) hw.1 hI (lv_sub hl [1, 2, 3, 0] rfl)
        · replace hw := hw.2 c4
          refine lv_aload_n hx hb dX2_gather_37 rfl (lv_at hl 1 rfl) ?_
          refine lv_iload_n hx hb dX2_gather_38 rfl (lv_at hl 3 rfl) ?_
          refine x_callSi (rest := [.ref (h1 0)]) hC hI [] (mX1_rowOf l D K  _ l3_22 hw) (va_cwS 1 hts gX2_gather_X1_rowOf rfl rfl rfl (by decide +kernel) ⟨(Nat.le_of_ble_eq_true rfl), (Nat.le_of_ble_eq_true rfl)⟩) (by decide) rfl (fun _ => rfl) rfl hl.1 rfl (Nat.le_of_ble_eq_true rfl) dX2_gather_39 ⟨(Nat.le_of_ble_eq_true rfl), (Nat.le_of_ble_eq_true rfl)⟩ (fun r6 u H locs hw hI => ?_)
          try dsimp only at hw
          have hI : wI s D A (fl [wOd K h0 abv blw needed_22 ocut_22 opole_22, wGl K h1 (bits, stops, num, unit, strips, caps, draw)]) H locs := hI
          refine x_callVi (rest := []) hC hI [1] (mX0_isOnStrips l D K h1 _ r6 bits stops num unit strips caps draw hw) (cwV 1 hts gX2_gather_X0_isOnStrips rfl rfl rfl (by decide +kernel) ⟨(Nat.le_of_ble_eq_true rfl), (Nat.le_of_ble_eq_true rfl)⟩) (by decide) rfl (fun _ => rfl) 1 0 rfl rfl rfl rfl hl.1 rfl (Nat.le_of_ble_eq_true rfl) dX2_gather_42 ⟨(Nat.le_of_ble_eq_true rfl), (Nat.le_of_ble_eq_true rfl)⟩ (fun r7 u H locs hw hI => ?_)
          try dsimp only at hw
          have hI : wI s D A (fl [wOd K h0 abv blw needed_22 ocut_22 opole_22, wGl K h1 (bits, stops, num, unit, strips, caps, draw)]) H locs := hI
          refine lv_if_ne (tgt := 51) hx hb dX2_gather_45 (by decide) (fun c8 => ?_) (fun c8 => ?_)
          · replace hw := hw.2 c8
            refine lv_iload_n hx hb dX2_gather_51 rfl (lv_at hl 3 rfl) ?_
            refine x_callSi (rest := []) hC hI [] (mX1_stepOf l D K  _ l3_22 hw) (va_cwS 1 hts gX2_gather_X1_stepOf rfl rfl rfl (by decide +kernel) ⟨(Nat.le_of_ble_eq_true rfl), (Nat.le_of_ble_eq_true rfl)⟩) (by decide) rfl (fun _ => rfl) rfl hl.1 rfl (Nat.le_of_ble_eq_true rfl) dX2_gather_52 ⟨(Nat.le_of_ble_eq_true rfl), (Nat.le_of_ble_eq_true rfl)⟩ (fun r9 u H locs hw hI => ?_)
            try dsimp only at hw
            have hI : wI s D A (fl [wOd K h0 abv blw needed_22 ocut_22 opole_22, wGl K h1 (bits, stops, num, unit, strips, caps, draw)]) H locs := hI
            refine lv_istore (lv' := [(4, .int r9), (0, .ref (h0 0)), (1, .ref (h1 0)), (2, .int r1), (3, .int l3_22)]) hx hb dX2_gather_55 hl (by decide) rfl (fun ls hl => ?_)
            refine lv_iload_n hx hb dX2_gather_57 rfl (lv_at hl 4 rfl) ?_
            refine x_callSi (rest := []) hC hI [] (mX1_isPole l D K  _ l3_22 hw) (va_cwS 1 hts gX2_gather_X1_isPole rfl rfl rfl (by decide +kernel) ⟨(Nat.le_of_ble_eq_true rfl), (Nat.le_of_ble_eq_true rfl)⟩) (by decide) rfl (fun _ => rfl) rfl hl.1 rfl (Nat.le_of_ble_eq_true rfl) dX2_gather_58 ⟨(Nat.le_of_ble_eq_true rfl), (Nat.le_of_ble_eq_true rfl)⟩ (fun r10 u H locs hw hI => ?_)
            try dsimp only at hw
            have hI : wI s D A (fl [wOd K h0 abv blw needed_22 ocut_22 opole_22, wGl K h1 (bits, stops, num, unit, strips, caps, draw)]) H locs := hI
            refine lv_if_eq (tgt := 72) hx hb dX2_gather_61 (by decide) (fun c11 => ?_) (fun c11 => ?_)
            · replace hw := hw.1 c11
              refine lv_iload hx hb dX2_gather_72 (lv_at hl 0 rfl) ?_
              refine lv_iload_n hx hb dX2_gather_74 rfl (lv_at hl 3 rfl) ?_
              obtain ⟨hc12, hw⟩ := hw
              refine lv_irem hx hb dX2_gather_75 hc12 ?_
              refine lv_if_ne (tgt := 97) hx hb dX2_gather_76 (by decide) (fun c13 => ?_) (fun c13 => ?_)
              · replace hw := hw.2 c13
                refine lv_aload_n hx hb dX2_gather_97 rfl (lv_at hl 1 rfl) ?_
                refine lv_dup hx hb dX2_gather_98 rfl ?_
                refine x_get (v := .int needed_22) hC hI kX2_gather_cX2 0 rfl rfl 2 (by decide) kX2_gather_0 rfl rfl dX2_gather_99 ?_
                refine lv_iconst (v := (1 : Int32)) hx hb dX2_gather_102 (by decide) ?_
                refine lv_iload hx hb dX2_gather_103 (lv_at hl 0 rfl) ?_
                refine lv_iload_n hx hb dX2_gather_105 rfl (lv_at hl 3 rfl) ?_
                obtain ⟨hc14, hw⟩ := hw
                refine lv_idiv hx hb dX2_gather_106 hc14 ?_
                refine lv_ishl hx hb dX2_gather_107 ?_
                refine lv_ior hx hb dX2_gather_108 ?_
                refine lv_topi (fun x15 ex15 => ?_)
                replace hw := hw x15 ex15
                refine x_put (v := .int x15) hC hI kX2_gather_cX2 tyX2 tyX2_ok nmX2 0 rfl rfl 2 (by decide) kX2_gather_0 rfl rfl rfl rfl (Nat.le_of_ble_eq_true rfl) dX2_gather_109 (fun H locs hI => ?_)
                have hI : wI s D A (fl [wOd K h0 abv blw x15 ocut_22 opole_22, wGl K h1 (bits, stops, num, unit, strips, caps, draw)]) H locs := hI
                obtain ⟨x16, ex16⟩ : ∃ y : Int32, y = l3_22 + 1 := ⟨_, rfl⟩
                replace hw := hw x16 ex16
                refine lv_iinc (v := x16) (lv' := [(3, .int x16), (4, .int r9), (0, .ref (h0 0)), (1, .ref (h1 0)), (2, .int r1)]) hx hb dX2_gather_112 hl (k := 4) rfl (by rw [ex16]; rfl) (by decide) rfl (fun ls hl => ?_)
                refine lv_goto (tgt := 22) hx hb dX2_gather_115 (by decide) ?_
                exact ih22 x16 x15 ocut_22 opole_22 ls H locs (Nat.lt_of_lt_of_le hw.2 (Nat.le_of_lt_succ hmu22)) hw.1 hI (lv_sub hl [2, 3, 4, 0] rfl)
              · replace hw := hw.1 c13
                refine lv_aload_n hx hb dX2_gather_79 rfl (lv_at hl 1 rfl) ?_
                refine lv_dup hx hb dX2_gather_80 rfl ?_
                refine x_get (v := .int ocut_22) hC hI kX2_gather_cX2 0 rfl rfl 3 (by decide) kX2_gather_2 rfl rfl dX2_gather_81 ?_
                refine lv_iconst (v := (1 : Int32)) hx hb dX2_gather_84 (by decide) ?_
                refine lv_iload hx hb dX2_gather_85 (lv_at hl 0 rfl) ?_
                refine lv_iload_n hx hb dX2_gather_87 rfl (lv_at hl 3 rfl) ?_
                obtain ⟨hc17, hw⟩ := hw
                refine lv_idiv hx hb dX2_gather_88 hc17 ?_
                refine lv_ishl hx hb dX2_gather_89 ?_
                refine lv_ior hx hb dX2_gather_90 ?_
                refine lv_topi (fun x18 ex18 => ?_)
                replace hw := hw x18 ex18
                refine x_put (v := .int x18) hC hI kX2_gather_cX2 tyX2 tyX2_ok nmX2 0 rfl rfl 3 (by decide) kX2_gather_2 rfl rfl rfl rfl (Nat.le_of_ble_eq_true rfl) dX2_gather_91 (fun H locs hI => ?_)
                have hI : wI s D A (fl [wOd K h0 abv blw needed_22 x18 opole_22, wGl K h1 (bits, stops, num, unit, strips, caps, draw)]) H locs := hI
                refine lv_goto (tgt := 112) hx hb dX2_gather_94 (by decide) ?_
                obtain ⟨x19, ex19⟩ : ∃ y : Int32, y = l3_22 + 1 := ⟨_, rfl⟩
                replace hw := hw x19 ex19
                refine lv_iinc (v := x19) (lv' := [(3, .int x19), (4, .int r9), (0, .ref (h0 0)), (1, .ref (h1 0)), (2, .int r1)]) hx hb dX2_gather_112 hl (k := 4) rfl (by rw [ex19]; rfl) (by decide) rfl (fun ls hl => ?_)
                refine lv_goto (tgt := 22) hx hb dX2_gather_115 (by decide) ?_
                exact ih22 x19 needed_22 x18 opole_22 ls H locs (Nat.lt_of_lt_of_le hw.2 (Nat.le_of_lt_succ hmu22)) hw.1 hI (lv_sub hl [2, 3, 4, 0] rfl)
            · replace hw := hw.2 c11
              refine lv_aload_n hx hb dX2_gather_64 rfl (lv_at hl 1 rfl) ?_
              refine lv_iconst (v := (1 : Int32)) hx hb dX2_gather_65 (by decide) ?_
              refine x_put (v := .int (1 : Int32)) hC hI kX2_gather_cX2 tyX2 tyX2_ok nmX2 0 rfl rfl 4 (by decide) kX2_gather_3 rfl rfl rfl rfl (Nat.le_of_ble_eq_true rfl) dX2_gather_66 (fun H locs hI => ?_)
              have hI : wI s D A (fl [wOd K h0 abv blw needed_22 ocut_22 (1 : Int32), wGl K h1 (bits, stops, num, unit, strips, caps, draw)]) H locs := hI
              refine lv_goto (tgt := 112) hx hb dX2_gather_69 (by decide) ?_
              obtain ⟨x20, ex20⟩ : ∃ y : Int32, y = l3_22 + 1 := ⟨_, rfl⟩
              replace hw := hw x20 ex20
              refine lv_iinc (v := x20) (lv' := [(3, .int x20), (4, .int r9), (0, .ref (h0 0)), (1, .ref (h1 0)), (2, .int r1)]) hx hb dX2_gather_112 hl (k := 4) rfl (by rw [ex20]; rfl) (by decide) rfl (fun ls hl => ?_)
              refine lv_goto (tgt := 22) hx hb dX2_gather_115 (by decide) ?_
              exact ih22 x20 needed_22 ocut_22 (1 : Int32) ls H locs (Nat.lt_of_lt_of_le hw.2 (Nat.le_of_lt_succ hmu22)) hw.1 hI (lv_sub hl [2, 3, 4, 0] rfl)
          · replace hw := hw.1 c8
            refine lv_goto (tgt := 112) hx hb dX2_gather_48 (by decide) ?_
            obtain ⟨x21, ex21⟩ : ∃ y : Int32, y = l3_22 + 1 := ⟨_, rfl⟩
            replace hw := hw x21 ex21
            refine lv_iinc (v := x21) (lv' := [(3, .int x21), (0, .ref (h0 0)), (1, .ref (h1 0)), (2, .int r1)]) hx hb dX2_gather_112 hl (k := 3) rfl (by rw [ex21]; rfl) (by decide) rfl (fun ls hl => ?_)
            refine lv_goto (tgt := 22) hx hb dX2_gather_115 (by decide) ?_
            exact ih22 x21 needed_22 ocut_22 opole_22 ls H locs (Nat.lt_of_lt_of_le hw.2 (Nat.le_of_lt_succ hmu22)) hw.1 hI (lv_sub hl [1, 2, 3, 0] rfl)
  exact lp22 (mu22 (0 : Int32) (0 : Int32) (0 : Int32) (0 : Int32) + 1) (0 : Int32) (0 : Int32) (0 : Int32) (0 : Int32) ls H locs (Nat.lt_succ_self _) hw hI (lv_sub hl [2, 3, 1, 0] rfl)

def wX2_hasBit (a0 : Int32) (a1 : Int32)  (post : Int32 → Prop) : Prop := ((((a0 >>> (a1 &&& 31)) &&& (1 : Int32)) = 0 → post (0 : Int32)) ∧ (¬ ((a0 >>> (a1 &&& 31)) &&& (1 : Int32)) = 0 → post (1 : Int32)))
def rmX2_hasBit : Room := { frames := 0, cells := 0, slots := 0, locals := 0 }
set_option maxHeartbeats 4000000 in
set_option maxRecDepth 100000 in
theorem mX2_hasBit (l : Launch) (D : va_G) (K : Nat → ClassId)  (sz : Nat) (a0 : Int32) (a1 : Int32)   {post : Int32 → Prop} (hw : wX2_hasBit a0 a1  post) : Met l yX2_hasBit wsX2_hasBit rmX2_hasBit (va_Pc [.int a0, .int a1] (cP D K (fl []) sz)) (va_Qi (fun (r : Int32) (u : Unit) => post r) (fun u t => cQ D K (fl []) (va_A (fl []) sz) t) (va_A (fl []) sz)) 0 0 (va_A (fl []) sz) := by
  refine x_entry (cc := cX2_hasBit) (maxL := 2) (ret := (some .boolean)) (QA := fun A => va_Qi (fun (r : Int32) (u : Unit) => post r) (fun u t => cQ D K (fl []) A t) A) (plainFor_of_name (by decide)) rfl (Nat.le_of_ble_eq_true rfl) ?_
  intro p e s m args below meth c A ls H Q hQ hC hlk hr hnm hI hl
  obtain ⟨hx, hb, hml, hown, hts, hK, hA, hZ⟩ := id hC
  obtain ⟨locs, hlocs⟩ : ∃ y : List Loc, y = [] := ⟨_, rfl⟩
  rw [← hlocs] at hI ⊢
  clear hlocs
  replace hl : lv_has ls 2 [(0, .int a0), (1, .int a1)] := hl
  replace hw : ((((a0 >>> (a1 &&& 31)) &&& (1 : Int32)) = 0 → post (0 : Int32)) ∧ (¬ ((a0 >>> (a1 &&& 31)) &&& (1 : Int32)) = 0 → post (1 : Int32))) := hw
  refine lv_iload_n hx hb dX2_hasBit_0 rfl (lv_at hl 0 rfl) ?_
  refine lv_iload_n hx hb dX2_hasBit_1 rfl (lv_at hl 1 rfl) ?_
  refine lv_ishr hx hb dX2_hasBit_2 ?_
  refine lv_iconst (v := (1 : Int32)) hx hb dX2_hasBit_3 (by decide) ?_
  refine lv_iand hx hb dX2_hasBit_4 ?_
  refine lv_if_eq (tgt := 12) hx hb dX2_hasBit_5 (by decide) (fun c1 => ?_) (fun c1 => ?_)
  · replace hw := hw.1 c1
    refine lv_iconst (v := (0 : Int32)) hx hb dX2_hasBit_12 (by decide) ?_
    subst hQ
    exact x_zret (u := ()) hC hI hr hlk hw rfl (Or.inl rfl) dX2_hasBit_13
  · replace hw := hw.2 c1
    refine lv_iconst (v := (1 : Int32)) hx hb dX2_hasBit_8 (by decide) ?_
    refine lv_goto (tgt := 13) hx hb dX2_hasBit_9 (by decide) ?_
    subst hQ
    exact x_zret (u := ()) hC hI hr hlk hw rfl (Or.inr rfl) dX2_hasBit_13

def wX2_goodIfFirstIs (a1 : Int32) (a2 : Int32) (a3 : Int32) (needed : Int32) (ocut : Int32) (post : Int64 → Prop) : Prop := ∃ J13 : Int64 → Prop, (∀ (t_13 : Int64), J13 t_13 → ∃ J36 : Int64 → Prop, (∀ (t_36 : Int64), J36 t_36 → (∃ (I41 : Int64 → Int64 → Int32 → Prop) (mu41 : Int64 → Int64 → Int32 → Nat), I41 t_13 t_36 (1 : Int32) ∧ ∀ (l4_41 : Int64) (l6_41 : Int64) (l8_41 : Int32), I41 l4_41 l6_41 l8_41 → ((a2 ≤ l8_41 → ((a1 = 0 → wX2_hasBit ocut (0 : Int32) (fun (r3 : Int32) => ((r3 = 0 → post (l4_41 + l6_41)) ∧ (¬ r3 = 0 → post l4_41)))) ∧ (¬ a1 = 0 → post (l4_41 + l6_41)))) ∧ (¬ a2 ≤ l8_41 → wX2_hasBit ocut l8_41 (fun (r5 : Int32) => ∃ J69 : Int64 → Prop, (∀ (t_69 : Int64), J69 t_69 → ∀ x6 : Int64, x6 = (l4_41 + l6_41) * (((10 : Int32) - a3).toInt64) → wX2_hasBit needed l8_41 (fun (r7 : Int32) => ((r7 = 0 → ∀ x9 : Int64, x9 = t_69 * a3.toInt64 → ∀ x10 : Int32, x10 = l8_41 + 1 → (I41 x6 x9 x10 ∧ mu41 x6 x9 x10 < mu41 l4_41 l6_41 l8_41)) ∧ (¬ r7 = 0 → ∀ x11 : Int32, x11 = l8_41 + 1 → (I41 x6 (0 : Int64) x11 ∧ mu41 x6 (0 : Int64) x11 < mu41 l4_41 l6_41 l8_41))))) ∧ ((r5 = 0 → J69 (l4_41 + l6_41)) ∧ (¬ r5 = 0 → J69 l4_41))))))) ∧ ∃ J30 : Prop, (J30 → J36 (0 : Int64)) ∧ ((a1 = 0 → wX2_hasBit needed (0 : Int32) (fun (r14 : Int32) => ((r14 = 0 → J36 a3.toInt64) ∧ (¬ r14 = 0 → J30)))) ∧ (¬ a1 = 0 → J30))) ∧ ((a1 = 0 → J13 (0 : Int64)) ∧ (¬ a1 = 0 → J13 (((10 : Int32) - a3).toInt64)))
def rmX2_goodIfFirstIs : Room := { frames := 1, cells := 0, slots := 0, locals := 21 }
theorem kX2_goodIfFirstIs_0 : Cond.fieldLink RX2 32 "GoreGlobe$Odds" "cut" "I" ∈ wsX2_goodIfFirstIs := List.mem_cons_of_mem _ (List.mem_append_left _ (List.mem_of_getElem? (i := 1) rfl))
theorem kX2_goodIfFirstIs_cX2 : ∀ w ∈ wsX20, w ∈ wsX2_goodIfFirstIs := fun _ h => List.mem_cons_of_mem _ (List.mem_append_right _ h)
theorem kX2_goodIfFirstIs_2 : Cond.fieldLink RX2 29 "GoreGlobe$Odds" "needed" "I" ∈ wsX2_goodIfFirstIs := List.mem_cons_of_mem _ (List.mem_append_left _ (List.mem_of_getElem? (i := 0) rfl))
set_option maxHeartbeats 4000000 in
set_option maxRecDepth 100000 in
theorem mX2_goodIfFirstIs (l : Launch) (D : va_G) (K : Nat → ClassId) (h : Nat → Nat) (sz : Nat) (a1 : Int32) (a2 : Int32) (a3 : Int32) (abv : Int64) (blw : Int64) (needed : Int32) (ocut : Int32) (opole : Int32)  {post : Int64 → Prop} (hw : wX2_goodIfFirstIs a1 a2 a3 needed ocut post) : Met l yX2_goodIfFirstIs wsX2_goodIfFirstIs rmX2_goodIfFirstIs (va_Pc [.ref (h 0), .int a1, .int a2, .int a3] (cP D K (fl [wOd K h abv blw needed ocut opole]) sz)) (va_Ql (fun (r : Int64) (u : Unit) => post r) (fun u t => cQ D K (fl [wOd K h abv blw needed ocut opole]) (va_A (fl [wOd K h abv blw needed ocut opole]) sz) t) (va_A (fl [wOd K h abv blw needed ocut opole]) sz)) 0 0 (va_A (fl [wOd K h abv blw needed ocut opole]) sz) := by
  refine x_entry (cc := cX2_goodIfFirstIs) (maxL := 11) (ret := (some .long)) (QA := fun A => va_Ql (fun (r : Int64) (u : Unit) => post r) (fun u t => cQ D K (fl [wOd K h abv blw needed ocut opole]) A t) A) (plainFor_of_name (by decide)) rfl (Nat.le_of_ble_eq_true rfl) ?_
  intro p e s m args below meth c A ls H Q hQ hC hlk hr hnm hI hl
  obtain ⟨hx, hb, hml, hown, hts, hK, hA, hZ⟩ := id hC
  obtain ⟨locs, hlocs⟩ : ∃ y : List Loc, y = [] := ⟨_, rfl⟩
  rw [← hlocs] at hI ⊢
  clear hlocs
  replace hl : lv_has ls 11 [(0, .ref (h 0)), (1, .int a1), (2, .int a2), (3, .int a3)] := hl
  replace hw : ∃ J13 : Int64 → Prop, (∀ (t_13 : Int64), J13 t_13 → ∃ J36 : Int64 → Prop, (∀ (t_36 : Int64), J36 t_36 → (∃ (I41 : Int64 → Int64 → Int32 → Prop) (mu41 : Int64 → Int64 → Int32 → Nat), I41 t_13 t_36 (1 : Int32) ∧ ∀ (l4_41 : Int64) (l6_41 : Int64) (l8_41 : Int32), I41 l4_41 l6_41 l8_41 → ((a2 ≤ l8_41 → ((a1 = 0 → wX2_hasBit ocut (0 : Int32) (fun (r3 : Int32) => ((r3 = 0 → post (l4_41 + l6_41)) ∧ (¬ r3 = 0 → post l4_41)))) ∧ (¬ a1 = 0 → post (l4_41 + l6_41)))) ∧ (¬ a2 ≤ l8_41 → wX2_hasBit ocut l8_41 (fun (r5 : Int32) => ∃ J69 : Int64 → Prop, (∀ (t_69 : Int64), J69 t_69 → ∀ x6 : Int64, x6 = (l4_41 + l6_41) * (((10 : Int32) - a3).toInt64) → wX2_hasBit needed l8_41 (fun (r7 : Int32) => ((r7 = 0 → ∀ x9 : Int64, x9 = t_69 * a3.toInt64 → ∀ x10 : Int32, x10 = l8_41 + 1 → (I41 x6 x9 x10 ∧ mu41 x6 x9 x10 < mu41 l4_41 l6_41 l8_41)) ∧ (¬ r7 = 0 → ∀ x11 : Int32, x11 = l8_41 + 1 → (I41 x6 (0 : Int64) x11 ∧ mu41 x6 (0 : Int64) x11 < mu41 l4_41 l6_41 l8_41))))) ∧ ((r5 = 0 → J69 (l4_41 + l6_41)) ∧ (¬ r5 = 0 → J69 l4_41))))))) ∧ ∃ J30 : Prop, (J30 → J36 (0 : Int64)) ∧ ((a1 = 0 → wX2_hasBit needed (0 : Int32) (fun (r14 : Int32) => ((r14 = 0 → J36 a3.toInt64) ∧ (¬ r14 = 0 → J30)))) ∧ (¬ a1 = 0 → J30))) ∧ ((a1 = 0 → J13 (0 : Int64)) ∧ (¬ a1 = 0 → J13 (((10 : Int32) - a3).toInt64))) := hw
  refine lv_iload_n hx hb dX2_goodIfFirstIs_0 rfl (lv_at hl 1 rfl) ?_
  obtain ⟨J13, hJ13, hw⟩ := hw
  have jn13 : ∀ (t_13 : Int64) (ls : Array Slot) (H : Heap) (locs : List Loc), J13 t_13 → wI s D A (fl [wOd K h abv blw needed ocut opole]) H locs → lv_has ls 11 [(0, .ref (h 0)), (1, .int a1), (2, .int a2), (3, .int a3)] → W p l e rmX2_goodIfFirstIs s m args below meth c H locs 0 0 Q (F0 m 13 ls [.long t_13]) := by
    intro t_13 ls H locs hw hI hl
    replace hw := hJ13 t_13 hw
    refine lv_lstore (lv' := [(4, .long t_13), (0, .ref (h 0)), (1, .int a1), (2, .int a2), (3, .int a3)]) hx hb dX2_goodIfFirstIs_13 hl (by decide) rfl (fun ls hl => ?_)
    refine lv_iload_n hx hb dX2_goodIfFirstIs_15 rfl (lv_at hl 2 rfl) ?_
    obtain ⟨J36, hJ36, hw⟩ := hw
    have jn36 : ∀ (t_36 : Int64) (ls : Array Slot) (H : Heap) (locs : List Loc), J36 t_36 → wI s D A (fl [wOd K h abv blw needed ocut opole]) H locs → lv_has ls 11 [(0, .ref (h 0)), (1, .int a1), (2, .int a2), (3, .int a3), (4, .long t_13)] → W p l e rmX2_goodIfFirstIs s m args below meth c H locs 0 0 Q (F0 m 36 ls [.long t_36]) := by
      intro t_36 ls H locs hw hI hl
      replace hw := hJ36 t_36 hw
      refine lv_lstore (lv' := [(6, .long t_36), (0, .ref (h 0)), (1, .int a1), (2, .int a2), (3, .int a3), (4, .long t_13)]) hx hb dX2_goodIfFirstIs_36 hl (by decide) rfl (fun ls hl => ?_)
      refine lv_iconst (v := (1 : Int32)) hx hb dX2_goodIfFirstIs_38 (by decide) ?_
      refine lv_istore (lv' := [(8, .int (1 : Int32)), (6, .long t_36), (0, .ref (h 0)), (1, .int a1), (2, .int a2), (3, .int a3), (4, .long t_13)]) hx hb dX2_goodIfFirstIs_39 hl (by decide) rfl (fun ls hl => ?_)
      obtain ⟨I41, mu41, hw, hb41⟩ := hw
      have lp41 : ∀ (k : Nat) (l4_41 : Int64) (l6_41 : Int64) (l8_41 : Int32) (ls : Array Slot) (H : Heap) (locs : List Loc), mu41 l4_41 l6_41 l8_41 < k → I41 l4_41 l6_41 l8_41 → wI s D A (fl [wOd K h abv blw needed ocut opole]) H locs → lv_has ls 11 [(0, .ref (h 0)), (1, .int a1), (2, .int a2), (3, .int a3), (4, .long l4_41), (6, .long l6_41), (8, .int l8_41)] → W p l e rmX2_goodIfFirstIs s m args below meth c H locs 0 0 Q (F0 m 41 ls []) := by
        intro k
        induction k with
        | zero => intro l4_41 l6_41 l8_41 ls H locs hmu; exact absurd hmu (Nat.not_lt_zero _)
        | succ k ih41 =>
          intro l4_41 l6_41 l8_41 ls H locs hmu41 hw hI hl
          replace hw := hb41 l4_41 l6_41 l8_41 hw
          refine lv_iload hx hb dX2_goodIfFirstIs_41 (lv_at hl 6 rfl) ?_
          refine lv_iload_n hx hb dX2_goodIfFirstIs_43 rfl (lv_at hl 2 rfl) ?_
          refine lv_icmp_ge (tgt := 113) hx hb dX2_goodIfFirstIs_44 (by decide) (fun c1 => ?_) (fun c1 => ?_)
          · replace hw := hw.1 c1
            refine lv_iload_n hx hb dX2_goodIfFirstIs_113 rfl (lv_at hl 1 rfl) ?_
            refine lv_if_ne (tgt := 133) hx hb dX2_goodIfFirstIs_114 (by decide) (fun c2 => ?_) (fun c2 => ?_)
            · replace hw := hw.2 c2
              refine lv_lload hx hb dX2_goodIfFirstIs_133 (lv_at hl 4 rfl) ?_
              refine lv_lload hx hb dX2_goodIfFirstIs_135 (lv_at hl 5 rfl) ?_
              refine lv_ladd hx hb dX2_goodIfFirstIs_137 ?_
              subst hQ
              exact x_lret (u := ()) hC hI hr hlk hw rfl dX2_goodIfFirstIs_138
            · replace hw := hw.1 c2
              refine lv_aload_n hx hb dX2_goodIfFirstIs_117 rfl (lv_at hl 0 rfl) ?_
              refine x_get (v := .int ocut) hC hI kX2_goodIfFirstIs_cX2 0 rfl rfl 3 (by decide) kX2_goodIfFirstIs_0 rfl rfl dX2_goodIfFirstIs_118 ?_
              refine lv_iconst (v := (0 : Int32)) hx hb dX2_goodIfFirstIs_121 (by decide) ?_
              refine x_callSi (rest := []) hC hI [] (mX2_hasBit l D K  _ ocut (0 : Int32) hw) (va_cwS 2 hts gX2_goodIfFirstIs_X2_hasBit rfl rfl rfl (by decide +kernel) ⟨(Nat.le_of_ble_eq_true rfl), (Nat.le_of_ble_eq_true rfl)⟩) (by decide) rfl (fun _ => rfl) rfl hl.1 rfl (Nat.le_of_ble_eq_true rfl) dX2_goodIfFirstIs_122 ⟨(Nat.le_of_ble_eq_true rfl), (Nat.le_of_ble_eq_true rfl)⟩ (fun r3 u H locs hw hI => ?_)
              try dsimp only at hw
              have hI : wI s D A (fl [wOd K h abv blw needed ocut opole]) H locs := hI
              refine lv_if_eq (tgt := 133) hx hb dX2_goodIfFirstIs_125 (by decide) (fun c4 => ?_) (fun c4 => ?_)
              · replace hw := hw.1 c4
                refine lv_lload hx hb dX2_goodIfFirstIs_133 (lv_at hl 4 rfl) ?_
                refine lv_lload hx hb dX2_goodIfFirstIs_135 (lv_at hl 5 rfl) ?_
                refine lv_ladd hx hb dX2_goodIfFirstIs_137 ?_
                subst hQ
                exact x_lret (u := ()) hC hI hr hlk hw rfl dX2_goodIfFirstIs_138
              · replace hw := hw.2 c4
                refine lv_lload hx hb dX2_goodIfFirstIs_128 (lv_at hl 4 rfl) ?_
                refine lv_goto (tgt := 138) hx hb dX2_goodIfFirstIs_130 (by decide) ?_
                subst hQ
                exact x_lret (u := ()) hC hI hr hlk hw rfl dX2_goodIfFirstIs_138
          · replace hw := hw.2 c1
            refine lv_aload_n hx hb dX2_goodIfFirstIs_47 rfl (lv_at hl 0 rfl) ?_
            refine x_get (v := .int ocut) hC hI kX2_goodIfFirstIs_cX2 0 rfl rfl 3 (by decide) kX2_goodIfFirstIs_0 rfl rfl dX2_goodIfFirstIs_48 ?_
            refine lv_iload hx hb dX2_goodIfFirstIs_51 (lv_at hl 6 rfl) ?_
            refine x_callSi (rest := []) hC hI [] (mX2_hasBit l D K  _ ocut l8_41 hw) (va_cwS 2 hts gX2_goodIfFirstIs_X2_hasBit rfl rfl rfl (by decide +kernel) ⟨(Nat.le_of_ble_eq_true rfl), (Nat.le_of_ble_eq_true rfl)⟩) (by decide) rfl (fun _ => rfl) rfl hl.1 rfl (Nat.le_of_ble_eq_true rfl) dX2_goodIfFirstIs_53 ⟨(Nat.le_of_ble_eq_true rfl), (Nat.le_of_ble_eq_true rfl)⟩ (fun r5 u H locs hw hI => ?_)
            try dsimp only at hw
            have hI : wI s D A (fl [wOd K h abv blw needed ocut opole]) H locs := hI
            obtain ⟨J69, hJ69, hw⟩ := hw
            have jn69 : ∀ (t_69 : Int64) (ls : Array Slot) (H : Heap) (locs : List Loc), J69 t_69 → wI s D A (fl [wOd K h abv blw needed ocut opole]) H locs → lv_has ls 11 [(0, .ref (h 0)), (1, .int a1), (2, .int a2), (3, .int a3), (4, .long l4_41), (6, .long l6_41), (8, .int l8_41)] → W p l e rmX2_goodIfFirstIs s m args below meth c H locs 0 0 Q (F0 m 69 ls [.long t_69]) := by
              intro t_69 ls H locs hw hI hl
              replace hw := hJ69 t_69 hw
              refine lv_lstore (lv' := [(9, .long t_69), (0, .ref (h 0)), (1, .int a1), (2, .int a2), (3, .int a3), (4, .long l4_41), (6, .long l6_41), (8, .int l8_41)]) hx hb dX2_goodIfFirstIs_69 hl (by decide) rfl (fun ls hl => ?_)
              refine lv_lload hx hb dX2_goodIfFirstIs_71 (lv_at hl 5 rfl) ?_
              refine lv_lload hx hb dX2_goodIfFirstIs_73 (lv_at hl 6 rfl) ?_
              refine lv_ladd hx hb dX2_goodIfFirstIs_75 ?_
              refine lv_bipush (v := (10 : Int32)) hx hb dX2_goodIfFirstIs_76 (by decide) ?_
              refine lv_iload_n hx hb dX2_goodIfFirstIs_78 rfl (lv_at hl 4 rfl) ?_
              refine lv_isub hx hb dX2_goodIfFirstIs_79 ?_
              refine lv_i2l (v := ((10 : Int32) - a3).toInt64) hx hb dX2_goodIfFirstIs_80 rfl ?_
              refine lv_lmul hx hb dX2_goodIfFirstIs_81 ?_
              refine lv_topl (fun x6 ex6 => ?_)
              replace hw := hw x6 ex6
              refine lv_lstore (lv' := [(4, .long x6), (9, .long t_69), (0, .ref (h 0)), (1, .int a1), (2, .int a2), (3, .int a3), (6, .long l6_41), (8, .int l8_41)]) hx hb dX2_goodIfFirstIs_82 hl (by decide) rfl (fun ls hl => ?_)
              refine lv_aload_n hx hb dX2_goodIfFirstIs_84 rfl (lv_at hl 2 rfl) ?_
              refine x_get (v := .int needed) hC hI kX2_goodIfFirstIs_cX2 0 rfl rfl 2 (by decide) kX2_goodIfFirstIs_2 rfl rfl dX2_goodIfFirstIs_85 ?_
              refine lv_iload hx hb dX2_goodIfFirstIs_88 (lv_at hl 7 rfl) ?_
              refine x_callSi (rest := []) hC hI [] (mX2_hasBit l D K  _ needed l8_41 hw) (va_cwS 2 hts gX2_goodIfFirstIs_X2_hasBit rfl rfl rfl (by decide +kernel) ⟨(Nat.le_of_ble_eq_true rfl), (Nat.le_of_ble_eq_true rfl)⟩) (by decide) rfl (fun _ => rfl) rfl hl.1 rfl (Nat.le_of_ble_eq_true rfl) dX2_goodIfFirstIs_90 ⟨(Nat.le_of_ble_eq_true rfl), (Nat.le_of_ble_eq_true rfl)⟩ (fun r7 u H locs hw hI => ?_)
              try dsimp only at hw
              have hI : wI s D A (fl [wOd K h abv blw needed ocut opole]) H locs := hI
              refine lv_if_eq (tgt := 100) hx hb dX2_goodIfFirstIs_93 (by decide) (fun c8 => ?_) (fun c8 => ?_)
              · replace hw := hw.1 c8
                refine lv_lload hx hb dX2_goodIfFirstIs_100 (lv_at hl 1 rfl) ?_
                refine lv_iload_n hx hb dX2_goodIfFirstIs_102 rfl (lv_at hl 5 rfl) ?_
                refine lv_i2l (v := a3.toInt64) hx hb dX2_goodIfFirstIs_103 rfl ?_
                refine lv_lmul hx hb dX2_goodIfFirstIs_104 ?_
                refine lv_topl (fun x9 ex9 => ?_)
                replace hw := hw x9 ex9
                refine lv_lstore (lv' := [(6, .long x9), (4, .long x6), (9, .long t_69), (0, .ref (h 0)), (1, .int a1), (2, .int a2), (3, .int a3), (8, .int l8_41)]) hx hb dX2_goodIfFirstIs_105 hl (by decide) rfl (fun ls hl => ?_)
                obtain ⟨x10, ex10⟩ : ∃ y : Int32, y = l8_41 + 1 := ⟨_, rfl⟩
                replace hw := hw x10 ex10
                refine lv_iinc (v := x10) (lv' := [(8, .int x10), (6, .long x9), (4, .long x6), (9, .long t_69), (0, .ref (h 0)), (1, .int a1), (2, .int a2), (3, .int a3)]) hx hb dX2_goodIfFirstIs_107 hl (k := 7) rfl (by rw [ex10]; rfl) (by decide) rfl (fun ls hl => ?_)
                refine lv_goto (tgt := 41) hx hb dX2_goodIfFirstIs_110 (by decide) ?_
                exact ih41 x6 x9 x10 ls H locs (Nat.lt_of_lt_of_le hw.2 (Nat.le_of_lt_succ hmu41)) hw.1 hI (lv_sub hl [4, 5, 6, 7, 2, 1, 0] rfl)
              · replace hw := hw.2 c8
                refine lv_lconst (v := (0 : Int64)) hx hb dX2_goodIfFirstIs_96 (by decide) ?_
                refine lv_goto (tgt := 105) hx hb dX2_goodIfFirstIs_97 (by decide) ?_
                refine lv_lstore (lv' := [(6, .long (0 : Int64)), (4, .long x6), (9, .long t_69), (0, .ref (h 0)), (1, .int a1), (2, .int a2), (3, .int a3), (8, .int l8_41)]) hx hb dX2_goodIfFirstIs_105 hl (by decide) rfl (fun ls hl => ?_)
                obtain ⟨x11, ex11⟩ : ∃ y : Int32, y = l8_41 + 1 := ⟨_, rfl⟩
                replace hw := hw x11 ex11
                refine lv_iinc (v := x11) (lv' := [(8, .int x11), (6, .long (0 : Int64)), (4, .long x6), (9, .long t_69), (0, .ref (h 0)), (1, .int a1), (2, .int a2), (3, .int a3)]) hx hb dX2_goodIfFirstIs_107 hl (k := 7) rfl (by rw [ex11]; rfl) (by decide) rfl (fun ls hl => ?_)
                refine lv_goto (tgt := 41) hx hb dX2_goodIfFirstIs_110 (by decide) ?_
                exact ih41 x6 (0 : Int64) x11 ls H locs (Nat.lt_of_lt_of_le hw.2 (Nat.le_of_lt_succ hmu41)) hw.1 hI (lv_sub hl [4, 5, 6, 7, 2, 1, 0] rfl)
            refine lv_if_eq (tgt := 64) hx hb dX2_goodIfFirstIs_56 (by decide) (fun c12 => ?_) (fun c12 => ?_)
            · replace hw := hw.1 c12
              refine lv_lload hx hb dX2_goodIfFirstIs_64 (lv_at hl 4 rfl) ?_
              refine lv_lload hx hb dX2_goodIfFirstIs_66 (lv_at hl 5 rfl) ?_
              refine lv_ladd hx hb dX2_goodIfFirstIs_68 ?_
              exact jn69 (l4_41 + l6_41) ls H locs hw hI (lv_sub hl [0, 1, 2, 3, 4, 5, 6] rfl)
            · replace hw := hw.2 c12
              refine lv_lload hx hb dX2_goodIfFirstIs_59 (lv_at hl 4 rfl) ?_
              refine lv_goto (tgt := 69) hx hb dX2_goodIfFirstIs_61 (by decide) ?_
              exact jn69 l4_41 ls H locs hw hI (lv_sub hl [0, 1, 2, 3, 4, 5, 6] rfl)
      exact lp41 (mu41 t_13 t_36 (1 : Int32) + 1) t_13 t_36 (1 : Int32) ls H locs (Nat.lt_succ_self _) hw hI (lv_sub hl [2, 3, 4, 5, 6, 1, 0] rfl)
    obtain ⟨J30, hJ30, hw⟩ := hw
    have jn30 : ∀  (ls : Array Slot) (H : Heap) (locs : List Loc), J30  → wI s D A (fl [wOd K h abv blw needed ocut opole]) H locs → lv_has ls 11 [(0, .ref (h 0)), (1, .int a1), (2, .int a2), (3, .int a3), (4, .long t_13)] → W p l e rmX2_goodIfFirstIs s m args below meth c H locs 0 0 Q (F0 m 30 ls []) := by
      intro  ls H locs hw hI hl
      replace hw := hJ30 hw
      refine lv_lconst (v := (0 : Int64)) hx hb dX2_goodIfFirstIs_30 (by decide) ?_
      refine lv_goto (tgt := 36) hx hb dX2_goodIfFirstIs_31 (by decide) ?_
      exact jn36 (0 : Int64) ls H locs hw hI (lv_sub hl [0, 1, 2, 3, 4] rfl)
    refine lv_if_ne (tgt := 30) hx hb dX2_goodIfFirstIs_16 (by decide) (fun c13 => ?_) (fun c13 => ?_)
    · replace hw := hw.2 c13
      exact jn30 ls H locs hw hI (lv_sub hl [1, 2, 3, 4, 0] rfl)
    · replace hw := hw.1 c13
      refine lv_aload_n hx hb dX2_goodIfFirstIs_19 rfl (lv_at hl 1 rfl) ?_
      refine x_get (v := .int needed) hC hI kX2_goodIfFirstIs_cX2 0 rfl rfl 2 (by decide) kX2_goodIfFirstIs_2 rfl rfl dX2_goodIfFirstIs_20 ?_
      refine lv_iconst (v := (0 : Int32)) hx hb dX2_goodIfFirstIs_23 (by decide) ?_
      refine x_callSi (rest := []) hC hI [] (mX2_hasBit l D K  _ needed (0 : Int32) hw) (va_cwS 2 hts gX2_goodIfFirstIs_X2_hasBit rfl rfl rfl (by decide +kernel) ⟨(Nat.le_of_ble_eq_true rfl), (Nat.le_of_ble_eq_true rfl)⟩) (by decide) rfl (fun _ => rfl) rfl hl.1 rfl (Nat.le_of_ble_eq_true rfl) dX2_goodIfFirstIs_24 ⟨(Nat.le_of_ble_eq_true rfl), (Nat.le_of_ble_eq_true rfl)⟩ (fun r14 u H locs hw hI => ?_)
      try dsimp only at hw
      have hI : wI s D A (fl [wOd K h abv blw needed ocut opole]) H locs := hI
      refine lv_if_eq (tgt := 34) hx hb dX2_goodIfFirstIs_27 (by decide) (fun c15 => ?_) (fun c15 => ?_)
      · replace hw := hw.1 c15
        refine lv_iload_n hx hb dX2_goodIfFirstIs_34 rfl (lv_at hl 4 rfl) ?_
        refine lv_i2l (v := a3.toInt64) hx hb dX2_goodIfFirstIs_35 rfl ?_
        exact jn36 a3.toInt64 ls H locs hw hI (lv_sub hl [1, 2, 3, 4, 0] rfl)
      · replace hw := hw.2 c15
        exact jn30 ls H locs hw hI (lv_sub hl [1, 2, 3, 4, 0] rfl)
  refine lv_if_eq (tgt := 12) hx hb dX2_goodIfFirstIs_1 (by decide) (fun c16 => ?_) (fun c16 => ?_)
  · replace hw := hw.1 c16
    refine lv_lconst (v := (0 : Int64)) hx hb dX2_goodIfFirstIs_12 (by decide) ?_
    exact jn13 (0 : Int64) ls H locs hw hI (lv_sub hl [0, 1, 2, 3] rfl)
  · replace hw := hw.2 c16
    refine lv_bipush (v := (10 : Int32)) hx hb dX2_goodIfFirstIs_4 (by decide) ?_
    refine lv_iload_n hx hb dX2_goodIfFirstIs_6 rfl (lv_at hl 3 rfl) ?_
    refine lv_isub hx hb dX2_goodIfFirstIs_7 ?_
    refine lv_i2l (v := ((10 : Int32) - a3).toInt64) hx hb dX2_goodIfFirstIs_8 rfl ?_
    refine lv_goto (tgt := 13) hx hb dX2_goodIfFirstIs_9 (by decide) ?_
    exact jn13 (((10 : Int32) - a3).toInt64) ls H locs hw hI (lv_sub hl [0, 1, 2, 3] rfl)

def wX2_greatestDivisor (a0 : Int64) (a2 : Int64)  (post : Int64 → Prop) : Prop := (∃ (I9 : Int64 → Int64 → Int32 → Prop) (mu9 : Int64 → Int64 → Int32 → Nat), I9 a0 a2 (0 : Int32) ∧ ∀ (l4_9 : Int64) (l6_9 : Int64) (l8_9 : Int32), I9 l4_9 l6_9 l8_9 → (((200 : Int32) ≤ l8_9 → post l4_9) ∧ (¬ (200 : Int32) ≤ l8_9 → (((lg_cmp l6_9 (0 : Int64)) = 0 → post l4_9) ∧ (¬ (lg_cmp l6_9 (0 : Int64)) = 0 → ¬ l6_9 = 0 ∧ ∀ x4 : Int64, x4 = l4_9 - l4_9 / l6_9 * l6_9 → ∀ x5 : Int32, x5 = l8_9 + 1 → (I9 l6_9 x4 x5 ∧ mu9 l6_9 x4 x5 < mu9 l4_9 l6_9 l8_9))))))
def rmX2_greatestDivisor : Room := { frames := 0, cells := 0, slots := 0, locals := 0 }
set_option maxHeartbeats 4000000 in
set_option maxRecDepth 100000 in
theorem mX2_greatestDivisor (l : Launch) (D : va_G) (K : Nat → ClassId)  (sz : Nat) (a0 : Int64) (a2 : Int64)   {post : Int64 → Prop} (hw : wX2_greatestDivisor a0 a2  post) : Met l yX2_greatestDivisor wsX2_greatestDivisor rmX2_greatestDivisor (va_Pc [.long a0, .long a2] (cP D K (fl []) sz)) (va_Ql (fun (r : Int64) (u : Unit) => post r) (fun u t => cQ D K (fl []) (va_A (fl []) sz) t) (va_A (fl []) sz)) 0 0 (va_A (fl []) sz) := by
  refine x_entry (cc := cX2_greatestDivisor) (maxL := 11) (ret := (some .long)) (QA := fun A => va_Ql (fun (r : Int64) (u : Unit) => post r) (fun u t => cQ D K (fl []) A t) A) (plainFor_of_name (by decide)) rfl (Nat.le_of_ble_eq_true rfl) ?_
  intro p e s m args below meth c A ls H Q hQ hC hlk hr hnm hI hl
  obtain ⟨hx, hb, hml, hown, hts, hK, hA, hZ⟩ := id hC
  obtain ⟨locs, hlocs⟩ : ∃ y : List Loc, y = [] := ⟨_, rfl⟩
  rw [← hlocs] at hI ⊢
  clear hlocs
  replace hl : lv_has ls 11 [(0, .long a0), (2, .long a2)] := hl
  replace hw : (∃ (I9 : Int64 → Int64 → Int32 → Prop) (mu9 : Int64 → Int64 → Int32 → Nat), I9 a0 a2 (0 : Int32) ∧ ∀ (l4_9 : Int64) (l6_9 : Int64) (l8_9 : Int32), I9 l4_9 l6_9 l8_9 → (((200 : Int32) ≤ l8_9 → post l4_9) ∧ (¬ (200 : Int32) ≤ l8_9 → (((lg_cmp l6_9 (0 : Int64)) = 0 → post l4_9) ∧ (¬ (lg_cmp l6_9 (0 : Int64)) = 0 → ¬ l6_9 = 0 ∧ ∀ x4 : Int64, x4 = l4_9 - l4_9 / l6_9 * l6_9 → ∀ x5 : Int32, x5 = l8_9 + 1 → (I9 l6_9 x4 x5 ∧ mu9 l6_9 x4 x5 < mu9 l4_9 l6_9 l8_9)))))) := hw
  refine lv_lload_n hx hb dX2_greatestDivisor_0 rfl (lv_at hl 0 rfl) ?_
  refine lv_lstore (lv' := [(4, .long a0), (0, .long a0), (2, .long a2)]) hx hb dX2_greatestDivisor_1 hl (by decide) rfl (fun ls hl => ?_)
  refine lv_lload_n hx hb dX2_greatestDivisor_3 rfl (lv_at hl 2 rfl) ?_
  refine lv_lstore (lv' := [(6, .long a2), (4, .long a0), (0, .long a0), (2, .long a2)]) hx hb dX2_greatestDivisor_4 hl (by decide) rfl (fun ls hl => ?_)
  refine lv_iconst (v := (0 : Int32)) hx hb dX2_greatestDivisor_6 (by decide) ?_
  refine lv_istore (lv' := [(8, .int (0 : Int32)), (6, .long a2), (4, .long a0), (0, .long a0), (2, .long a2)]) hx hb dX2_greatestDivisor_7 hl (by decide) rfl (fun ls hl => ?_)
  obtain ⟨I9, mu9, hw, hb9⟩ := hw
  have lp9 : ∀ (k : Nat) (l4_9 : Int64) (l6_9 : Int64) (l8_9 : Int32) (ls : Array Slot) (H : Heap) (locs : List Loc), mu9 l4_9 l6_9 l8_9 < k → I9 l4_9 l6_9 l8_9 → wI s D A (fl []) H locs → lv_has ls 11 [(4, .long l4_9), (6, .long l6_9), (8, .int l8_9)] → W p l e rmX2_greatestDivisor s m args below meth c H locs 0 0 Q (F0 m 9 ls []) := by
    intro k
    induction k with
    | zero => intro l4_9 l6_9 l8_9 ls H locs hmu; exact absurd hmu (Nat.not_lt_zero _)
    | succ k ih9 =>
      intro l4_9 l6_9 l8_9 ls H locs hmu9 hw hI hl
      replace hw := hb9 l4_9 l6_9 l8_9 hw
      refine lv_iload hx hb dX2_greatestDivisor_9 (lv_at hl 2 rfl) ?_
      refine lv_sipush (v := (200 : Int32)) hx hb dX2_greatestDivisor_11 (by decide) ?_
      refine lv_icmp_ge (tgt := 45) hx hb dX2_greatestDivisor_14 (by decide) (fun c1 => ?_) (fun c1 => ?_)
      · replace hw := hw.1 c1
        refine lv_lload hx hb dX2_greatestDivisor_45 (lv_at hl 0 rfl) ?_
        subst hQ
        exact x_lret (u := ()) hC hI hr hlk hw rfl dX2_greatestDivisor_47
      · replace hw := hw.2 c1
        refine lv_lload hx hb dX2_greatestDivisor_17 (lv_at hl 1 rfl) ?_
        refine lv_lconst (v := (0 : Int64)) hx hb dX2_greatestDivisor_19 (by decide) ?_
        refine W.lcmp hx hb dX2_greatestDivisor_20 ?_
        refine lv_if_eq (tgt := 45) hx hb dX2_greatestDivisor_21 (by decide) (fun c2 => ?_) (fun c2 => ?_)
        · replace hw := hw.1 c2
          refine lv_lload hx hb dX2_greatestDivisor_45 (lv_at hl 0 rfl) ?_
          subst hQ
          exact x_lret (u := ()) hC hI hr hlk hw rfl dX2_greatestDivisor_47
        · replace hw := hw.2 c2
          refine lv_lload hx hb dX2_greatestDivisor_24 (lv_at hl 0 rfl) ?_
          refine lv_lload hx hb dX2_greatestDivisor_26 (lv_at hl 1 rfl) ?_
          obtain ⟨hc3, hw⟩ := hw
          refine lv_lrem hx hb dX2_greatestDivisor_28 hc3 ?_
          refine lv_topl (fun x4 ex4 => ?_)
          replace hw := hw x4 ex4
          refine lv_lstore (lv' := [(9, .long x4), (4, .long l4_9), (6, .long l6_9), (8, .int l8_9)]) hx hb dX2_greatestDivisor_29 hl (by decide) rfl (fun ls hl => ?_)
          refine lv_lload hx hb dX2_greatestDivisor_31 (lv_at hl 2 rfl) ?_
          refine lv_lstore (lv' := [(4, .long l6_9), (9, .long x4), (6, .long l6_9), (8, .int l8_9)]) hx hb dX2_greatestDivisor_33 hl (by decide) rfl (fun ls hl => ?_)
          refine lv_lload hx hb dX2_greatestDivisor_35 (lv_at hl 1 rfl) ?_
          refine lv_lstore (lv' := [(6, .long x4), (4, .long l6_9), (9, .long x4), (8, .int l8_9)]) hx hb dX2_greatestDivisor_37 hl (by decide) rfl (fun ls hl => ?_)
          obtain ⟨x5, ex5⟩ : ∃ y : Int32, y = l8_9 + 1 := ⟨_, rfl⟩
          replace hw := hw x5 ex5
          refine lv_iinc (v := x5) (lv' := [(8, .int x5), (6, .long x4), (4, .long l6_9), (9, .long x4)]) hx hb dX2_greatestDivisor_39 hl (k := 3) rfl (by rw [ex5]; rfl) (by decide) rfl (fun ls hl => ?_)
          refine lv_goto (tgt := 9) hx hb dX2_greatestDivisor_42 (by decide) ?_
          exact ih9 l6_9 x4 x5 ls H locs (Nat.lt_of_lt_of_le hw.2 (Nat.le_of_lt_succ hmu9)) hw.1 hI (lv_sub hl [2, 1, 0] rfl)
  exact lp9 (mu9 a0 a2 (0 : Int32) + 1) a0 a2 (0 : Int32) ls H locs (Nat.lt_succ_self _) hw hI (lv_sub hl [2, 1, 0] rfl)

def wX2_reckon (a2 : Int32) (bits : Nat → Int64) (strips : Int32) (caps : Int32) (post : Int64 → Int64 → Int32 → Int32 → Int32 → Prop) : Prop := wX2_gather bits strips caps (fun (needed_c1 : Int32) (ocut_c2 : Int32) (opole_c3 : Int32) => (∃ (I13 : Int64 → Int64 → Int32 → Prop) (mu13 : Int64 → Int64 → Int32 → Nat), I13 (1 : Int64) (1 : Int64) (0 : Int32) ∧ ∀ (l3_13 : Int64) (l5_13 : Int64) (l7_13 : Int32), I13 l3_13 l5_13 l7_13 → ((strips ≤ l7_13 → wX2_goodIfFirstIs (1 : Int32) strips a2 needed_c1 ocut_c2 (fun (r5 : Int64) => wX2_goodIfFirstIs (0 : Int32) strips a2 needed_c1 ocut_c2 (fun (r6 : Int64) => ∀ x7 : Int64, x7 = r5 + r6 → ∃ J92 : Int64 → Prop, (∀ (j7_92 : Int64), J92 j7_92 → wX2_greatestDivisor j7_92 l3_13 (fun (r8 : Int64) => ∀ x9 : Int64, x9 = (if r8 < (1 : Int64) then (1 : Int64) else r8) → ¬ x9 = 0 ∧ ∀ x11 : Int64, x11 = j7_92 / x9 → ¬ x9 = 0 ∧ ∀ x13 : Int64, x13 = l3_13 / x9 → post x11 x13 needed_c1 ocut_c2 opole_c3)) ∧ ((opole_c3 = 0 → J92 x7) ∧ (¬ opole_c3 = 0 → ((needed_c1 = 0 → ((ocut_c2 = 0 → ∀ x17 : Int64, x17 = x7 - l5_13 → J92 x17) ∧ (¬ ocut_c2 = 0 → J92 x7))) ∧ (¬ needed_c1 = 0 → J92 x7))))))) ∧ (¬ strips ≤ l7_13 → ∀ x18 : Int64, x18 = l3_13 * (10 : Int64) → ∀ x19 : Int64, x19 = l5_13 * a2.toInt64 → ∀ x20 : Int32, x20 = l7_13 + 1 → (I13 x18 x19 x20 ∧ mu13 x18 x19 x20 < mu13 l3_13 l5_13 l7_13)))))
def rmX2_reckon : Room := { frames := 3, cells := 0, slots := 0, locals := 68 }
theorem kX2_reckon_0 : Cond.fieldLink RX2 13 "GoreGlobe$Globe" "strips" "I" ∈ wsX2_reckon := List.mem_cons_of_mem _ (List.mem_append_left _ (List.mem_append_left _ (List.mem_append_left _ (List.mem_of_getElem? (i := 0) rfl))))
theorem kX2_reckon_cX0 : ∀ w ∈ wsX00, w ∈ wsX2_reckon := fun _ h => List.mem_cons_of_mem _ (List.mem_append_left _ (List.mem_append_right _ h))
theorem kX2_reckon_2 : Cond.fieldLink RX2 25 "GoreGlobe$Odds" "poleIsLand" "Z" ∈ wsX2_reckon := List.mem_cons_of_mem _ (List.mem_append_left _ (List.mem_append_left _ (List.mem_append_left _ (List.mem_of_getElem? (i := 2) rfl))))
theorem kX2_reckon_cX2 : ∀ w ∈ wsX20, w ∈ wsX2_reckon := fun _ h => List.mem_cons_of_mem _ (List.mem_append_right _ h)
theorem kX2_reckon_4 : Cond.methodLink RX2 39 Lib.MathLoose.max_long.x ∈ wsX2_reckon := List.mem_cons_of_mem _ (List.mem_append_left _ (List.mem_append_left _ (List.mem_append_left _ (List.mem_of_getElem? (i := 5) rfl))))
theorem kX2_reckon_5 : Cond.static Lib.MathLoose.max_long.x ∈ wsX2_reckon := List.mem_cons_of_mem _ (List.mem_append_left _ (List.mem_append_left _ (List.mem_append_left _ (List.mem_of_getElem? (i := 6) rfl))))
theorem kX2_reckon_6 : Cond.initialized "java/lang/Math" ∈ wsX2_reckon := List.mem_cons_of_mem _ (List.mem_append_left _ (List.mem_append_left _ (List.mem_append_left _ (List.mem_of_getElem? (i := 7) rfl))))
theorem kX2_reckon_7 : Cond.code Lib.MathLoose.max_long.x Lib.MathLoose.max_long.code 4 (some .long) ∈ wsX2_reckon := List.mem_cons_of_mem _ (List.mem_append_left _ (List.mem_append_left _ (List.mem_append_left _ (List.mem_of_getElem? (i := 8) rfl))))
theorem kX2_reckon_8 : Cond.fieldLink RX2 44 "GoreGlobe$Odds" "above" "J" ∈ wsX2_reckon := List.mem_cons_of_mem _ (List.mem_append_left _ (List.mem_append_left _ (List.mem_append_left _ (List.mem_of_getElem? (i := 9) rfl))))
theorem kX2_reckon_9 : Cond.fieldLink RX2 48 "GoreGlobe$Odds" "below" "J" ∈ wsX2_reckon := List.mem_cons_of_mem _ (List.mem_append_left _ (List.mem_append_left _ (List.mem_append_left _ (List.mem_of_getElem? (i := 10) rfl))))
theorem kX2_reckon_10 : Cond.fieldLink RX2 29 "GoreGlobe$Odds" "needed" "I" ∈ wsX2_reckon := List.mem_cons_of_mem _ (List.mem_append_left _ (List.mem_append_left _ (List.mem_append_left _ (List.mem_of_getElem? (i := 3) rfl))))
theorem kX2_reckon_11 : Cond.fieldLink RX2 32 "GoreGlobe$Odds" "cut" "I" ∈ wsX2_reckon := List.mem_cons_of_mem _ (List.mem_append_left _ (List.mem_append_left _ (List.mem_append_left _ (List.mem_of_getElem? (i := 4) rfl))))
theorem kX2_reckon_12 : Cond.constantLong RX2 19 (10) ∈ wsX2_reckon := List.mem_cons_of_mem _ (List.mem_append_left _ (List.mem_append_left _ (List.mem_append_left _ (List.mem_of_getElem? (i := 1) rfl))))
set_option maxHeartbeats 4000000 in
set_option maxRecDepth 100000 in
theorem mX2_reckon (l : Launch) (D : va_G) (K : Nat → ClassId) (h0 : Nat → Nat) (h1 : Nat → Nat) (sz : Nat) (a2 : Int32) (abv : Int64) (blw : Int64) (needed : Int32) (ocut : Int32) (opole : Int32) (bits : Nat → Int64) (stops : Nat → Int32) (num : Int32) (unit : Int32) (strips : Int32) (caps : Int32) (draw : Int32)  {post : Int64 → Int64 → Int32 → Int32 → Int32 → Prop} (hw : wX2_reckon a2 bits strips caps post) : Met l yX2_reckon wsX2_reckon rmX2_reckon (va_Pc [.ref (h0 0), .ref (h1 0), .int a2] (cP D K (fl [wOd K h0 abv blw needed ocut opole, wGl K h1 (bits, stops, num, unit, strips, caps, draw)]) sz)) (va_Qv (fun (u : Int64 × Int64 × Int32 × Int32 × Int32) => post u.1 u.2.1 u.2.2.1 u.2.2.2.1 u.2.2.2.2) (fun u t => cQ D K (fl [wOd K h0 u.1 u.2.1 u.2.2.1 u.2.2.2.1 u.2.2.2.2, wGl K h1 (bits, stops, num, unit, strips, caps, draw)]) (va_A (fl [wOd K h0 abv blw needed ocut opole, wGl K h1 (bits, stops, num, unit, strips, caps, draw)]) sz) t) (va_A (fl [wOd K h0 abv blw needed ocut opole, wGl K h1 (bits, stops, num, unit, strips, caps, draw)]) sz)) 0 0 (va_A (fl [wOd K h0 abv blw needed ocut opole, wGl K h1 (bits, stops, num, unit, strips, caps, draw)]) sz) := by
  refine x_entry (cc := cX2_reckon) (maxL := 11) (ret := none) (QA := fun A => va_Qv (fun (u : Int64 × Int64 × Int32 × Int32 × Int32) => post u.1 u.2.1 u.2.2.1 u.2.2.2.1 u.2.2.2.2) (fun u t => cQ D K (fl [wOd K h0 u.1 u.2.1 u.2.2.1 u.2.2.2.1 u.2.2.2.2, wGl K h1 (bits, stops, num, unit, strips, caps, draw)]) A t) A) (plainFor_of_name (by decide)) rfl (Nat.le_of_ble_eq_true rfl) ?_
  intro p e s m args below meth c A ls H Q hQ hC hlk hr hnm hI hl
  obtain ⟨hx, hb, hml, hown, hts, hK, hA, hZ⟩ := id hC
  obtain ⟨locs, hlocs⟩ : ∃ y : List Loc, y = [] := ⟨_, rfl⟩
  rw [← hlocs] at hI ⊢
  clear hlocs
  replace hl : lv_has ls 11 [(0, .ref (h0 0)), (1, .ref (h1 0)), (2, .int a2)] := hl
  replace hw : wX2_gather bits strips caps (fun (needed_c1 : Int32) (ocut_c2 : Int32) (opole_c3 : Int32) => (∃ (I13 : Int64 → Int64 → Int32 → Prop) (mu13 : Int64 → Int64 → Int32 → Nat), I13 (1 : Int64) (1 : Int64) (0 : Int32) ∧ ∀ (l3_13 : Int64) (l5_13 : Int64) (l7_13 : Int32), I13 l3_13 l5_13 l7_13 → ((strips ≤ l7_13 → wX2_goodIfFirstIs (1 : Int32) strips a2 needed_c1 ocut_c2 (fun (r5 : Int64) => wX2_goodIfFirstIs (0 : Int32) strips a2 needed_c1 ocut_c2 (fun (r6 : Int64) => ∀ x7 : Int64, x7 = r5 + r6 → ∃ J92 : Int64 → Prop, (∀ (j7_92 : Int64), J92 j7_92 → wX2_greatestDivisor j7_92 l3_13 (fun (r8 : Int64) => ∀ x9 : Int64, x9 = (if r8 < (1 : Int64) then (1 : Int64) else r8) → ¬ x9 = 0 ∧ ∀ x11 : Int64, x11 = j7_92 / x9 → ¬ x9 = 0 ∧ ∀ x13 : Int64, x13 = l3_13 / x9 → post x11 x13 needed_c1 ocut_c2 opole_c3)) ∧ ((opole_c3 = 0 → J92 x7) ∧ (¬ opole_c3 = 0 → ((needed_c1 = 0 → ((ocut_c2 = 0 → ∀ x17 : Int64, x17 = x7 - l5_13 → J92 x17) ∧ (¬ ocut_c2 = 0 → J92 x7))) ∧ (¬ needed_c1 = 0 → J92 x7))))))) ∧ (¬ strips ≤ l7_13 → ∀ x18 : Int64, x18 = l3_13 * (10 : Int64) → ∀ x19 : Int64, x19 = l5_13 * a2.toInt64 → ∀ x20 : Int32, x20 = l7_13 + 1 → (I13 x18 x19 x20 ∧ mu13 x18 x19 x20 < mu13 l3_13 l5_13 l7_13))))) := hw
  refine lv_aload_n hx hb dX2_reckon_0 rfl (lv_at hl 0 rfl) ?_
  refine lv_aload_n hx hb dX2_reckon_1 rfl (lv_at hl 1 rfl) ?_
  refine x_callVv (rest := []) hC hI [0, 1] (mX2_gather l D K h0 h1 _ abv blw needed ocut opole bits stops num unit strips caps draw hw) (cwV 1 hts gX2_reckon_X2_gather rfl rfl rfl (by decide +kernel) ⟨(Nat.le_of_ble_eq_true rfl), (Nat.le_of_ble_eq_true rfl)⟩) (by decide) rfl (fun _ => rfl) 0 1 rfl rfl rfl rfl hl.1 rfl (Nat.le_of_ble_eq_true rfl) dX2_reckon_2 ⟨(Nat.le_of_ble_eq_true rfl), (Nat.le_of_ble_eq_true rfl)⟩ (fun u H locs hw hI => ?_)
  obtain ⟨needed_c1, ocut_c2, opole_c3⟩ := u
  try dsimp only at hw
  have hI : wI s D A (fl [wOd K h0 abv blw needed_c1 ocut_c2 opole_c3, wGl K h1 (bits, stops, num, unit, strips, caps, draw)]) H locs := hI
  refine lv_lconst (v := (1 : Int64)) hx hb dX2_reckon_5 (by decide) ?_
  refine lv_lstore_n (lv' := [(3, .long (1 : Int64)), (0, .ref (h0 0)), (1, .ref (h1 0)), (2, .int a2)]) hx hb dX2_reckon_6 rfl hl (by decide) rfl (fun ls hl => ?_)
  refine lv_lconst (v := (1 : Int64)) hx hb dX2_reckon_7 (by decide) ?_
  refine lv_lstore (lv' := [(5, .long (1 : Int64)), (3, .long (1 : Int64)), (0, .ref (h0 0)), (1, .ref (h1 0)), (2, .int a2)]) hx hb dX2_reckon_8 hl (by decide) rfl (fun ls hl => ?_)
  refine lv_iconst (v := (0 : Int32)) hx hb dX2_reckon_10 (by decide) ?_
  refine lv_istore (lv' := [(7, .int (0 : Int32)), (5, .long (1 : Int64)), (3, .long (1 : Int64)), (0, .ref (h0 0)), (1, .ref (h1 0)), (2, .int a2)]) hx hb dX2_reckon_11 hl (by decide) rfl (fun ls hl => ?_)
  obtain ⟨I13, mu13, hw, hb13⟩ := hw
  have lp13 : ∀ (k : Nat) (l3_13 : Int64) (l5_13 : Int64) (l7_13 : Int32) (ls : Array Slot) (H : Heap) (locs : List Loc), mu13 l3_13 l5_13 l7_13 < k → I13 l3_13 l5_13 l7_13 → wI s D A (fl [wOd K h0 abv blw needed_c1 ocut_c2 opole_c3, wGl K h1 (bits, stops, num, unit, strips, caps, draw)]) H locs → lv_has ls 11 [(0, .ref (h0 0)), (1, .ref (h1 0)), (2, .int a2), (3, .long l3_13), (5, .long l5_13), (7, .int l7_13)] → W p l e rmX2_reckon s m args below meth c H locs 0 0 Q (F0 m 13 ls []) := by
    intro k
    induction k with
    | zero => intro l3_13 l5_13 l7_13 ls H locs hmu; exact absurd hmu (Nat.not_lt_zero _)
    | succ k ih13 =>
      intro l3_13 l5_13 l7_13 ls H locs hmu13 hw hI hl
      replace hw := hb13 l3_13 l5_13 l7_13 hw
      refine lv_iload hx hb dX2_reckon_13 (lv_at hl 5 rfl) ?_
      refine lv_aload_n hx hb dX2_reckon_15 rfl (lv_at hl 1 rfl) ?_
      refine x_get (v := .int strips) hC hI kX2_reckon_cX0 1 rfl rfl 4 (by decide) kX2_reckon_0 rfl rfl dX2_reckon_16 ?_
      refine lv_icmp_ge (tgt := 41) hx hb dX2_reckon_19 (by decide) (fun c4 => ?_) (fun c4 => ?_)
      · replace hw := hw.1 c4
        refine lv_aload_n hx hb dX2_reckon_41 rfl (lv_at hl 0 rfl) ?_
        refine lv_iconst (v := (1 : Int32)) hx hb dX2_reckon_42 (by decide) ?_
        refine lv_aload_n hx hb dX2_reckon_43 rfl (lv_at hl 1 rfl) ?_
        refine x_get (v := .int strips) hC hI kX2_reckon_cX0 1 rfl rfl 4 (by decide) kX2_reckon_0 rfl rfl dX2_reckon_44 ?_
        refine lv_iload_n hx hb dX2_reckon_47 rfl (lv_at hl 2 rfl) ?_
        refine x_callVl (rest := []) hC hI [0] (mX2_goodIfFirstIs l D K h0 _ (1 : Int32) strips a2 abv blw needed_c1 ocut_c2 opole_c3 hw) (cwV 3 hts gX2_reckon_X2_goodIfFirstIs rfl rfl rfl (by decide +kernel) ⟨(Nat.le_of_ble_eq_true rfl), (Nat.le_of_ble_eq_true rfl)⟩) (by decide) rfl (fun _ => rfl) 0 1 rfl rfl rfl rfl hl.1 rfl (Nat.le_of_ble_eq_true rfl) dX2_reckon_48 ⟨(Nat.le_of_ble_eq_true rfl), (Nat.le_of_ble_eq_true rfl)⟩ (fun r5 u H locs hw hI => ?_)
        try dsimp only at hw
        have hI : wI s D A (fl [wOd K h0 abv blw needed_c1 ocut_c2 opole_c3, wGl K h1 (bits, stops, num, unit, strips, caps, draw)]) H locs := hI
        refine lv_aload_n hx hb dX2_reckon_51 rfl (lv_at hl 0 rfl) ?_
        refine lv_iconst (v := (0 : Int32)) hx hb dX2_reckon_52 (by decide) ?_
        refine lv_aload_n hx hb dX2_reckon_53 rfl (lv_at hl 1 rfl) ?_
        refine x_get (v := .int strips) hC hI kX2_reckon_cX0 1 rfl rfl 4 (by decide) kX2_reckon_0 rfl rfl dX2_reckon_54 ?_
        refine lv_iload_n hx hb dX2_reckon_57 rfl (lv_at hl 2 rfl) ?_
        refine x_callVl (rest := [.long r5]) hC hI [0] (mX2_goodIfFirstIs l D K h0 _ (0 : Int32) strips a2 abv blw needed_c1 ocut_c2 opole_c3 hw) (cwV 3 hts gX2_reckon_X2_goodIfFirstIs rfl rfl rfl (by decide +kernel) ⟨(Nat.le_of_ble_eq_true rfl), (Nat.le_of_ble_eq_true rfl)⟩) (by decide) rfl (fun _ => rfl) 0 1 rfl rfl rfl rfl hl.1 rfl (Nat.le_of_ble_eq_true rfl) dX2_reckon_58 ⟨(Nat.le_of_ble_eq_true rfl), (Nat.le_of_ble_eq_true rfl)⟩ (fun r6 u H locs hw hI => ?_)
        try dsimp only at hw
        have hI : wI s D A (fl [wOd K h0 abv blw needed_c1 ocut_c2 opole_c3, wGl K h1 (bits, stops, num, unit, strips, caps, draw)]) H locs := hI
        refine lv_ladd hx hb dX2_reckon_61 ?_
        refine lv_topl (fun x7 ex7 => ?_)
        replace hw := hw x7 ex7
        refine lv_lstore (lv' := [(7, .long x7), (0, .ref (h0 0)), (1, .ref (h1 0)), (2, .int a2), (3, .long l3_13), (5, .long l5_13)]) hx hb dX2_reckon_62 hl (by decide) rfl (fun ls hl => ?_)
        refine lv_aload_n hx hb dX2_reckon_64 rfl (lv_at hl 1 rfl) ?_
        refine x_get (v := .int opole_c3) hC hI kX2_reckon_cX2 0 rfl rfl 4 (by decide) kX2_reckon_2 rfl rfl dX2_reckon_65 ?_
        obtain ⟨J92, hJ92, hw⟩ := hw
        have jn92 : ∀ (j7_92 : Int64) (ls : Array Slot) (H : Heap) (locs : List Loc), J92 j7_92 → wI s D A (fl [wOd K h0 abv blw needed_c1 ocut_c2 opole_c3, wGl K h1 (bits, stops, num, unit, strips, caps, draw)]) H locs → lv_has ls 11 [(0, .ref (h0 0)), (3, .long l3_13), (7, .long j7_92)] → W p l e rmX2_reckon s m args below meth c H locs 0 0 Q (F0 m 92 ls []) := by
          intro j7_92 ls H locs hw hI hl
          replace hw := hJ92 j7_92 hw
          refine lv_lconst (v := (1 : Int64)) hx hb dX2_reckon_92 (by decide) ?_
          refine lv_lload hx hb dX2_reckon_93 (lv_at hl 2 rfl) ?_
          refine lv_lload_n hx hb dX2_reckon_95 rfl (lv_at hl 1 rfl) ?_
          refine x_callSl (rest := [.long (1 : Int64)]) hC hI [] (mX2_greatestDivisor l D K  _ j7_92 l3_13 hw) (va_cwS 2 hts gX2_reckon_X2_greatestDivisor rfl rfl rfl (by decide +kernel) ⟨(Nat.le_of_ble_eq_true rfl), (Nat.le_of_ble_eq_true rfl)⟩) (by decide) rfl (fun _ => rfl) rfl hl.1 rfl (Nat.le_of_ble_eq_true rfl) dX2_reckon_96 ⟨(Nat.le_of_ble_eq_true rfl), (Nat.le_of_ble_eq_true rfl)⟩ (fun r8 u H locs hw hI => ?_)
          try dsimp only at hw
          have hI : wI s D A (fl [wOd K h0 abv blw needed_c1 ocut_c2 opole_c3, wGl K h1 (bits, stops, num, unit, strips, caps, draw)]) H locs := hI
          refine va_mmax_long hx hb (hml.trans hl.1.symm) hown (hts _ kX2_reckon_4) (hts _ kX2_reckon_5) (hts _ kX2_reckon_6) (hts _ kX2_reckon_7) (Nat.le_of_ble_eq_true rfl) (Nat.le_of_ble_eq_true rfl) (Nat.le_of_ble_eq_true rfl) (Nat.le_of_ble_eq_true rfl) dX2_reckon_99 ?_
          refine lv_topl (fun x9 ex9 => ?_)
          replace hw := hw x9 ex9
          refine lv_lstore (lv' := [(9, .long x9), (0, .ref (h0 0)), (3, .long l3_13), (7, .long j7_92)]) hx hb dX2_reckon_102 hl (by decide) rfl (fun ls hl => ?_)
          refine lv_aload_n hx hb dX2_reckon_104 rfl (lv_at hl 1 rfl) ?_
          refine lv_lload hx hb dX2_reckon_105 (lv_at hl 3 rfl) ?_
          refine lv_lload hx hb dX2_reckon_107 (lv_at hl 0 rfl) ?_
          obtain ⟨hc10, hw⟩ := hw
          refine lv_ldiv hx hb dX2_reckon_109 hc10 ?_
          refine lv_topl (fun x11 ex11 => ?_)
          replace hw := hw x11 ex11
          refine x_put (v := .long x11) hC hI kX2_reckon_cX2 tyX2 tyX2_ok nmX2 0 rfl rfl 0 (by decide) kX2_reckon_8 rfl rfl rfl rfl (Nat.le_of_ble_eq_true rfl) dX2_reckon_110 (fun H locs hI => ?_)
          have hI : wI s D A (fl [wOd K h0 x11 blw needed_c1 ocut_c2 opole_c3, wGl K h1 (bits, stops, num, unit, strips, caps, draw)]) H locs := hI
          refine lv_aload_n hx hb dX2_reckon_113 rfl (lv_at hl 1 rfl) ?_
          refine lv_lload_n hx hb dX2_reckon_114 rfl (lv_at hl 2 rfl) ?_
          refine lv_lload hx hb dX2_reckon_115 (lv_at hl 0 rfl) ?_
          obtain ⟨hc12, hw⟩ := hw
          refine lv_ldiv hx hb dX2_reckon_117 hc12 ?_
          refine lv_topl (fun x13 ex13 => ?_)
          replace hw := hw x13 ex13
          refine x_put (v := .long x13) hC hI kX2_reckon_cX2 tyX2 tyX2_ok nmX2 0 rfl rfl 1 (by decide) kX2_reckon_9 rfl rfl rfl rfl (Nat.le_of_ble_eq_true rfl) dX2_reckon_118 (fun H locs hI => ?_)
          have hI : wI s D A (fl [wOd K h0 x11 x13 needed_c1 ocut_c2 opole_c3, wGl K h1 (bits, stops, num, unit, strips, caps, draw)]) H locs := hI
          subst hQ
          exact x_vret (u := (x11, x13, needed_c1, ocut_c2, opole_c3)) hC hI hr hlk hw rfl dX2_reckon_121
        refine lv_if_eq (tgt := 92) hx hb dX2_reckon_68 (by decide) (fun c14 => ?_) (fun c14 => ?_)
        · replace hw := hw.1 c14
          exact jn92 x7 ls H locs hw hI (lv_sub hl [1, 4, 0] rfl)
        · replace hw := hw.2 c14
          refine lv_aload_n hx hb dX2_reckon_71 rfl (lv_at hl 1 rfl) ?_
          refine x_get (v := .int needed_c1) hC hI kX2_reckon_cX2 0 rfl rfl 2 (by decide) kX2_reckon_10 rfl rfl dX2_reckon_72 ?_
          refine lv_if_ne (tgt := 92) hx hb dX2_reckon_75 (by decide) (fun c15 => ?_) (fun c15 => ?_)
          · replace hw := hw.2 c15
            exact jn92 x7 ls H locs hw hI (lv_sub hl [1, 4, 0] rfl)
          · replace hw := hw.1 c15
            refine lv_aload_n hx hb dX2_reckon_78 rfl (lv_at hl 1 rfl) ?_
            refine x_get (v := .int ocut_c2) hC hI kX2_reckon_cX2 0 rfl rfl 3 (by decide) kX2_reckon_11 rfl rfl dX2_reckon_79 ?_
            refine lv_if_ne (tgt := 92) hx hb dX2_reckon_82 (by decide) (fun c16 => ?_) (fun c16 => ?_)
            · replace hw := hw.2 c16
              exact jn92 x7 ls H locs hw hI (lv_sub hl [1, 4, 0] rfl)
            · replace hw := hw.1 c16
              refine lv_lload hx hb dX2_reckon_85 (lv_at hl 0 rfl) ?_
              refine lv_lload hx hb dX2_reckon_87 (lv_at hl 5 rfl) ?_
              refine lv_lsub hx hb dX2_reckon_89 ?_
              refine lv_topl (fun x17 ex17 => ?_)
              replace hw := hw x17 ex17
              refine lv_lstore (lv' := [(7, .long x17), (0, .ref (h0 0)), (1, .ref (h1 0)), (2, .int a2), (3, .long l3_13), (5, .long l5_13)]) hx hb dX2_reckon_90 hl (by decide) rfl (fun ls hl => ?_)
              exact jn92 x17 ls H locs hw hI (lv_sub hl [1, 4, 0] rfl)
      · replace hw := hw.2 c4
        refine lv_lload_n hx hb dX2_reckon_22 rfl (lv_at hl 3 rfl) ?_
        refine lv_ldc2 (v := (10 : Int64)) hx hb hown (hts _ kX2_reckon_12) dX2_reckon_23 ?_
        refine lv_lmul hx hb dX2_reckon_26 ?_
        refine lv_topl (fun x18 ex18 => ?_)
        replace hw := hw x18 ex18
        refine lv_lstore_n (lv' := [(3, .long x18), (0, .ref (h0 0)), (1, .ref (h1 0)), (2, .int a2), (5, .long l5_13), (7, .int l7_13)]) hx hb dX2_reckon_27 rfl hl (by decide) rfl (fun ls hl => ?_)
        refine lv_lload hx hb dX2_reckon_28 (lv_at hl 4 rfl) ?_
        refine lv_iload_n hx hb dX2_reckon_30 rfl (lv_at hl 3 rfl) ?_
        refine lv_i2l (v := a2.toInt64) hx hb dX2_reckon_31 rfl ?_
        refine lv_lmul hx hb dX2_reckon_32 ?_
        refine lv_topl (fun x19 ex19 => ?_)
        replace hw := hw x19 ex19
        refine lv_lstore (lv' := [(5, .long x19), (3, .long x18), (0, .ref (h0 0)), (1, .ref (h1 0)), (2, .int a2), (7, .int l7_13)]) hx hb dX2_reckon_33 hl (by decide) rfl (fun ls hl => ?_)
        obtain ⟨x20, ex20⟩ : ∃ y : Int32, y = l7_13 + 1 := ⟨_, rfl⟩
        replace hw := hw x20 ex20
        refine lv_iinc (v := x20) (lv' := [(7, .int x20), (5, .long x19), (3, .long x18), (0, .ref (h0 0)), (1, .ref (h1 0)), (2, .int a2)]) hx hb dX2_reckon_35 hl (k := 5) rfl (by rw [ex20]; rfl) (by decide) rfl (fun ls hl => ?_)
        refine lv_goto (tgt := 13) hx hb dX2_reckon_38 (by decide) ?_
        exact ih13 x18 x19 x20 ls H locs (Nat.lt_of_lt_of_le hw.2 (Nat.le_of_lt_succ hmu13)) hw.1 hI (lv_sub hl [3, 4, 5, 2, 1, 0] rfl)
  exact lp13 (mu13 (1 : Int64) (1 : Int64) (0 : Int32) + 1) (1 : Int64) (1 : Int64) (0 : Int32) ls H locs (Nat.lt_succ_self _) hw hI (lv_sub hl [3, 4, 5, 2, 1, 0] rfl)

def wX9_consider (a2 : Int32) (a3 : Int32) (off : Int32) (les : Int32) (gre : Int32) (unit : Int32) (strips : Int32) (post : Int32 → Int32 → Int32 → Prop) : Prop := wX1_rowOf a2 (fun (r1 : Int32) => wX1_rowOf a3 (fun (r2 : Int32) => wX0_far r1 r2 unit (fun (r3 : Int32) => wX3_straight a2 a3 unit strips (fun (r4 : Int32) => ∀ x5 : Int32, x5 = (if 0 ≤ (r4 - r3) then (r4 - r3) else 0 - (r4 - r3)) → ((x5 ≤ off → post off les gre) ∧ (¬ x5 ≤ off → post x5 a2 a3))))))
def rmX9_consider : Room := { frames := 3, cells := 0, slots := 0, locals := 74 }
theorem kX9_consider_0 : Cond.methodLink RX9 45 Lib.Math.abs.name ∈ wsX9_consider := List.mem_cons_of_mem _ (List.mem_append_left _ (List.mem_append_left _ (List.mem_append_left _ (List.mem_of_getElem? (i := 0) rfl))))
theorem kX9_consider_1 : Cond.static Lib.Math.abs.name ∈ wsX9_consider := List.mem_cons_of_mem _ (List.mem_append_left _ (List.mem_append_left _ (List.mem_append_left _ (List.mem_of_getElem? (i := 1) rfl))))
theorem kX9_consider_2 : Cond.initialized "java/lang/Math" ∈ wsX9_consider := List.mem_cons_of_mem _ (List.mem_append_left _ (List.mem_append_left _ (List.mem_append_left _ (List.mem_of_getElem? (i := 2) rfl))))
theorem kX9_consider_3 : Cond.code Lib.Math.abs.name Lib.Math.abs.code 1 (some .int) ∈ wsX9_consider := List.mem_cons_of_mem _ (List.mem_append_left _ (List.mem_append_left _ (List.mem_append_left _ (List.mem_of_getElem? (i := 3) rfl))))
theorem kX9_consider_4 : Cond.fieldLink RX9 7 "GoreGlobe$WorstPair" "off" "I" ∈ wsX9_consider := List.mem_cons_of_mem _ (List.mem_append_left _ (List.mem_append_left _ (List.mem_append_left _ (List.mem_of_getElem? (i := 4) rfl))))
theorem kX9_consider_cX9 : ∀ w ∈ wsX90, w ∈ wsX9_consider := fun _ h => List.mem_cons_of_mem _ (List.mem_append_left _ (List.mem_append_right _ h))
theorem kX9_consider_6 : Cond.fieldLink RX9 50 "GoreGlobe$WorstPair" "lesser" "I" ∈ wsX9_consider := List.mem_cons_of_mem _ (List.mem_append_left _ (List.mem_append_left _ (List.mem_append_left _ (List.mem_of_getElem? (i := 5) rfl))))
theorem kX9_consider_7 : Cond.fieldLink RX9 53 "GoreGlobe$WorstPair" "greater" "I" ∈ wsX9_consider := List.mem_cons_of_mem _ (List.mem_append_left _ (List.mem_append_left _ (List.mem_append_left _ (List.mem_of_getElem? (i := 6) rfl))))
set_option maxHeartbeats 4000000 in
set_option maxRecDepth 100000 in
theorem mX9_consider (l : Launch) (D : va_G) (K : Nat → ClassId) (h0 : Nat → Nat) (h1 : Nat → Nat) (sz : Nat) (a2 : Int32) (a3 : Int32) (off : Int32) (les : Int32) (gre : Int32) (bits : Nat → Int64) (stops : Nat → Int32) (num : Int32) (unit : Int32) (strips : Int32) (caps : Int32) (draw : Int32)  {post : Int32 → Int32 → Int32 → Prop} (hw : wX9_consider a2 a3 off les gre unit strips post) : Met l yX9_consider wsX9_consider rmX9_consider (va_Pc [.ref (h0 0), .ref (h1 0), .int a2, .int a3] (cP D K (fl [wWo K h0 off les gre, wGl K h1 (bits, stops, num, unit, strips, caps, draw)]) sz)) (va_Qv (fun (u : Int32 × Int32 × Int32) => post u.1 u.2.1 u.2.2) (fun u t => cQ D K (fl [wWo K h0 u.1 u.2.1 u.2.2, wGl K h1 (bits, stops, num, unit, strips, caps, draw)]) (va_A (fl [wWo K h0 off les gre, wGl K h1 (bits, stops, num, unit, strips, caps, draw)]) sz) t) (va_A (fl [wWo K h0 off les gre, wGl K h1 (bits, stops, num, unit, strips, caps, draw)]) sz)) 0 0 (va_A (fl [wWo K h0 off les gre, wGl K h1 (bits, stops, num, unit, strips, caps, draw)]) sz) := by
  refine x_entry (cc := cX9_consider) (maxL := 6) (ret := none) (QA := fun A => va_Qv (fun (u : Int32 × Int32 × Int32) => post u.1 u.2.1 u.2.2) (fun u t => cQ D K (fl [wWo K h0 u.1 u.2.1 u.2.2, wGl K h1 (bits, stops, num, unit, strips, caps, draw)]) A t) A) (plainFor_of_name (by decide)) rfl (Nat.le_of_ble_eq_true rfl) ?_
  intro p e s m args below meth c A ls H Q hQ hC hlk hr hnm hI hl
  obtain ⟨hx, hb, hml, hown, hts, hK, hA, hZ⟩ := id hC
  obtain ⟨locs, hlocs⟩ : ∃ y : List Loc, y = [] := ⟨_, rfl⟩
  rw [← hlocs] at hI ⊢
  clear hlocs
  replace hl : lv_has ls 6 [(0, .ref (h0 0)), (1, .ref (h1 0)), (2, .int a2), (3, .int a3)] := hl
  replace hw : wX1_rowOf a2 (fun (r1 : Int32) => wX1_rowOf a3 (fun (r2 : Int32) => wX0_far r1 r2 unit (fun (r3 : Int32) => wX3_straight a2 a3 unit strips (fun (r4 : Int32) => ∀ x5 : Int32, x5 = (if 0 ≤ (r4 - r3) then (r4 - r3) else 0 - (r4 - r3)) → ((x5 ≤ off → post off les gre) ∧ (¬ x5 ≤ off → post x5 a2 a3)))))) := hw
  refine lv_aload_n hx hb dX9_consider_0 rfl (lv_at hl 1 rfl) ?_
  refine lv_iload_n hx hb dX9_consider_1 rfl (lv_at hl 2 rfl) ?_
  refine x_callSi (rest := [.ref (h1 0)]) hC hI [] (mX1_rowOf l D K  _ a2 hw) (va_cwS 1 hts gX9_consider_X1_rowOf rfl rfl rfl (by decide +kernel) ⟨(Nat.le_of_ble_eq_true rfl), (Nat.le_of_ble_eq_true rfl)⟩) (by decide) rfl (fun _ => rfl) rfl hl.1 rfl (Nat.le_of_ble_eq_true rfl) dX9_consider_2 ⟨(Nat.le_of_ble_eq_true rfl), (Nat.le_of_ble_eq_true rfl)⟩ (fun r1 u H locs hw hI => ?_)
  try dsimp only at hw
  have hI : wI s D A (fl [wWo K h0 off les gre, wGl K h1 (bits, stops, num, unit, strips, caps, draw)]) H locs := hI
  refine lv_iload_n hx hb dX9_consider_5 rfl (lv_at hl 3 rfl) ?_
  refine x_callSi (rest := [.int r1, .ref (h1 0)]) hC hI [] (mX1_rowOf l D K  _ a3 hw) (va_cwS 1 hts gX9_consider_X1_rowOf rfl rfl rfl (by decide +kernel) ⟨(Nat.le_of_ble_eq_true rfl), (Nat.le_of_ble_eq_true rfl)⟩) (by decide) rfl (fun _ => rfl) rfl hl.1 rfl (Nat.le_of_ble_eq_true rfl) dX9_consider_6 ⟨(Nat.le_of_ble_eq_true rfl), (Nat.le_of_ble_eq_true rfl)⟩ (fun r2 u H locs hw hI => ?_)
  try dsimp only at hw
  have hI : wI s D A (fl [wWo K h0 off les gre, wGl K h1 (bits, stops, num, unit, strips, caps, draw)]) H locs := hI
  refine x_callVi (rest := []) hC hI [1] (mX0_far l D K h1 _ r1 r2 bits stops num unit strips caps draw hw) (cwV 2 hts gX9_consider_X0_far rfl rfl rfl (by decide +kernel) ⟨(Nat.le_of_ble_eq_true rfl), (Nat.le_of_ble_eq_true rfl)⟩) (by decide) rfl (fun _ => rfl) 1 0 rfl rfl rfl rfl hl.1 rfl (Nat.le_of_ble_eq_true rfl) dX9_consider_9 ⟨(Nat.le_of_ble_eq_true rfl), (Nat.le_of_ble_eq_true rfl)⟩ (fun r3 u H locs hw hI => ?_)
  try dsimp only at hw
  have hI : wI s D A (fl [wWo K h0 off les gre, wGl K h1 (bits, stops, num, unit, strips, caps, draw)]) H locs := hI
  refine lv_istore (lv' := [(4, .int r3), (0, .ref (h0 0)), (1, .ref (h1 0)), (2, .int a2), (3, .int a3)]) hx hb dX9_consider_12 hl (by decide) rfl (fun ls hl => ?_)
  refine lv_aload_n hx hb dX9_consider_14 rfl (lv_at hl 2 rfl) ?_
  refine lv_iload_n hx hb dX9_consider_15 rfl (lv_at hl 3 rfl) ?_
  refine lv_iload_n hx hb dX9_consider_16 rfl (lv_at hl 4 rfl) ?_
  refine x_callSi (rest := []) hC hI [1] (mX3_straight l D K h1 _ a2 a3 bits stops num unit strips caps draw hw) (va_cwS 3 hts gX9_consider_X3_straight rfl rfl rfl (by decide +kernel) ⟨(Nat.le_of_ble_eq_true rfl), (Nat.le_of_ble_eq_true rfl)⟩) (by decide) rfl (fun _ => rfl) rfl hl.1 rfl (Nat.le_of_ble_eq_true rfl) dX9_consider_17 ⟨(Nat.le_of_ble_eq_true rfl), (Nat.le_of_ble_eq_true rfl)⟩ (fun r4 u H locs hw hI => ?_)
  try dsimp only at hw
  have hI : wI s D A (fl [wWo K h0 off les gre, wGl K h1 (bits, stops, num, unit, strips, caps, draw)]) H locs := hI
  refine lv_iload hx hb dX9_consider_20 (lv_at hl 0 rfl) ?_
  refine lv_isub hx hb dX9_consider_22 ?_
  refine va_mabs hx hb (hml.trans hl.1.symm) hown (hts _ kX9_consider_0) (hts _ kX9_consider_1) (hts _ kX9_consider_2) (hts _ kX9_consider_3) (Nat.le_of_ble_eq_true rfl) (Nat.le_of_ble_eq_true rfl) (Nat.le_of_ble_eq_true rfl) (Nat.le_of_ble_eq_true rfl) dX9_consider_23 ?_
  refine lv_topi (fun x5 ex5 => ?_)
  replace hw := hw x5 ex5
  refine lv_istore (lv' := [(5, .int x5), (4, .int r3), (0, .ref (h0 0)), (1, .ref (h1 0)), (2, .int a2), (3, .int a3)]) hx hb dX9_consider_26 hl (by decide) rfl (fun ls hl => ?_)
  refine lv_iload hx hb dX9_consider_28 (lv_at hl 0 rfl) ?_
  refine lv_aload_n hx hb dX9_consider_30 rfl (lv_at hl 2 rfl) ?_
  refine x_get (v := .int off) hC hI kX9_consider_cX9 0 rfl rfl 0 (by decide) kX9_consider_4 rfl rfl dX9_consider_31 ?_
  refine lv_icmp_le (tgt := 53) hx hb dX9_consider_34 (by decide) (fun c6 => ?_) (fun c6 => ?_)
  · replace hw := hw.1 c6
    subst hQ
    exact x_vret (u := (off, les, gre)) hC hI hr hlk hw rfl dX9_consider_53
  · replace hw := hw.2 c6
    refine lv_aload_n hx hb dX9_consider_37 rfl (lv_at hl 2 rfl) ?_
    refine lv_iload hx hb dX9_consider_38 (lv_at hl 0 rfl) ?_
    refine x_put (v := .int x5) hC hI kX9_consider_cX9 tyX9 tyX9_ok nmX9 0 rfl rfl 0 (by decide) kX9_consider_4 rfl rfl rfl rfl (Nat.le_of_ble_eq_true rfl) dX9_consider_40 (fun H locs hI => ?_)
    have hI : wI s D A (fl [wWo K h0 x5 les gre, wGl K h1 (bits, stops, num, unit, strips, caps, draw)]) H locs := hI
    refine lv_aload_n hx hb dX9_consider_43 rfl (lv_at hl 2 rfl) ?_
    refine lv_iload_n hx hb dX9_consider_44 rfl (lv_at hl 4 rfl) ?_
    refine x_put (v := .int a2) hC hI kX9_consider_cX9 tyX9 tyX9_ok nmX9 0 rfl rfl 1 (by decide) kX9_consider_6 rfl rfl rfl rfl (Nat.le_of_ble_eq_true rfl) dX9_consider_45 (fun H locs hI => ?_)
    have hI : wI s D A (fl [wWo K h0 x5 a2 gre, wGl K h1 (bits, stops, num, unit, strips, caps, draw)]) H locs := hI
    refine lv_aload_n hx hb dX9_consider_48 rfl (lv_at hl 2 rfl) ?_
    refine lv_iload_n hx hb dX9_consider_49 rfl (lv_at hl 5 rfl) ?_
    refine x_put (v := .int a3) hC hI kX9_consider_cX9 tyX9 tyX9_ok nmX9 0 rfl rfl 2 (by decide) kX9_consider_7 rfl rfl rfl rfl (Nat.le_of_ble_eq_true rfl) dX9_consider_50 (fun H locs hI => ?_)
    have hI : wI s D A (fl [wWo K h0 x5 a2 a3, wGl K h1 (bits, stops, num, unit, strips, caps, draw)]) H locs := hI
    subst hQ
    exact x_vret (u := (x5, a2, a3)) hC hI hr hlk hw rfl dX9_consider_53

def wX9_seek  (les : Int32) (gre : Int32) (unit : Int32) (strips : Int32) (caps : Int32) (post : Int32 → Int32 → Int32 → Prop) : Prop := (∃ (I7 : Int32 → Int32 → Int32 → Int32 → Prop) (mu7 : Int32 → Int32 → Int32 → Int32 → Nat), I7 (0 : Int32) (-1 : Int32) les gre ∧ ∀ (l2_7 : Int32) (off_7 : Int32) (les_7 : Int32) (gre_7 : Int32), I7 l2_7 off_7 les_7 gre_7 → (((266 : Int32) ≤ l2_7 → post off_7 les_7 gre_7) ∧ (¬ (266 : Int32) ≤ l2_7 → (∃ (I16 : Int32 → Int32 → Int32 → Int32 → Prop) (mu16 : Int32 → Int32 → Int32 → Int32 → Nat), I16 (0 : Int32) off_7 les_7 gre_7 ∧ ∀ (l3_16 : Int32) (off_16 : Int32) (les_16 : Int32) (gre_16 : Int32), I16 l3_16 off_16 les_16 gre_16 → wX1_neighbourNumber l2_7 (fun (r2 : Int32) => ((r2 ≤ l3_16 → ∀ x4 : Int32, x4 = l2_7 + 1 → (I7 x4 off_16 les_16 gre_16 ∧ mu7 x4 off_16 les_16 gre_16 < mu7 l2_7 off_7 les_7 gre_7)) ∧ (¬ r2 ≤ l3_16 → wX1_neighbour l2_7 l3_16 (fun (r5 : Int32) => ((r5 ≤ l2_7 → ∀ x7 : Int32, x7 = l3_16 + 1 → (I16 x7 off_16 les_16 gre_16 ∧ mu16 x7 off_16 les_16 gre_16 < mu16 l3_16 off_16 les_16 gre_16)) ∧ (¬ r5 ≤ l2_7 → wX0_areOnStrips l2_7 r5 caps (fun (r8 : Int32) => ((r8 = 0 → ∀ x10 : Int32, x10 = l3_16 + 1 → (I16 x10 off_16 les_16 gre_16 ∧ mu16 x10 off_16 les_16 gre_16 < mu16 l3_16 off_16 les_16 gre_16)) ∧ (¬ r8 = 0 → wX9_consider l2_7 r5 off_16 les_16 gre_16 unit strips (fun (off_c11 : Int32) (les_c12 : Int32) (gre_c13 : Int32) => ∀ x14 : Int32, x14 = l3_16 + 1 → (I16 x14 off_c11 les_c12 gre_c13 ∧ mu16 x14 off_c11 les_c12 gre_c13 < mu16 l3_16 off_16 les_16 gre_16)))))))))))))))
def rmX9_seek : Room := { frames := 4, cells := 0, slots := 0, locals := 99 }
theorem kX9_seek_0 : Cond.fieldLink RX9 7 "GoreGlobe$WorstPair" "off" "I" ∈ wsX9_seek := List.mem_cons_of_mem _ (List.mem_append_left _ (List.mem_append_left _ (List.mem_append_left _ (List.mem_of_getElem? (i := 0) rfl))))
theorem kX9_seek_cX9 : ∀ w ∈ wsX90, w ∈ wsX9_seek := fun _ h => List.mem_cons_of_mem _ (List.mem_append_left _ (List.mem_append_right _ h))
set_option maxHeartbeats 4000000 in
set_option maxRecDepth 100000 in
theorem mX9_seek (l : Launch) (D : va_G) (K : Nat → ClassId) (h0 : Nat → Nat) (h1 : Nat → Nat) (sz : Nat)  (off : Int32) (les : Int32) (gre : Int32) (bits : Nat → Int64) (stops : Nat → Int32) (num : Int32) (unit : Int32) (strips : Int32) (caps : Int32) (draw : Int32)  {post : Int32 → Int32 → Int32 → Prop} (hw : wX9_seek  les gre unit strips caps post) : Met l yX9_seek wsX9_seek rmX9_seek (va_Pc [.ref (h0 0), .ref (h1 0)] (cP D K (fl [wWo K h0 off les gre, wGl K h1 (bits, stops, num, unit, strips, caps, draw)]) sz)) (va_Qv (fun (u : Int32 × Int32 × Int32) => post u.1 u.2.1 u.2.2) (fun u t => cQ D K (fl [wWo K h0 u.1 u.2.1 u.2.2, wGl K h1 (bits, stops, num, unit, strips, caps, draw)]) (va_A (fl [wWo K h0 off les gre, wGl K h1 (bits, stops, num, unit, strips, caps, draw)]) sz) t) (va_A (fl [wWo K h0 off les gre, wGl K h1 (bits, stops, num, unit, strips, caps, draw)]) sz)) 0 0 (va_A (fl [wWo K h0 off les gre, wGl K h1 (bits, stops, num, unit, strips, caps, draw)]) sz) := by
  refine x_entry (cc := cX9_seek) (maxL := 5) (ret := none) (QA := fun A => va_Qv (fun (u : Int32 × Int32 × Int32) => post u.1 u.2.1 u.2.2) (fun u t => cQ D K (fl [wWo K h0 u.1 u.2.1 u.2.2, wGl K h1 (bits, stops, num, unit, strips, caps, draw)]) A t) A) (plainFor_of_name (by decide)) rfl (Nat.le_of_ble_eq_true rfl) ?_
  intro p e s m args below meth c A ls H Q hQ hC hlk hr hnm hI hl
  obtain ⟨hx, hb, hml, hown, hts, hK, hA, hZ⟩ := id hC
  obtain ⟨locs, hlocs⟩ : ∃ y : List Loc, y = [] := ⟨_, rfl⟩
  rw [← hlocs] at hI ⊢
  clear hlocs
  replace hl : lv_has ls 5 [(0, .ref (h0 0)), (1, .ref (h1 0))] := hl
  replace hw : (∃ (I7 : Int32 → Int32 → Int32 → Int32 → Prop) (mu7 : Int32 → Int32 → Int32 → Int32 → Nat), I7 (0 : Int32) (-1 : Int32) les gre ∧ ∀ (l2_7 : Int32) (off_7 : Int32) (les_7 : Int32) (gre_7 : Int32), I7 l2_7 off_7 les_7 gre_7 → (((266 : Int32) ≤ l2_7 → post off_7 les_7 gre_7) ∧ (¬ (266 : Int32) ≤ l2_7 → (∃ (I16 : Int32 → Int32 → Int32 → Int32 → Prop) (mu16 : Int32 → Int32 → Int32 → Int32 → Nat), I16 (0 : Int32) off_7 les_7 gre_7 ∧ ∀ (l3_16 : Int32) (off_16 : Int32) (les_16 : Int32) (gre_16 : Int32), I16 l3_16 off_16 les_16 gre_16 → wX1_neighbourNumber l2_7 (fun (r2 : Int32) => ((r2 ≤ l3_16 → ∀ x4 : Int32, x4 = l2_7 + 1 → (I7 x4 off_16 les_16 gre_16 ∧ mu7 x4 off_16 les_16 gre_16 < mu7 l2_7 off_7 les_7 gre_7)) ∧ (¬ r2 ≤ l3_16 → wX1_neighbour l2_7 l3_16 (fun (r5 : Int32) => ((r5 ≤ l2_7 → ∀ x7 : Int32, x7 = l3_16 + 1 → (I16 x7 off_16 les_16 gre_16 ∧ mu16 x7 off_16 les_16 gre_16 < mu16 l3_16 off_16 les_16 gre_16)) ∧ (¬ r5 ≤ l2_7 → wX0_areOnStrips l2_7 r5 caps (fun (r8 : Int32) => ((r8 = 0 → ∀ x10 : Int32, x10 = l3_16 + 1 → (I16 x10 off_16 les_16 gre_16 ∧ mu16 x10 off_16 les_16 gre_16 < mu16 l3_16 off_16 les_16 gre_16)) ∧ (¬ r8 = 0 → wX9_consider l2_7 r5 off_16 les_16 gre_16 unit strips (fun (off_c11 : Int32) (les_c12 : Int32) (gre_c13 : Int32) => ∀ x14 : Int32, x14 = l3_16 + 1 → (I16 x14 off_c11 les_c12 gre_c13 ∧ mu16 x14 off_c11 les_c12 gre_c13 < mu16 l3_16 off_16 les_16 gre_16))))))))))))))) := hw
  refine lv_aload_n hx hb dX9_seek_0 rfl (lv_at hl 0 rfl) ?_
  refine lv_iconst (v := (-1 : Int32)) hx hb dX9_seek_1 (by decide) ?_
  refine x_put (v := .int (-1 : Int32)) hC hI kX9_seek_cX9 tyX9 tyX9_ok nmX9 0 rfl rfl 0 (by decide) kX9_seek_0 rfl rfl rfl rfl (Nat.le_of_ble_eq_true rfl) dX9_seek_2 (fun H locs hI => ?_)
  have hI : wI s D A (fl [wWo K h0 (-1 : Int32) les gre, wGl K h1 (bits, stops, num, unit, strips, caps, draw)]) H locs := hI
  refine lv_iconst (v := (0 : Int32)) hx hb dX9_seek_5 (by decide) ?_
  refine lv_istore_n (lv' := [(2, .int (0 : Int32)), (0, .ref (h0 0)), (1, .ref (h1 0))]) hx hb dX9_seek_6 rfl hl (by decide) rfl (fun ls hl => ?_)
  obtain ⟨I7, mu7, hw, hb7⟩ := hw
  have lp7 : ∀ (k : Nat) (l2_7 : Int32) (off_7 : Int32) (les_7 : Int32) (gre_7 : Int32) (ls : Array Slot) (H : Heap) (locs : List Loc), mu7 l2_7 off_7 les_7 gre_7 < k → I7 l2_7 off_7 les_7 gre_7 → wI s D A (fl [wWo K h0 off_7 les_7 gre_7, wGl K h1 (bits, stops, num, unit, strips, caps, draw)]) H locs → lv_has ls 5 [(0, .ref (h0 0)), (1, .ref (h1 0)), (2, .int l2_7)] → W p l e rmX9_seek s m args below meth c H locs 0 0 Q (F0 m 7 ls []) := by
    intro k
    induction k with
    | zero => intro l2_7 off_7 les_7 gre_7 ls H locs hmu; exact absurd hmu (Nat.not_lt_zero _)
    | succ k ih7 =>
      intro l2_7 off_7 les_7 gre_7 ls H locs hmu7 hw hI hl
      replace hw := hb7 l2_7 off_7 les_7 gre_7 hw
      refine lv_iload_n hx hb dX9_seek_7 rfl (lv_at hl 2 rfl) ?_
      refine lv_sipush (v := (266 : Int32)) hx hb dX9_seek_8 (by decide) ?_
      refine lv_icmp_ge (tgt := 67) hx hb dX9_seek_11 (by decide) (fun c1 => ?_) (fun c1 => ?_)
      · replace hw := hw.1 c1
        subst hQ
        exact x_vret (u := (off_7, les_7, gre_7)) hC hI hr hlk hw rfl dX9_seek_67
      · replace hw := hw.2 c1
        refine lv_iconst (v := (0 : Int32)) hx hb dX9_seek_14 (by decide) ?_
        refine lv_istore_n (lv' := [(3, .int (0 : Int32)), (0, .ref (h0 0)), (1, .ref (h1 0)), (2, .int l2_7)]) hx hb dX9_seek_15 rfl hl (by decide) rfl (fun ls hl => ?_)
        obtain ⟨I16, mu16, hw, hb16⟩ := hw
        have lp16 : ∀ (k : Nat) (l3_16 : Int32) (off_16 : Int32) (les_16 : Int32) (gre_16 : Int32) (ls : Array Slot) (H : Heap) (locs : List Loc), mu16 l3_16 off_16 les_16 gre_16 < k → I16 l3_16 off_16 les_16 gre_16 → wI s D A (fl [wWo K h0 off_16 les_16 gre_16, wGl K h1 (bits, stops, num, unit, strips, caps, draw)]) H locs → lv_has ls 5 [(0, .ref (h0 0)), (1, .ref (h1 0)), (2, .int l2_7), (3, .int l3_16)] → W p l e rmX9_seek s m args below meth c H locs 0 0 Q (F0 m 16 ls []) := by
          intro k
          induction k with
          | zero => intro l3_16 off_16 les_16 gre_16 ls H locs hmu; exact absurd hmu (Nat.not_lt_zero _)
          | succ k ih16 =>
            intro l3_16 off_16 les_16 gre_16 ls H locs hmu16 hw hI hl
            replace hw := hb16 l3_16 off_16 les_16 gre_16 hw
            refine lv_iload_n hx hb dX9_seek_16 rfl (lv_at hl 3 rfl) ?_
            refine lv_iload_n hx hb dX9_seek_17 rfl (lv_at hl 2 rfl) ?_
            refine x_callSi (rest := [.int l3_16]) hC hI [] (mX1_neighbourNumber l D K  _ l2_7 hw) (va_cwS 1 hts gX9_seek_X1_neighbourNumber rfl rfl rfl (by decide +kernel) ⟨(Nat.le_of_ble_eq_true rfl), (Nat.le_of_ble_eq_true rfl)⟩) (by decide) rfl (fun _ => rfl) rfl hl.1 rfl (Nat.le_of_ble_eq_true rfl) dX9_seek_18 ⟨(Nat.le_of_ble_eq_true rfl), (Nat.le_of_ble_eq_true rfl)⟩ (fun r2 u H locs hw hI => ?_)
            try dsimp only at hw
            have hI : wI s D A (fl [wWo K h0 off_16 les_16 gre_16, wGl K h1 (bits, stops, num, unit, strips, caps, draw)]) H locs := hI
            refine lv_icmp_ge (tgt := 61) hx hb dX9_seek_21 (by decide) (fun c3 => ?_) (fun c3 => ?_)
            · replace hw := hw.1 c3
              obtain ⟨x4, ex4⟩ : ∃ y : Int32, y = l2_7 + 1 := ⟨_, rfl⟩
              replace hw := hw x4 ex4
              refine lv_iinc (v := x4) (lv' := [(2, .int x4), (0, .ref (h0 0)), (1, .ref (h1 0)), (3, .int l3_16)]) hx hb dX9_seek_61 hl (k := 2) rfl (by rw [ex4]; rfl) (by decide) rfl (fun ls hl => ?_)
              refine lv_goto (tgt := 7) hx hb dX9_seek_64 (by decide) ?_
              exact ih7 x4 off_16 les_16 gre_16 ls H locs (Nat.lt_of_lt_of_le hw.2 (Nat.le_of_lt_succ hmu7)) hw.1 hI (lv_sub hl [1, 2, 0] rfl)
            · replace hw := hw.2 c3
              refine lv_iload_n hx hb dX9_seek_24 rfl (lv_at hl 2 rfl) ?_
              refine lv_iload_n hx hb dX9_seek_25 rfl (lv_at hl 3 rfl) ?_
              refine x_callSi (rest := []) hC hI [] (mX1_neighbour l D K  _ l2_7 l3_16 hw) (va_cwS 2 hts gX9_seek_X1_neighbour rfl rfl rfl (by decide +kernel) ⟨(Nat.le_of_ble_eq_true rfl), (Nat.le_of_ble_eq_true rfl)⟩) (by decide) rfl (fun _ => rfl) rfl hl.1 rfl (Nat.le_of_ble_eq_true rfl) dX9_seek_26 ⟨(Nat.le_of_ble_eq_true rfl), (Nat.le_of_ble_eq_true rfl)⟩ (fun r5 u H locs hw hI => ?_)
              try dsimp only at hw
              have hI : wI s D A (fl [wWo K h0 off_16 les_16 gre_16, wGl K h1 (bits, stops, num, unit, strips, caps, draw)]) H locs := hI
              refine lv_istore (lv' := [(4, .int r5), (0, .ref (h0 0)), (1, .ref (h1 0)), (2, .int l2_7), (3, .int l3_16)]) hx hb dX9_seek_29 hl (by decide) rfl (fun ls hl => ?_)
              refine lv_iload hx hb dX9_seek_31 (lv_at hl 0 rfl) ?_
              refine lv_iload_n hx hb dX9_seek_33 rfl (lv_at hl 3 rfl) ?_
              refine lv_icmp_le (tgt := 55) hx hb dX9_seek_34 (by decide) (fun c6 => ?_) (fun c6 => ?_)
              · replace hw := hw.1 c6
                obtain ⟨x7, ex7⟩ : ∃ y : Int32, y = l3_16 + 1 := ⟨_, rfl⟩
                replace hw := hw x7 ex7
                refine lv_iinc (v := x7) (lv' := [(3, .int x7), (4, .int r5), (0, .ref (h0 0)), (1, .ref (h1 0)), (2, .int l2_7)]) hx hb dX9_seek_55 hl (k := 4) rfl (by rw [ex7]; rfl) (by decide) rfl (fun ls hl => ?_)
                refine lv_goto (tgt := 16) hx hb dX9_seek_58 (by decide) ?_
                exact ih16 x7 off_16 les_16 gre_16 ls H locs (Nat.lt_of_lt_of_le hw.2 (Nat.le_of_lt_succ hmu16)) hw.1 hI (lv_sub hl [2, 3, 4, 0] rfl)
              · replace hw := hw.2 c6
                refine lv_aload_n hx hb dX9_seek_37 rfl (lv_at hl 2 rfl) ?_
                refine lv_iload_n hx hb dX9_seek_38 rfl (lv_at hl 3 rfl) ?_
                refine lv_iload hx hb dX9_seek_39 (lv_at hl 0 rfl) ?_
                refine x_callVi (rest := []) hC hI [1] (mX0_areOnStrips l D K h1 _ l2_7 r5 bits stops num unit strips caps draw hw) (cwV 2 hts gX9_seek_X0_areOnStrips rfl rfl rfl (by decide +kernel) ⟨(Nat.le_of_ble_eq_true rfl), (Nat.le_of_ble_eq_true rfl)⟩) (by decide) rfl (fun _ => rfl) 1 0 rfl rfl rfl rfl hl.1 rfl (Nat.le_of_ble_eq_true rfl) dX9_seek_41 ⟨(Nat.le_of_ble_eq_true rfl), (Nat.le_of_ble_eq_true rfl)⟩ (fun r8 u H locs hw hI => ?_)
                try dsimp only at hw
                have hI : wI s D A (fl [wWo K h0 off_16 les_16 gre_16, wGl K h1 (bits, stops, num, unit, strips, caps, draw)]) H locs := hI
                refine lv_if_eq (tgt := 55) hx hb dX9_seek_44 (by decide) (fun c9 => ?_) (fun c9 => ?_)
                · replace hw := hw.1 c9
                  obtain ⟨x10, ex10⟩ : ∃ y : Int32, y = l3_16 + 1 := ⟨_, rfl⟩
                  replace hw := hw x10 ex10
                  refine lv_iinc (v := x10) (lv' := [(3, .int x10), (4, .int r5), (0, .ref (h0 0)), (1, .ref (h1 0)), (2, .int l2_7)]) hx hb dX9_seek_55 hl (k := 4) rfl (by rw [ex10]; rfl) (by decide) rfl (fun ls hl => ?_)
                  refine lv_goto (tgt := 16) hx hb dX9_seek_58 (by decide) ?_
                  exact ih16 x10 off_16 les_16 gre_16 ls H locs (Nat.lt_of_lt_of_le hw.2 (Nat.le_of_lt_succ hmu16)) hw.1 hI (lv_sub hl [2, 3, 4, 0] rfl)
                · replace hw := hw.2 c9
                  refine lv_aload_n hx hb dX9_seek_47 rfl (lv_at hl 1 rfl) ?_
                  refine lv_aload_n hx hb dX9_seek_48 rfl (lv_at hl 2 rfl) ?_
                  refine lv_iload_n hx hb dX9_seek_49 rfl (lv_at hl 3 rfl) ?_
                  refine lv_iload hx hb dX9_seek_50 (lv_at hl 0 rfl) ?_
                  refine x_callVv (rest := []) hC hI [0, 1] (mX9_consider l D K h0 h1 _ l2_7 r5 off_16 les_16 gre_16 bits stops num unit strips caps draw hw) (cwV 3 hts gX9_seek_X9_consider rfl rfl rfl (by decide +kernel) ⟨(Nat.le_of_ble_eq_true rfl), (Nat.le_of_ble_eq_true rfl)⟩) (by decide) rfl (fun _ => rfl) 0 7 rfl rfl rfl rfl hl.1 rfl (Nat.le_of_ble_eq_true rfl) dX9_seek_52 ⟨(Nat.le_of_ble_eq_true rfl), (Nat.le_of_ble_eq_true rfl)⟩ (fun u H locs hw hI => ?_)
                  obtain ⟨off_c11, les_c12, gre_c13⟩ := u
                  try dsimp only at hw
                  have hI : wI s D A (fl [wWo K h0 off_c11 les_c12 gre_c13, wGl K h1 (bits, stops, num, unit, strips, caps, draw)]) H locs := hI
                  obtain ⟨x14, ex14⟩ : ∃ y : Int32, y = l3_16 + 1 := ⟨_, rfl⟩
                  replace hw := hw x14 ex14
                  refine lv_iinc (v := x14) (lv' := [(3, .int x14), (4, .int r5), (0, .ref (h0 0)), (1, .ref (h1 0)), (2, .int l2_7)]) hx hb dX9_seek_55 hl (k := 4) rfl (by rw [ex14]; rfl) (by decide) rfl (fun ls hl => ?_)
                  refine lv_goto (tgt := 16) hx hb dX9_seek_58 (by decide) ?_
                  exact ih16 x14 off_c11 les_c12 gre_c13 ls H locs (Nat.lt_of_lt_of_le hw.2 (Nat.le_of_lt_succ hmu16)) hw.1 hI (lv_sub hl [2, 3, 4, 0] rfl)
        exact lp16 (mu16 (0 : Int32) off_7 les_7 gre_7 + 1) (0 : Int32) off_7 les_7 gre_7 ls H locs (Nat.lt_succ_self _) hw hI (lv_sub hl [1, 2, 3, 0] rfl)
  exact lp7 (mu7 (0 : Int32) (-1 : Int32) les gre + 1) (0 : Int32) (-1 : Int32) les gre ls H locs (Nat.lt_succ_self _) hw hI (lv_sub hl [1, 2, 0] rfl)
