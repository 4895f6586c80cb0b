def wX11_laysWays (a1 : Int32) (st : Nat → Int32) (farTo : Nat → Int32) (stepsTo : Nat → Int32) (post : (Nat → Int32) → (Nat → Int32) → Prop) : Prop := wX11_isLand a1 st (fun (r1 : Int32) => (∃ (I8 : Int32 → (Nat → Int32) → (Nat → Int32) → Prop) (mu8 : Int32 → (Nat → Int32) → (Nat → Int32) → Nat), I8 (0 : Int32) farTo stepsTo ∧ ∀ (l3_8 : Int32) (farTo_8 : Nat → Int32) (stepsTo_8 : Nat → Int32), I8 l3_8 farTo_8 stepsTo_8 → (((266 : Int32) ≤ l3_8 → (∃ (I63 : Int32 → (Nat → Int32) → (Nat → Int32) → Prop) (mu63 : Int32 → (Nat → Int32) → (Nat → Int32) → Nat), I63 r1 farTo_8 stepsTo_8 ∧ ∀ (l2_63 : Int32) (farTo_63 : Nat → Int32) (stepsTo_63 : Nat → Int32), I63 l2_63 farTo_63 stepsTo_63 → ((l2_63 = 0 → (∃ (I71 : Int32 → Int32 → (Nat → Int32) → (Nat → Int32) → Prop) (mu71 : Int32 → Int32 → (Nat → Int32) → (Nat → Int32) → Nat), I71 (1 : Int32) (0 : Int32) farTo_63 stepsTo_63 ∧ ∀ (l2_71 : Int32) (l3_71 : Int32) (farTo_71 : Nat → Int32) (stepsTo_71 : Nat → Int32), I71 l2_71 l3_71 farTo_71 stepsTo_71 → (((266 : Int32) ≤ l3_71 → (I63 l2_71 farTo_71 stepsTo_71 ∧ mu63 l2_71 farTo_71 stepsTo_71 < mu63 l2_63 farTo_63 stepsTo_63)) ∧ (¬ (266 : Int32) ≤ l3_71 → (∃ (I81 : Int32 → Int32 → (Nat → Int32) → (Nat → Int32) → Prop) (mu81 : Int32 → Int32 → (Nat → Int32) → (Nat → Int32) → Nat), I81 l2_71 (0 : Int32) farTo_71 stepsTo_71 ∧ ∀ (l2_81 : Int32) (l4_81 : Int32) (farTo_81 : Nat → Int32) (stepsTo_81 : Nat → Int32), I81 l2_81 l4_81 farTo_81 stepsTo_81 → wX11_neighbours l3_71 (fun (r5 : Int32) => ((r5 ≤ l4_81 → ∀ x7 : Int32, x7 = l3_71 + 1 → (I71 l2_81 x7 farTo_81 stepsTo_81 ∧ mu71 l2_81 x7 farTo_81 stepsTo_81 < mu71 l2_71 l3_71 farTo_71 stepsTo_71)) ∧ (¬ r5 ≤ l4_81 → wX11_neighbour l3_71 l4_81 (fun (r8 : Int32) => wX11_isLand l3_71 st (fun (r9 : Int32) => ((r9 = 0 → wX11_isLand r8 st (fun (r12 : Int32) => ((r12 = 0 → wX11_isShorter l3_71 r8 st farTo_81 stepsTo_81 (fun (r15 : Int32) => ((r15 = 0 → ∀ x17 : Int32, x17 = l4_81 + 1 → (I81 l2_81 x17 farTo_81 stepsTo_81 ∧ mu81 l2_81 x17 farTo_81 stepsTo_81 < mu81 l2_81 l4_81 farTo_81 stepsTo_81)) ∧ (¬ r15 = 0 → vp_in r8 266 ∧ wX11_farOf l3_71 r8 st (fun (r19 : Int32) => vp_in l3_71 266 ∧ vp_in r8 266 ∧ vp_in l3_71 266 ∧ ∀ x23 : Int32, x23 = l4_81 + 1 → (I81 (0 : Int32) x23 (upd farTo_81 l3_71.toNatClampNeg ((farTo_81 r8.toNatClampNeg) + r19)) (upd stepsTo_81 l3_71.toNatClampNeg ((stepsTo_81 r8.toNatClampNeg) + (1 : Int32))) ∧ mu81 (0 : Int32) x23 (upd farTo_81 l3_71.toNatClampNeg ((farTo_81 r8.toNatClampNeg) + r19)) (upd stepsTo_81 l3_71.toNatClampNeg ((stepsTo_81 r8.toNatClampNeg) + (1 : Int32))) < mu81 l2_81 l4_81 farTo_81 stepsTo_81)))))) ∧ (¬ r12 = 0 → ∀ x14 : Int32, x14 = l4_81 + 1 → (I81 l2_81 x14 farTo_81 stepsTo_81 ∧ mu81 l2_81 x14 farTo_81 stepsTo_81 < mu81 l2_81 l4_81 farTo_81 stepsTo_81))))) ∧ (¬ r9 = 0 → ∀ x11 : Int32, x11 = l4_81 + 1 → (I81 l2_81 x11 farTo_81 stepsTo_81 ∧ mu81 l2_81 x11 farTo_81 stepsTo_81 < mu81 l2_81 l4_81 farTo_81 stepsTo_81))))))))))))) ∧ (¬ l2_63 = 0 → post farTo_63 stepsTo_63)))) ∧ (¬ (266 : Int32) ≤ l3_8 → ∃ J39 : Int32 → Prop, (∀ (t_39 : Int32), J39 t_39 → vp_in l3_8 266 ∧ ((l3_8 = a1 → vp_in l3_8 266 ∧ ∀ x29 : Int32, x29 = l3_8 + 1 → (I8 x29 (upd farTo_8 l3_8.toNatClampNeg t_39) (upd stepsTo_8 l3_8.toNatClampNeg (0 : Int32)) ∧ mu8 x29 (upd farTo_8 l3_8.toNatClampNeg t_39) (upd stepsTo_8 l3_8.toNatClampNeg (0 : Int32)) < mu8 l3_8 farTo_8 stepsTo_8)) ∧ (¬ l3_8 = a1 → vp_in l3_8 266 ∧ ∀ x27 : Int32, x27 = l3_8 + 1 → (I8 x27 (upd farTo_8 l3_8.toNatClampNeg t_39) (upd stepsTo_8 l3_8.toNatClampNeg (100000000 : Int32)) ∧ mu8 x27 (upd farTo_8 l3_8.toNatClampNeg t_39) (upd stepsTo_8 l3_8.toNatClampNeg (100000000 : Int32)) < mu8 l3_8 farTo_8 stepsTo_8)))) ∧ ∃ J37 : Prop, (J37 → J39 (100000000 : Int32)) ∧ ((l3_8 = a1 → wX11_isLand a1 st (fun (r31 : Int32) => ((r31 = 0 → J39 (0 : Int32)) ∧ (¬ r31 = 0 → J37)))) ∧ (¬ l3_8 = a1 → J37))))))
def rmX11_laysWays : Room := { frames := 6, cells := 0, slots := 0, locals := 129 }
theorem kX11_laysWays_0 : Cond.fieldLink RX11 45 "GoreGlobeModel" "farTo" "[I" ∈ wsX11_laysWays := List.mem_cons_of_mem _ (List.mem_append_left _ (List.mem_append_left _ (List.mem_of_getElem? (i := 0) rfl)))
theorem kX11_laysWays_cX11 : ∀ w ∈ wsX110, w ∈ wsX11_laysWays := fun _ h => List.mem_cons_of_mem _ (List.mem_append_right _ h)
theorem kX11_laysWays_2 : Cond.fieldLink RX11 48 "GoreGlobeModel" "stepsTo" "[I" ∈ wsX11_laysWays := List.mem_cons_of_mem _ (List.mem_append_left _ (List.mem_append_left _ (List.mem_of_getElem? (i := 2) rfl)))
theorem kX11_laysWays_3 : Cond.constant RX11 155 (100000000) ∈ wsX11_laysWays := List.mem_cons_of_mem _ (List.mem_append_left _ (List.mem_append_left _ (List.mem_of_getElem? (i := 1) rfl)))
set_option maxHeartbeats 4000000 in
set_option maxRecDepth 100000 in
theorem mX11_laysWays (l : Launch) (D : va_G) (K : Nat → ClassId) (h : Nat → Nat) (sz : Nat) (a1 : Int32) (st : Nat → Int32) (past : Nat → Int32) (acts : Int32) (image : Nat → Int32) (ipast : Nat → Int32) (iacts : Int32) (tape : Nat → Int32) (tmany : Int32) (laneOf : Nat → Int32) (sizeOf : Nat → Int32) (items : Nat → Int64) (seaFirst : Nat → Int32) (worstOf : Nat → Int32) (farTo : Nat → Int32) (stepsTo : Nat → Int32) (needs : Nat → Int32) (nmany : Int32) (mat : Int32) (told : Nat → Int32)  {post : (Nat → Int32) → (Nat → Int32) → Prop} (hw : wX11_laysWays a1 st farTo stepsTo post) : Met l yX11_laysWays wsX11_laysWays rmX11_laysWays (va_Pc [.ref (h 0), .int a1] (cP D K (fl [wMo K h st past acts image ipast iacts tape tmany laneOf sizeOf items seaFirst worstOf farTo stepsTo needs nmany mat told]) sz)) (va_Qv (fun (u : (Nat → Int32) × (Nat → Int32)) => post u.1 u.2) (fun u t => cQ D K (fl [wMo K h st past acts image ipast iacts tape tmany laneOf sizeOf items seaFirst worstOf u.1 u.2 needs nmany mat told]) (va_A (fl [wMo K h st past acts image ipast iacts tape tmany laneOf sizeOf items seaFirst worstOf farTo stepsTo needs nmany mat told]) sz) t) (va_A (fl [wMo K h st past acts image ipast iacts tape tmany laneOf sizeOf items seaFirst worstOf farTo stepsTo needs nmany mat told]) sz)) 0 0 (va_A (fl [wMo K h st past acts image ipast iacts tape tmany laneOf sizeOf items seaFirst worstOf farTo stepsTo needs nmany mat told]) sz) := by
  refine x_entry (cc := cX11_laysWays) (maxL := 6) (ret := none) (QA := fun A => va_Qv (fun (u : (Nat → Int32) × (Nat → Int32)) => post u.1 u.2) (fun u t => cQ D K (fl [wMo K h st past acts image ipast iacts tape tmany laneOf sizeOf items seaFirst worstOf u.1 u.2 needs nmany mat told]) A t) A) (plainFor_of_name (by decide)) rfl (Nat.le_of_ble_eq_true rfl) ?_
  intro p e s m args below meth c A ls H Q hQ hC hlk hr hnm hI hl
  obtain ⟨hx, hb, hml, hown, hts, hK, hA, hZ⟩ := id hC
  obtain ⟨locs, hlocs⟩ : ∃ y : List Loc, y = [] := ⟨_, rfl⟩
  rw [← hlocs] at hI ⊢
  clear hlocs
  replace hl : lv_has ls 6 [(0, .ref (h 0)), (1, .int a1)] := hl
  replace hw : wX11_isLand a1 st (fun (r1 : Int32) => (∃ (I8 : Int32 → (Nat → Int32) → (Nat → Int32) → Prop) (mu8 : Int32 → (Nat → Int32) → (Nat → Int32) → Nat), I8 (0 : Int32) farTo stepsTo ∧ ∀ (l3_8 : Int32) (farTo_8 : Nat → Int32) (stepsTo_8 : Nat → Int32), I8 l3_8 farTo_8 stepsTo_8 → (((266 : Int32) ≤ l3_8 → (∃ (I63 : Int32 → (Nat → Int32) → (Nat → Int32) → Prop) (mu63 : Int32 → (Nat → Int32) → (Nat → Int32) → Nat), I63 r1 farTo_8 stepsTo_8 ∧ ∀ (l2_63 : Int32) (farTo_63 : Nat → Int32) (stepsTo_63 : Nat → Int32), I63 l2_63 farTo_63 stepsTo_63 → ((l2_63 = 0 → (∃ (I71 : Int32 → Int32 → (Nat → Int32) → (Nat → Int32) → Prop) (mu71 : Int32 → Int32 → (Nat → Int32) → (Nat → Int32) → Nat), I71 (1 : Int32) (0 : Int32) farTo_63 stepsTo_63 ∧ ∀ (l2_71 : Int32) (l3_71 : Int32) (farTo_71 : Nat → Int32) (stepsTo_71 : Nat → Int32), I71 l2_71 l3_71 farTo_71 stepsTo_71 → (((266 : Int32) ≤ l3_71 → (I63 l2_71 farTo_71 stepsTo_71 ∧ mu63 l2_71 farTo_71 stepsTo_71 < mu63 l2_63 farTo_63 stepsTo_63)) ∧ (¬ (266 : Int32) ≤ l3_71 → (∃ (I81 : Int32 → Int32 → (Nat → Int32) → (Nat → Int32) → Prop) (mu81 : Int32 → Int32 → (Nat → Int32) → (Nat → Int32) → Nat), I81 l2_71 (0 : Int32) farTo_71 stepsTo_71 ∧ ∀ (l2_81 : Int32) (l4_81 : Int32) (farTo_81 : Nat → Int32) (stepsTo_81 : Nat → Int32), I81 l2_81 l4_81 farTo_81 stepsTo_81 → wX11_neighbours l3_71 (fun (r5 : Int32) => ((r5 ≤ l4_81 → ∀ x7 : Int32, x7 = l3_71 + 1 → (I71 l2_81 x7 farTo_81 stepsTo_81 ∧ mu71 l2_81 x7 farTo_81 stepsTo_81 < mu71 l2_71 l3_71 farTo_71 stepsTo_71)) ∧ (¬ r5 ≤ l4_81 → wX11_neighbour l3_71 l4_81 (fun (r8 : Int32) => wX11_isLand l3_71 st (fun (r9 : Int32) => ((r9 = 0 → wX11_isLand r8 st (fun (r12 : Int32) => ((r12 = 0 → wX11_isShorter l3_71 r8 st farTo_81 stepsTo_81 (fun (r15 : Int32) => ((r15 = 0 → ∀ x17 : Int32, x17 = l4_81 + 1 → (I81 l2_81 x17 farTo_81 stepsTo_81 ∧ mu81 l2_81 x17 farTo_81 stepsTo_81 < mu81 l2_81 l4_81 farTo_81 stepsTo_81)) ∧ (¬ r15 = 0 → vp_in r8 266 ∧ wX11_farOf l3_71 r8 st (fun (r19 : Int32) => vp_in l3_71 266 ∧ vp_in r8 266 ∧ vp_in l3_71 266 ∧ ∀ x23 : Int32, x23 = l4_81 + 1 → (I81 (0 : Int32) x23 (upd farTo_81 l3_71.toNatClampNeg ((farTo_81 r8.toNatClampNeg) + r19)) (upd stepsTo_81 l3_71.toNatClampNeg ((stepsTo_81 r8.toNatClampNeg) + (1 : Int32))) ∧ mu81 (0 : Int32) x23 (upd farTo_81 l3_71.toNatClampNeg ((farTo_81 r8.toNatClampNeg) + r19)) (upd stepsTo_81 l3_71.toNatClampNeg ((stepsTo_81 r8.toNatClampNeg) + (1 : Int32))) < mu81 l2_81 l4_81 farTo_81 stepsTo_81)))))) ∧ (¬ r12 = 0 → ∀ x14 : Int32, x14 = l4_81 + 1 → (I81 l2_81 x14 farTo_81 stepsTo_81 ∧ mu81 l2_81 x14 farTo_81 stepsTo_81 < mu81 l2_81 l4_81 farTo_81 stepsTo_81))))) ∧ (¬ r9 = 0 → ∀ x11 : Int32, x11 = l4_81 + 1 → (I81 l2_81 x11 farTo_81 stepsTo_81 ∧ mu81 l2_81 x11 farTo_81 stepsTo_81 < mu81 l2_81 l4_81 farTo_81 stepsTo_81))))))))))))) ∧ (¬ l2_63 = 0 → post farTo_63 stepsTo_63)))) ∧ (¬ (266 : Int32) ≤ l3_8 → ∃ J39 : Int32 → Prop, (∀ (t_39 : Int32), J39 t_39 → vp_in l3_8 266 ∧ ((l3_8 = a1 → vp_in l3_8 266 ∧ ∀ x29 : Int32, x29 = l3_8 + 1 → (I8 x29 (upd farTo_8 l3_8.toNatClampNeg t_39) (upd stepsTo_8 l3_8.toNatClampNeg (0 : Int32)) ∧ mu8 x29 (upd farTo_8 l3_8.toNatClampNeg t_39) (upd stepsTo_8 l3_8.toNatClampNeg (0 : Int32)) < mu8 l3_8 farTo_8 stepsTo_8)) ∧ (¬ l3_8 = a1 → vp_in l3_8 266 ∧ ∀ x27 : Int32, x27 = l3_8 + 1 → (I8 x27 (upd farTo_8 l3_8.toNatClampNeg t_39) (upd stepsTo_8 l3_8.toNatClampNeg (100000000 : Int32)) ∧ mu8 x27 (upd farTo_8 l3_8.toNatClampNeg t_39) (upd stepsTo_8 l3_8.toNatClampNeg (100000000 : Int32)) < mu8 l3_8 farTo_8 stepsTo_8)))) ∧ ∃ J37 : Prop, (J37 → J39 (100000000 : Int32)) ∧ ((l3_8 = a1 → wX11_isLand a1 st (fun (r31 : Int32) => ((r31 = 0 → J39 (0 : Int32)) ∧ (¬ r31 = 0 → J37)))) ∧ (¬ l3_8 = a1 → J37)))))) := hw
  refine lv_aload_n hx hb dX11_laysWays_0 rfl (lv_at hl 0 rfl) ?_
  refine lv_iload_n hx hb dX11_laysWays_1 rfl (lv_at hl 1 rfl) ?_
  refine x_callWi (rest := []) hC hI (mX11_isLand l D K h _ a1 st past acts image ipast iacts tape tmany laneOf sizeOf items seaFirst worstOf farTo stepsTo needs nmany mat told hw) (cwV 1 hts gX11_laysWays_X11_isLand rfl rfl rfl (by decide +kernel) ⟨(Nat.le_of_ble_eq_true rfl), (Nat.le_of_ble_eq_true rfl)⟩) (fun _ => rfl) 0 9 rfl rfl rfl rfl hl.1 rfl (Nat.le_of_ble_eq_true rfl) dX11_laysWays_2 ⟨(Nat.le_of_ble_eq_true rfl), (Nat.le_of_ble_eq_true rfl)⟩ (fun r1 u H locs hw hI => ?_)
  try dsimp only at hw
  have hI : wI s D A (fl [wMo K h st past acts image ipast iacts tape tmany laneOf sizeOf items seaFirst worstOf farTo stepsTo needs nmany mat told]) H locs := hI
  refine lv_istore_n (lv' := [(2, .int r1), (0, .ref (h 0)), (1, .int a1)]) hx hb dX11_laysWays_5 rfl hl (by decide) rfl (fun ls hl => ?_)
  refine lv_iconst (v := (0 : Int32)) hx hb dX11_laysWays_6 (by decide) ?_
  refine lv_istore_n (lv' := [(3, .int (0 : Int32)), (2, .int r1), (0, .ref (h 0)), (1, .int a1)]) hx hb dX11_laysWays_7 rfl hl (by decide) rfl (fun ls hl => ?_)
  obtain ⟨I8, mu8, hw, hb8⟩ := hw
  have lp8 : ∀ (k : Nat) (l3_8 : Int32) (farTo_8 : Nat → Int32) (stepsTo_8 : Nat → Int32) (ls : Array Slot) (H : Heap) (locs : List Loc), mu8 l3_8 farTo_8 stepsTo_8 < k → I8 l3_8 farTo_8 stepsTo_8 → wI s D A (fl [wMo K h st past acts image ipast iacts tape tmany laneOf sizeOf items seaFirst worstOf farTo_8 stepsTo_8 needs nmany mat told]) H locs → lv_has ls 6 [(0, .ref (h 0)), (1, .int a1), (2, .int r1), (3, .int l3_8)] → W p l e rmX11_laysWays s m args below meth c H locs 0 0 Q (F0 m 8 ls []) := by
    intro k
    induction k with
    | zero => intro l3_8 farTo_8 stepsTo_8 ls H locs hmu; exact absurd hmu (Nat.not_lt_zero _)
    | succ k ih8 =>
      intro l3_8 farTo_8 stepsTo_8 ls H locs hmu8 hw hI hl
      replace hw := hb8 l3_8 farTo_8 stepsTo_8 hw
      refine lv_iload_n hx hb dX11_laysWays_8 rfl (lv_at hl 3 rfl) ?_
      refine lv_sipush (v := (266 : Int32)) hx hb dX11_laysWays_9 (by decide) ?_
      refine lv_icmp_ge (tgt := 63) hx hb dX11_laysWays_12 (by decide) (fun c2 => ?_) (fun c2 => ?_)
      · replace hw := hw.1 c2
        obtain ⟨I63, mu63, hw, hb63⟩ := hw
        have lp63 : ∀ (k : Nat) (l2_63 : Int32) (farTo_63 : Nat → Int32) (stepsTo_63 : Nat → Int32) (ls : Array Slot) (H : Heap) (locs : List Loc), mu63 l2_63 farTo_63 stepsTo_63 < k → I63 l2_63 farTo_63 stepsTo_63 → wI s D A (fl [wMo K h st past acts image ipast iacts tape tmany laneOf sizeOf items seaFirst worstOf farTo_63 stepsTo_63 needs nmany mat told]) H locs → lv_has ls 6 [(0, .ref (h 0)), (2, .int l2_63)] → W p l e rmX11_laysWays s m args below meth c H locs 0 0 Q (F0 m 63 ls []) := by
          intro k
          induction k with
          | zero => intro l2_63 farTo_63 stepsTo_63 ls H locs hmu; exact absurd hmu (Nat.not_lt_zero _)
          | succ k ih63 =>
            intro l2_63 farTo_63 stepsTo_63 ls H locs hmu63 hw hI hl
            replace hw := hb63 l2_63 farTo_63 stepsTo_63 hw
            refine lv_iload_n hx hb dX11_laysWays_63 rfl (lv_at hl 1 rfl) ?_
            refine lv_if_ne (tgt := 178) hx hb dX11_laysWays_64 (by decide) (fun c3 => ?_) (fun c3 => ?_)
            · replace hw := hw.2 c3
              subst hQ
              exact x_vret (u := (farTo_63, stepsTo_63)) hC hI hr hlk hw rfl dX11_laysWays_178
            · replace hw := hw.1 c3
              refine lv_iconst (v := (1 : Int32)) hx hb dX11_laysWays_67 (by decide) ?_
              refine lv_istore_n (lv' := [(2, .int (1 : Int32)), (0, .ref (h 0))]) hx hb dX11_laysWays_68 rfl hl (by decide) rfl (fun ls hl => ?_)
              refine lv_iconst (v := (0 : Int32)) hx hb dX11_laysWays_69 (by decide) ?_
              refine lv_istore_n (lv' := [(3, .int (0 : Int32)), (2, .int (1 : Int32)), (0, .ref (h 0))]) hx hb dX11_laysWays_70 rfl hl (by decide) rfl (fun ls hl => ?_)
              obtain ⟨I71, mu71, hw, hb71⟩ := hw
              have lp71 : ∀ (k : Nat) (l2_71 : Int32) (l3_71 : Int32) (farTo_71 : Nat → Int32) (stepsTo_71 : Nat → Int32) (ls : Array Slot) (H : Heap) (locs : List Loc), mu71 l2_71 l3_71 farTo_71 stepsTo_71 < k → I71 l2_71 l3_71 farTo_71 stepsTo_71 → wI s D A (fl [wMo K h st past acts image ipast iacts tape tmany laneOf sizeOf items seaFirst worstOf farTo_71 stepsTo_71 needs nmany mat told]) H locs → lv_has ls 6 [(0, .ref (h 0)), (2, .int l2_71), (3, .int l3_71)] → W p l e rmX11_laysWays s m args below meth c H locs 0 0 Q (F0 m 71 ls []) := by
                intro k
                induction k with
                | zero => intro l2_71 l3_71 farTo_71 stepsTo_71 ls H locs hmu; exact absurd hmu (Nat.not_lt_zero _)
                | succ k ih71 =>
                  intro l2_71 l3_71 farTo_71 stepsTo_71 ls H locs hmu71 hw hI hl
                  replace hw := hb71 l2_71 l3_71 farTo_71 stepsTo_71 hw
                  refine lv_iload_n hx hb dX11_laysWays_71 rfl (lv_at hl 2 rfl) ?_
                  refine lv_sipush (v := (266 : Int32)) hx hb dX11_laysWays_72 (by decide) ?_
                  refine lv_icmp_ge (tgt := 175) hx hb dX11_laysWays_75 (by decide) (fun c4 => ?_) (fun c4 => ?_)
                  · replace hw := hw.1 c4
                    refine lv_goto (tgt := 63) hx hb dX11_laysWays_175 (by decide) ?_
                    exact ih63 l2_71 farTo_71 stepsTo_71 ls H locs (Nat.lt_of_lt_of_le hw.2 (Nat.le_of_lt_succ hmu63)) hw.1 hI (lv_sub hl [0, 1] rfl)
                  · replace hw := hw.2 c4
                    refine lv_iconst (v := (0 : Int32)) hx hb dX11_laysWays_78 (by decide) ?_
                    refine lv_istore (lv' := [(4, .int (0 : Int32)), (0, .ref (h 0)), (2, .int l2_71), (3, .int l3_71)]) hx hb dX11_laysWays_79 hl (by decide) rfl (fun ls hl => ?_)
                    obtain ⟨I81, mu81, hw, hb81⟩ := hw
                    have lp81 : ∀ (k : Nat) (l2_81 : Int32) (l4_81 : Int32) (farTo_81 : Nat → Int32) (stepsTo_81 : Nat → Int32) (ls : Array Slot) (H : Heap) (locs : List Loc), mu81 l2_81 l4_81 farTo_81 stepsTo_81 < k → I81 l2_81 l4_81 farTo_81 stepsTo_81 → wI s D A (fl [wMo K h st past acts image ipast iacts tape tmany laneOf sizeOf items seaFirst worstOf farTo_81 stepsTo_81 needs nmany mat told]) H locs → lv_has ls 6 [(0, .ref (h 0)), (2, .int l2_81), (3, .int l3_71), (4, .int l4_81)] → W p l e rmX11_laysWays s m args below meth c H locs 0 0 Q (F0 m 81 ls []) := by
                      intro k
                      induction k with
                      | zero => intro l2_81 l4_81 farTo_81 stepsTo_81 ls H locs hmu; exact absurd hmu (Nat.not_lt_zero _)
                      | succ k ih81 =>
                        intro l2_81 l4_81 farTo_81 stepsTo_81 ls H locs hmu81 hw hI hl
                        replace hw := hb81 l2_81 l4_81 farTo_81 stepsTo_81 hw
                        refine lv_iload hx hb dX11_laysWays_81 (lv_at hl 3 rfl) ?_
                        refine lv_iload_n hx hb dX11_laysWays_83 rfl (lv_at hl 2 rfl) ?_
                        refine x_callSi (rest := [.int l4_81]) hC hI [] (mX11_neighbours l D K  _ l3_71 hw) (va_cwS 1 hts gX11_laysWays_X11_neighbours rfl rfl rfl (by decide +kernel) ⟨(Nat.le_of_ble_eq_true rfl), (Nat.le_of_ble_eq_true rfl)⟩) (by decide) rfl (fun _ => rfl) rfl hl.1 rfl (Nat.le_of_ble_eq_true rfl) dX11_laysWays_84 ⟨(Nat.le_of_ble_eq_true rfl), (Nat.le_of_ble_eq_true rfl)⟩ (fun r5 u H locs hw hI => ?_)
                        try dsimp only at hw
                        have hI : wI s D A (fl [wMo K h st past acts image ipast iacts tape tmany laneOf sizeOf items seaFirst worstOf farTo_81 stepsTo_81 needs nmany mat told]) H locs := hI
                        refine lv_icmp_ge (tgt := 169) hx hb dX11_laysWays_87 (by decide) (fun c6 => ?_) (fun c6 => ?_)
                        · replace hw := hw.1 c6
                          obtain ⟨x7, ex7⟩ : ∃ y : Int32, y = l3_71 + 1 := ⟨_, rfl⟩
                          replace hw := hw x7 ex7
                          refine lv_iinc (v := x7) (lv' := [(3, .int x7), (0, .ref (h 0)), (2, .int l2_81), (4, .int l4_81)]) hx hb dX11_laysWays_169 hl (k := 2) rfl (by rw [ex7]; rfl) (by decide) rfl (fun ls hl => ?_)
                          refine lv_goto (tgt := 71) hx hb dX11_laysWays_172 (by decide) ?_
                          exact ih71 l2_81 x7 farTo_81 stepsTo_81 ls H locs (Nat.lt_of_lt_of_le hw.2 (Nat.le_of_lt_succ hmu71)) hw.1 hI (lv_sub hl [1, 2, 0] rfl)
                        · replace hw := hw.2 c6
                          refine lv_iload_n hx hb dX11_laysWays_90 rfl (lv_at hl 2 rfl) ?_
                          refine lv_iload hx hb dX11_laysWays_91 (lv_at hl 3 rfl) ?_
                          refine x_callSi (rest := []) hC hI [] (mX11_neighbour l D K  _ l3_71 l4_81 hw) (va_cwS 2 hts gX11_laysWays_X11_neighbour rfl rfl rfl (by decide +kernel) ⟨(Nat.le_of_ble_eq_true rfl), (Nat.le_of_ble_eq_true rfl)⟩) (by decide) rfl (fun _ => rfl) rfl hl.1 rfl (Nat.le_of_ble_eq_true rfl) dX11_laysWays_93 ⟨(Nat.le_of_ble_eq_true rfl), (Nat.le_of_ble_eq_true rfl)⟩ (fun r8 u H locs hw hI => ?_)
                          try dsimp only at hw
                          have hI : wI s D A (fl [wMo K h st past acts image ipast iacts tape tmany laneOf sizeOf items seaFirst worstOf farTo_81 stepsTo_81 needs nmany mat told]) H locs := hI
                          refine lv_istore (lv' := [(5, .int r8), (0, .ref (h 0)), (2, .int l2_81), (3, .int l3_71), (4, .int l4_81)]) hx hb dX11_laysWays_96 hl (by decide) rfl (fun ls hl => ?_)
                          refine lv_aload_n hx hb dX11_laysWays_98 rfl (lv_at hl 1 rfl) ?_
                          refine lv_iload_n hx hb dX11_laysWays_99 rfl (lv_at hl 3 rfl) ?_
                          refine x_callWi (rest := []) hC hI (mX11_isLand l D K h _ l3_71 st past acts image ipast iacts tape tmany laneOf sizeOf items seaFirst worstOf farTo_81 stepsTo_81 needs nmany mat told hw) (cwV 1 hts gX11_laysWays_X11_isLand rfl rfl rfl (by decide +kernel) ⟨(Nat.le_of_ble_eq_true rfl), (Nat.le_of_ble_eq_true rfl)⟩) (fun _ => rfl) 0 9 rfl rfl rfl rfl hl.1 rfl (Nat.le_of_ble_eq_true rfl) dX11_laysWays_100 ⟨(Nat.le_of_ble_eq_true rfl), (Nat.le_of_ble_eq_true rfl)⟩ (fun r9 u H locs hw hI => ?_)
                          try dsimp only at hw
                          have hI : wI s D A (fl [wMo K h st past acts image ipast iacts tape tmany laneOf sizeOf items seaFirst worstOf farTo_81 stepsTo_81 needs nmany mat told]) H locs := hI
                          refine lv_if_ne (tgt := 163) hx hb dX11_laysWays_103 (by decide) (fun c10 => ?_) (fun c10 => ?_)
                          · replace hw := hw.2 c10
                            obtain ⟨x11, ex11⟩ : ∃ y : Int32, y = l4_81 + 1 := ⟨_, rfl⟩
                            replace hw := hw x11 ex11
                            refine lv_iinc (v := x11) (lv' := [(4, .int x11), (5, .int r8), (0, .ref (h 0)), (2, .int l2_81), (3, .int l3_71)]) hx hb dX11_laysWays_163 hl (k := 4) rfl (by rw [ex11]; rfl) (by decide) rfl (fun ls hl => ?_)
                            refine lv_goto (tgt := 81) hx hb dX11_laysWays_166 (by decide) ?_
                            exact ih81 l2_81 x11 farTo_81 stepsTo_81 ls H locs (Nat.lt_of_lt_of_le hw.2 (Nat.le_of_lt_succ hmu81)) hw.1 hI (lv_sub hl [2, 3, 4, 0] rfl)
                          · replace hw := hw.1 c10
                            refine lv_aload_n hx hb dX11_laysWays_106 rfl (lv_at hl 1 rfl) ?_
                            refine lv_iload hx hb dX11_laysWays_107 (lv_at hl 0 rfl) ?_
                            refine x_callWi (rest := []) hC hI (mX11_isLand l D K h _ r8 st past acts image ipast iacts tape tmany laneOf sizeOf items seaFirst worstOf farTo_81 stepsTo_81 needs nmany mat told hw) (cwV 1 hts gX11_laysWays_X11_isLand rfl rfl rfl (by decide +kernel) ⟨(Nat.le_of_ble_eq_true rfl), (Nat.le_of_ble_eq_true rfl)⟩) (fun _ => rfl) 0 9 rfl rfl rfl rfl hl.1 rfl (Nat.le_of_ble_eq_true rfl) dX11_laysWays_109 ⟨(Nat.le_of_ble_eq_true rfl), (Nat.le_of_ble_eq_true rfl)⟩ (fun r12 u H locs hw hI => ?_)
                            try dsimp only at hw
                            have hI : wI s D A (fl [wMo K h st past acts image ipast iacts tape tmany laneOf sizeOf items seaFirst worstOf farTo_81 stepsTo_81 needs nmany mat told]) H locs := hI
                            refine lv_if_ne (tgt := 163) hx hb dX11_laysWays_112 (by decide) (fun c13 => ?_) (fun c13 => ?_)
                            · replace hw := hw.2 c13
                              obtain ⟨x14, ex14⟩ : ∃ y : Int32, y = l4_81 + 1 := ⟨_, rfl⟩
                              replace hw := hw x14 ex14
                              refine lv_iinc (v := x14) (lv' := [(4, .int x14), (5, .int r8), (0, .ref (h 0)), (2, .int l2_81), (3, .int l3_71)]) hx hb dX11_laysWays_163 hl (k := 4) rfl (by rw [ex14]; rfl) (by decide) rfl (fun ls hl => ?_)
                              refine lv_goto (tgt := 81) hx hb dX11_laysWays_166 (by decide) ?_
                              exact ih81 l2_81 x14 farTo_81 stepsTo_81 ls H locs (Nat.lt_of_lt_of_le hw.2 (Nat.le_of_lt_succ hmu81)) hw.1 hI (lv_sub hl [2, 3, 4, 0] rfl)
                            · replace hw := hw.1 c13
                              refine lv_aload_n hx hb dX11_laysWays_115 rfl (lv_at hl 1 rfl) ?_
                              refine lv_iload_n hx hb dX11_laysWays_116 rfl (lv_at hl 3 rfl) ?_
                              refine lv_iload hx hb dX11_laysWays_117 (lv_at hl 0 rfl) ?_
                              refine x_callWi (rest := []) hC hI (mX11_isShorter l D K h _ l3_71 r8 st past acts image ipast iacts tape tmany laneOf sizeOf items seaFirst worstOf farTo_81 stepsTo_81 needs nmany mat told hw) (cwV 2 hts gX11_laysWays_X11_isShorter rfl rfl rfl (by decide +kernel) ⟨(Nat.le_of_ble_eq_true rfl), (Nat.le_of_ble_eq_true rfl)⟩) (fun _ => rfl) 0 9 rfl rfl rfl rfl hl.1 rfl (Nat.le_of_ble_eq_true rfl) dX11_laysWays_119 ⟨(Nat.le_of_ble_eq_true rfl), (Nat.le_of_ble_eq_true rfl)⟩ (fun r15 u H locs hw hI => ?_)
                              try dsimp only at hw
                              have hI : wI s D A (fl [wMo K h st past acts image ipast iacts tape tmany laneOf sizeOf items seaFirst worstOf farTo_81 stepsTo_81 needs nmany mat told]) H locs := hI
                              refine lv_if_eq (tgt := 163) hx hb dX11_laysWays_122 (by decide) (fun c16 => ?_) (fun c16 => ?_)
                              · replace hw := hw.1 c16
                                obtain ⟨x17, ex17⟩ : ∃ y : Int32, y = l4_81 + 1 := ⟨_, rfl⟩
                                replace hw := hw x17 ex17
                                refine lv_iinc (v := x17) (lv' := [(4, .int x17), (5, .int r8), (0, .ref (h 0)), (2, .int l2_81), (3, .int l3_71)]) hx hb dX11_laysWays_163 hl (k := 4) rfl (by rw [ex17]; rfl) (by decide) rfl (fun ls hl => ?_)
                                refine lv_goto (tgt := 81) hx hb dX11_laysWays_166 (by decide) ?_
                                exact ih81 l2_81 x17 farTo_81 stepsTo_81 ls H locs (Nat.lt_of_lt_of_le hw.2 (Nat.le_of_lt_succ hmu81)) hw.1 hI (lv_sub hl [2, 3, 4, 0] rfl)
                              · replace hw := hw.2 c16
                                refine lv_aload_n hx hb dX11_laysWays_125 rfl (lv_at hl 1 rfl) ?_
                                refine x_get (v := .ref (h 11)) hC hI kX11_laysWays_cX11 0 rfl rfl 13 (by decide) kX11_laysWays_0 rfl rfl dX11_laysWays_126 ?_
                                refine lv_iload_n hx hb dX11_laysWays_129 rfl (lv_at hl 3 rfl) ?_
                                refine lv_aload_n hx hb dX11_laysWays_130 rfl (lv_at hl 1 rfl) ?_
                                refine x_get (v := .ref (h 11)) hC hI kX11_laysWays_cX11 0 rfl rfl 13 (by decide) kX11_laysWays_0 rfl rfl dX11_laysWays_131 ?_
                                refine lv_iload hx hb dX11_laysWays_134 (lv_at hl 0 rfl) ?_
                                obtain ⟨hc18, hw⟩ := hw
                                refine x_iald (f := farTo_81) hC hI 11 rfl hc18 dX11_laysWays_136 ?_
                                refine lv_aload_n hx hb dX11_laysWays_137 rfl (lv_at hl 1 rfl) ?_
                                refine lv_iload_n hx hb dX11_laysWays_138 rfl (lv_at hl 3 rfl) ?_
                                refine lv_iload hx hb dX11_laysWays_139 (lv_at hl 0 rfl) ?_
                                refine x_callWi (rest := [.int (farTo_81 r8.toNatClampNeg), .int l3_71, .ref (h 11)]) hC hI (mX11_farOf l D K h _ l3_71 r8 st past acts image ipast iacts tape tmany laneOf sizeOf items seaFirst worstOf farTo_81 stepsTo_81 needs nmany mat told hw) (cwV 2 hts gX11_laysWays_X11_farOf rfl rfl rfl (by decide +kernel) ⟨(Nat.le_of_ble_eq_true rfl), (Nat.le_of_ble_eq_true rfl)⟩) (fun _ => rfl) 0 9 rfl rfl rfl rfl hl.1 rfl (Nat.le_of_ble_eq_true rfl) dX11_laysWays_141 ⟨(Nat.le_of_ble_eq_true rfl), (Nat.le_of_ble_eq_true rfl)⟩ (fun r19 u H locs hw hI => ?_)
                                try dsimp only at hw
                                have hI : wI s D A (fl [wMo K h st past acts image ipast iacts tape tmany laneOf sizeOf items seaFirst worstOf farTo_81 stepsTo_81 needs nmany mat told]) H locs := hI
                                refine lv_iadd hx hb dX11_laysWays_144 ?_
                                obtain ⟨hc20, hw⟩ := hw
                                refine x_iast (f := farTo_81) hC hI 11 rfl hc20 dX11_laysWays_145 (fun H locs hI => ?_)
                                have hI : wI s D A (fl [wMo K h st past acts image ipast iacts tape tmany laneOf sizeOf items seaFirst worstOf (upd farTo_81 l3_71.toNatClampNeg ((farTo_81 r8.toNatClampNeg) + r19)) stepsTo_81 needs nmany mat told]) H locs := hI
                                refine lv_aload_n hx hb dX11_laysWays_146 rfl (lv_at hl 1 rfl) ?_
                                refine x_get (v := .ref (h 12)) hC hI kX11_laysWays_cX11 0 rfl rfl 14 (by decide) kX11_laysWays_2 rfl rfl dX11_laysWays_147 ?_
                                refine lv_iload_n hx hb dX11_laysWays_150 rfl (lv_at hl 3 rfl) ?_
                                refine lv_aload_n hx hb dX11_laysWays_151 rfl (lv_at hl 1 rfl) ?_
                                refine x_get (v := .ref (h 12)) hC hI kX11_laysWays_cX11 0 rfl rfl 14 (by decide) kX11_laysWays_2 rfl rfl dX11_laysWays_152 ?_
                                refine lv_iload hx hb dX11_laysWays_155 (lv_at hl 0 rfl) ?_
                                obtain ⟨hc21, hw⟩ := hw
                                refine x_iald (f := stepsTo_81) hC hI 12 rfl hc21 dX11_laysWays_157 ?_
                                refine lv_iconst (v := (1 : Int32)) hx hb dX11_laysWays_158 (by decide) ?_
                                refine lv_iadd hx hb dX11_laysWays_159 ?_
                                obtain ⟨hc22, hw⟩ := hw
                                refine x_iast (f := stepsTo_81) hC hI 12 rfl hc22 dX11_laysWays_160 (fun H locs hI => ?_)
                                have hI : wI s D A (fl [wMo K h st past acts image ipast iacts tape tmany laneOf sizeOf items seaFirst worstOf (upd farTo_81 l3_71.toNatClampNeg ((farTo_81 r8.toNatClampNeg) + r19)) (upd stepsTo_81 l3_71.toNatClampNeg ((stepsTo_81 r8.toNatClampNeg) + (1 : Int32))) needs nmany mat told]) H locs := hI
                                refine lv_iconst (v := (0 : Int32)) hx hb dX11_laysWays_161 (by decide) ?_
                                refine lv_istore_n (lv' := [(2, .int (0 : Int32)), (5, .int r8), (0, .ref (h 0)), (3, .int l3_71), (4, .int l4_81)]) hx hb dX11_laysWays_162 rfl hl (by decide) rfl (fun ls hl => ?_)
                                obtain ⟨x23, ex23⟩ : ∃ y : Int32, y = l4_81 + 1 := ⟨_, rfl⟩
                                replace hw := hw x23 ex23
                                refine lv_iinc (v := x23) (lv' := [(4, .int x23), (2, .int (0 : Int32)), (5, .int r8), (0, .ref (h 0)), (3, .int l3_71)]) hx hb dX11_laysWays_163 hl (k := 4) rfl (by rw [ex23]; rfl) (by decide) rfl (fun ls hl => ?_)
                                refine lv_goto (tgt := 81) hx hb dX11_laysWays_166 (by decide) ?_
                                exact ih81 (0 : Int32) x23 (upd farTo_81 l3_71.toNatClampNeg ((farTo_81 r8.toNatClampNeg) + r19)) (upd stepsTo_81 l3_71.toNatClampNeg ((stepsTo_81 r8.toNatClampNeg) + (1 : Int32))) ls H locs (Nat.lt_of_lt_of_le hw.2 (Nat.le_of_lt_succ hmu81)) hw.1 hI (lv_sub hl [3, 1, 4, 0] rfl)
                    exact lp81 (mu81 l2_71 (0 : Int32) farTo_71 stepsTo_71 + 1) l2_71 (0 : Int32) farTo_71 stepsTo_71 ls H locs (Nat.lt_succ_self _) hw hI (lv_sub hl [1, 2, 3, 0] rfl)
              exact lp71 (mu71 (1 : Int32) (0 : Int32) farTo_63 stepsTo_63 + 1) (1 : Int32) (0 : Int32) farTo_63 stepsTo_63 ls H locs (Nat.lt_succ_self _) hw hI (lv_sub hl [2, 1, 0] rfl)
        exact lp63 (mu63 r1 farTo_8 stepsTo_8 + 1) r1 farTo_8 stepsTo_8 ls H locs (Nat.lt_succ_self _) hw hI (lv_sub hl [0, 2] rfl)
      · replace hw := hw.2 c2
        refine lv_aload_n hx hb dX11_laysWays_15 rfl (lv_at hl 0 rfl) ?_
        refine x_get (v := .ref (h 11)) hC hI kX11_laysWays_cX11 0 rfl rfl 13 (by decide) kX11_laysWays_0 rfl rfl dX11_laysWays_16 ?_
        refine lv_iload_n hx hb dX11_laysWays_19 rfl (lv_at hl 3 rfl) ?_
        refine lv_iload_n hx hb dX11_laysWays_20 rfl (lv_at hl 3 rfl) ?_
        refine lv_iload_n hx hb dX11_laysWays_21 rfl (lv_at hl 1 rfl) ?_
        obtain ⟨J39, hJ39, hw⟩ := hw
        have jn39 : ∀ (t_39 : Int32) (ls : Array Slot) (H : Heap) (locs : List Loc), J39 t_39 → wI s D A (fl [wMo K h st past acts image ipast iacts tape tmany laneOf sizeOf items seaFirst worstOf farTo_8 stepsTo_8 needs nmany mat told]) H locs → lv_has ls 6 [(0, .ref (h 0)), (1, .int a1), (2, .int r1), (3, .int l3_8)] → W p l e rmX11_laysWays s m args below meth c H locs 0 0 Q (F0 m 39 ls [.int t_39, .int l3_8, .ref (h 11)]) := by
          intro t_39 ls H locs hw hI hl
          replace hw := hJ39 t_39 hw
          obtain ⟨hc24, hw⟩ := hw
          refine x_iast (f := farTo_8) hC hI 11 rfl hc24 dX11_laysWays_39 (fun H locs hI => ?_)
          have hI : wI s D A (fl [wMo K h st past acts image ipast iacts tape tmany laneOf sizeOf items seaFirst worstOf (upd farTo_8 l3_8.toNatClampNeg t_39) stepsTo_8 needs nmany mat told]) H locs := hI
          refine lv_aload_n hx hb dX11_laysWays_40 rfl (lv_at hl 0 rfl) ?_
          refine x_get (v := .ref (h 12)) hC hI kX11_laysWays_cX11 0 rfl rfl 14 (by decide) kX11_laysWays_2 rfl rfl dX11_laysWays_41 ?_
          refine lv_iload_n hx hb dX11_laysWays_44 rfl (lv_at hl 3 rfl) ?_
          refine lv_iload_n hx hb dX11_laysWays_45 rfl (lv_at hl 3 rfl) ?_
          refine lv_iload_n hx hb dX11_laysWays_46 rfl (lv_at hl 1 rfl) ?_
          refine lv_icmp_ne (tgt := 54) hx hb dX11_laysWays_47 (by decide) (fun c25 => ?_) (fun c25 => ?_)
          · replace hw := hw.2 c25
            refine lv_ldc (v := (100000000 : Int32)) hx hb hown (hts _ kX11_laysWays_3) dX11_laysWays_54 ?_
            obtain ⟨hc26, hw⟩ := hw
            refine x_iast (f := stepsTo_8) hC hI 12 rfl hc26 dX11_laysWays_56 (fun H locs hI => ?_)
            have hI : wI s D A (fl [wMo K h st past acts image ipast iacts tape tmany laneOf sizeOf items seaFirst worstOf (upd farTo_8 l3_8.toNatClampNeg t_39) (upd stepsTo_8 l3_8.toNatClampNeg (100000000 : Int32)) needs nmany mat told]) H locs := hI
            obtain ⟨x27, ex27⟩ : ∃ y : Int32, y = l3_8 + 1 := ⟨_, rfl⟩
            replace hw := hw x27 ex27
            refine lv_iinc (v := x27) (lv' := [(3, .int x27), (0, .ref (h 0)), (1, .int a1), (2, .int r1)]) hx hb dX11_laysWays_57 hl (k := 3) rfl (by rw [ex27]; rfl) (by decide) rfl (fun ls hl => ?_)
            refine lv_goto (tgt := 8) hx hb dX11_laysWays_60 (by decide) ?_
            exact ih8 x27 (upd farTo_8 l3_8.toNatClampNeg t_39) (upd stepsTo_8 l3_8.toNatClampNeg (100000000 : Int32)) ls H locs (Nat.lt_of_lt_of_le hw.2 (Nat.le_of_lt_succ hmu8)) hw.1 hI (lv_sub hl [1, 2, 3, 0] rfl)
          · replace hw := hw.1 c25
            refine lv_iconst (v := (0 : Int32)) hx hb dX11_laysWays_50 (by decide) ?_
            refine lv_goto (tgt := 56) hx hb dX11_laysWays_51 (by decide) ?_
            obtain ⟨hc28, hw⟩ := hw
            refine x_iast (f := stepsTo_8) hC hI 12 rfl hc28 dX11_laysWays_56 (fun H locs hI => ?_)
            have hI : wI s D A (fl [wMo K h st past acts image ipast iacts tape tmany laneOf sizeOf items seaFirst worstOf (upd farTo_8 l3_8.toNatClampNeg t_39) (upd stepsTo_8 l3_8.toNatClampNeg (0 : Int32)) needs nmany mat told]) H locs := hI
            obtain ⟨x29, ex29⟩ : ∃ y : Int32, y = l3_8 + 1 := ⟨_, rfl⟩
            replace hw := hw x29 ex29
            refine lv_iinc (v := x29) (lv' := [(3, .int x29), (0, .ref (h 0)), (1, .int a1), (2, .int r1)]) hx hb dX11_laysWays_57 hl (k := 3) rfl (by rw [ex29]; rfl) (by decide) rfl (fun ls hl => ?_)
            refine lv_goto (tgt := 8) hx hb dX11_laysWays_60 (by decide) ?_
            exact ih8 x29 (upd farTo_8 l3_8.toNatClampNeg t_39) (upd stepsTo_8 l3_8.toNatClampNeg (0 : Int32)) ls H locs (Nat.lt_of_lt_of_le hw.2 (Nat.le_of_lt_succ hmu8)) hw.1 hI (lv_sub hl [1, 2, 3, 0] rfl)
        obtain ⟨J37, hJ37, hw⟩ := hw
        have jn37 : ∀  (ls : Array Slot) (H : Heap) (locs : List Loc), J37  → wI s D A (fl [wMo K h st past acts image ipast iacts tape tmany laneOf sizeOf items seaFirst worstOf farTo_8 stepsTo_8 needs nmany mat told]) H locs → lv_has ls 6 [(0, .ref (h 0)), (1, .int a1), (2, .int r1), (3, .int l3_8)] → W p l e rmX11_laysWays s m args below meth c H locs 0 0 Q (F0 m 37 ls [.int l3_8, .ref (h 11)]) := by
          intro  ls H locs hw hI hl
          replace hw := hJ37 hw
          refine lv_ldc (v := (100000000 : Int32)) hx hb hown (hts _ kX11_laysWays_3) dX11_laysWays_37 ?_
          exact jn39 (100000000 : Int32) ls H locs hw hI (lv_sub hl [0, 1, 2, 3] rfl)
        refine lv_icmp_ne (tgt := 37) hx hb dX11_laysWays_22 (by decide) (fun c30 => ?_) (fun c30 => ?_)
        · replace hw := hw.2 c30
          exact jn37 ls H locs hw hI (lv_sub hl [0, 1, 2, 3] rfl)
        · replace hw := hw.1 c30
          refine lv_aload_n hx hb dX11_laysWays_25 rfl (lv_at hl 0 rfl) ?_
          refine lv_iload_n hx hb dX11_laysWays_26 rfl (lv_at hl 1 rfl) ?_
          refine x_callWi (rest := [.int l3_8, .ref (h 11)]) hC hI (mX11_isLand l D K h _ a1 st past acts image ipast iacts tape tmany laneOf sizeOf items seaFirst worstOf farTo_8 stepsTo_8 needs nmany mat told hw) (cwV 1 hts gX11_laysWays_X11_isLand rfl rfl rfl (by decide +kernel) ⟨(Nat.le_of_ble_eq_true rfl), (Nat.le_of_ble_eq_true rfl)⟩) (fun _ => rfl) 0 9 rfl rfl rfl rfl hl.1 rfl (Nat.le_of_ble_eq_true rfl) dX11_laysWays_27 ⟨(Nat.le_of_ble_eq_true rfl), (Nat.le_of_ble_eq_true rfl)⟩ (fun r31 u H locs hw hI => ?_)
          try dsimp only at hw
          have hI : wI s D A (fl [wMo K h st past acts image ipast iacts tape tmany laneOf sizeOf items seaFirst worstOf farTo_8 stepsTo_8 needs nmany mat told]) H locs := hI
          refine lv_if_ne (tgt := 37) hx hb dX11_laysWays_30 (by decide) (fun c32 => ?_) (fun c32 => ?_)
          · replace hw := hw.2 c32
            exact jn37 ls H locs hw hI (lv_sub hl [0, 1, 2, 3] rfl)
          · replace hw := hw.1 c32
            refine lv_iconst (v := (0 : Int32)) hx hb dX11_laysWays_33 (by decide) ?_
            refine lv_goto (tgt := 39) hx hb dX11_laysWays_34 (by decide) ?_
            exact jn39 (0 : Int32) ls H locs hw hI (lv_sub hl [0, 1, 2, 3] rfl)
  exact lp8 (mu8 (0 : Int32) farTo stepsTo + 1) (0 : Int32) farTo stepsTo ls H locs (Nat.lt_succ_self _) hw hI (lv_sub hl [2, 3, 1, 0] rfl)

def wX11_firstOf (a1 : Int32) (st : Nat → Int32) (farTo : Nat → Int32) (stepsTo : Nat → Int32) (post : Int32 → Prop) : Prop := (∃ (I5 : Int32 → Int32 → Prop) (mu5 : Int32 → Int32 → Nat), I5 (-4 : Int32) (0 : Int32) ∧ ∀ (l2_5 : Int32) (l3_5 : Int32), I5 l2_5 l3_5 → wX11_neighbours a1 (fun (r1 : Int32) => ((r1 ≤ l3_5 → post l2_5) ∧ (¬ r1 ≤ l3_5 → wX11_neighbour a1 l3_5 (fun (r3 : Int32) => vp_in r3 266 ∧ wX11_farOf a1 r3 st (fun (r5 : Int32) => vp_in a1 266 ∧ ∃ J67 : Int32 → Prop, (∀ (t_67 : Int32), J67 t_67 → ((t_67 = 0 → ∀ x8 : Int32, x8 = l3_5 + 1 → (I5 l2_5 x8 ∧ mu5 l2_5 x8 < mu5 l2_5 l3_5)) ∧ (¬ t_67 = 0 → ((l2_5 = (-4 : Int32) → ∀ x10 : Int32, x10 = l3_5 + 1 → (I5 r3 x10 ∧ mu5 r3 x10 < mu5 l2_5 l3_5)) ∧ (¬ l2_5 = (-4 : Int32) → ((l2_5 ≤ r3 → ∀ x12 : Int32, x12 = l3_5 + 1 → (I5 l2_5 x12 ∧ mu5 l2_5 x12 < mu5 l2_5 l3_5)) ∧ (¬ l2_5 ≤ r3 → ∀ x13 : Int32, x13 = l3_5 + 1 → (I5 r3 x13 ∧ mu5 r3 x13 < mu5 l2_5 l3_5)))))))) ∧ ∃ J66 : Prop, (J66 → J67 (0 : Int32)) ∧ ((((farTo r3.toNatClampNeg) + r5) = (farTo a1.toNatClampNeg) → vp_in r3 266 ∧ vp_in a1 266 ∧ ((((stepsTo r3.toNatClampNeg) + (1 : Int32)) = (stepsTo a1.toNatClampNeg) → J67 (1 : Int32)) ∧ (¬ ((stepsTo r3.toNatClampNeg) + (1 : Int32)) = (stepsTo a1.toNatClampNeg) → J66))) ∧ (¬ ((farTo r3.toNatClampNeg) + r5) = (farTo a1.toNatClampNeg) → J66))))))))
def rmX11_firstOf : Room := { frames := 5, cells := 0, slots := 0, locals := 105 }
theorem kX11_firstOf_0 : Cond.fieldLink RX11 45 "GoreGlobeModel" "farTo" "[I" ∈ wsX11_firstOf := List.mem_cons_of_mem _ (List.mem_append_left _ (List.mem_append_left _ (List.mem_of_getElem? (i := 0) rfl)))
theorem kX11_firstOf_cX11 : ∀ w ∈ wsX110, w ∈ wsX11_firstOf := fun _ h => List.mem_cons_of_mem _ (List.mem_append_right _ h)
theorem kX11_firstOf_2 : Cond.fieldLink RX11 48 "GoreGlobeModel" "stepsTo" "[I" ∈ wsX11_firstOf := List.mem_cons_of_mem _ (List.mem_append_left _ (List.mem_append_left _ (List.mem_of_getElem? (i := 1) rfl)))
set_option maxHeartbeats 4000000 in
set_option maxRecDepth 100000 in
theorem mX11_firstOf (l : Launch) (D : va_G) (K : Nat → ClassId) (h : Nat → Nat) (sz : Nat) (a1 : Int32) (st : Nat → Int32) (past : Nat → Int32) (acts : Int32) (image : Nat → Int32) (ipast : Nat → Int32) (iacts : Int32) (tape : Nat → Int32) (tmany : Int32) (laneOf : Nat → Int32) (sizeOf : Nat → Int32) (items : Nat → Int64) (seaFirst : Nat → Int32) (worstOf : Nat → Int32) (farTo : Nat → Int32) (stepsTo : Nat → Int32) (needs : Nat → Int32) (nmany : Int32) (mat : Int32) (told : Nat → Int32)  {post : Int32 → Prop} (hw : wX11_firstOf a1 st farTo stepsTo post) : Met l yX11_firstOf wsX11_firstOf rmX11_firstOf (va_Pc [.ref (h 0), .int a1] (cP D K (fl [wMo K h st past acts image ipast iacts tape tmany laneOf sizeOf items seaFirst worstOf farTo stepsTo needs nmany mat told]) sz)) (va_Qi (fun (r : Int32) (u : Unit) => post r) (fun u t => cQ D K (fl [wMo K h st past acts image ipast iacts tape tmany laneOf sizeOf items seaFirst worstOf farTo stepsTo needs nmany mat told]) (va_A (fl [wMo K h st past acts image ipast iacts tape tmany laneOf sizeOf items seaFirst worstOf farTo stepsTo needs nmany mat told]) sz) t) (va_A (fl [wMo K h st past acts image ipast iacts tape tmany laneOf sizeOf items seaFirst worstOf farTo stepsTo needs nmany mat told]) sz)) 0 0 (va_A (fl [wMo K h st past acts image ipast iacts tape tmany laneOf sizeOf items seaFirst worstOf farTo stepsTo needs nmany mat told]) sz) := by
  refine x_entry (cc := cX11_firstOf) (maxL := 6) (ret := (some .int)) (QA := fun A => va_Qi (fun (r : Int32) (u : Unit) => post r) (fun u t => cQ D K (fl [wMo K h st past acts image ipast iacts tape tmany laneOf sizeOf items seaFirst worstOf farTo stepsTo needs nmany mat told]) A t) A) (plainFor_of_name (by decide)) rfl (Nat.le_of_ble_eq_true rfl) ?_
  intro p e s m args below meth c A ls H Q hQ hC hlk hr hnm hI hl
  obtain ⟨hx, hb, hml, hown, hts, hK, hA, hZ⟩ := id hC
  obtain ⟨locs, hlocs⟩ : ∃ y : List Loc, y = [] := ⟨_, rfl⟩
  rw [← hlocs] at hI ⊢
  clear hlocs
  replace hl : lv_has ls 6 [(0, .ref (h 0)), (1, .int a1)] := hl
  replace hw : (∃ (I5 : Int32 → Int32 → Prop) (mu5 : Int32 → Int32 → Nat), I5 (-4 : Int32) (0 : Int32) ∧ ∀ (l2_5 : Int32) (l3_5 : Int32), I5 l2_5 l3_5 → wX11_neighbours a1 (fun (r1 : Int32) => ((r1 ≤ l3_5 → post l2_5) ∧ (¬ r1 ≤ l3_5 → wX11_neighbour a1 l3_5 (fun (r3 : Int32) => vp_in r3 266 ∧ wX11_farOf a1 r3 st (fun (r5 : Int32) => vp_in a1 266 ∧ ∃ J67 : Int32 → Prop, (∀ (t_67 : Int32), J67 t_67 → ((t_67 = 0 → ∀ x8 : Int32, x8 = l3_5 + 1 → (I5 l2_5 x8 ∧ mu5 l2_5 x8 < mu5 l2_5 l3_5)) ∧ (¬ t_67 = 0 → ((l2_5 = (-4 : Int32) → ∀ x10 : Int32, x10 = l3_5 + 1 → (I5 r3 x10 ∧ mu5 r3 x10 < mu5 l2_5 l3_5)) ∧ (¬ l2_5 = (-4 : Int32) → ((l2_5 ≤ r3 → ∀ x12 : Int32, x12 = l3_5 + 1 → (I5 l2_5 x12 ∧ mu5 l2_5 x12 < mu5 l2_5 l3_5)) ∧ (¬ l2_5 ≤ r3 → ∀ x13 : Int32, x13 = l3_5 + 1 → (I5 r3 x13 ∧ mu5 r3 x13 < mu5 l2_5 l3_5)))))))) ∧ ∃ J66 : Prop, (J66 → J67 (0 : Int32)) ∧ ((((farTo r3.toNatClampNeg) + r5) = (farTo a1.toNatClampNeg) → vp_in r3 266 ∧ vp_in a1 266 ∧ ((((stepsTo r3.toNatClampNeg) + (1 : Int32)) = (stepsTo a1.toNatClampNeg) → J67 (1 : Int32)) ∧ (¬ ((stepsTo r3.toNatClampNeg) + (1 : Int32)) = (stepsTo a1.toNatClampNeg) → J66))) ∧ (¬ ((farTo r3.toNatClampNeg) + r5) = (farTo a1.toNatClampNeg) → J66)))))))) := hw
  refine lv_bipush (v := (-4 : Int32)) hx hb dX11_firstOf_0 (by decide) ?_
  refine lv_istore_n (lv' := [(2, .int (-4 : Int32)), (0, .ref (h 0)), (1, .int a1)]) hx hb dX11_firstOf_2 rfl hl (by decide) rfl (fun ls hl => ?_)
  refine lv_iconst (v := (0 : Int32)) hx hb dX11_firstOf_3 (by decide) ?_
  refine lv_istore_n (lv' := [(3, .int (0 : Int32)), (2, .int (-4 : Int32)), (0, .ref (h 0)), (1, .int a1)]) hx hb dX11_firstOf_4 rfl hl (by decide) rfl (fun ls hl => ?_)
  obtain ⟨I5, mu5, hw, hb5⟩ := hw
  have lp5 : ∀ (k : Nat) (l2_5 : Int32) (l3_5 : Int32) (ls : Array Slot) (H : Heap) (locs : List Loc), mu5 l2_5 l3_5 < k → I5 l2_5 l3_5 → wI s D A (fl [wMo K h st past acts image ipast iacts tape tmany laneOf sizeOf items seaFirst worstOf farTo stepsTo needs nmany mat told]) H locs → lv_has ls 6 [(0, .ref (h 0)), (1, .int a1), (2, .int l2_5), (3, .int l3_5)] → W p l e rmX11_firstOf s m args below meth c H locs 0 0 Q (F0 m 5 ls []) := by
    intro k
    induction k with
    | zero => intro l2_5 l3_5 ls H locs hmu; exact absurd hmu (Nat.not_lt_zero _)
    | succ k ih5 =>
      intro l2_5 l3_5 ls H locs hmu5 hw hI hl
      replace hw := hb5 l2_5 l3_5 hw
      refine lv_iload_n hx hb dX11_firstOf_5 rfl (lv_at hl 3 rfl) ?_
      refine lv_iload_n hx hb dX11_firstOf_6 rfl (lv_at hl 1 rfl) ?_
      refine x_callSi (rest := [.int l3_5]) hC hI [] (mX11_neighbours l D K  _ a1 hw) (va_cwS 1 hts gX11_firstOf_X11_neighbours rfl rfl rfl (by decide +kernel) ⟨(Nat.le_of_ble_eq_true rfl), (Nat.le_of_ble_eq_true rfl)⟩) (by decide) rfl (fun _ => rfl) rfl hl.1 rfl (Nat.le_of_ble_eq_true rfl) dX11_firstOf_7 ⟨(Nat.le_of_ble_eq_true rfl), (Nat.le_of_ble_eq_true rfl)⟩ (fun r1 u H locs hw hI => ?_)
      try dsimp only at hw
      have hI : wI s D A (fl [wMo K h st past acts image ipast iacts tape tmany laneOf sizeOf items seaFirst worstOf farTo stepsTo needs nmany mat told]) H locs := hI
      refine lv_icmp_ge (tgt := 99) hx hb dX11_firstOf_10 (by decide) (fun c2 => ?_) (fun c2 => ?_)
      · replace hw := hw.1 c2
        refine lv_iload_n hx hb dX11_firstOf_99 rfl (lv_at hl 2 rfl) ?_
        subst hQ
        exact x_iret (u := ()) hC hI hr hlk hw rfl dX11_firstOf_100
      · replace hw := hw.2 c2
        refine lv_iload_n hx hb dX11_firstOf_13 rfl (lv_at hl 1 rfl) ?_
        refine lv_iload_n hx hb dX11_firstOf_14 rfl (lv_at hl 3 rfl) ?_
        refine x_callSi (rest := []) hC hI [] (mX11_neighbour l D K  _ a1 l3_5 hw) (va_cwS 2 hts gX11_firstOf_X11_neighbour rfl rfl rfl (by decide +kernel) ⟨(Nat.le_of_ble_eq_true rfl), (Nat.le_of_ble_eq_true rfl)⟩) (by decide) rfl (fun _ => rfl) rfl hl.1 rfl (Nat.le_of_ble_eq_true rfl) dX11_firstOf_15 ⟨(Nat.le_of_ble_eq_true rfl), (Nat.le_of_ble_eq_true rfl)⟩ (fun r3 u H locs hw hI => ?_)
        try dsimp only at hw
        have hI : wI s D A (fl [wMo K h st past acts image ipast iacts tape tmany laneOf sizeOf items seaFirst worstOf farTo stepsTo needs nmany mat told]) H locs := hI
        refine lv_istore (lv' := [(4, .int r3), (0, .ref (h 0)), (1, .int a1), (2, .int l2_5), (3, .int l3_5)]) hx hb dX11_firstOf_18 hl (by decide) rfl (fun ls hl => ?_)
        refine lv_aload_n hx hb dX11_firstOf_20 rfl (lv_at hl 1 rfl) ?_
        refine x_get (v := .ref (h 11)) hC hI kX11_firstOf_cX11 0 rfl rfl 13 (by decide) kX11_firstOf_0 rfl rfl dX11_firstOf_21 ?_
        refine lv_iload hx hb dX11_firstOf_24 (lv_at hl 0 rfl) ?_
        obtain ⟨hc4, hw⟩ := hw
        refine x_iald (f := farTo) hC hI 11 rfl hc4 dX11_firstOf_26 ?_
        refine lv_aload_n hx hb dX11_firstOf_27 rfl (lv_at hl 1 rfl) ?_
        refine lv_iload_n hx hb dX11_firstOf_28 rfl (lv_at hl 2 rfl) ?_
        refine lv_iload hx hb dX11_firstOf_29 (lv_at hl 0 rfl) ?_
        refine x_callWi (rest := [.int (farTo r3.toNatClampNeg)]) hC hI (mX11_farOf l D K h _ a1 r3 st past acts image ipast iacts tape tmany laneOf sizeOf items seaFirst worstOf farTo stepsTo needs nmany mat told hw) (cwV 2 hts gX11_firstOf_X11_farOf rfl rfl rfl (by decide +kernel) ⟨(Nat.le_of_ble_eq_true rfl), (Nat.le_of_ble_eq_true rfl)⟩) (fun _ => rfl) 0 9 rfl rfl rfl rfl hl.1 rfl (Nat.le_of_ble_eq_true rfl) dX11_firstOf_31 ⟨(Nat.le_of_ble_eq_true rfl), (Nat.le_of_ble_eq_true rfl)⟩ (fun r5 u H locs hw hI => ?_)
        try dsimp only at hw
        have hI : wI s D A (fl [wMo K h st past acts image ipast iacts tape tmany laneOf sizeOf items seaFirst worstOf farTo stepsTo needs nmany mat told]) H locs := hI
        refine lv_iadd hx hb dX11_firstOf_34 ?_
        refine lv_aload_n hx hb dX11_firstOf_35 rfl (lv_at hl 1 rfl) ?_
        refine x_get (v := .ref (h 11)) hC hI kX11_firstOf_cX11 0 rfl rfl 13 (by decide) kX11_firstOf_0 rfl rfl dX11_firstOf_36 ?_
        refine lv_iload_n hx hb dX11_firstOf_39 rfl (lv_at hl 2 rfl) ?_
        obtain ⟨hc6, hw⟩ := hw
        refine x_iald (f := farTo) hC hI 11 rfl hc6 dX11_firstOf_40 ?_
        obtain ⟨J67, hJ67, hw⟩ := hw
        have jn67 : ∀ (t_67 : Int32) (ls : Array Slot) (H : Heap) (locs : List Loc), J67 t_67 → wI s D A (fl [wMo K h st past acts image ipast iacts tape tmany laneOf sizeOf items seaFirst worstOf farTo stepsTo needs nmany mat told]) H locs → lv_has ls 6 [(0, .ref (h 0)), (1, .int a1), (2, .int l2_5), (3, .int l3_5), (4, .int r3)] → W p l e rmX11_firstOf s m args below meth c H locs 0 0 Q (F0 m 67 ls [.int t_67]) := by
          intro t_67 ls H locs hw hI hl
          replace hw := hJ67 t_67 hw
          refine lv_istore (lv' := [(5, .int t_67), (0, .ref (h 0)), (1, .int a1), (2, .int l2_5), (3, .int l3_5), (4, .int r3)]) hx hb dX11_firstOf_67 hl (by decide) rfl (fun ls hl => ?_)
          refine lv_iload hx hb dX11_firstOf_69 (lv_at hl 0 rfl) ?_
          refine lv_if_eq (tgt := 91) hx hb dX11_firstOf_71 (by decide) (fun c7 => ?_) (fun c7 => ?_)
          · replace hw := hw.1 c7
            refine lv_iload_n hx hb dX11_firstOf_91 rfl (lv_at hl 3 rfl) ?_
            refine lv_istore_n (lv' := [(2, .int l2_5), (5, .int t_67), (0, .ref (h 0)), (1, .int a1), (3, .int l3_5), (4, .int r3)]) hx hb dX11_firstOf_92 rfl hl (by decide) rfl (fun ls hl => ?_)
            obtain ⟨x8, ex8⟩ : ∃ y : Int32, y = l3_5 + 1 := ⟨_, rfl⟩
            replace hw := hw x8 ex8
            refine lv_iinc (v := x8) (lv' := [(3, .int x8), (2, .int l2_5), (5, .int t_67), (0, .ref (h 0)), (1, .int a1), (4, .int r3)]) hx hb dX11_firstOf_93 hl (k := 4) rfl (by rw [ex8]; rfl) (by decide) rfl (fun ls hl => ?_)
            refine lv_goto (tgt := 5) hx hb dX11_firstOf_96 (by decide) ?_
            exact ih5 l2_5 x8 ls H locs (Nat.lt_of_lt_of_le hw.2 (Nat.le_of_lt_succ hmu5)) hw.1 hI (lv_sub hl [3, 4, 1, 0] rfl)
          · replace hw := hw.2 c7
            refine lv_iload_n hx hb dX11_firstOf_74 rfl (lv_at hl 3 rfl) ?_
            refine lv_bipush (v := (-4 : Int32)) hx hb dX11_firstOf_75 (by decide) ?_
            refine lv_icmp_eq (tgt := 86) hx hb dX11_firstOf_77 (by decide) (fun c9 => ?_) (fun c9 => ?_)
            · replace hw := hw.1 c9
              refine lv_iload hx hb dX11_firstOf_86 (lv_at hl 5 rfl) ?_
              refine lv_goto (tgt := 92) hx hb dX11_firstOf_88 (by decide) ?_
              refine lv_istore_n (lv' := [(2, .int r3), (5, .int t_67), (0, .ref (h 0)), (1, .int a1), (3, .int l3_5), (4, .int r3)]) hx hb dX11_firstOf_92 rfl hl (by decide) rfl (fun ls hl => ?_)
              obtain ⟨x10, ex10⟩ : ∃ y : Int32, y = l3_5 + 1 := ⟨_, rfl⟩
              replace hw := hw x10 ex10
              refine lv_iinc (v := x10) (lv' := [(3, .int x10), (2, .int r3), (5, .int t_67), (0, .ref (h 0)), (1, .int a1), (4, .int r3)]) hx hb dX11_firstOf_93 hl (k := 4) rfl (by rw [ex10]; rfl) (by decide) rfl (fun ls hl => ?_)
              refine lv_goto (tgt := 5) hx hb dX11_firstOf_96 (by decide) ?_
              exact ih5 r3 x10 ls H locs (Nat.lt_of_lt_of_le hw.2 (Nat.le_of_lt_succ hmu5)) hw.1 hI (lv_sub hl [3, 4, 1, 0] rfl)
            · replace hw := hw.2 c9
              refine lv_iload hx hb dX11_firstOf_80 (lv_at hl 5 rfl) ?_
              refine lv_iload_n hx hb dX11_firstOf_82 rfl (lv_at hl 3 rfl) ?_
              refine lv_icmp_ge (tgt := 91) hx hb dX11_firstOf_83 (by decide) (fun c11 => ?_) (fun c11 => ?_)
              · replace hw := hw.1 c11
                refine lv_iload_n hx hb dX11_firstOf_91 rfl (lv_at hl 3 rfl) ?_
                refine lv_istore_n (lv' := [(2, .int l2_5), (5, .int t_67), (0, .ref (h 0)), (1, .int a1), (3, .int l3_5), (4, .int r3)]) hx hb dX11_firstOf_92 rfl hl (by decide) rfl (fun ls hl => ?_)
                obtain ⟨x12, ex12⟩ : ∃ y : Int32, y = l3_5 + 1 := ⟨_, rfl⟩
                replace hw := hw x12 ex12
                refine lv_iinc (v := x12) (lv' := [(3, .int x12), (2, .int l2_5), (5, .int t_67), (0, .ref (h 0)), (1, .int a1), (4, .int r3)]) hx hb dX11_firstOf_93 hl (k := 4) rfl (by rw [ex12]; rfl) (by decide) rfl (fun ls hl => ?_)
                refine lv_goto (tgt := 5) hx hb dX11_firstOf_96 (by decide) ?_
                exact ih5 l2_5 x12 ls H locs (Nat.lt_of_lt_of_le hw.2 (Nat.le_of_lt_succ hmu5)) hw.1 hI (lv_sub hl [3, 4, 1, 0] rfl)
              · replace hw := hw.2 c11
                refine lv_iload hx hb dX11_firstOf_86 (lv_at hl 5 rfl) ?_
                refine lv_goto (tgt := 92) hx hb dX11_firstOf_88 (by decide) ?_
                refine lv_istore_n (lv' := [(2, .int r3), (5, .int t_67), (0, .ref (h 0)), (1, .int a1), (3, .int l3_5), (4, .int r3)]) hx hb dX11_firstOf_92 rfl hl (by decide) rfl (fun ls hl => ?_)
                obtain ⟨x13, ex13⟩ : ∃ y : Int32, y = l3_5 + 1 := ⟨_, rfl⟩
                replace hw := hw x13 ex13
                refine lv_iinc (v := x13) (lv' := [(3, .int x13), (2, .int r3), (5, .int t_67), (0, .ref (h 0)), (1, .int a1), (4, .int r3)]) hx hb dX11_firstOf_93 hl (k := 4) rfl (by rw [ex13]; rfl) (by decide) rfl (fun ls hl => ?_)
                refine lv_goto (tgt := 5) hx hb dX11_firstOf_96 (by decide) ?_
                exact ih5 r3 x13 ls H locs (Nat.lt_of_lt_of_le hw.2 (Nat.le_of_lt_succ hmu5)) hw.1 hI (lv_sub hl [3, 4, 1, 0] rfl)
        obtain ⟨J66, hJ66, hw⟩ := hw
        have jn66 : ∀  (ls : Array Slot) (H : Heap) (locs : List Loc), J66  → wI s D A (fl [wMo K h st past acts image ipast iacts tape tmany laneOf sizeOf items seaFirst worstOf farTo stepsTo needs nmany mat told]) H locs → lv_has ls 6 [(0, .ref (h 0)), (1, .int a1), (2, .int l2_5), (3, .int l3_5), (4, .int r3)] → W p l e rmX11_firstOf s m args below meth c H locs 0 0 Q (F0 m 66 ls []) := by
          intro  ls H locs hw hI hl
          replace hw := hJ66 hw
          refine lv_iconst (v := (0 : Int32)) hx hb dX11_firstOf_66 (by decide) ?_
          exact jn67 (0 : Int32) ls H locs hw hI (lv_sub hl [0, 1, 2, 3, 4] rfl)
        refine lv_icmp_ne (tgt := 66) hx hb dX11_firstOf_41 (by decide) (fun c14 => ?_) (fun c14 => ?_)
        · replace hw := hw.2 c14
          exact jn66 ls H locs hw hI (lv_sub hl [1, 2, 3, 4, 0] rfl)
        · replace hw := hw.1 c14
          refine lv_aload_n hx hb dX11_firstOf_44 rfl (lv_at hl 1 rfl) ?_
          refine x_get (v := .ref (h 12)) hC hI kX11_firstOf_cX11 0 rfl rfl 14 (by decide) kX11_firstOf_2 rfl rfl dX11_firstOf_45 ?_
          refine lv_iload hx hb dX11_firstOf_48 (lv_at hl 0 rfl) ?_
          obtain ⟨hc15, hw⟩ := hw
          refine x_iald (f := stepsTo) hC hI 12 rfl hc15 dX11_firstOf_50 ?_
          refine lv_iconst (v := (1 : Int32)) hx hb dX11_firstOf_51 (by decide) ?_
          refine lv_iadd hx hb dX11_firstOf_52 ?_
          refine lv_aload_n hx hb dX11_firstOf_53 rfl (lv_at hl 1 rfl) ?_
          refine x_get (v := .ref (h 12)) hC hI kX11_firstOf_cX11 0 rfl rfl 14 (by decide) kX11_firstOf_2 rfl rfl dX11_firstOf_54 ?_
          refine lv_iload_n hx hb dX11_firstOf_57 rfl (lv_at hl 2 rfl) ?_
          obtain ⟨hc16, hw⟩ := hw
          refine x_iald (f := stepsTo) hC hI 12 rfl hc16 dX11_firstOf_58 ?_
          refine lv_icmp_ne (tgt := 66) hx hb dX11_firstOf_59 (by decide) (fun c17 => ?_) (fun c17 => ?_)
          · replace hw := hw.2 c17
            exact jn66 ls H locs hw hI (lv_sub hl [1, 2, 3, 4, 0] rfl)
          · replace hw := hw.1 c17
            refine lv_iconst (v := (1 : Int32)) hx hb dX11_firstOf_62 (by decide) ?_
            refine lv_goto (tgt := 67) hx hb dX11_firstOf_63 (by decide) ?_
            exact jn67 (1 : Int32) ls H locs hw hI (lv_sub hl [1, 2, 3, 4, 0] rfl)
  exact lp5 (mu5 (-4 : Int32) (0 : Int32) + 1) (-4 : Int32) (0 : Int32) ls H locs (Nat.lt_succ_self _) hw hI (lv_sub hl [2, 3, 1, 0] rfl)

def wX11_way (a1 : Int32) (a2 : Int32) (a3 : Int32) (st : Nat → Int32) (farTo : Nat → Int32) (stepsTo : Nat → Int32) (post : Int32 → (Nat → Int32) → (Nat → Int32) → Prop) : Prop := wX11_isNumber a1 (fun (r1 : Int32) => ((r1 = 0 → post (-1 : Int32) farTo stepsTo) ∧ (¬ r1 = 0 → wX11_isNumber a2 (fun (r3 : Int32) => ((r3 = 0 → post (-1 : Int32) farTo stepsTo) ∧ (¬ r3 = 0 → wX11_in a3 (0 : Int32) (2 : Int32) (fun (r5 : Int32) => ((r5 = 0 → post (-1 : Int32) farTo stepsTo) ∧ (¬ r5 = 0 → wX11_laysWays a2 st farTo stepsTo (fun (farTo_c7 : Nat → Int32) (stepsTo_c8 : Nat → Int32) => vp_in a1 266 ∧ (((farTo_c7 a1.toNatClampNeg) = (100000000 : Int32) → post (-4 : Int32) farTo_c7 stepsTo_c8) ∧ (¬ (farTo_c7 a1.toNatClampNeg) = (100000000 : Int32) → ((a3 = 0 → vp_in a1 266 ∧ post (farTo_c7 a1.toNatClampNeg) farTo_c7 stepsTo_c8) ∧ (¬ a3 = 0 → ((a3 = (1 : Int32) → vp_in a1 266 ∧ post (stepsTo_c8 a1.toNatClampNeg) farTo_c7 stepsTo_c8) ∧ (¬ a3 = (1 : Int32) → wX11_firstOf a1 st farTo_c7 stepsTo_c8 (fun (r13 : Int32) => post r13 farTo_c7 stepsTo_c8)))))))))))))))))
def rmX11_way : Room := { frames := 7, cells := 0, slots := 0, locals := 154 }
theorem kX11_way_0 : Cond.fieldLink RX11 45 "GoreGlobeModel" "farTo" "[I" ∈ wsX11_way := List.mem_cons_of_mem _ (List.mem_append_left _ (List.mem_append_left _ (List.mem_of_getElem? (i := 0) rfl)))
theorem kX11_way_cX11 : ∀ w ∈ wsX110, w ∈ wsX11_way := fun _ h => List.mem_cons_of_mem _ (List.mem_append_right _ h)
theorem kX11_way_2 : Cond.constant RX11 155 (100000000) ∈ wsX11_way := List.mem_cons_of_mem _ (List.mem_append_left _ (List.mem_append_left _ (List.mem_of_getElem? (i := 1) rfl)))
theorem kX11_way_3 : Cond.fieldLink RX11 48 "GoreGlobeModel" "stepsTo" "[I" ∈ wsX11_way := List.mem_cons_of_mem _ (List.mem_append_left _ (List.mem_append_left _ (List.mem_of_getElem? (i := 2) rfl)))
set_option maxHeartbeats 4000000 in
set_option maxRecDepth 100000 in
theorem mX11_way (l : Launch) (D : va_G) (K : Nat → ClassId) (h : Nat → Nat) (sz : Nat) (a1 : Int32) (a2 : Int32) (a3 : Int32) (st : Nat → Int32) (past : Nat → Int32) (acts : Int32) (image : Nat → Int32) (ipast : Nat → Int32) (iacts : Int32) (tape : Nat → Int32) (tmany : Int32) (laneOf : Nat → Int32) (sizeOf : Nat → Int32) (items : Nat → Int64) (seaFirst : Nat → Int32) (worstOf : Nat → Int32) (farTo : Nat → Int32) (stepsTo : Nat → Int32) (needs : Nat → Int32) (nmany : Int32) (mat : Int32) (told : Nat → Int32)  {post : Int32 → (Nat → Int32) → (Nat → Int32) → Prop} (hw : wX11_way a1 a2 a3 st farTo stepsTo post) : Met l yX11_way wsX11_way rmX11_way (va_Pc [.ref (h 0), .int a1, .int a2, .int a3] (cP D K (fl [wMo K h st past acts image ipast iacts tape tmany laneOf sizeOf items seaFirst worstOf farTo stepsTo needs nmany mat told]) sz)) (va_Qi (fun (r : Int32) (u : (Nat → Int32) × (Nat → Int32)) => post r u.1 u.2) (fun u t => cQ D K (fl [wMo K h st past acts image ipast iacts tape tmany laneOf sizeOf items seaFirst worstOf u.1 u.2 needs nmany mat told]) (va_A (fl [wMo K h st past acts image ipast iacts tape tmany laneOf sizeOf items seaFirst worstOf farTo stepsTo needs nmany mat told]) sz) t) (va_A (fl [wMo K h st past acts image ipast iacts tape tmany laneOf sizeOf items seaFirst worstOf farTo stepsTo needs nmany mat told]) sz)) 0 0 (va_A (fl [wMo K h st past acts image ipast iacts tape tmany laneOf sizeOf items seaFirst worstOf farTo stepsTo needs nmany mat told]) sz) := by
  refine x_entry (cc := cX11_way) (maxL := 4) (ret := (some .int)) (QA := fun A => va_Qi (fun (r : Int32) (u : (Nat → Int32) × (Nat → Int32)) => post r u.1 u.2) (fun u t => cQ D K (fl [wMo K h st past acts image ipast iacts tape tmany laneOf sizeOf items seaFirst worstOf u.1 u.2 needs nmany mat told]) A t) A) (plainFor_of_name (by decide)) rfl (Nat.le_of_ble_eq_true rfl) ?_
  intro p e s m args below meth c A ls H Q hQ hC hlk hr hnm hI hl
  obtain ⟨hx, hb, hml, hown, hts, hK, hA, hZ⟩ := id hC
  obtain ⟨locs, hlocs⟩ : ∃ y : List Loc, y = [] := ⟨_, rfl⟩
  rw [← hlocs] at hI ⊢
  clear hlocs
  replace hl : lv_has ls 4 [(0, .ref (h 0)), (1, .int a1), (2, .int a2), (3, .int a3)] := hl
  replace hw : wX11_isNumber a1 (fun (r1 : Int32) => ((r1 = 0 → post (-1 : Int32) farTo stepsTo) ∧ (¬ r1 = 0 → wX11_isNumber a2 (fun (r3 : Int32) => ((r3 = 0 → post (-1 : Int32) farTo stepsTo) ∧ (¬ r3 = 0 → wX11_in a3 (0 : Int32) (2 : Int32) (fun (r5 : Int32) => ((r5 = 0 → post (-1 : Int32) farTo stepsTo) ∧ (¬ r5 = 0 → wX11_laysWays a2 st farTo stepsTo (fun (farTo_c7 : Nat → Int32) (stepsTo_c8 : Nat → Int32) => vp_in a1 266 ∧ (((farTo_c7 a1.toNatClampNeg) = (100000000 : Int32) → post (-4 : Int32) farTo_c7 stepsTo_c8) ∧ (¬ (farTo_c7 a1.toNatClampNeg) = (100000000 : Int32) → ((a3 = 0 → vp_in a1 266 ∧ post (farTo_c7 a1.toNatClampNeg) farTo_c7 stepsTo_c8) ∧ (¬ a3 = 0 → ((a3 = (1 : Int32) → vp_in a1 266 ∧ post (stepsTo_c8 a1.toNatClampNeg) farTo_c7 stepsTo_c8) ∧ (¬ a3 = (1 : Int32) → wX11_firstOf a1 st farTo_c7 stepsTo_c8 (fun (r13 : Int32) => post r13 farTo_c7 stepsTo_c8))))))))))))))))) := hw
  refine lv_iload_n hx hb dX11_way_0 rfl (lv_at hl 1 rfl) ?_
  refine x_callSi (rest := []) hC hI [] (mX11_isNumber l D K  _ a1 hw) (va_cwS 1 hts gX11_way_X11_isNumber rfl rfl rfl (by decide +kernel) ⟨(Nat.le_of_ble_eq_true rfl), (Nat.le_of_ble_eq_true rfl)⟩) (by decide) rfl (fun _ => rfl) rfl hl.1 rfl (Nat.le_of_ble_eq_true rfl) dX11_way_1 ⟨(Nat.le_of_ble_eq_true rfl), (Nat.le_of_ble_eq_true rfl)⟩ (fun r1 u H locs hw hI => ?_)
  try dsimp only at hw
  have hI : wI s D A (fl [wMo K h st past acts image ipast iacts tape tmany laneOf sizeOf items seaFirst worstOf farTo stepsTo needs nmany mat told]) H locs := hI
  refine lv_if_eq (tgt := 23) hx hb dX11_way_4 (by decide) (fun c2 => ?_) (fun c2 => ?_)
  · replace hw := hw.1 c2
    refine lv_iconst (v := (-1 : Int32)) hx hb dX11_way_23 (by decide) ?_
    subst hQ
    exact x_iret (u := (farTo, stepsTo)) hC hI hr hlk hw rfl dX11_way_24
  · replace hw := hw.2 c2
    refine lv_iload_n hx hb dX11_way_7 rfl (lv_at hl 2 rfl) ?_
    refine x_callSi (rest := []) hC hI [] (mX11_isNumber l D K  _ a2 hw) (va_cwS 1 hts gX11_way_X11_isNumber rfl rfl rfl (by decide +kernel) ⟨(Nat.le_of_ble_eq_true rfl), (Nat.le_of_ble_eq_true rfl)⟩) (by decide) rfl (fun _ => rfl) rfl hl.1 rfl (Nat.le_of_ble_eq_true rfl) dX11_way_8 ⟨(Nat.le_of_ble_eq_true rfl), (Nat.le_of_ble_eq_true rfl)⟩ (fun r3 u H locs hw hI => ?_)
    try dsimp only at hw
    have hI : wI s D A (fl [wMo K h st past acts image ipast iacts tape tmany laneOf sizeOf items seaFirst worstOf farTo stepsTo needs nmany mat told]) H locs := hI
    refine lv_if_eq (tgt := 23) hx hb dX11_way_11 (by decide) (fun c4 => ?_) (fun c4 => ?_)
    · replace hw := hw.1 c4
      refine lv_iconst (v := (-1 : Int32)) hx hb dX11_way_23 (by decide) ?_
      subst hQ
      exact x_iret (u := (farTo, stepsTo)) hC hI hr hlk hw rfl dX11_way_24
    · replace hw := hw.2 c4
      refine lv_iload_n hx hb dX11_way_14 rfl (lv_at hl 3 rfl) ?_
      refine lv_iconst (v := (0 : Int32)) hx hb dX11_way_15 (by decide) ?_
      refine lv_iconst (v := (2 : Int32)) hx hb dX11_way_16 (by decide) ?_
      refine x_callSi (rest := []) hC hI [] (mX11_in l D K  _ a3 (0 : Int32) (2 : Int32) hw) (va_cwS 3 hts gX11_way_X11_in rfl rfl rfl (by decide +kernel) ⟨(Nat.le_of_ble_eq_true rfl), (Nat.le_of_ble_eq_true rfl)⟩) (by decide) rfl (fun _ => rfl) rfl hl.1 rfl (Nat.le_of_ble_eq_true rfl) dX11_way_17 ⟨(Nat.le_of_ble_eq_true rfl), (Nat.le_of_ble_eq_true rfl)⟩ (fun r5 u H locs hw hI => ?_)
      try dsimp only at hw
      have hI : wI s D A (fl [wMo K h st past acts image ipast iacts tape tmany laneOf sizeOf items seaFirst worstOf farTo stepsTo needs nmany mat told]) H locs := hI
      refine lv_if_ne (tgt := 25) hx hb dX11_way_20 (by decide) (fun c6 => ?_) (fun c6 => ?_)
      · replace hw := hw.2 c6
        refine lv_aload_n hx hb dX11_way_25 rfl (lv_at hl 0 rfl) ?_
        refine lv_iload_n hx hb dX11_way_26 rfl (lv_at hl 2 rfl) ?_
        refine x_callWv (rest := []) hC hI (mX11_laysWays l D K h _ a2 st past acts image ipast iacts tape tmany laneOf sizeOf items seaFirst worstOf farTo stepsTo needs nmany mat told hw) (cwV 1 hts gX11_way_X11_laysWays rfl rfl rfl (by decide +kernel) ⟨(Nat.le_of_ble_eq_true rfl), (Nat.le_of_ble_eq_true rfl)⟩) (fun _ => rfl) 0 9 rfl rfl rfl rfl hl.1 rfl (Nat.le_of_ble_eq_true rfl) dX11_way_27 ⟨(Nat.le_of_ble_eq_true rfl), (Nat.le_of_ble_eq_true rfl)⟩ (fun u H locs hw hI => ?_)
        obtain ⟨farTo_c7, stepsTo_c8⟩ := u
        try dsimp only at hw
        have hI : wI s D A (fl [wMo K h st past acts image ipast iacts tape tmany laneOf sizeOf items seaFirst worstOf farTo_c7 stepsTo_c8 needs nmany mat told]) H locs := hI
        refine lv_aload_n hx hb dX11_way_30 rfl (lv_at hl 0 rfl) ?_
        refine x_get (v := .ref (h 11)) hC hI kX11_way_cX11 0 rfl rfl 13 (by decide) kX11_way_0 rfl rfl dX11_way_31 ?_
        refine lv_iload_n hx hb dX11_way_34 rfl (lv_at hl 1 rfl) ?_
        obtain ⟨hc9, hw⟩ := hw
        refine x_iald (f := farTo_c7) hC hI 11 rfl hc9 dX11_way_35 ?_
        refine lv_ldc (v := (100000000 : Int32)) hx hb hown (hts _ kX11_way_2) dX11_way_36 ?_
        refine lv_icmp_ne (tgt := 44) hx hb dX11_way_38 (by decide) (fun c10 => ?_) (fun c10 => ?_)
        · replace hw := hw.2 c10
          refine lv_iload_n hx hb dX11_way_44 rfl (lv_at hl 3 rfl) ?_
          refine lv_if_ne (tgt := 57) hx hb dX11_way_45 (by decide) (fun c11 => ?_) (fun c11 => ?_)
          · replace hw := hw.2 c11
            refine lv_iload_n hx hb dX11_way_57 rfl (lv_at hl 3 rfl) ?_
            refine lv_iconst (v := (1 : Int32)) hx hb dX11_way_58 (by decide) ?_
            refine lv_icmp_ne (tgt := 71) hx hb dX11_way_59 (by decide) (fun c12 => ?_) (fun c12 => ?_)
            · replace hw := hw.2 c12
              refine lv_aload_n hx hb dX11_way_71 rfl (lv_at hl 0 rfl) ?_
              refine lv_iload_n hx hb dX11_way_72 rfl (lv_at hl 1 rfl) ?_
              refine x_callWi (rest := []) hC hI (mX11_firstOf l D K h _ a1 st past acts image ipast iacts tape tmany laneOf sizeOf items seaFirst worstOf farTo_c7 stepsTo_c8 needs nmany mat told hw) (cwV 1 hts gX11_way_X11_firstOf rfl rfl rfl (by decide +kernel) ⟨(Nat.le_of_ble_eq_true rfl), (Nat.le_of_ble_eq_true rfl)⟩) (fun _ => rfl) 0 9 rfl rfl rfl rfl hl.1 rfl (Nat.le_of_ble_eq_true rfl) dX11_way_73 ⟨(Nat.le_of_ble_eq_true rfl), (Nat.le_of_ble_eq_true rfl)⟩ (fun r13 u H locs hw hI => ?_)
              try dsimp only at hw
              have hI : wI s D A (fl [wMo K h st past acts image ipast iacts tape tmany laneOf sizeOf items seaFirst worstOf farTo_c7 stepsTo_c8 needs nmany mat told]) H locs := hI
              subst hQ
              exact x_iret (u := (farTo_c7, stepsTo_c8)) hC hI hr hlk hw rfl dX11_way_76
            · replace hw := hw.1 c12
              refine lv_aload_n hx hb dX11_way_62 rfl (lv_at hl 0 rfl) ?_
              refine x_get (v := .ref (h 12)) hC hI kX11_way_cX11 0 rfl rfl 14 (by decide) kX11_way_3 rfl rfl dX11_way_63 ?_
              refine lv_iload_n hx hb dX11_way_66 rfl (lv_at hl 1 rfl) ?_
              obtain ⟨hc14, hw⟩ := hw
              refine x_iald (f := stepsTo_c8) hC hI 12 rfl hc14 dX11_way_67 ?_
              refine lv_goto (tgt := 76) hx hb dX11_way_68 (by decide) ?_
              subst hQ
              exact x_iret (u := (farTo_c7, stepsTo_c8)) hC hI hr hlk hw rfl dX11_way_76
          · replace hw := hw.1 c11
            refine lv_aload_n hx hb dX11_way_48 rfl (lv_at hl 0 rfl) ?_
            refine x_get (v := .ref (h 11)) hC hI kX11_way_cX11 0 rfl rfl 13 (by decide) kX11_way_0 rfl rfl dX11_way_49 ?_
            refine lv_iload_n hx hb dX11_way_52 rfl (lv_at hl 1 rfl) ?_
            obtain ⟨hc15, hw⟩ := hw
            refine x_iald (f := farTo_c7) hC hI 11 rfl hc15 dX11_way_53 ?_
            refine lv_goto (tgt := 76) hx hb dX11_way_54 (by decide) ?_
            subst hQ
            exact x_iret (u := (farTo_c7, stepsTo_c8)) hC hI hr hlk hw rfl dX11_way_76
        · replace hw := hw.1 c10
          refine lv_bipush (v := (-4 : Int32)) hx hb dX11_way_41 (by decide) ?_
          subst hQ
          exact x_iret (u := (farTo_c7, stepsTo_c8)) hC hI hr hlk hw rfl dX11_way_43
      · replace hw := hw.1 c6
        refine lv_iconst (v := (-1 : Int32)) hx hb dX11_way_23 (by decide) ?_
        subst hQ
        exact x_iret (u := (farTo, stepsTo)) hC hI hr hlk hw rfl dX11_way_24

def wX11_seas  (st : Nat → Int32) (seaFirst : Nat → Int32) (post : Int32 → (Nat → Int32) → Prop) : Prop := wX11_laysSeas st seaFirst (fun (seaFirst_c1 : Nat → Int32) => wX11_seasAhead (266 : Int32) seaFirst_c1 (fun (r2 : Int32) => post r2 seaFirst_c1))
def rmX11_seas : Room := { frames := 4, cells := 0, slots := 0, locals := 87 }
set_option maxHeartbeats 4000000 in
set_option maxRecDepth 100000 in
theorem mX11_seas (l : Launch) (D : va_G) (K : Nat → ClassId) (h : Nat → Nat) (sz : Nat)  (st : Nat → Int32) (past : Nat → Int32) (acts : Int32) (image : Nat → Int32) (ipast : Nat → Int32) (iacts : Int32) (tape : Nat → Int32) (tmany : Int32) (laneOf : Nat → Int32) (sizeOf : Nat → Int32) (items : Nat → Int64) (seaFirst : Nat → Int32) (worstOf : Nat → Int32) (farTo : Nat → Int32) (stepsTo : Nat → Int32) (needs : Nat → Int32) (nmany : Int32) (mat : Int32) (told : Nat → Int32)  {post : Int32 → (Nat → Int32) → Prop} (hw : wX11_seas  st seaFirst post) : Met l yX11_seas wsX11_seas rmX11_seas (va_Pc [.ref (h 0)] (cP D K (fl [wMo K h st past acts image ipast iacts tape tmany laneOf sizeOf items seaFirst worstOf farTo stepsTo needs nmany mat told]) sz)) (va_Qi (fun (r : Int32) (u : (Nat → Int32)) => post r u) (fun u t => cQ D K (fl [wMo K h st past acts image ipast iacts tape tmany laneOf sizeOf items u worstOf farTo stepsTo needs nmany mat told]) (va_A (fl [wMo K h st past acts image ipast iacts tape tmany laneOf sizeOf items seaFirst worstOf farTo stepsTo needs nmany mat told]) sz) t) (va_A (fl [wMo K h st past acts image ipast iacts tape tmany laneOf sizeOf items seaFirst worstOf farTo stepsTo needs nmany mat told]) sz)) 0 0 (va_A (fl [wMo K h st past acts image ipast iacts tape tmany laneOf sizeOf items seaFirst worstOf farTo stepsTo needs nmany mat told]) sz) := by
  refine x_entry (cc := cX11_seas) (maxL := 1) (ret := (some .int)) (QA := fun A => va_Qi (fun (r : Int32) (u : (Nat → Int32)) => post r u) (fun u t => cQ D K (fl [wMo K h st past acts image ipast iacts tape tmany laneOf sizeOf items u worstOf farTo stepsTo needs nmany mat told]) A t) A) (plainFor_of_name (by decide)) rfl (Nat.le_of_ble_eq_true rfl) ?_
  intro p e s m args below meth c A ls H Q hQ hC hlk hr hnm hI hl
  obtain ⟨hx, hb, hml, hown, hts, hK, hA, hZ⟩ := id hC
  obtain ⟨locs, hlocs⟩ : ∃ y : List Loc, y = [] := ⟨_, rfl⟩
  rw [← hlocs] at hI ⊢
  clear hlocs
  replace hl : lv_has ls 1 [(0, .ref (h 0))] := hl
  replace hw : wX11_laysSeas st seaFirst (fun (seaFirst_c1 : Nat → Int32) => wX11_seasAhead (266 : Int32) seaFirst_c1 (fun (r2 : Int32) => post r2 seaFirst_c1)) := hw
  refine lv_aload_n hx hb dX11_seas_0 rfl (lv_at hl 0 rfl) ?_
  refine x_callWv (rest := []) hC hI (mX11_laysSeas l D K h _ st past acts image ipast iacts tape tmany laneOf sizeOf items seaFirst worstOf farTo stepsTo needs nmany mat told hw) (cwV 0 hts gX11_seas_X11_laysSeas rfl rfl rfl (by decide +kernel) ⟨(Nat.le_of_ble_eq_true rfl), (Nat.le_of_ble_eq_true rfl)⟩) (fun _ => rfl) 0 9 rfl rfl rfl rfl hl.1 rfl (Nat.le_of_ble_eq_true rfl) dX11_seas_1 ⟨(Nat.le_of_ble_eq_true rfl), (Nat.le_of_ble_eq_true rfl)⟩ (fun seaFirst_c1 H locs hw hI => ?_)
  have hI : wI s D A (fl [wMo K h st past acts image ipast iacts tape tmany laneOf sizeOf items seaFirst_c1 worstOf farTo stepsTo needs nmany mat told]) H locs := hI
  refine lv_aload_n hx hb dX11_seas_4 rfl (lv_at hl 0 rfl) ?_
  refine lv_sipush (v := (266 : Int32)) hx hb dX11_seas_5 (by decide) ?_
  refine x_callWi (rest := []) hC hI (mX11_seasAhead l D K h _ (266 : Int32) st past acts image ipast iacts tape tmany laneOf sizeOf items seaFirst_c1 worstOf farTo stepsTo needs nmany mat told hw) (cwV 1 hts gX11_seas_X11_seasAhead rfl rfl rfl (by decide +kernel) ⟨(Nat.le_of_ble_eq_true rfl), (Nat.le_of_ble_eq_true rfl)⟩) (fun _ => rfl) 0 9 rfl rfl rfl rfl hl.1 rfl (Nat.le_of_ble_eq_true rfl) dX11_seas_8 ⟨(Nat.le_of_ble_eq_true rfl), (Nat.le_of_ble_eq_true rfl)⟩ (fun r2 u H locs hw hI => ?_)
  try dsimp only at hw
  have hI : wI s D A (fl [wMo K h st past acts image ipast iacts tape tmany laneOf sizeOf items seaFirst_c1 worstOf farTo stepsTo needs nmany mat told]) H locs := hI
  subst hQ
  exact x_iret (u := seaFirst_c1) hC hI hr hlk hw rfl dX11_seas_11

def wX11_sea (a1 : Int32) (a2 : Int32) (st : Nat → Int32) (seaFirst : Nat → Int32) (post : Int32 → (Nat → Int32) → Prop) : Prop := wX11_seas st seaFirst (fun (r2 : Int32) (seaFirst_c1 : Nat → Int32) => wX11_in a1 (0 : Int32) (r2 - (1 : Int32)) (fun (r3 : Int32) => ((r3 = 0 → post (-1 : Int32) seaFirst_c1) ∧ (¬ r3 = 0 → wX11_in a2 (0 : Int32) (2 : Int32) (fun (r5 : Int32) => ((r5 = 0 → post (-1 : Int32) seaFirst_c1) ∧ (¬ r5 = 0 → (∃ (I38 : Int32 → Int32 → Int32 → Int32 → Prop) (mu38 : Int32 → Int32 → Int32 → Int32 → Nat), I38 (-4 : Int32) (-4 : Int32) (0 : Int32) (0 : Int32) ∧ ∀ (l3_38 : Int32) (l4_38 : Int32) (l5_38 : Int32) (l6_38 : Int32), I38 l3_38 l4_38 l5_38 l6_38 → (((266 : Int32) ≤ l6_38 → ((a2 = 0 → post l5_38 seaFirst_c1) ∧ (¬ a2 = 0 → ((a2 = (1 : Int32) → post l3_38 seaFirst_c1) ∧ (¬ a2 = (1 : Int32) → post l4_38 seaFirst_c1))))) ∧ (¬ (266 : Int32) ≤ l6_38 → wX11_isLand l6_38 st (fun (r10 : Int32) => ((r10 = 0 → vp_in l6_38 266 ∧ wX11_seasAhead (seaFirst_c1 l6_38.toNatClampNeg) seaFirst_c1 (fun (r14 : Int32) => ((r14 = a1 → ∃ J82 : Int32 → Prop, (∀ (t_82 : Int32), J82 t_82 → ∀ x17 : Int32, x17 = l5_38 + 1 → ∀ x18 : Int32, x18 = l6_38 + 1 → (I38 t_82 l6_38 x17 x18 ∧ mu38 t_82 l6_38 x17 x18 < mu38 l3_38 l4_38 l5_38 l6_38)) ∧ ((l3_38 = (-4 : Int32) → J82 l6_38) ∧ (¬ l3_38 = (-4 : Int32) → J82 l3_38))) ∧ (¬ r14 = a1 → ∀ x16 : Int32, x16 = l6_38 + 1 → (I38 l3_38 l4_38 l5_38 x16 ∧ mu38 l3_38 l4_38 l5_38 x16 < mu38 l3_38 l4_38 l5_38 l6_38))))) ∧ (¬ r10 = 0 → ∀ x12 : Int32, x12 = l6_38 + 1 → (I38 l3_38 l4_38 l5_38 x12 ∧ mu38 l3_38 l4_38 l5_38 x12 < mu38 l3_38 l4_38 l5_38 l6_38))))))))))))))
def rmX11_sea : Room := { frames := 5, cells := 0, slots := 0, locals := 107 }
theorem kX11_sea_0 : Cond.fieldLink RX11 39 "GoreGlobeModel" "seaFirst" "[I" ∈ wsX11_sea := List.mem_cons_of_mem _ (List.mem_append_left _ (List.mem_append_left _ (List.mem_of_getElem? (i := 0) rfl)))
theorem kX11_sea_cX11 : ∀ w ∈ wsX110, w ∈ wsX11_sea := fun _ h => List.mem_cons_of_mem _ (List.mem_append_right _ h)
set_option maxHeartbeats 4000000 in
set_option maxRecDepth 100000 in
theorem mX11_sea (l : Launch) (D : va_G) (K : Nat → ClassId) (h : Nat → Nat) (sz : Nat) (a1 : Int32) (a2 : Int32) (st : Nat → Int32) (past : Nat → Int32) (acts : Int32) (image : Nat → Int32) (ipast : Nat → Int32) (iacts : Int32) (tape : Nat → Int32) (tmany : Int32) (laneOf : Nat → Int32) (sizeOf : Nat → Int32) (items : Nat → Int64) (seaFirst : Nat → Int32) (worstOf : Nat → Int32) (farTo : Nat → Int32) (stepsTo : Nat → Int32) (needs : Nat → Int32) (nmany : Int32) (mat : Int32) (told : Nat → Int32)  {post : Int32 → (Nat → Int32) → Prop} (hw : wX11_sea a1 a2 st seaFirst post) : Met l yX11_sea wsX11_sea rmX11_sea (va_Pc [.ref (h 0), .int a1, .int a2] (cP D K (fl [wMo K h st past acts image ipast iacts tape tmany laneOf sizeOf items seaFirst worstOf farTo stepsTo needs nmany mat told]) sz)) (va_Qi (fun (r : Int32) (u : (Nat → Int32)) => post r u) (fun u t => cQ D K (fl [wMo K h st past acts image ipast iacts tape tmany laneOf sizeOf items u worstOf farTo stepsTo needs nmany mat told]) (va_A (fl [wMo K h st past acts image ipast iacts tape tmany laneOf sizeOf items seaFirst worstOf farTo stepsTo needs nmany mat told]) sz) t) (va_A (fl [wMo K h st past acts image ipast iacts tape tmany laneOf sizeOf items seaFirst worstOf farTo stepsTo needs nmany mat told]) sz)) 0 0 (va_A (fl [wMo K h st past acts image ipast iacts tape tmany laneOf sizeOf items seaFirst worstOf farTo stepsTo needs nmany mat told]) sz) := by
  refine x_entry (cc := cX11_sea) (maxL := 7) (ret := (some .int)) (QA := fun A => va_Qi (fun (r : Int32) (u : (Nat → Int32)) => post r u) (fun u t => cQ D K (fl [wMo K h st past acts image ipast iacts tape tmany laneOf sizeOf items u worstOf farTo stepsTo needs nmany mat told]) A t) A) (plainFor_of_name (by decide)) rfl (Nat.le_of_ble_eq_true rfl) ?_
  intro p e s m args below meth c A ls H Q hQ hC hlk hr hnm hI hl
  obtain ⟨hx, hb, hml, hown, hts, hK, hA, hZ⟩ := id hC
  obtain ⟨locs, hlocs⟩ : ∃ y : List Loc, y = [] := ⟨_, rfl⟩
  rw [← hlocs] at hI ⊢
  clear hlocs
  replace hl : lv_has ls 7 [(0, .ref (h 0)), (1, .int a1), (2, .int a2)] := hl
  replace hw : wX11_seas st seaFirst (fun (r2 : Int32) (seaFirst_c1 : Nat → Int32) => wX11_in a1 (0 : Int32) (r2 - (1 : Int32)) (fun (r3 : Int32) => ((r3 = 0 → post (-1 : Int32) seaFirst_c1) ∧ (¬ r3 = 0 → wX11_in a2 (0 : Int32) (2 : Int32) (fun (r5 : Int32) => ((r5 = 0 → post (-1 : Int32) seaFirst_c1) ∧ (¬ r5 = 0 → (∃ (I38 : Int32 → Int32 → Int32 → Int32 → Prop) (mu38 : Int32 → Int32 → Int32 → Int32 → Nat), I38 (-4 : Int32) (-4 : Int32) (0 : Int32) (0 : Int32) ∧ ∀ (l3_38 : Int32) (l4_38 : Int32) (l5_38 : Int32) (l6_38 : Int32), I38 l3_38 l4_38 l5_38 l6_38 → (((266 : Int32) ≤ l6_38 → ((a2 = 0 → post l5_38 seaFirst_c1) ∧ (¬ a2 = 0 → ((a2 = (1 : Int32) → post l3_38 seaFirst_c1) ∧ (¬ a2 = (1 : Int32) → post l4_38 seaFirst_c1))))) ∧ (¬ (266 : Int32) ≤ l6_38 → wX11_isLand l6_38 st (fun (r10 : Int32) => ((r10 = 0 → vp_in l6_38 266 ∧ wX11_seasAhead (seaFirst_c1 l6_38.toNatClampNeg) seaFirst_c1 (fun (r14 : Int32) => ((r14 = a1 → ∃ J82 : Int32 → Prop, (∀ (t_82 : Int32), J82 t_82 → ∀ x17 : Int32, x17 = l5_38 + 1 → ∀ x18 : Int32, x18 = l6_38 + 1 → (I38 t_82 l6_38 x17 x18 ∧ mu38 t_82 l6_38 x17 x18 < mu38 l3_38 l4_38 l5_38 l6_38)) ∧ ((l3_38 = (-4 : Int32) → J82 l6_38) ∧ (¬ l3_38 = (-4 : Int32) → J82 l3_38))) ∧ (¬ r14 = a1 → ∀ x16 : Int32, x16 = l6_38 + 1 → (I38 l3_38 l4_38 l5_38 x16 ∧ mu38 l3_38 l4_38 l5_38 x16 < mu38 l3_38 l4_38 l5_38 l6_38))))) ∧ (¬ r10 = 0 → ∀ x12 : Int32, x12 = l6_38 + 1 → (I38 l3_38 l4_38 l5_38 x12 ∧ mu38 l3_38 l4_38 l5_38 x12 < mu38 l3_38 l4_38 l5_38 l6_38)))))))))))))) := hw
  refine lv_iload_n hx hb dX11_sea_0 rfl (lv_at hl 1 rfl) ?_
  refine lv_iconst (v := (0 : Int32)) hx hb dX11_sea_1 (by decide) ?_
  refine lv_aload_n hx hb dX11_sea_2 rfl (lv_at hl 0 rfl) ?_
  refine x_callWi (rest := [.int (0 : Int32), .int a1]) hC hI (mX11_seas l D K h _ st past acts image ipast iacts tape tmany laneOf sizeOf items seaFirst worstOf farTo stepsTo needs nmany mat told hw) (cwV 0 hts gX11_sea_X11_seas rfl rfl rfl (by decide +kernel) ⟨(Nat.le_of_ble_eq_true rfl), (Nat.le_of_ble_eq_true rfl)⟩) (fun _ => rfl) 0 9 rfl rfl rfl rfl hl.1 rfl (Nat.le_of_ble_eq_true rfl) dX11_sea_3 ⟨(Nat.le_of_ble_eq_true rfl), (Nat.le_of_ble_eq_true rfl)⟩ (fun r2 seaFirst_c1 H locs hw hI => ?_)
  have hI : wI s D A (fl [wMo K h st past acts image ipast iacts tape tmany laneOf sizeOf items seaFirst_c1 worstOf farTo stepsTo needs nmany mat told]) H locs := hI
  refine lv_iconst (v := (1 : Int32)) hx hb dX11_sea_6 (by decide) ?_
  refine lv_isub hx hb dX11_sea_7 ?_
  refine x_callSi (rest := []) hC hI [] (mX11_in l D K  _ a1 (0 : Int32) (r2 - (1 : Int32)) hw) (va_cwS 3 hts gX11_sea_X11_in rfl rfl rfl (by decide +kernel) ⟨(Nat.le_of_ble_eq_true rfl), (Nat.le_of_ble_eq_true rfl)⟩) (by decide) rfl (fun _ => rfl) rfl hl.1 rfl (Nat.le_of_ble_eq_true rfl) dX11_sea_8 ⟨(Nat.le_of_ble_eq_true rfl), (Nat.le_of_ble_eq_true rfl)⟩ (fun r3 u H locs hw hI => ?_)
  try dsimp only at hw
  have hI : wI s D A (fl [wMo K h st past acts image ipast iacts tape tmany laneOf sizeOf items seaFirst_c1 worstOf farTo stepsTo needs nmany mat told]) H locs := hI
  refine lv_if_eq (tgt := 23) hx hb dX11_sea_11 (by decide) (fun c4 => ?_) (fun c4 => ?_)
  · replace hw := hw.1 c4
    refine lv_iconst (v := (-1 : Int32)) hx hb dX11_sea_23 (by decide) ?_
    subst hQ
    exact x_iret (u := seaFirst_c1) hC hI hr hlk hw rfl dX11_sea_24
  · replace hw := hw.2 c4
    refine lv_iload_n hx hb dX11_sea_14 rfl (lv_at hl 2 rfl) ?_
    refine lv_iconst (v := (0 : Int32)) hx hb dX11_sea_15 (by decide) ?_
    refine lv_iconst (v := (2 : Int32)) hx hb dX11_sea_16 (by decide) ?_
    refine x_callSi (rest := []) hC hI [] (mX11_in l D K  _ a2 (0 : Int32) (2 : Int32) hw) (va_cwS 3 hts gX11_sea_X11_in rfl rfl rfl (by decide +kernel) ⟨(Nat.le_of_ble_eq_true rfl), (Nat.le_of_ble_eq_true rfl)⟩) (by decide) rfl (fun _ => rfl) rfl hl.1 rfl (Nat.le_of_ble_eq_true rfl) dX11_sea_17 ⟨(Nat.le_of_ble_eq_true rfl), (Nat.le_of_ble_eq_true rfl)⟩ (fun r5 u H locs hw hI => ?_)
    try dsimp only at hw
    have hI : wI s D A (fl [wMo K h st past acts image ipast iacts tape tmany laneOf sizeOf items seaFirst_c1 worstOf farTo stepsTo needs nmany mat told]) H locs := hI
    refine lv_if_ne (tgt := 25) hx hb dX11_sea_20 (by decide) (fun c6 => ?_) (fun c6 => ?_)
    · replace hw := hw.2 c6
      refine lv_bipush (v := (-4 : Int32)) hx hb dX11_sea_25 (by decide) ?_
      refine lv_istore_n (lv' := [(3, .int (-4 : Int32)), (0, .ref (h 0)), (1, .int a1), (2, .int a2)]) hx hb dX11_sea_27 rfl hl (by decide) rfl (fun ls hl => ?_)
      refine lv_bipush (v := (-4 : Int32)) hx hb dX11_sea_28 (by decide) ?_
      refine lv_istore (lv' := [(4, .int (-4 : Int32)), (3, .int (-4 : Int32)), (0, .ref (h 0)), (1, .int a1), (2, .int a2)]) hx hb dX11_sea_30 hl (by decide) rfl (fun ls hl => ?_)
      refine lv_iconst (v := (0 : Int32)) hx hb dX11_sea_32 (by decide) ?_
      refine lv_istore (lv' := [(5, .int (0 : Int32)), (4, .int (-4 : Int32)), (3, .int (-4 : Int32)), (0, .ref (h 0)), (1, .int a1), (2, .int a2)]) hx hb dX11_sea_33 hl (by decide) rfl (fun ls hl => ?_)
      refine lv_iconst (v := (0 : Int32)) hx hb dX11_sea_35 (by decide) ?_
      refine lv_istore (lv' := [(6, .int (0 : Int32)), (5, .int (0 : Int32)), (4, .int (-4 : Int32)), (3, .int (-4 : Int32)), (0, .ref (h 0)), (1, .int a1), (2, .int a2)]) hx hb dX11_sea_36 hl (by decide) rfl (fun ls hl => ?_)
      obtain ⟨I38, mu38, hw, hb38⟩ := hw
      have lp38 : ∀ (k : Nat) (l3_38 : Int32) (l4_38 : Int32) (l5_38 : Int32) (l6_38 : Int32) (ls : Array Slot) (H : Heap) (locs : List Loc), mu38 l3_38 l4_38 l5_38 l6_38 < k → I38 l3_38 l4_38 l5_38 l6_38 → wI s D A (fl [wMo K h st past acts image ipast iacts tape tmany laneOf sizeOf items seaFirst_c1 worstOf farTo stepsTo needs nmany mat told]) H locs → lv_has ls 7 [(0, .ref (h 0)), (1, .int a1), (2, .int a2), (3, .int l3_38), (4, .int l4_38), (5, .int l5_38), (6, .int l6_38)] → W p l e rmX11_sea s m args below meth c H locs 0 0 Q (F0 m 38 ls []) := by
        intro k
        induction k with
        | zero => intro l3_38 l4_38 l5_38 l6_38 ls H locs hmu; exact absurd hmu (Nat.not_lt_zero _)
        | succ k ih38 =>
          intro l3_38 l4_38 l5_38 l6_38 ls H locs hmu38 hw hI hl
          replace hw := hb38 l3_38 l4_38 l5_38 l6_38 hw
          refine lv_iload hx hb dX11_sea_38 (lv_at hl 6 rfl) ?_
          refine lv_sipush (v := (266 : Int32)) hx hb dX11_sea_40 (by decide) ?_
          refine lv_icmp_ge (tgt := 96) hx hb dX11_sea_43 (by decide) (fun c7 => ?_) (fun c7 => ?_)
          · replace hw := hw.1 c7
            refine lv_iload_n hx hb dX11_sea_96 rfl (lv_at hl 2 rfl) ?_
            refine lv_if_ne (tgt := 105) hx hb dX11_sea_97 (by decide) (fun c8 => ?_) (fun c8 => ?_)
            · replace hw := hw.2 c8
              refine lv_iload_n hx hb dX11_sea_105 rfl (lv_at hl 2 rfl) ?_
              refine lv_iconst (v := (1 : Int32)) hx hb dX11_sea_106 (by decide) ?_
              refine lv_icmp_ne (tgt := 114) hx hb dX11_sea_107 (by decide) (fun c9 => ?_) (fun c9 => ?_)
              · replace hw := hw.2 c9
                refine lv_iload hx hb dX11_sea_114 (lv_at hl 4 rfl) ?_
                subst hQ
                exact x_iret (u := seaFirst_c1) hC hI hr hlk hw rfl dX11_sea_116
              · replace hw := hw.1 c9
                refine lv_iload_n hx hb dX11_sea_110 rfl (lv_at hl 3 rfl) ?_
                refine lv_goto (tgt := 116) hx hb dX11_sea_111 (by decide) ?_
                subst hQ
                exact x_iret (u := seaFirst_c1) hC hI hr hlk hw rfl dX11_sea_116
            · replace hw := hw.1 c8
              refine lv_iload hx hb dX11_sea_100 (lv_at hl 5 rfl) ?_
              refine lv_goto (tgt := 116) hx hb dX11_sea_102 (by decide) ?_
              subst hQ
              exact x_iret (u := seaFirst_c1) hC hI hr hlk hw rfl dX11_sea_116
          · replace hw := hw.2 c7
            refine lv_aload_n hx hb dX11_sea_46 rfl (lv_at hl 0 rfl) ?_
            refine lv_iload hx hb dX11_sea_47 (lv_at hl 6 rfl) ?_
            refine x_callWi (rest := []) hC hI (mX11_isLand l D K h _ l6_38 st past acts image ipast iacts tape tmany laneOf sizeOf items seaFirst_c1 worstOf farTo stepsTo needs nmany mat told hw) (cwV 1 hts gX11_sea_X11_isLand rfl rfl rfl (by decide +kernel) ⟨(Nat.le_of_ble_eq_true rfl), (Nat.le_of_ble_eq_true rfl)⟩) (fun _ => rfl) 0 9 rfl rfl rfl rfl hl.1 rfl (Nat.le_of_ble_eq_true rfl) dX11_sea_49 ⟨(Nat.le_of_ble_eq_true rfl), (Nat.le_of_ble_eq_true rfl)⟩ (fun r10 u H locs hw hI => ?_)
            try dsimp only at hw
            have hI : wI s D A (fl [wMo K h st past acts image ipast iacts tape tmany laneOf sizeOf items seaFirst_c1 worstOf farTo stepsTo needs nmany mat told]) H locs := hI
            refine lv_if_ne (tgt := 90) hx hb dX11_sea_52 (by decide) (fun c11 => ?_) (fun c11 => ?_)
            · replace hw := hw.2 c11
              obtain ⟨x12, ex12⟩ : ∃ y : Int32, y = l6_38 + 1 := ⟨_, rfl⟩
              replace hw := hw x12 ex12
              refine lv_iinc (v := x12) (lv' := [(6, .int x12), (0, .ref (h 0)), (1, .int a1), (2, .int a2), (3, .int l3_38), (4, .int l4_38), (5, .int l5_38)]) hx hb dX11_sea_90 hl (k := 6) rfl (by rw [ex12]; rfl) (by decide) rfl (fun ls hl => ?_)
              refine lv_goto (tgt := 38) hx hb dX11_sea_93 (by decide) ?_
              exact ih38 l3_38 l4_38 l5_38 x12 ls H locs (Nat.lt_of_lt_of_le hw.2 (Nat.le_of_lt_succ hmu38)) hw.1 hI (lv_sub hl [1, 2, 3, 4, 5, 6, 0] rfl)
            · replace hw := hw.1 c11
              refine lv_aload_n hx hb dX11_sea_55 rfl (lv_at hl 0 rfl) ?_
              refine lv_aload_n hx hb dX11_sea_56 rfl (lv_at hl 0 rfl) ?_
              refine x_get (v := .ref (h 9)) hC hI kX11_sea_cX11 0 rfl rfl 11 (by decide) kX11_sea_0 rfl rfl dX11_sea_57 ?_
              refine lv_iload hx hb dX11_sea_60 (lv_at hl 6 rfl) ?_
              obtain ⟨hc13, hw⟩ := hw
              refine x_iald (f := seaFirst_c1) hC hI 9 rfl hc13 dX11_sea_62 ?_
              refine x_callWi (rest := []) hC hI (mX11_seasAhead l D K h _ (seaFirst_c1 l6_38.toNatClampNeg) st past acts image ipast iacts tape tmany laneOf sizeOf items seaFirst_c1 worstOf farTo stepsTo needs nmany mat told hw) (cwV 1 hts gX11_sea_X11_seasAhead rfl rfl rfl (by decide +kernel) ⟨(Nat.le_of_ble_eq_true rfl), (Nat.le_of_ble_eq_true rfl)⟩) (fun _ => rfl) 0 9 rfl rfl rfl rfl hl.1 rfl (Nat.le_of_ble_eq_true rfl) dX11_sea_63 ⟨(Nat.le_of_ble_eq_true rfl), (Nat.le_of_ble_eq_true rfl)⟩ (fun r14 u H locs hw hI => ?_)
              try dsimp only at hw
              have hI : wI s D A (fl [wMo K h st past acts image ipast iacts tape tmany laneOf sizeOf items seaFirst_c1 worstOf farTo stepsTo needs nmany mat told]) H locs := hI
              refine lv_iload_n hx hb dX11_sea_66 rfl (lv_at hl 1 rfl) ?_
              refine lv_icmp_ne (tgt := 90) hx hb dX11_sea_67 (by decide) (fun c15 => ?_) (fun c15 => ?_)
              · replace hw := hw.2 c15
                obtain ⟨x16, ex16⟩ : ∃ y : Int32, y = l6_38 + 1 := ⟨_, rfl⟩
                replace hw := hw x16 ex16
                refine lv_iinc (v := x16) (lv' := [(6, .int x16), (0, .ref (h 0)), (1, .int a1), (2, .int a2), (3, .int l3_38), (4, .int l4_38), (5, .int l5_38)]) hx hb dX11_sea_90 hl (k := 6) rfl (by rw [ex16]; rfl) (by decide) rfl (fun ls hl => ?_)
                refine lv_goto (tgt := 38) hx hb dX11_sea_93 (by decide) ?_
                exact ih38 l3_38 l4_38 l5_38 x16 ls H locs (Nat.lt_of_lt_of_le hw.2 (Nat.le_of_lt_succ hmu38)) hw.1 hI (lv_sub hl [1, 2, 3, 4, 5, 6, 0] rfl)
              · replace hw := hw.1 c15
                refine lv_iload_n hx hb dX11_sea_70 rfl (lv_at hl 3 rfl) ?_
                refine lv_bipush (v := (-4 : Int32)) hx hb dX11_sea_71 (by decide) ?_
                obtain ⟨J82, hJ82, hw⟩ := hw
                have jn82 : ∀ (t_82 : Int32) (ls : Array Slot) (H : Heap) (locs : List Loc), J82 t_82 → wI s D A (fl [wMo K h st past acts image ipast iacts tape tmany laneOf sizeOf items seaFirst_c1 worstOf farTo stepsTo needs nmany mat told]) H locs → lv_has ls 7 [(0, .ref (h 0)), (1, .int a1), (2, .int a2), (5, .int l5_38), (6, .int l6_38)] → W p l e rmX11_sea s m args below meth c H locs 0 0 Q (F0 m 82 ls [.int t_82]) := by
                  intro t_82 ls H locs hw hI hl
                  replace hw := hJ82 t_82 hw
                  refine lv_istore_n (lv' := [(3, .int t_82), (0, .ref (h 0)), (1, .int a1), (2, .int a2), (5, .int l5_38), (6, .int l6_38)]) hx hb dX11_sea_82 rfl hl (by decide) rfl (fun ls hl => ?_)
                  refine lv_iload hx hb dX11_sea_83 (lv_at hl 5 rfl) ?_
                  refine lv_istore (lv' := [(4, .int l6_38), (3, .int t_82), (0, .ref (h 0)), (1, .int a1), (2, .int a2), (5, .int l5_38), (6, .int l6_38)]) hx hb dX11_sea_85 hl (by decide) rfl (fun ls hl => ?_)
                  obtain ⟨x17, ex17⟩ : ∃ y : Int32, y = l5_38 + 1 := ⟨_, rfl⟩
                  replace hw := hw x17 ex17
                  refine lv_iinc (v := x17) (lv' := [(5, .int x17), (4, .int l6_38), (3, .int t_82), (0, .ref (h 0)), (1, .int a1), (2, .int a2), (6, .int l6_38)]) hx hb dX11_sea_87 hl (k := 5) rfl (by rw [ex17]; rfl) (by decide) rfl (fun ls hl => ?_)
                  obtain ⟨x18, ex18⟩ : ∃ y : Int32, y = l6_38 + 1 := ⟨_, rfl⟩
                  replace hw := hw x18 ex18
                  refine lv_iinc (v := x18) (lv' := [(6, .int x18), (5, .int x17), (4, .int l6_38), (3, .int t_82), (0, .ref (h 0)), (1, .int a1), (2, .int a2)]) hx hb dX11_sea_90 hl (k := 6) rfl (by rw [ex18]; rfl) (by decide) rfl (fun ls hl => ?_)
                  refine lv_goto (tgt := 38) hx hb dX11_sea_93 (by decide) ?_
                  exact ih38 t_82 l6_38 x17 x18 ls H locs (Nat.lt_of_lt_of_le hw.2 (Nat.le_of_lt_succ hmu38)) hw.1 hI (lv_sub hl [4, 5, 6, 3, 2, 1, 0] rfl)
                refine lv_icmp_ne (tgt := 81) hx hb dX11_sea_73 (by decide) (fun c19 => ?_) (fun c19 => ?_)
                · replace hw := hw.2 c19
                  refine lv_iload_n hx hb dX11_sea_81 rfl (lv_at hl 3 rfl) ?_
                  exact jn82 l3_38 ls H locs hw hI (lv_sub hl [0, 1, 2, 5, 6] rfl)
                · replace hw := hw.1 c19
                  refine lv_iload hx hb dX11_sea_76 (lv_at hl 6 rfl) ?_
                  refine lv_goto (tgt := 82) hx hb dX11_sea_78 (by decide) ?_
                  exact jn82 l6_38 ls H locs hw hI (lv_sub hl [0, 1, 2, 5, 6] rfl)
      exact lp38 (mu38 (-4 : Int32) (-4 : Int32) (0 : Int32) (0 : Int32) + 1) (-4 : Int32) (-4 : Int32) (0 : Int32) (0 : Int32) ls H locs (Nat.lt_succ_self _) hw hI (lv_sub hl [4, 5, 6, 3, 2, 1, 0] rfl)
    · replace hw := hw.1 c6
      refine lv_iconst (v := (-1 : Int32)) hx hb dX11_sea_23 (by decide) ?_
      subst hQ
      exact x_iret (u := seaFirst_c1) hC hI hr hlk hw rfl dX11_sea_24

def wX11_stop (a1 : Int32) (st : Nat → Int32) (post : Int32 → Prop) : Prop := ((0 ≤ a1 → (((st 269) ≤ a1 → post (-4 : Int32)) ∧ (¬ (st 269) ≤ a1 → vp_in ((270 : Int32) + a1) 279 ∧ post (st ((270 : Int32) + a1).toNatClampNeg)))) ∧ (¬ 0 ≤ a1 → post (-1 : Int32)))
def rmX11_stop : Room := { frames := 0, cells := 0, slots := 0, locals := 0 }
theorem kX11_stop_0 : Cond.fieldLink RX11 7 "GoreGlobeModel" "st" "[I" ∈ wsX11_stop := List.mem_cons_of_mem _ (List.mem_append_left _ (List.mem_of_getElem? (i := 0) rfl))
theorem kX11_stop_cX11 : ∀ w ∈ wsX110, w ∈ wsX11_stop := fun _ h => List.mem_cons_of_mem _ (List.mem_append_right _ h)
set_option maxHeartbeats 4000000 in
set_option maxRecDepth 100000 in
theorem mX11_stop (l : Launch) (D : va_G) (K : Nat → ClassId) (h : Nat → Nat) (sz : Nat) (a1 : Int32) (st : Nat → Int32) (past : Nat → Int32) (acts : Int32) (image : Nat → Int32) (ipast : Nat → Int32) (iacts : Int32) (tape : Nat → Int32) (tmany : Int32) (laneOf : Nat → Int32) (sizeOf : Nat → Int32) (items : Nat → Int64) (seaFirst : Nat → Int32) (worstOf : Nat → Int32) (farTo : Nat → Int32) (stepsTo : Nat → Int32) (needs : Nat → Int32) (nmany : Int32) (mat : Int32) (told : Nat → Int32)  {post : Int32 → Prop} (hw : wX11_stop a1 st post) : Met l yX11_stop wsX11_stop rmX11_stop (va_Pc [.ref (h 0), .int a1] (cP D K (fl [wMo K h st past acts image ipast iacts tape tmany laneOf sizeOf items seaFirst worstOf farTo stepsTo needs nmany mat told]) sz)) (va_Qi (fun (r : Int32) (u : Unit) => post r) (fun u t => cQ D K (fl [wMo K h st past acts image ipast iacts tape tmany laneOf sizeOf items seaFirst worstOf farTo stepsTo needs nmany mat told]) (va_A (fl [wMo K h st past acts image ipast iacts tape tmany laneOf sizeOf items seaFirst worstOf farTo stepsTo needs nmany mat told]) sz) t) (va_A (fl [wMo K h st past acts image ipast iacts tape tmany laneOf sizeOf items seaFirst worstOf farTo stepsTo needs nmany mat told]) sz)) 0 0 (va_A (fl [wMo K h st past acts image ipast iacts tape tmany laneOf sizeOf items seaFirst worstOf farTo stepsTo needs nmany mat told]) sz) := by
  refine x_entry (cc := cX11_stop) (maxL := 2) (ret := (some .int)) (QA := fun A => va_Qi (fun (r : Int32) (u : Unit) => post r) (fun u t => cQ D K (fl [wMo K h st past acts image ipast iacts tape tmany laneOf sizeOf items seaFirst worstOf farTo stepsTo needs nmany mat told]) A t) A) (plainFor_of_name (by decide)) rfl (Nat.le_of_ble_eq_true rfl) ?_
  intro p e s m args below meth c A ls H Q hQ hC hlk hr hnm hI hl
  obtain ⟨hx, hb, hml, hown, hts, hK, hA, hZ⟩ := id hC
  obtain ⟨locs, hlocs⟩ : ∃ y : List Loc, y = [] := ⟨_, rfl⟩
  rw [← hlocs] at hI ⊢
  clear hlocs
  replace hl : lv_has ls 2 [(0, .ref (h 0)), (1, .int a1)] := hl
  replace hw : ((0 ≤ a1 → (((st 269) ≤ a1 → post (-4 : Int32)) ∧ (¬ (st 269) ≤ a1 → vp_in ((270 : Int32) + a1) 279 ∧ post (st ((270 : Int32) + a1).toNatClampNeg)))) ∧ (¬ 0 ≤ a1 → post (-1 : Int32))) := hw
  refine lv_iload_n hx hb dX11_stop_0 rfl (lv_at hl 1 rfl) ?_
  refine lv_if_ge (tgt := 8) hx hb dX11_stop_1 (by decide) (fun c1 => ?_) (fun c1 => ?_)
  · replace hw := hw.1 c1
    refine lv_iload_n hx hb dX11_stop_8 rfl (lv_at hl 1 rfl) ?_
    refine lv_aload_n hx hb dX11_stop_9 rfl (lv_at hl 0 rfl) ?_
    refine x_get (v := .ref (h 1)) hC hI kX11_stop_cX11 0 rfl rfl 0 (by decide) kX11_stop_0 rfl rfl dX11_stop_10 ?_
    refine lv_sipush (v := (269 : Int32)) hx hb dX11_stop_13 (by decide) ?_
    refine x_iald (f := st) hC hI 1 rfl (by unfold vp_in; decide) dX11_stop_16 ?_
    refine lv_icmp_ge (tgt := 33) hx hb dX11_stop_17 (by decide) (fun c2 => ?_) (fun c2 => ?_)
    · replace hw := hw.1 c2
      refine lv_bipush (v := (-4 : Int32)) hx hb dX11_stop_33 (by decide) ?_
      subst hQ
      exact x_iret (u := ()) hC hI hr hlk hw rfl dX11_stop_35
    · replace hw := hw.2 c2
      refine lv_aload_n hx hb dX11_stop_20 rfl (lv_at hl 0 rfl) ?_
      refine x_get (v := .ref (h 1)) hC hI kX11_stop_cX11 0 rfl rfl 0 (by decide) kX11_stop_0 rfl rfl dX11_stop_21 ?_
      refine lv_sipush (v := (270 : Int32)) hx hb dX11_stop_24 (by decide) ?_
      refine lv_iload_n hx hb dX11_stop_27 rfl (lv_at hl 1 rfl) ?_
      refine lv_iadd hx hb dX11_stop_28 ?_
      obtain ⟨hc3, hw⟩ := hw
      refine x_iald (f := st) hC hI 1 rfl hc3 dX11_stop_29 ?_
      refine lv_goto (tgt := 35) hx hb dX11_stop_30 (by decide) ?_
      subst hQ
      exact x_iret (u := ()) hC hI hr hlk hw rfl dX11_stop_35
  · replace hw := hw.2 c1
    refine lv_iconst (v := (-1 : Int32)) hx hb dX11_stop_4 (by decide) ?_
    refine lv_goto (tgt := 35) hx hb dX11_stop_5 (by decide) ?_
    subst hQ
    exact x_iret (u := ()) hC hI hr hlk hw rfl dX11_stop_35

def wX11_lengthOf  (st : Nat → Int32) (farTo : Nat → Int32) (stepsTo : Nat → Int32) (post : Int32 → (Nat → Int32) → (Nat → Int32) → Prop) : Prop := (∃ (I4 : Int32 → Int32 → (Nat → Int32) → (Nat → Int32) → Prop) (mu4 : Int32 → Int32 → (Nat → Int32) → (Nat → Int32) → Nat), I4 (0 : Int32) (0 : Int32) farTo stepsTo ∧ ∀ (l1_4 : Int32) (l2_4 : Int32) (farTo_4 : Nat → Int32) (stepsTo_4 : Nat → Int32), I4 l1_4 l2_4 farTo_4 stepsTo_4 → (((st 269) ≤ (l2_4 + (1 : Int32)) → post l1_4 farTo_4 stepsTo_4) ∧ (¬ (st 269) ≤ (l2_4 + (1 : Int32)) → vp_in (((270 : Int32) + l2_4) + (1 : Int32)) 279 ∧ wX11_laysWays (st (((270 : Int32) + l2_4) + (1 : Int32)).toNatClampNeg) st farTo_4 stepsTo_4 (fun (farTo_c3 : Nat → Int32) (stepsTo_c4 : Nat → Int32) => vp_in ((270 : Int32) + l2_4) 279 ∧ vp_in (st ((270 : Int32) + l2_4).toNatClampNeg) 266 ∧ ∀ x7 : Int32, x7 = farTo_c3 (st ((270 : Int32) + l2_4).toNatClampNeg).toNatClampNeg → ((x7 = (100000000 : Int32) → post (-4 : Int32) farTo_c3 stepsTo_c4) ∧ (¬ x7 = (100000000 : Int32) → ∀ x9 : Int32, x9 = l1_4 + x7 → ∀ x10 : Int32, x10 = l2_4 + 1 → (I4 x9 x10 farTo_c3 stepsTo_c4 ∧ mu4 x9 x10 farTo_c3 stepsTo_c4 < mu4 l1_4 l2_4 farTo_4 stepsTo_4)))))))
def rmX11_lengthOf : Room := { frames := 7, cells := 0, slots := 0, locals := 154 }
theorem kX11_lengthOf_0 : Cond.fieldLink RX11 7 "GoreGlobeModel" "st" "[I" ∈ wsX11_lengthOf := List.mem_cons_of_mem _ (List.mem_append_left _ (List.mem_append_left _ (List.mem_of_getElem? (i := 0) rfl)))
theorem kX11_lengthOf_cX11 : ∀ w ∈ wsX110, w ∈ wsX11_lengthOf := fun _ h => List.mem_cons_of_mem _ (List.mem_append_right _ h)
theorem kX11_lengthOf_2 : Cond.fieldLink RX11 45 "GoreGlobeModel" "farTo" "[I" ∈ wsX11_lengthOf := List.mem_cons_of_mem _ (List.mem_append_left _ (List.mem_append_left _ (List.mem_of_getElem? (i := 1) rfl)))
theorem kX11_lengthOf_3 : Cond.constant RX11 155 (100000000) ∈ wsX11_lengthOf := List.mem_cons_of_mem _ (List.mem_append_left _ (List.mem_append_left _ (List.mem_of_getElem? (i := 2) rfl)))
set_option maxHeartbeats 4000000 in
set_option maxRecDepth 100000 in
theorem mX11_lengthOf (l : Launch) (D : va_G) (K : Nat → ClassId) (h : Nat → Nat) (sz : Nat)  (st : Nat → Int32) (past : Nat → Int32) (acts : Int32) (image : Nat → Int32) (ipast : Nat → Int32) (iacts : Int32) (tape : Nat → Int32) (tmany : Int32) (laneOf : Nat → Int32) (sizeOf : Nat → Int32) (items : Nat → Int64) (seaFirst : Nat → Int32) (worstOf : Nat → Int32) (farTo : Nat → Int32) (stepsTo : Nat → Int32) (needs : Nat → Int32) (nmany : Int32) (mat : Int32) (told : Nat → Int32)  {post : Int32 → (Nat → Int32) → (Nat → Int32) → Prop} (hw : wX11_lengthOf  st farTo stepsTo post) : Met l yX11_lengthOf wsX11_lengthOf rmX11_lengthOf (va_Pc [.ref (h 0)] (cP D K (fl [wMo K h st past acts image ipast iacts tape tmany laneOf sizeOf items seaFirst worstOf farTo stepsTo needs nmany mat told]) sz)) (va_Qi (fun (r : Int32) (u : (Nat → Int32) × (Nat → Int32)) => post r u.1 u.2) (fun u t => cQ D K (fl [wMo K h st past acts image ipast iacts tape tmany laneOf sizeOf items seaFirst worstOf u.1 u.2 needs nmany mat told]) (va_A (fl [wMo K h st past acts image ipast iacts tape tmany laneOf sizeOf items seaFirst worstOf farTo stepsTo needs nmany mat told]) sz) t) (va_A (fl [wMo K h st past acts image ipast iacts tape tmany laneOf sizeOf items seaFirst worstOf farTo stepsTo needs nmany mat told]) sz)) 0 0 (va_A (fl [wMo K h st past acts image ipast iacts tape tmany laneOf sizeOf items seaFirst worstOf farTo stepsTo needs nmany mat told]) sz) := by
  refine x_entry (cc := cX11_lengthOf) (maxL := 4) (ret := (some .int)) (QA := fun A => va_Qi (fun (r : Int32) (u : (Nat → Int32) × (Nat → Int32)) => post r u.1 u.2) (fun u t => cQ D K (fl [wMo K h st past acts image ipast iacts tape tmany laneOf sizeOf items seaFirst worstOf u.1 u.2 needs nmany mat told]) A t) A) (plainFor_of_name (by decide)) rfl (Nat.le_of_ble_eq_true rfl) ?_
  intro p e s m args below meth c A ls H Q hQ hC hlk hr hnm hI hl
  obtain ⟨hx, hb, hml, hown, hts, hK, hA, hZ⟩ := id hC
  obtain ⟨locs, hlocs⟩ : ∃ y : List Loc, y = [] := ⟨_, rfl⟩
  rw [← hlocs] at hI ⊢
  clear hlocs
  replace hl : lv_has ls 4 [(0, .ref (h 0))] := hl
  replace hw : (∃ (I4 : Int32 → Int32 → (Nat → Int32) → (Nat → Int32) → Prop) (mu4 : Int32 → Int32 → (Nat → Int32) → (Nat → Int32) → Nat), I4 (0 : Int32) (0 : Int32) farTo stepsTo ∧ ∀ (l1_4 : Int32) (l2_4 : Int32) (farTo_4 : Nat → Int32) (stepsTo_4 : Nat → Int32), I4 l1_4 l2_4 farTo_4 stepsTo_4 → (((st 269) ≤ (l2_4 + (1 : Int32)) → post l1_4 farTo_4 stepsTo_4) ∧ (¬ (st 269) ≤ (l2_4 + (1 : Int32)) → vp_in (((270 : Int32) + l2_4) + (1 : Int32)) 279 ∧ wX11_laysWays (st (((270 : Int32) + l2_4) + (1 : Int32)).toNatClampNeg) st farTo_4 stepsTo_4 (fun (farTo_c3 : Nat → Int32) (stepsTo_c4 : Nat → Int32) => vp_in ((270 : Int32) + l2_4) 279 ∧ vp_in (st ((270 : Int32) + l2_4).toNatClampNeg) 266 ∧ ∀ x7 : Int32, x7 = farTo_c3 (st ((270 : Int32) + l2_4).toNatClampNeg).toNatClampNeg → ((x7 = (100000000 : Int32) → post (-4 : Int32) farTo_c3 stepsTo_c4) ∧ (¬ x7 = (100000000 : Int32) → ∀ x9 : Int32, x9 = l1_4 + x7 → ∀ x10 : Int32, x10 = l2_4 + 1 → (I4 x9 x10 farTo_c3 stepsTo_c4 ∧ mu4 x9 x10 farTo_c3 stepsTo_c4 < mu4 l1_4 l2_4 farTo_4 stepsTo_4))))))) := hw
  refine lv_iconst (v := (0 : Int32)) hx hb dX11_lengthOf_0 (by decide) ?_
  refine lv_istore_n (lv' := [(1, .int (0 : Int32)), (0, .ref (h 0))]) hx hb dX11_lengthOf_1 rfl hl (by decide) rfl (fun ls hl => ?_)
  refine lv_iconst (v := (0 : Int32)) hx hb dX11_lengthOf_2 (by decide) ?_
  refine lv_istore_n (lv' := [(2, .int (0 : Int32)), (1, .int (0 : Int32)), (0, .ref (h 0))]) hx hb dX11_lengthOf_3 rfl hl (by decide) rfl (fun ls hl => ?_)
  obtain ⟨I4, mu4, hw, hb4⟩ := hw
  have lp4 : ∀ (k : Nat) (l1_4 : Int32) (l2_4 : Int32) (farTo_4 : Nat → Int32) (stepsTo_4 : Nat → Int32) (ls : Array Slot) (H : Heap) (locs : List Loc), mu4 l1_4 l2_4 farTo_4 stepsTo_4 < k → I4 l1_4 l2_4 farTo_4 stepsTo_4 → wI s D A (fl [wMo K h st past acts image ipast iacts tape tmany laneOf sizeOf items seaFirst worstOf farTo_4 stepsTo_4 needs nmany mat told]) H locs → lv_has ls 4 [(0, .ref (h 0)), (1, .int l1_4), (2, .int l2_4)] → W p l e rmX11_lengthOf s m args below meth c H locs 0 0 Q (F0 m 4 ls []) := by
    intro k
    induction k with
    | zero => intro l1_4 l2_4 farTo_4 stepsTo_4 ls H locs hmu; exact absurd hmu (Nat.not_lt_zero _)
    | succ k ih4 =>
      intro l1_4 l2_4 farTo_4 stepsTo_4 ls H locs hmu4 hw hI hl
      replace hw := hb4 l1_4 l2_4 farTo_4 stepsTo_4 hw
      refine lv_iload_n hx hb dX11_lengthOf_4 rfl (lv_at hl 2 rfl) ?_
      refine lv_iconst (v := (1 : Int32)) hx hb dX11_lengthOf_5 (by decide) ?_
      refine lv_iadd hx hb dX11_lengthOf_6 ?_
      refine lv_aload_n hx hb dX11_lengthOf_7 rfl (lv_at hl 0 rfl) ?_
      refine x_get (v := .ref (h 1)) hC hI kX11_lengthOf_cX11 0 rfl rfl 0 (by decide) kX11_lengthOf_0 rfl rfl dX11_lengthOf_8 ?_
      refine lv_sipush (v := (269 : Int32)) hx hb dX11_lengthOf_11 (by decide) ?_
      refine x_iald (f := st) hC hI 1 rfl (by unfold vp_in; decide) dX11_lengthOf_14 ?_
      refine lv_icmp_ge (tgt := 69) hx hb dX11_lengthOf_15 (by decide) (fun c1 => ?_) (fun c1 => ?_)
      · replace hw := hw.1 c1
        refine lv_iload_n hx hb dX11_lengthOf_69 rfl (lv_at hl 1 rfl) ?_
        subst hQ
        exact x_iret (u := (farTo_4, stepsTo_4)) hC hI hr hlk hw rfl dX11_lengthOf_70
      · replace hw := hw.2 c1
        refine lv_aload_n hx hb dX11_lengthOf_18 rfl (lv_at hl 0 rfl) ?_
        refine lv_aload_n hx hb dX11_lengthOf_19 rfl (lv_at hl 0 rfl) ?_
        refine x_get (v := .ref (h 1)) hC hI kX11_lengthOf_cX11 0 rfl rfl 0 (by decide) kX11_lengthOf_0 rfl rfl dX11_lengthOf_20 ?_
        refine lv_sipush (v := (270 : Int32)) hx hb dX11_lengthOf_23 (by decide) ?_
        refine lv_iload_n hx hb dX11_lengthOf_26 rfl (lv_at hl 2 rfl) ?_
        refine lv_iadd hx hb dX11_lengthOf_27 ?_
        refine lv_iconst (v := (1 : Int32)) hx hb dX11_lengthOf_28 (by decide) ?_
        refine lv_iadd hx hb dX11_lengthOf_29 ?_
        obtain ⟨hc2, hw⟩ := hw
        refine x_iald (f := st) hC hI 1 rfl hc2 dX11_lengthOf_30 ?_
        refine x_callWv (rest := []) hC hI (mX11_laysWays l D K h _ (st (((270 : Int32) + l2_4) + (1 : Int32)).toNatClampNeg) st past acts image ipast iacts tape tmany laneOf sizeOf items seaFirst worstOf farTo_4 stepsTo_4 needs nmany mat told hw) (cwV 1 hts gX11_lengthOf_X11_laysWays rfl rfl rfl (by decide +kernel) ⟨(Nat.le_of_ble_eq_true rfl), (Nat.le_of_ble_eq_true rfl)⟩) (fun _ => rfl) 0 9 rfl rfl rfl rfl hl.1 rfl (Nat.le_of_ble_eq_true rfl) dX11_lengthOf_31 ⟨(Nat.le_of_ble_eq_true rfl), (Nat.le_of_ble_eq_true rfl)⟩ (fun u H locs hw hI => ?_)
        obtain ⟨farTo_c3, stepsTo_c4⟩ := u
        try dsimp only at hw
        have hI : wI s D A (fl [wMo K h st past acts image ipast iacts tape tmany laneOf sizeOf items seaFirst worstOf farTo_c3 stepsTo_c4 needs nmany mat told]) H locs := hI
        refine lv_aload_n hx hb dX11_lengthOf_34 rfl (lv_at hl 0 rfl) ?_
        refine x_get (v := .ref (h 11)) hC hI kX11_lengthOf_cX11 0 rfl rfl 13 (by decide) kX11_lengthOf_2 rfl rfl dX11_lengthOf_35 ?_
        refine lv_aload_n hx hb dX11_lengthOf_38 rfl (lv_at hl 0 rfl) ?_
        refine x_get (v := .ref (h 1)) hC hI kX11_lengthOf_cX11 0 rfl rfl 0 (by decide) kX11_lengthOf_0 rfl rfl dX11_lengthOf_39 ?_
        refine lv_sipush (v := (270 : Int32)) hx hb dX11_lengthOf_42 (by decide) ?_
        refine lv_iload_n hx hb dX11_lengthOf_45 rfl (lv_at hl 2 rfl) ?_
        refine lv_iadd hx hb dX11_lengthOf_46 ?_
        obtain ⟨hc5, hw⟩ := hw
        refine x_iald (f := st) hC hI 1 rfl hc5 dX11_lengthOf_47 ?_
        obtain ⟨hc6, hw⟩ := hw
        refine x_iald (f := farTo_c3) hC hI 11 rfl hc6 dX11_lengthOf_48 ?_
        refine lv_topi (fun x7 ex7 => ?_)
        replace hw := hw x7 ex7
        refine lv_istore_n (lv' := [(3, .int x7), (0, .ref (h 0)), (1, .int l1_4), (2, .int l2_4)]) hx hb dX11_lengthOf_49 rfl hl (by decide) rfl (fun ls hl => ?_)
        refine lv_iload_n hx hb dX11_lengthOf_50 rfl (lv_at hl 0 rfl) ?_
        refine lv_ldc (v := (100000000 : Int32)) hx hb hown (hts _ kX11_lengthOf_3) dX11_lengthOf_51 ?_
        refine lv_icmp_ne (tgt := 59) hx hb dX11_lengthOf_53 (by decide) (fun c8 => ?_) (fun c8 => ?_)
        · replace hw := hw.2 c8
          refine lv_iload_n hx hb dX11_lengthOf_59 rfl (lv_at hl 2 rfl) ?_
          refine lv_iload_n hx hb dX11_lengthOf_60 rfl (lv_at hl 0 rfl) ?_
          refine lv_iadd hx hb dX11_lengthOf_61 ?_
          refine lv_topi (fun x9 ex9 => ?_)
          replace hw := hw x9 ex9
          refine lv_istore_n (lv' := [(1, .int x9), (3, .int x7), (0, .ref (h 0)), (2, .int l2_4)]) hx hb dX11_lengthOf_62 rfl hl (by decide) rfl (fun ls hl => ?_)
          obtain ⟨x10, ex10⟩ : ∃ y : Int32, y = l2_4 + 1 := ⟨_, rfl⟩
          replace hw := hw x10 ex10
          refine lv_iinc (v := x10) (lv' := [(2, .int x10), (1, .int x9), (3, .int x7), (0, .ref (h 0))]) hx hb dX11_lengthOf_63 hl (k := 3) rfl (by rw [ex10]; rfl) (by decide) rfl (fun ls hl => ?_)
          refine lv_goto (tgt := 4) hx hb dX11_lengthOf_66 (by decide) ?_
          exact ih4 x9 x10 farTo_c3 stepsTo_c4 ls H locs (Nat.lt_of_lt_of_le hw.2 (Nat.le_of_lt_succ hmu4)) hw.1 hI (lv_sub hl [3, 1, 0] rfl)
        · replace hw := hw.1 c8
          refine lv_bipush (v := (-4 : Int32)) hx hb dX11_lengthOf_56 (by decide) ?_
          subst hQ
          exact x_iret (u := (farTo_c3, stepsTo_c4)) hC hI hr hlk hw rfl dX11_lengthOf_58
  exact lp4 (mu4 (0 : Int32) (0 : Int32) farTo stepsTo + 1) (0 : Int32) (0 : Int32) farTo stepsTo ls H locs (Nat.lt_succ_self _) hw hI (lv_sub hl [2, 1, 0] rfl)
