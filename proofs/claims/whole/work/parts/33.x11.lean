def wX11_straightOf (a1 : Int32) (a2 : Int32) (st : Nat → Int32) (post : Int32 → Prop) : Prop := wX11_rowOf a1 (fun (r1 : Int32) => wX11_rowOf a2 (fun (r2 : Int32) => ((r1 = r2 → wX11_stepOf a1 (fun (r21 : Int32) => wX11_stepOf a2 (fun (r22 : Int32) => ∃ J40 : Int32 → Prop, (∀ (t_40 : Int32), J40 t_40 → wX11_wide st (fun (r23 : Int32) => ¬ r23 = 0 ∧ ∀ x25 : Int32, x25 = t_40 / r23 → wX11_wide st (fun (r26 : Int32) => ¬ r26 = 0 ∧ ∀ x28 : Int32, x28 = t_40 - t_40 / r26 * r26 → wX11_across x25 (x28 + (1 : Int32)) r1 st (fun (r29 : Int32) => wX11_across x25 x28 r1 st (fun (r30 : Int32) => post (r29 - r30)))))) ∧ ((((r21 + (1 : Int32)) - (r21 + (1 : Int32)) / (24 : Int32) * (24 : Int32)) = r22 → wX11_stepOf a1 (fun (r33 : Int32) => J40 r33)) ∧ (¬ ((r21 + (1 : Int32)) - (r21 + (1 : Int32)) / (24 : Int32) * (24 : Int32)) = r22 → wX11_stepOf a2 (fun (r32 : Int32) => J40 r32)))))) ∧ (¬ r1 = r2 → wX11_isPole a1 (fun (r4 : Int32) => ∃ J100 : Int32 → Prop, (∀ (t_100 : Int32), J100 t_100 → wX11_wide st (fun (r5 : Int32) => ¬ r5 = 0 ∧ wX11_wide st (fun (r7 : Int32) => ¬ r7 = 0 ∧ wX11_across (t_100 / r5) (t_100 - t_100 / r7 * r7) r1 st (fun (r9 : Int32) => wX11_wide st (fun (r10 : Int32) => ¬ r10 = 0 ∧ wX11_wide st (fun (r12 : Int32) => ¬ r12 = 0 ∧ wX11_rowOf a2 (fun (r14 : Int32) => wX11_across (t_100 / r10) (t_100 - t_100 / r12 * r12) r14 st (fun (r15 : Int32) => ∀ x16 : Int32, x16 = r9 - r15 → wX11_root ((x16 * x16) + (((4 : Int32) * (st 266)) * (st 266))) (fun (r17 : Int32) => post r17))))))))) ∧ ((r4 = 0 → wX11_stepOf a1 (fun (r19 : Int32) => J100 r19)) ∧ (¬ r4 = 0 → wX11_stepOf a2 (fun (r20 : Int32) => J100 r20))))))))
def rmX11_straightOf : Room := { frames := 6, cells := 0, slots := 0, locals := 129 }
theorem kX11_straightOf_0 : Cond.fieldLink RX11 7 "GoreGlobeModel" "st" "[I" ∈ wsX11_straightOf := List.mem_cons_of_mem _ (List.mem_append_left _ (List.mem_append_left _ (List.mem_of_getElem? (i := 0) rfl)))
theorem kX11_straightOf_cX11 : ∀ w ∈ wsX110, w ∈ wsX11_straightOf := fun _ h => List.mem_cons_of_mem _ (List.mem_append_right _ h)
set_option maxHeartbeats 4000000 in
set_option maxRecDepth 100000 in
theorem mX11_straightOf (l : Launch) (D : va_G) (K : Nat → ClassId) (h : Nat → Nat) (sz : Nat) (a1 : Int32) (a2 : Int32) (st : Nat → Int32) (past : Nat → Int32) (acts : Int32) (image : Nat → Int32) (ipast : Nat → Int32) (iacts : Int32) (tape : Nat → Int32) (tmany : Int32) (laneOf : Nat → Int32) (sizeOf : Nat → Int32) (items : Nat → Int64) (seaFirst : Nat → Int32) (worstOf : Nat → Int32) (farTo : Nat → Int32) (stepsTo : Nat → Int32) (needs : Nat → Int32) (nmany : Int32) (mat : Int32) (told : Nat → Int32)  {post : Int32 → Prop} (hw : wX11_straightOf a1 a2 st post) : Met l yX11_straightOf wsX11_straightOf rmX11_straightOf (va_Pc [.ref (h 0), .int a1, .int a2] (cP D K (fl [wMo K h st past acts image ipast iacts tape tmany laneOf sizeOf items seaFirst worstOf farTo stepsTo needs nmany mat told]) sz)) (va_Qi (fun (r : Int32) (u : Unit) => post r) (fun u t => cQ D K (fl [wMo K h st past acts image ipast iacts tape tmany laneOf sizeOf items seaFirst worstOf farTo stepsTo needs nmany mat told]) (va_A (fl [wMo K h st past acts image ipast iacts tape tmany laneOf sizeOf items seaFirst worstOf farTo stepsTo needs nmany mat told]) sz) t) (va_A (fl [wMo K h st past acts image ipast iacts tape tmany laneOf sizeOf items seaFirst worstOf farTo stepsTo needs nmany mat told]) sz)) 0 0 (va_A (fl [wMo K h st past acts image ipast iacts tape tmany laneOf sizeOf items seaFirst worstOf farTo stepsTo needs nmany mat told]) sz) := by
  refine x_entry (cc := cX11_straightOf) (maxL := 7) (ret := (some .int)) (QA := fun A => va_Qi (fun (r : Int32) (u : Unit) => post r) (fun u t => cQ D K (fl [wMo K h st past acts image ipast iacts tape tmany laneOf sizeOf items seaFirst worstOf farTo stepsTo needs nmany mat told]) A t) A) (plainFor_of_name (by decide)) rfl (Nat.le_of_ble_eq_true rfl) ?_
  intro p e s m args below meth c A ls H Q hQ hC hlk hr hnm hI hl
  obtain ⟨hx, hb, hml, hown, hts, hK, hA, hZ⟩ := id hC
  obtain ⟨locs, hlocs⟩ : ∃ y : List Loc, y = [] := ⟨_, rfl⟩
  rw [← hlocs] at hI ⊢
  clear hlocs
  replace hl : lv_has ls 7 [(0, .ref (h 0)), (1, .int a1), (2, .int a2)] := hl
  replace hw : wX11_rowOf a1 (fun (r1 : Int32) => wX11_rowOf a2 (fun (r2 : Int32) => ((r1 = r2 → wX11_stepOf a1 (fun (r21 : Int32) => wX11_stepOf a2 (fun (r22 : Int32) => ∃ J40 : Int32 → Prop, (∀ (t_40 : Int32), J40 t_40 → wX11_wide st (fun (r23 : Int32) => ¬ r23 = 0 ∧ ∀ x25 : Int32, x25 = t_40 / r23 → wX11_wide st (fun (r26 : Int32) => ¬ r26 = 0 ∧ ∀ x28 : Int32, x28 = t_40 - t_40 / r26 * r26 → wX11_across x25 (x28 + (1 : Int32)) r1 st (fun (r29 : Int32) => wX11_across x25 x28 r1 st (fun (r30 : Int32) => post (r29 - r30)))))) ∧ ((((r21 + (1 : Int32)) - (r21 + (1 : Int32)) / (24 : Int32) * (24 : Int32)) = r22 → wX11_stepOf a1 (fun (r33 : Int32) => J40 r33)) ∧ (¬ ((r21 + (1 : Int32)) - (r21 + (1 : Int32)) / (24 : Int32) * (24 : Int32)) = r22 → wX11_stepOf a2 (fun (r32 : Int32) => J40 r32)))))) ∧ (¬ r1 = r2 → wX11_isPole a1 (fun (r4 : Int32) => ∃ J100 : Int32 → Prop, (∀ (t_100 : Int32), J100 t_100 → wX11_wide st (fun (r5 : Int32) => ¬ r5 = 0 ∧ wX11_wide st (fun (r7 : Int32) => ¬ r7 = 0 ∧ wX11_across (t_100 / r5) (t_100 - t_100 / r7 * r7) r1 st (fun (r9 : Int32) => wX11_wide st (fun (r10 : Int32) => ¬ r10 = 0 ∧ wX11_wide st (fun (r12 : Int32) => ¬ r12 = 0 ∧ wX11_rowOf a2 (fun (r14 : Int32) => wX11_across (t_100 / r10) (t_100 - t_100 / r12 * r12) r14 st (fun (r15 : Int32) => ∀ x16 : Int32, x16 = r9 - r15 → wX11_root ((x16 * x16) + (((4 : Int32) * (st 266)) * (st 266))) (fun (r17 : Int32) => post r17))))))))) ∧ ((r4 = 0 → wX11_stepOf a1 (fun (r19 : Int32) => J100 r19)) ∧ (¬ r4 = 0 → wX11_stepOf a2 (fun (r20 : Int32) => J100 r20)))))))) := hw
  refine lv_iload_n hx hb dX11_straightOf_0 rfl (lv_at hl 1 rfl) ?_
  refine x_callSi (rest := []) hC hI [] (mX11_rowOf l D K  _ a1 hw) (va_cwS 1 hts gX11_straightOf_X11_rowOf rfl rfl rfl (by decide +kernel) ⟨(Nat.le_of_ble_eq_true rfl), (Nat.le_of_ble_eq_true rfl)⟩) (by decide) rfl (fun _ => rfl) rfl hl.1 rfl (Nat.le_of_ble_eq_true rfl) dX11_straightOf_1 ⟨(Nat.le_of_ble_eq_true rfl), (Nat.le_of_ble_eq_true rfl)⟩ (fun r1 u H locs hw hI => ?_)
  try dsimp only at hw
  have hI : wI s D A (fl [wMo K h st past acts image ipast iacts tape tmany laneOf sizeOf items seaFirst worstOf farTo stepsTo needs nmany mat told]) H locs := hI
  refine lv_istore_n (lv' := [(3, .int r1), (0, .ref (h 0)), (1, .int a1), (2, .int a2)]) hx hb dX11_straightOf_4 rfl hl (by decide) rfl (fun ls hl => ?_)
  refine lv_iload_n hx hb dX11_straightOf_5 rfl (lv_at hl 0 rfl) ?_
  refine lv_iload_n hx hb dX11_straightOf_6 rfl (lv_at hl 3 rfl) ?_
  refine x_callSi (rest := [.int r1]) hC hI [] (mX11_rowOf l D K  _ a2 hw) (va_cwS 1 hts gX11_straightOf_X11_rowOf rfl rfl rfl (by decide +kernel) ⟨(Nat.le_of_ble_eq_true rfl), (Nat.le_of_ble_eq_true rfl)⟩) (by decide) rfl (fun _ => rfl) rfl hl.1 rfl (Nat.le_of_ble_eq_true rfl) dX11_straightOf_7 ⟨(Nat.le_of_ble_eq_true rfl), (Nat.le_of_ble_eq_true rfl)⟩ (fun r2 u H locs hw hI => ?_)
  try dsimp only at hw
  have hI : wI s D A (fl [wMo K h st past acts image ipast iacts tape tmany laneOf sizeOf items seaFirst worstOf farTo stepsTo needs nmany mat told]) H locs := hI
  refine lv_icmp_ne (tgt := 82) hx hb dX11_straightOf_10 (by decide) (fun c3 => ?_) (fun c3 => ?_)
  · replace hw := hw.2 c3
    refine lv_iload_n hx hb dX11_straightOf_82 rfl (lv_at hl 2 rfl) ?_
    refine x_callSi (rest := []) hC hI [] (mX11_isPole l D K  _ a1 hw) (va_cwS 1 hts gX11_straightOf_X11_isPole rfl rfl rfl (by decide +kernel) ⟨(Nat.le_of_ble_eq_true rfl), (Nat.le_of_ble_eq_true rfl)⟩) (by decide) rfl (fun _ => rfl) rfl hl.1 rfl (Nat.le_of_ble_eq_true rfl) dX11_straightOf_83 ⟨(Nat.le_of_ble_eq_true rfl), (Nat.le_of_ble_eq_true rfl)⟩ (fun r4 u H locs hw hI => ?_)
    try dsimp only at hw
    have hI : wI s D A (fl [wMo K h st past acts image ipast iacts tape tmany laneOf sizeOf items seaFirst worstOf farTo stepsTo needs nmany mat told]) H locs := hI
    obtain ⟨J100, hJ100, hw⟩ := hw
    have jn100 : ∀ (t_100 : Int32) (ls : Array Slot) (H : Heap) (locs : List Loc), J100 t_100 → wI s D A (fl [wMo K h st past acts image ipast iacts tape tmany laneOf sizeOf items seaFirst worstOf farTo stepsTo needs nmany mat told]) H locs → lv_has ls 7 [(0, .ref (h 0)), (2, .int a2), (3, .int r1)] → W p l e rmX11_straightOf s m args below meth c H locs 0 0 Q (F0 m 100 ls [.int t_100]) := by
      intro t_100 ls H locs hw hI hl
      replace hw := hJ100 t_100 hw
      refine lv_istore (lv' := [(4, .int t_100), (0, .ref (h 0)), (2, .int a2), (3, .int r1)]) hx hb dX11_straightOf_100 hl (by decide) rfl (fun ls hl => ?_)
      refine lv_aload_n hx hb dX11_straightOf_102 rfl (lv_at hl 1 rfl) ?_
      refine lv_iload hx hb dX11_straightOf_103 (lv_at hl 0 rfl) ?_
      refine lv_aload_n hx hb dX11_straightOf_105 rfl (lv_at hl 1 rfl) ?_
      refine x_callWi (rest := [.int t_100, .ref (h 0)]) hC hI (mX11_wide l D K h _ st past acts image ipast iacts tape tmany laneOf sizeOf items seaFirst worstOf farTo stepsTo needs nmany mat told hw) (cwV 0 hts gX11_straightOf_X11_wide rfl rfl rfl (by decide +kernel) ⟨(Nat.le_of_ble_eq_true rfl), (Nat.le_of_ble_eq_true rfl)⟩) (fun _ => rfl) 0 9 rfl rfl rfl rfl hl.1 rfl (Nat.le_of_ble_eq_true rfl) dX11_straightOf_106 ⟨(Nat.le_of_ble_eq_true rfl), (Nat.le_of_ble_eq_true rfl)⟩ (fun r5 u H locs hw hI => ?_)
      try dsimp only at hw
      have hI : wI s D A (fl [wMo K h st past acts image ipast iacts tape tmany laneOf sizeOf items seaFirst worstOf farTo stepsTo needs nmany mat told]) H locs := hI
      obtain ⟨hc6, hw⟩ := hw
      refine lv_idiv hx hb dX11_straightOf_109 hc6 ?_
      refine lv_iload hx hb dX11_straightOf_110 (lv_at hl 0 rfl) ?_
      refine lv_aload_n hx hb dX11_straightOf_112 rfl (lv_at hl 1 rfl) ?_
      refine x_callWi (rest := [.int t_100, .int (t_100 / r5), .ref (h 0)]) hC hI (mX11_wide l D K h _ st past acts image ipast iacts tape tmany laneOf sizeOf items seaFirst worstOf farTo stepsTo needs nmany mat told hw) (cwV 0 hts gX11_straightOf_X11_wide rfl rfl rfl (by decide +kernel) ⟨(Nat.le_of_ble_eq_true rfl), (Nat.le_of_ble_eq_true rfl)⟩) (fun _ => rfl) 0 9 rfl rfl rfl rfl hl.1 rfl (Nat.le_of_ble_eq_true rfl) dX11_straightOf_113 ⟨(Nat.le_of_ble_eq_true rfl), (Nat.le_of_ble_eq_true rfl)⟩ (fun r7 u H locs hw hI => ?_)
      try dsimp only at hw
      have hI : wI s D A (fl [wMo K h st past acts image ipast iacts tape tmany laneOf sizeOf items seaFirst worstOf farTo stepsTo needs nmany mat told]) H locs := hI
      obtain ⟨hc8, hw⟩ := hw
      refine lv_irem hx hb dX11_straightOf_116 hc8 ?_
      refine lv_iload_n hx hb dX11_straightOf_117 rfl (lv_at hl 3 rfl) ?_
      refine x_callWi (rest := []) hC hI (mX11_across l D K h _ (t_100 / r5) (t_100 - t_100 / r7 * r7) r1 st past acts image ipast iacts tape tmany laneOf sizeOf items seaFirst worstOf farTo stepsTo needs nmany mat told hw) (cwV 3 hts gX11_straightOf_X11_across rfl rfl rfl (by decide +kernel) ⟨(Nat.le_of_ble_eq_true rfl), (Nat.le_of_ble_eq_true rfl)⟩) (fun _ => rfl) 0 9 rfl rfl rfl rfl hl.1 rfl (Nat.le_of_ble_eq_true rfl) dX11_straightOf_118 ⟨(Nat.le_of_ble_eq_true rfl), (Nat.le_of_ble_eq_true rfl)⟩ (fun r9 u H locs hw hI => ?_)
      try dsimp only at hw
      have hI : wI s D A (fl [wMo K h st past acts image ipast iacts tape tmany laneOf sizeOf items seaFirst worstOf farTo stepsTo needs nmany mat told]) H locs := hI
      refine lv_aload_n hx hb dX11_straightOf_121 rfl (lv_at hl 1 rfl) ?_
      refine lv_iload hx hb dX11_straightOf_122 (lv_at hl 0 rfl) ?_
      refine lv_aload_n hx hb dX11_straightOf_124 rfl (lv_at hl 1 rfl) ?_
      refine x_callWi (rest := [.int t_100, .ref (h 0), .int r9]) hC hI (mX11_wide l D K h _ st past acts image ipast iacts tape tmany laneOf sizeOf items seaFirst worstOf farTo stepsTo needs nmany mat told hw) (cwV 0 hts gX11_straightOf_X11_wide rfl rfl rfl (by decide +kernel) ⟨(Nat.le_of_ble_eq_true rfl), (Nat.le_of_ble_eq_true rfl)⟩) (fun _ => rfl) 0 9 rfl rfl rfl rfl hl.1 rfl (Nat.le_of_ble_eq_true rfl) dX11_straightOf_125 ⟨(Nat.le_of_ble_eq_true rfl), (Nat.le_of_ble_eq_true rfl)⟩ (fun r10 u H locs hw hI => ?_)
      try dsimp only at hw
      have hI : wI s D A (fl [wMo K h st past acts image ipast iacts tape tmany laneOf sizeOf items seaFirst worstOf farTo stepsTo needs nmany mat told]) H locs := hI
      obtain ⟨hc11, hw⟩ := hw
      refine lv_idiv hx hb dX11_straightOf_128 hc11 ?_
      refine lv_iload hx hb dX11_straightOf_129 (lv_at hl 0 rfl) ?_
      refine lv_aload_n hx hb dX11_straightOf_131 rfl (lv_at hl 1 rfl) ?_
      refine x_callWi (rest := [.int t_100, .int (t_100 / r10), .ref (h 0), .int r9]) hC hI (mX11_wide l D K h _ st past acts image ipast iacts tape tmany laneOf sizeOf items seaFirst worstOf farTo stepsTo needs nmany mat told hw) (cwV 0 hts gX11_straightOf_X11_wide rfl rfl rfl (by decide +kernel) ⟨(Nat.le_of_ble_eq_true rfl), (Nat.le_of_ble_eq_true rfl)⟩) (fun _ => rfl) 0 9 rfl rfl rfl rfl hl.1 rfl (Nat.le_of_ble_eq_true rfl) dX11_straightOf_132 ⟨(Nat.le_of_ble_eq_true rfl), (Nat.le_of_ble_eq_true rfl)⟩ (fun r12 u H locs hw hI => ?_)
      try dsimp only at hw
      have hI : wI s D A (fl [wMo K h st past acts image ipast iacts tape tmany laneOf sizeOf items seaFirst worstOf farTo stepsTo needs nmany mat told]) H locs := hI
      obtain ⟨hc13, hw⟩ := hw
      refine lv_irem hx hb dX11_straightOf_135 hc13 ?_
      refine lv_iload_n hx hb dX11_straightOf_136 rfl (lv_at hl 2 rfl) ?_
      refine x_callSi (rest := [.int (t_100 - t_100 / r12 * r12), .int (t_100 / r10), .ref (h 0), .int r9]) hC hI [] (mX11_rowOf l D K  _ a2 hw) (va_cwS 1 hts gX11_straightOf_X11_rowOf rfl rfl rfl (by decide +kernel) ⟨(Nat.le_of_ble_eq_true rfl), (Nat.le_of_ble_eq_true rfl)⟩) (by decide) rfl (fun _ => rfl) rfl hl.1 rfl (Nat.le_of_ble_eq_true rfl) dX11_straightOf_137 ⟨(Nat.le_of_ble_eq_true rfl), (Nat.le_of_ble_eq_true rfl)⟩ (fun r14 u H locs hw hI => ?_)
      try dsimp only at hw
      have hI : wI s D A (fl [wMo K h st past acts image ipast iacts tape tmany laneOf sizeOf items seaFirst worstOf farTo stepsTo needs nmany mat told]) H locs := hI
      refine x_callWi (rest := [.int r9]) hC hI (mX11_across l D K h _ (t_100 / r10) (t_100 - t_100 / r12 * r12) r14 st past acts image ipast iacts tape tmany laneOf sizeOf items seaFirst worstOf farTo stepsTo needs nmany mat told hw) (cwV 3 hts gX11_straightOf_X11_across rfl rfl rfl (by decide +kernel) ⟨(Nat.le_of_ble_eq_true rfl), (Nat.le_of_ble_eq_true rfl)⟩) (fun _ => rfl) 0 9 rfl rfl rfl rfl hl.1 rfl (Nat.le_of_ble_eq_true rfl) dX11_straightOf_140 ⟨(Nat.le_of_ble_eq_true rfl), (Nat.le_of_ble_eq_true rfl)⟩ (fun r15 u H locs hw hI => ?_)
      try dsimp only at hw
      have hI : wI s D A (fl [wMo K h st past acts image ipast iacts tape tmany laneOf sizeOf items seaFirst worstOf farTo stepsTo needs nmany mat told]) H locs := hI
      refine lv_isub hx hb dX11_straightOf_143 ?_
      refine lv_topi (fun x16 ex16 => ?_)
      replace hw := hw x16 ex16
      refine lv_istore (lv' := [(5, .int x16), (4, .int t_100), (0, .ref (h 0)), (2, .int a2), (3, .int r1)]) hx hb dX11_straightOf_144 hl (by decide) rfl (fun ls hl => ?_)
      refine lv_iload hx hb dX11_straightOf_146 (lv_at hl 0 rfl) ?_
      refine lv_iload hx hb dX11_straightOf_148 (lv_at hl 0 rfl) ?_
      refine lv_imul hx hb dX11_straightOf_150 ?_
      refine lv_iconst (v := (4 : Int32)) hx hb dX11_straightOf_151 (by decide) ?_
      refine lv_aload_n hx hb dX11_straightOf_152 rfl (lv_at hl 2 rfl) ?_
      refine x_get (v := .ref (h 1)) hC hI kX11_straightOf_cX11 0 rfl rfl 0 (by decide) kX11_straightOf_0 rfl rfl dX11_straightOf_153 ?_
      refine lv_sipush (v := (266 : Int32)) hx hb dX11_straightOf_156 (by decide) ?_
      refine x_iald (f := st) hC hI 1 rfl (by unfold vp_in; decide) dX11_straightOf_159 ?_
      refine lv_imul hx hb dX11_straightOf_160 ?_
      refine lv_aload_n hx hb dX11_straightOf_161 rfl (lv_at hl 2 rfl) ?_
      refine x_get (v := .ref (h 1)) hC hI kX11_straightOf_cX11 0 rfl rfl 0 (by decide) kX11_straightOf_0 rfl rfl dX11_straightOf_162 ?_
      refine lv_sipush (v := (266 : Int32)) hx hb dX11_straightOf_165 (by decide) ?_
      refine x_iald (f := st) hC hI 1 rfl (by unfold vp_in; decide) dX11_straightOf_168 ?_
      refine lv_imul hx hb dX11_straightOf_169 ?_
      refine lv_iadd hx hb dX11_straightOf_170 ?_
      refine x_callSi (rest := []) hC hI [] (mX11_root l D K  _ ((x16 * x16) + (((4 : Int32) * (st 266)) * (st 266))) hw) (va_cwS 1 hts gX11_straightOf_X11_root rfl rfl rfl (by decide +kernel) ⟨(Nat.le_of_ble_eq_true rfl), (Nat.le_of_ble_eq_true rfl)⟩) (by decide) rfl (fun _ => rfl) rfl hl.1 rfl (Nat.le_of_ble_eq_true rfl) dX11_straightOf_171 ⟨(Nat.le_of_ble_eq_true rfl), (Nat.le_of_ble_eq_true rfl)⟩ (fun r17 u H locs hw hI => ?_)
      try dsimp only at hw
      have hI : wI s D A (fl [wMo K h st past acts image ipast iacts tape tmany laneOf sizeOf items seaFirst worstOf farTo stepsTo needs nmany mat told]) H locs := hI
      subst hQ
      exact x_iret (u := ()) hC hI hr hlk hw rfl dX11_straightOf_174
    refine lv_if_eq (tgt := 96) hx hb dX11_straightOf_86 (by decide) (fun c18 => ?_) (fun c18 => ?_)
    · replace hw := hw.1 c18
      refine lv_iload_n hx hb dX11_straightOf_96 rfl (lv_at hl 2 rfl) ?_
      refine x_callSi (rest := []) hC hI [] (mX11_stepOf l D K  _ a1 hw) (va_cwS 1 hts gX11_straightOf_X11_stepOf rfl rfl rfl (by decide +kernel) ⟨(Nat.le_of_ble_eq_true rfl), (Nat.le_of_ble_eq_true rfl)⟩) (by decide) rfl (fun _ => rfl) rfl hl.1 rfl (Nat.le_of_ble_eq_true rfl) dX11_straightOf_97 ⟨(Nat.le_of_ble_eq_true rfl), (Nat.le_of_ble_eq_true rfl)⟩ (fun r19 u H locs hw hI => ?_)
      try dsimp only at hw
      have hI : wI s D A (fl [wMo K h st past acts image ipast iacts tape tmany laneOf sizeOf items seaFirst worstOf farTo stepsTo needs nmany mat told]) H locs := hI
      exact jn100 r19 ls H locs hw hI (lv_sub hl [1, 3, 0] rfl)
    · replace hw := hw.2 c18
      refine lv_iload_n hx hb dX11_straightOf_89 rfl (lv_at hl 3 rfl) ?_
      refine x_callSi (rest := []) hC hI [] (mX11_stepOf l D K  _ a2 hw) (va_cwS 1 hts gX11_straightOf_X11_stepOf rfl rfl rfl (by decide +kernel) ⟨(Nat.le_of_ble_eq_true rfl), (Nat.le_of_ble_eq_true rfl)⟩) (by decide) rfl (fun _ => rfl) rfl hl.1 rfl (Nat.le_of_ble_eq_true rfl) dX11_straightOf_90 ⟨(Nat.le_of_ble_eq_true rfl), (Nat.le_of_ble_eq_true rfl)⟩ (fun r20 u H locs hw hI => ?_)
      try dsimp only at hw
      have hI : wI s D A (fl [wMo K h st past acts image ipast iacts tape tmany laneOf sizeOf items seaFirst worstOf farTo stepsTo needs nmany mat told]) H locs := hI
      refine lv_goto (tgt := 100) hx hb dX11_straightOf_93 (by decide) ?_
      exact jn100 r20 ls H locs hw hI (lv_sub hl [1, 3, 0] rfl)
  · replace hw := hw.1 c3
    refine lv_iload_n hx hb dX11_straightOf_13 rfl (lv_at hl 2 rfl) ?_
    refine x_callSi (rest := []) hC hI [] (mX11_stepOf l D K  _ a1 hw) (va_cwS 1 hts gX11_straightOf_X11_stepOf rfl rfl rfl (by decide +kernel) ⟨(Nat.le_of_ble_eq_true rfl), (Nat.le_of_ble_eq_true rfl)⟩) (by decide) rfl (fun _ => rfl) rfl hl.1 rfl (Nat.le_of_ble_eq_true rfl) dX11_straightOf_14 ⟨(Nat.le_of_ble_eq_true rfl), (Nat.le_of_ble_eq_true rfl)⟩ (fun r21 u H locs hw hI => ?_)
    try dsimp only at hw
    have hI : wI s D A (fl [wMo K h st past acts image ipast iacts tape tmany laneOf sizeOf items seaFirst worstOf farTo stepsTo needs nmany mat told]) H locs := hI
    refine lv_iconst (v := (1 : Int32)) hx hb dX11_straightOf_17 (by decide) ?_
    refine lv_iadd hx hb dX11_straightOf_18 ?_
    refine lv_bipush (v := (24 : Int32)) hx hb dX11_straightOf_19 (by decide) ?_
    refine lv_irem hx hb dX11_straightOf_21 (by decide) ?_
    refine lv_iload_n hx hb dX11_straightOf_22 rfl (lv_at hl 3 rfl) ?_
    refine x_callSi (rest := [.int ((r21 + (1 : Int32)) - (r21 + (1 : Int32)) / (24 : Int32) * (24 : Int32))]) hC hI [] (mX11_stepOf l D K  _ a2 hw) (va_cwS 1 hts gX11_straightOf_X11_stepOf rfl rfl rfl (by decide +kernel) ⟨(Nat.le_of_ble_eq_true rfl), (Nat.le_of_ble_eq_true rfl)⟩) (by decide) rfl (fun _ => rfl) rfl hl.1 rfl (Nat.le_of_ble_eq_true rfl) dX11_straightOf_23 ⟨(Nat.le_of_ble_eq_true rfl), (Nat.le_of_ble_eq_true rfl)⟩ (fun r22 u H locs hw hI => ?_)
    try dsimp only at hw
    have hI : wI s D A (fl [wMo K h st past acts image ipast iacts tape tmany laneOf sizeOf items seaFirst worstOf farTo stepsTo needs nmany mat told]) H locs := hI
    obtain ⟨J40, hJ40, hw⟩ := hw
    have jn40 : ∀ (t_40 : Int32) (ls : Array Slot) (H : Heap) (locs : List Loc), J40 t_40 → wI s D A (fl [wMo K h st past acts image ipast iacts tape tmany laneOf sizeOf items seaFirst worstOf farTo stepsTo needs nmany mat told]) H locs → lv_has ls 7 [(0, .ref (h 0)), (3, .int r1)] → W p l e rmX11_straightOf s m args below meth c H locs 0 0 Q (F0 m 40 ls [.int t_40]) := by
      intro t_40 ls H locs hw hI hl
      replace hw := hJ40 t_40 hw
      refine lv_istore (lv' := [(4, .int t_40), (0, .ref (h 0)), (3, .int r1)]) hx hb dX11_straightOf_40 hl (by decide) rfl (fun ls hl => ?_)
      refine lv_iload hx hb dX11_straightOf_42 (lv_at hl 0 rfl) ?_
      refine lv_aload_n hx hb dX11_straightOf_44 rfl (lv_at hl 1 rfl) ?_
      refine x_callWi (rest := [.int t_40]) hC hI (mX11_wide l D K h _ st past acts image ipast iacts tape tmany laneOf sizeOf items seaFirst worstOf farTo stepsTo needs nmany mat told hw) (cwV 0 hts gX11_straightOf_X11_wide rfl rfl rfl (by decide +kernel) ⟨(Nat.le_of_ble_eq_true rfl), (Nat.le_of_ble_eq_true rfl)⟩) (fun _ => rfl) 0 9 rfl rfl rfl rfl hl.1 rfl (Nat.le_of_ble_eq_true rfl) dX11_straightOf_45 ⟨(Nat.le_of_ble_eq_true rfl), (Nat.le_of_ble_eq_true rfl)⟩ (fun r23 u H locs hw hI => ?_)
      try dsimp only at hw
      have hI : wI s D A (fl [wMo K h st past acts image ipast iacts tape tmany laneOf sizeOf items seaFirst worstOf farTo stepsTo needs nmany mat told]) H locs := hI
      obtain ⟨hc24, hw⟩ := hw
      refine lv_idiv hx hb dX11_straightOf_48 hc24 ?_
      refine lv_topi (fun x25 ex25 => ?_)
      replace hw := hw x25 ex25
      refine lv_istore (lv' := [(5, .int x25), (4, .int t_40), (0, .ref (h 0)), (3, .int r1)]) hx hb dX11_straightOf_49 hl (by decide) rfl (fun ls hl => ?_)
      refine lv_iload hx hb dX11_straightOf_51 (lv_at hl 1 rfl) ?_
      refine lv_aload_n hx hb dX11_straightOf_53 rfl (lv_at hl 2 rfl) ?_
      refine x_callWi (rest := [.int t_40]) hC hI (mX11_wide l D K h _ st past acts image ipast iacts tape tmany laneOf sizeOf items seaFirst worstOf farTo stepsTo needs nmany mat told hw) (cwV 0 hts gX11_straightOf_X11_wide rfl rfl rfl (by decide +kernel) ⟨(Nat.le_of_ble_eq_true rfl), (Nat.le_of_ble_eq_true rfl)⟩) (fun _ => rfl) 0 9 rfl rfl rfl rfl hl.1 rfl (Nat.le_of_ble_eq_true rfl) dX11_straightOf_54 ⟨(Nat.le_of_ble_eq_true rfl), (Nat.le_of_ble_eq_true rfl)⟩ (fun r26 u H locs hw hI => ?_)
      try dsimp only at hw
      have hI : wI s D A (fl [wMo K h st past acts image ipast iacts tape tmany laneOf sizeOf items seaFirst worstOf farTo stepsTo needs nmany mat told]) H locs := hI
      obtain ⟨hc27, hw⟩ := hw
      refine lv_irem hx hb dX11_straightOf_57 hc27 ?_
      refine lv_topi (fun x28 ex28 => ?_)
      replace hw := hw x28 ex28
      refine lv_istore (lv' := [(6, .int x28), (5, .int x25), (4, .int t_40), (0, .ref (h 0)), (3, .int r1)]) hx hb dX11_straightOf_58 hl (by decide) rfl (fun ls hl => ?_)
      refine lv_aload_n hx hb dX11_straightOf_60 rfl (lv_at hl 3 rfl) ?_
      refine lv_iload hx hb dX11_straightOf_61 (lv_at hl 1 rfl) ?_
      refine lv_iload hx hb dX11_straightOf_63 (lv_at hl 0 rfl) ?_
      refine lv_iconst (v := (1 : Int32)) hx hb dX11_straightOf_65 (by decide) ?_
      refine lv_iadd hx hb dX11_straightOf_66 ?_
      refine lv_iload_n hx hb dX11_straightOf_67 rfl (lv_at hl 4 rfl) ?_
      refine x_callWi (rest := []) hC hI (mX11_across l D K h _ x25 (x28 + (1 : Int32)) r1 st past acts image ipast iacts tape tmany laneOf sizeOf items seaFirst worstOf farTo stepsTo needs nmany mat told hw) (cwV 3 hts gX11_straightOf_X11_across rfl rfl rfl (by decide +kernel) ⟨(Nat.le_of_ble_eq_true rfl), (Nat.le_of_ble_eq_true rfl)⟩) (fun _ => rfl) 0 9 rfl rfl rfl rfl hl.1 rfl (Nat.le_of_ble_eq_true rfl) dX11_straightOf_68 ⟨(Nat.le_of_ble_eq_true rfl), (Nat.le_of_ble_eq_true rfl)⟩ (fun r29 u H locs hw hI => ?_)
      try dsimp only at hw
      have hI : wI s D A (fl [wMo K h st past acts image ipast iacts tape tmany laneOf sizeOf items seaFirst worstOf farTo stepsTo needs nmany mat told]) H locs := hI
      refine lv_aload_n hx hb dX11_straightOf_71 rfl (lv_at hl 3 rfl) ?_
      refine lv_iload hx hb dX11_straightOf_72 (lv_at hl 1 rfl) ?_
      refine lv_iload hx hb dX11_straightOf_74 (lv_at hl 0 rfl) ?_
      refine lv_iload_n hx hb dX11_straightOf_76 rfl (lv_at hl 4 rfl) ?_
      refine x_callWi (rest := [.int r29]) hC hI (mX11_across l D K h _ x25 x28 r1 st past acts image ipast iacts tape tmany laneOf sizeOf items seaFirst worstOf farTo stepsTo needs nmany mat told hw) (cwV 3 hts gX11_straightOf_X11_across rfl rfl rfl (by decide +kernel) ⟨(Nat.le_of_ble_eq_true rfl), (Nat.le_of_ble_eq_true rfl)⟩) (fun _ => rfl) 0 9 rfl rfl rfl rfl hl.1 rfl (Nat.le_of_ble_eq_true rfl) dX11_straightOf_77 ⟨(Nat.le_of_ble_eq_true rfl), (Nat.le_of_ble_eq_true rfl)⟩ (fun r30 u H locs hw hI => ?_)
      try dsimp only at hw
      have hI : wI s D A (fl [wMo K h st past acts image ipast iacts tape tmany laneOf sizeOf items seaFirst worstOf farTo stepsTo needs nmany mat told]) H locs := hI
      refine lv_isub hx hb dX11_straightOf_80 ?_
      subst hQ
      exact x_iret (u := ()) hC hI hr hlk hw rfl dX11_straightOf_81
    refine lv_icmp_ne (tgt := 36) hx hb dX11_straightOf_26 (by decide) (fun c31 => ?_) (fun c31 => ?_)
    · replace hw := hw.2 c31
      refine lv_iload_n hx hb dX11_straightOf_36 rfl (lv_at hl 3 rfl) ?_
      refine x_callSi (rest := []) hC hI [] (mX11_stepOf l D K  _ a2 hw) (va_cwS 1 hts gX11_straightOf_X11_stepOf rfl rfl rfl (by decide +kernel) ⟨(Nat.le_of_ble_eq_true rfl), (Nat.le_of_ble_eq_true rfl)⟩) (by decide) rfl (fun _ => rfl) rfl hl.1 rfl (Nat.le_of_ble_eq_true rfl) dX11_straightOf_37 ⟨(Nat.le_of_ble_eq_true rfl), (Nat.le_of_ble_eq_true rfl)⟩ (fun r32 u H locs hw hI => ?_)
      try dsimp only at hw
      have hI : wI s D A (fl [wMo K h st past acts image ipast iacts tape tmany laneOf sizeOf items seaFirst worstOf farTo stepsTo needs nmany mat told]) H locs := hI
      exact jn40 r32 ls H locs hw hI (lv_sub hl [1, 0] rfl)
    · replace hw := hw.1 c31
      refine lv_iload_n hx hb dX11_straightOf_29 rfl (lv_at hl 2 rfl) ?_
      refine x_callSi (rest := []) hC hI [] (mX11_stepOf l D K  _ a1 hw) (va_cwS 1 hts gX11_straightOf_X11_stepOf rfl rfl rfl (by decide +kernel) ⟨(Nat.le_of_ble_eq_true rfl), (Nat.le_of_ble_eq_true rfl)⟩) (by decide) rfl (fun _ => rfl) rfl hl.1 rfl (Nat.le_of_ble_eq_true rfl) dX11_straightOf_30 ⟨(Nat.le_of_ble_eq_true rfl), (Nat.le_of_ble_eq_true rfl)⟩ (fun r33 u H locs hw hI => ?_)
      try dsimp only at hw
      have hI : wI s D A (fl [wMo K h st past acts image ipast iacts tape tmany laneOf sizeOf items seaFirst worstOf farTo stepsTo needs nmany mat told]) H locs := hI
      refine lv_goto (tgt := 40) hx hb dX11_straightOf_33 (by decide) ?_
      exact jn40 r33 ls H locs hw hI (lv_sub hl [1, 0] rfl)

def wX11_hasStraight (a1 : Int32) (a2 : Int32) (st : Nat → Int32) (post : Int32 → Prop) : Prop := wX11_rowOf a1 (fun (r1 : Int32) => wX11_isOnStrips r1 st (fun (r2 : Int32) => ((r2 = 0 → post (0 : Int32)) ∧ (¬ r2 = 0 → wX11_rowOf a2 (fun (r4 : Int32) => wX11_isOnStrips r4 st (fun (r5 : Int32) => ((r5 = 0 → post (0 : Int32)) ∧ (¬ r5 = 0 → post (1 : Int32)))))))))
def rmX11_hasStraight : Room := { frames := 2, cells := 0, slots := 0, locals := 41 }
set_option maxHeartbeats 4000000 in
set_option maxRecDepth 100000 in
theorem mX11_hasStraight (l : Launch) (D : va_G) (K : Nat → ClassId) (h : Nat → Nat) (sz : Nat) (a1 : Int32) (a2 : Int32) (st : Nat → Int32) (past : Nat → Int32) (acts : Int32) (image : Nat → Int32) (ipast : Nat → Int32) (iacts : Int32) (tape : Nat → Int32) (tmany : Int32) (laneOf : Nat → Int32) (sizeOf : Nat → Int32) (items : Nat → Int64) (seaFirst : Nat → Int32) (worstOf : Nat → Int32) (farTo : Nat → Int32) (stepsTo : Nat → Int32) (needs : Nat → Int32) (nmany : Int32) (mat : Int32) (told : Nat → Int32)  {post : Int32 → Prop} (hw : wX11_hasStraight a1 a2 st post) : Met l yX11_hasStraight wsX11_hasStraight rmX11_hasStraight (va_Pc [.ref (h 0), .int a1, .int a2] (cP D K (fl [wMo K h st past acts image ipast iacts tape tmany laneOf sizeOf items seaFirst worstOf farTo stepsTo needs nmany mat told]) sz)) (va_Qi (fun (r : Int32) (u : Unit) => post r) (fun u t => cQ D K (fl [wMo K h st past acts image ipast iacts tape tmany laneOf sizeOf items seaFirst worstOf farTo stepsTo needs nmany mat told]) (va_A (fl [wMo K h st past acts image ipast iacts tape tmany laneOf sizeOf items seaFirst worstOf farTo stepsTo needs nmany mat told]) sz) t) (va_A (fl [wMo K h st past acts image ipast iacts tape tmany laneOf sizeOf items seaFirst worstOf farTo stepsTo needs nmany mat told]) sz)) 0 0 (va_A (fl [wMo K h st past acts image ipast iacts tape tmany laneOf sizeOf items seaFirst worstOf farTo stepsTo needs nmany mat told]) sz) := by
  refine x_entry (cc := cX11_hasStraight) (maxL := 3) (ret := (some .boolean)) (QA := fun A => va_Qi (fun (r : Int32) (u : Unit) => post r) (fun u t => cQ D K (fl [wMo K h st past acts image ipast iacts tape tmany laneOf sizeOf items seaFirst worstOf farTo stepsTo needs nmany mat told]) A t) A) (plainFor_of_name (by decide)) rfl (Nat.le_of_ble_eq_true rfl) ?_
  intro p e s m args below meth c A ls H Q hQ hC hlk hr hnm hI hl
  obtain ⟨hx, hb, hml, hown, hts, hK, hA, hZ⟩ := id hC
  obtain ⟨locs, hlocs⟩ : ∃ y : List Loc, y = [] := ⟨_, rfl⟩
  rw [← hlocs] at hI ⊢
  clear hlocs
  replace hl : lv_has ls 3 [(0, .ref (h 0)), (1, .int a1), (2, .int a2)] := hl
  replace hw : wX11_rowOf a1 (fun (r1 : Int32) => wX11_isOnStrips r1 st (fun (r2 : Int32) => ((r2 = 0 → post (0 : Int32)) ∧ (¬ r2 = 0 → wX11_rowOf a2 (fun (r4 : Int32) => wX11_isOnStrips r4 st (fun (r5 : Int32) => ((r5 = 0 → post (0 : Int32)) ∧ (¬ r5 = 0 → post (1 : Int32))))))))) := hw
  refine lv_aload_n hx hb dX11_hasStraight_0 rfl (lv_at hl 0 rfl) ?_
  refine lv_iload_n hx hb dX11_hasStraight_1 rfl (lv_at hl 1 rfl) ?_
  refine x_callSi (rest := [.ref (h 0)]) hC hI [] (mX11_rowOf l D K  _ a1 hw) (va_cwS 1 hts gX11_hasStraight_X11_rowOf rfl rfl rfl (by decide +kernel) ⟨(Nat.le_of_ble_eq_true rfl), (Nat.le_of_ble_eq_true rfl)⟩) (by decide) rfl (fun _ => rfl) rfl hl.1 rfl (Nat.le_of_ble_eq_true rfl) dX11_hasStraight_2 ⟨(Nat.le_of_ble_eq_true rfl), (Nat.le_of_ble_eq_true rfl)⟩ (fun r1 u H locs hw hI => ?_)
  try dsimp only at hw
  have hI : wI s D A (fl [wMo K h st past acts image ipast iacts tape tmany laneOf sizeOf items seaFirst worstOf farTo stepsTo needs nmany mat told]) H locs := hI
  refine x_callWi (rest := []) hC hI (mX11_isOnStrips l D K h _ r1 st past acts image ipast iacts tape tmany laneOf sizeOf items seaFirst worstOf farTo stepsTo needs nmany mat told hw) (cwV 1 hts gX11_hasStraight_X11_isOnStrips rfl rfl rfl (by decide +kernel) ⟨(Nat.le_of_ble_eq_true rfl), (Nat.le_of_ble_eq_true rfl)⟩) (fun _ => rfl) 0 9 rfl rfl rfl rfl hl.1 rfl (Nat.le_of_ble_eq_true rfl) dX11_hasStraight_5 ⟨(Nat.le_of_ble_eq_true rfl), (Nat.le_of_ble_eq_true rfl)⟩ (fun r2 u H locs hw hI => ?_)
  try dsimp only at hw
  have hI : wI s D A (fl [wMo K h st past acts image ipast iacts tape tmany laneOf sizeOf items seaFirst worstOf farTo stepsTo needs nmany mat told]) H locs := hI
  refine lv_if_eq (tgt := 26) hx hb dX11_hasStraight_8 (by decide) (fun c3 => ?_) (fun c3 => ?_)
  · replace hw := hw.1 c3
    refine lv_iconst (v := (0 : Int32)) hx hb dX11_hasStraight_26 (by decide) ?_
    subst hQ
    exact x_zret (u := ()) hC hI hr hlk hw rfl (Or.inl rfl) dX11_hasStraight_27
  · replace hw := hw.2 c3
    refine lv_aload_n hx hb dX11_hasStraight_11 rfl (lv_at hl 0 rfl) ?_
    refine lv_iload_n hx hb dX11_hasStraight_12 rfl (lv_at hl 2 rfl) ?_
    refine x_callSi (rest := [.ref (h 0)]) hC hI [] (mX11_rowOf l D K  _ a2 hw) (va_cwS 1 hts gX11_hasStraight_X11_rowOf rfl rfl rfl (by decide +kernel) ⟨(Nat.le_of_ble_eq_true rfl), (Nat.le_of_ble_eq_true rfl)⟩) (by decide) rfl (fun _ => rfl) rfl hl.1 rfl (Nat.le_of_ble_eq_true rfl) dX11_hasStraight_13 ⟨(Nat.le_of_ble_eq_true rfl), (Nat.le_of_ble_eq_true rfl)⟩ (fun r4 u H locs hw hI => ?_)
    try dsimp only at hw
    have hI : wI s D A (fl [wMo K h st past acts image ipast iacts tape tmany laneOf sizeOf items seaFirst worstOf farTo stepsTo needs nmany mat told]) H locs := hI
    refine x_callWi (rest := []) hC hI (mX11_isOnStrips l D K h _ r4 st past acts image ipast iacts tape tmany laneOf sizeOf items seaFirst worstOf farTo stepsTo needs nmany mat told hw) (cwV 1 hts gX11_hasStraight_X11_isOnStrips rfl rfl rfl (by decide +kernel) ⟨(Nat.le_of_ble_eq_true rfl), (Nat.le_of_ble_eq_true rfl)⟩) (fun _ => rfl) 0 9 rfl rfl rfl rfl hl.1 rfl (Nat.le_of_ble_eq_true rfl) dX11_hasStraight_16 ⟨(Nat.le_of_ble_eq_true rfl), (Nat.le_of_ble_eq_true rfl)⟩ (fun r5 u H locs hw hI => ?_)
    try dsimp only at hw
    have hI : wI s D A (fl [wMo K h st past acts image ipast iacts tape tmany laneOf sizeOf items seaFirst worstOf farTo stepsTo needs nmany mat told]) H locs := hI
    refine lv_if_eq (tgt := 26) hx hb dX11_hasStraight_19 (by decide) (fun c6 => ?_) (fun c6 => ?_)
    · replace hw := hw.1 c6
      refine lv_iconst (v := (0 : Int32)) hx hb dX11_hasStraight_26 (by decide) ?_
      subst hQ
      exact x_zret (u := ()) hC hI hr hlk hw rfl (Or.inl rfl) dX11_hasStraight_27
    · replace hw := hw.2 c6
      refine lv_iconst (v := (1 : Int32)) hx hb dX11_hasStraight_22 (by decide) ?_
      refine lv_goto (tgt := 27) hx hb dX11_hasStraight_23 (by decide) ?_
      subst hQ
      exact x_zret (u := ()) hC hI hr hlk hw rfl (Or.inr rfl) dX11_hasStraight_27

def wX11_pair (a1 : Int32) (a2 : Int32) (a3 : Int32) (st : Nat → Int32) (post : Int32 → Prop) : Prop := wX11_isNumber a1 (fun (r1 : Int32) => ((r1 = 0 → post (-1 : Int32)) ∧ (¬ r1 = 0 → wX11_isNumber a2 (fun (r3 : Int32) => ((r3 = 0 → post (-1 : Int32)) ∧ (¬ r3 = 0 → wX11_in a3 (0 : Int32) (1 : Int32) (fun (r5 : Int32) => ((r5 = 0 → post (-1 : Int32)) ∧ (¬ r5 = 0 → wX11_areNext a1 a2 (fun (r7 : Int32) => ((r7 = 0 → post (-2 : Int32)) ∧ (¬ r7 = 0 → ((a3 = 0 → wX11_farOf a1 a2 st (fun (r13 : Int32) => post r13)) ∧ (¬ a3 = 0 → wX11_hasStraight a1 a2 st (fun (r10 : Int32) => ((r10 = 0 → post (-4 : Int32)) ∧ (¬ r10 = 0 → wX11_straightOf a1 a2 st (fun (r12 : Int32) => post r12))))))))))))))))))
def rmX11_pair : Room := { frames := 7, cells := 0, slots := 0, locals := 155 }
set_option maxHeartbeats 4000000 in
set_option maxRecDepth 100000 in
theorem mX11_pair (l : Launch) (D : va_G) (K : Nat → ClassId) (h : Nat → Nat) (sz : Nat) (a1 : Int32) (a2 : Int32) (a3 : Int32) (st : Nat → Int32) (past : Nat → Int32) (acts : Int32) (image : Nat → Int32) (ipast : Nat → Int32) (iacts : Int32) (tape : Nat → Int32) (tmany : Int32) (laneOf : Nat → Int32) (sizeOf : Nat → Int32) (items : Nat → Int64) (seaFirst : Nat → Int32) (worstOf : Nat → Int32) (farTo : Nat → Int32) (stepsTo : Nat → Int32) (needs : Nat → Int32) (nmany : Int32) (mat : Int32) (told : Nat → Int32)  {post : Int32 → Prop} (hw : wX11_pair a1 a2 a3 st post) : Met l yX11_pair wsX11_pair rmX11_pair (va_Pc [.ref (h 0), .int a1, .int a2, .int a3] (cP D K (fl [wMo K h st past acts image ipast iacts tape tmany laneOf sizeOf items seaFirst worstOf farTo stepsTo needs nmany mat told]) sz)) (va_Qi (fun (r : Int32) (u : Unit) => post r) (fun u t => cQ D K (fl [wMo K h st past acts image ipast iacts tape tmany laneOf sizeOf items seaFirst worstOf farTo stepsTo needs nmany mat told]) (va_A (fl [wMo K h st past acts image ipast iacts tape tmany laneOf sizeOf items seaFirst worstOf farTo stepsTo needs nmany mat told]) sz) t) (va_A (fl [wMo K h st past acts image ipast iacts tape tmany laneOf sizeOf items seaFirst worstOf farTo stepsTo needs nmany mat told]) sz)) 0 0 (va_A (fl [wMo K h st past acts image ipast iacts tape tmany laneOf sizeOf items seaFirst worstOf farTo stepsTo needs nmany mat told]) sz) := by
  refine x_entry (cc := cX11_pair) (maxL := 4) (ret := (some .int)) (QA := fun A => va_Qi (fun (r : Int32) (u : Unit) => post r) (fun u t => cQ D K (fl [wMo K h st past acts image ipast iacts tape tmany laneOf sizeOf items seaFirst worstOf farTo stepsTo needs nmany mat told]) A t) A) (plainFor_of_name (by decide)) rfl (Nat.le_of_ble_eq_true rfl) ?_
  intro p e s m args below meth c A ls H Q hQ hC hlk hr hnm hI hl
  obtain ⟨hx, hb, hml, hown, hts, hK, hA, hZ⟩ := id hC
  obtain ⟨locs, hlocs⟩ : ∃ y : List Loc, y = [] := ⟨_, rfl⟩
  rw [← hlocs] at hI ⊢
  clear hlocs
  replace hl : lv_has ls 4 [(0, .ref (h 0)), (1, .int a1), (2, .int a2), (3, .int a3)] := hl
  replace hw : wX11_isNumber a1 (fun (r1 : Int32) => ((r1 = 0 → post (-1 : Int32)) ∧ (¬ r1 = 0 → wX11_isNumber a2 (fun (r3 : Int32) => ((r3 = 0 → post (-1 : Int32)) ∧ (¬ r3 = 0 → wX11_in a3 (0 : Int32) (1 : Int32) (fun (r5 : Int32) => ((r5 = 0 → post (-1 : Int32)) ∧ (¬ r5 = 0 → wX11_areNext a1 a2 (fun (r7 : Int32) => ((r7 = 0 → post (-2 : Int32)) ∧ (¬ r7 = 0 → ((a3 = 0 → wX11_farOf a1 a2 st (fun (r13 : Int32) => post r13)) ∧ (¬ a3 = 0 → wX11_hasStraight a1 a2 st (fun (r10 : Int32) => ((r10 = 0 → post (-4 : Int32)) ∧ (¬ r10 = 0 → wX11_straightOf a1 a2 st (fun (r12 : Int32) => post r12)))))))))))))))))) := hw
  refine lv_iload_n hx hb dX11_pair_0 rfl (lv_at hl 1 rfl) ?_
  refine x_callSi (rest := []) hC hI [] (mX11_isNumber l D K  _ a1 hw) (va_cwS 1 hts gX11_pair_X11_isNumber rfl rfl rfl (by decide +kernel) ⟨(Nat.le_of_ble_eq_true rfl), (Nat.le_of_ble_eq_true rfl)⟩) (by decide) rfl (fun _ => rfl) rfl hl.1 rfl (Nat.le_of_ble_eq_true rfl) dX11_pair_1 ⟨(Nat.le_of_ble_eq_true rfl), (Nat.le_of_ble_eq_true rfl)⟩ (fun r1 u H locs hw hI => ?_)
  try dsimp only at hw
  have hI : wI s D A (fl [wMo K h st past acts image ipast iacts tape tmany laneOf sizeOf items seaFirst worstOf farTo stepsTo needs nmany mat told]) H locs := hI
  refine lv_if_eq (tgt := 23) hx hb dX11_pair_4 (by decide) (fun c2 => ?_) (fun c2 => ?_)
  · replace hw := hw.1 c2
    refine lv_iconst (v := (-1 : Int32)) hx hb dX11_pair_23 (by decide) ?_
    subst hQ
    exact x_iret (u := ()) hC hI hr hlk hw rfl dX11_pair_24
  · replace hw := hw.2 c2
    refine lv_iload_n hx hb dX11_pair_7 rfl (lv_at hl 2 rfl) ?_
    refine x_callSi (rest := []) hC hI [] (mX11_isNumber l D K  _ a2 hw) (va_cwS 1 hts gX11_pair_X11_isNumber rfl rfl rfl (by decide +kernel) ⟨(Nat.le_of_ble_eq_true rfl), (Nat.le_of_ble_eq_true rfl)⟩) (by decide) rfl (fun _ => rfl) rfl hl.1 rfl (Nat.le_of_ble_eq_true rfl) dX11_pair_8 ⟨(Nat.le_of_ble_eq_true rfl), (Nat.le_of_ble_eq_true rfl)⟩ (fun r3 u H locs hw hI => ?_)
    try dsimp only at hw
    have hI : wI s D A (fl [wMo K h st past acts image ipast iacts tape tmany laneOf sizeOf items seaFirst worstOf farTo stepsTo needs nmany mat told]) H locs := hI
    refine lv_if_eq (tgt := 23) hx hb dX11_pair_11 (by decide) (fun c4 => ?_) (fun c4 => ?_)
    · replace hw := hw.1 c4
      refine lv_iconst (v := (-1 : Int32)) hx hb dX11_pair_23 (by decide) ?_
      subst hQ
      exact x_iret (u := ()) hC hI hr hlk hw rfl dX11_pair_24
    · replace hw := hw.2 c4
      refine lv_iload_n hx hb dX11_pair_14 rfl (lv_at hl 3 rfl) ?_
      refine lv_iconst (v := (0 : Int32)) hx hb dX11_pair_15 (by decide) ?_
      refine lv_iconst (v := (1 : Int32)) hx hb dX11_pair_16 (by decide) ?_
      refine x_callSi (rest := []) hC hI [] (mX11_in l D K  _ a3 (0 : Int32) (1 : Int32) hw) (va_cwS 3 hts gX11_pair_X11_in rfl rfl rfl (by decide +kernel) ⟨(Nat.le_of_ble_eq_true rfl), (Nat.le_of_ble_eq_true rfl)⟩) (by decide) rfl (fun _ => rfl) rfl hl.1 rfl (Nat.le_of_ble_eq_true rfl) dX11_pair_17 ⟨(Nat.le_of_ble_eq_true rfl), (Nat.le_of_ble_eq_true rfl)⟩ (fun r5 u H locs hw hI => ?_)
      try dsimp only at hw
      have hI : wI s D A (fl [wMo K h st past acts image ipast iacts tape tmany laneOf sizeOf items seaFirst worstOf farTo stepsTo needs nmany mat told]) H locs := hI
      refine lv_if_ne (tgt := 25) hx hb dX11_pair_20 (by decide) (fun c6 => ?_) (fun c6 => ?_)
      · replace hw := hw.2 c6
        refine lv_iload_n hx hb dX11_pair_25 rfl (lv_at hl 1 rfl) ?_
        refine lv_iload_n hx hb dX11_pair_26 rfl (lv_at hl 2 rfl) ?_
        refine x_callSi (rest := []) hC hI [] (mX11_areNext l D K  _ a1 a2 hw) (va_cwS 2 hts gX11_pair_X11_areNext rfl rfl rfl (by decide +kernel) ⟨(Nat.le_of_ble_eq_true rfl), (Nat.le_of_ble_eq_true rfl)⟩) (by decide) rfl (fun _ => rfl) rfl hl.1 rfl (Nat.le_of_ble_eq_true rfl) dX11_pair_27 ⟨(Nat.le_of_ble_eq_true rfl), (Nat.le_of_ble_eq_true rfl)⟩ (fun r7 u H locs hw hI => ?_)
        try dsimp only at hw
        have hI : wI s D A (fl [wMo K h st past acts image ipast iacts tape tmany laneOf sizeOf items seaFirst worstOf farTo stepsTo needs nmany mat told]) H locs := hI
        refine lv_if_ne (tgt := 36) hx hb dX11_pair_30 (by decide) (fun c8 => ?_) (fun c8 => ?_)
        · replace hw := hw.2 c8
          refine lv_iload_n hx hb dX11_pair_36 rfl (lv_at hl 3 rfl) ?_
          refine lv_if_ne (tgt := 47) hx hb dX11_pair_37 (by decide) (fun c9 => ?_) (fun c9 => ?_)
          · replace hw := hw.2 c9
            refine lv_aload_n hx hb dX11_pair_47 rfl (lv_at hl 0 rfl) ?_
            refine lv_iload_n hx hb dX11_pair_48 rfl (lv_at hl 1 rfl) ?_
            refine lv_iload_n hx hb dX11_pair_49 rfl (lv_at hl 2 rfl) ?_
            refine x_callWi (rest := []) hC hI (mX11_hasStraight l D K h _ a1 a2 st past acts image ipast iacts tape tmany laneOf sizeOf items seaFirst worstOf farTo stepsTo needs nmany mat told hw) (cwV 2 hts gX11_pair_X11_hasStraight rfl rfl rfl (by decide +kernel) ⟨(Nat.le_of_ble_eq_true rfl), (Nat.le_of_ble_eq_true rfl)⟩) (fun _ => rfl) 0 9 rfl rfl rfl rfl hl.1 rfl (Nat.le_of_ble_eq_true rfl) dX11_pair_50 ⟨(Nat.le_of_ble_eq_true rfl), (Nat.le_of_ble_eq_true rfl)⟩ (fun r10 u H locs hw hI => ?_)
            try dsimp only at hw
            have hI : wI s D A (fl [wMo K h st past acts image ipast iacts tape tmany laneOf sizeOf items seaFirst worstOf farTo stepsTo needs nmany mat told]) H locs := hI
            refine lv_if_eq (tgt := 65) hx hb dX11_pair_53 (by decide) (fun c11 => ?_) (fun c11 => ?_)
            · replace hw := hw.1 c11
              refine lv_bipush (v := (-4 : Int32)) hx hb dX11_pair_65 (by decide) ?_
              subst hQ
              exact x_iret (u := ()) hC hI hr hlk hw rfl dX11_pair_67
            · replace hw := hw.2 c11
              refine lv_aload_n hx hb dX11_pair_56 rfl (lv_at hl 0 rfl) ?_
              refine lv_iload_n hx hb dX11_pair_57 rfl (lv_at hl 1 rfl) ?_
              refine lv_iload_n hx hb dX11_pair_58 rfl (lv_at hl 2 rfl) ?_
              refine x_callWi (rest := []) hC hI (mX11_straightOf l D K h _ a1 a2 st past acts image ipast iacts tape tmany laneOf sizeOf items seaFirst worstOf farTo stepsTo needs nmany mat told hw) (cwV 2 hts gX11_pair_X11_straightOf rfl rfl rfl (by decide +kernel) ⟨(Nat.le_of_ble_eq_true rfl), (Nat.le_of_ble_eq_true rfl)⟩) (fun _ => rfl) 0 9 rfl rfl rfl rfl hl.1 rfl (Nat.le_of_ble_eq_true rfl) dX11_pair_59 ⟨(Nat.le_of_ble_eq_true rfl), (Nat.le_of_ble_eq_true rfl)⟩ (fun r12 u H locs hw hI => ?_)
              try dsimp only at hw
              have hI : wI s D A (fl [wMo K h st past acts image ipast iacts tape tmany laneOf sizeOf items seaFirst worstOf farTo stepsTo needs nmany mat told]) H locs := hI
              refine lv_goto (tgt := 67) hx hb dX11_pair_62 (by decide) ?_
              subst hQ
              exact x_iret (u := ()) hC hI hr hlk hw rfl dX11_pair_67
          · replace hw := hw.1 c9
            refine lv_aload_n hx hb dX11_pair_40 rfl (lv_at hl 0 rfl) ?_
            refine lv_iload_n hx hb dX11_pair_41 rfl (lv_at hl 1 rfl) ?_
            refine lv_iload_n hx hb dX11_pair_42 rfl (lv_at hl 2 rfl) ?_
            refine x_callWi (rest := []) hC hI (mX11_farOf l D K h _ a1 a2 st past acts image ipast iacts tape tmany laneOf sizeOf items seaFirst worstOf farTo stepsTo needs nmany mat told hw) (cwV 2 hts gX11_pair_X11_farOf rfl rfl rfl (by decide +kernel) ⟨(Nat.le_of_ble_eq_true rfl), (Nat.le_of_ble_eq_true rfl)⟩) (fun _ => rfl) 0 9 rfl rfl rfl rfl hl.1 rfl (Nat.le_of_ble_eq_true rfl) dX11_pair_43 ⟨(Nat.le_of_ble_eq_true rfl), (Nat.le_of_ble_eq_true rfl)⟩ (fun r13 u H locs hw hI => ?_)
            try dsimp only at hw
            have hI : wI s D A (fl [wMo K h st past acts image ipast iacts tape tmany laneOf sizeOf items seaFirst worstOf farTo stepsTo needs nmany mat told]) H locs := hI
            subst hQ
            exact x_iret (u := ()) hC hI hr hlk hw rfl dX11_pair_46
        · replace hw := hw.1 c8
          refine lv_bipush (v := (-2 : Int32)) hx hb dX11_pair_33 (by decide) ?_
          subst hQ
          exact x_iret (u := ()) hC hI hr hlk hw rfl dX11_pair_35
      · replace hw := hw.1 c6
        refine lv_iconst (v := (-1 : Int32)) hx hb dX11_pair_23 (by decide) ?_
        subst hQ
        exact x_iret (u := ()) hC hI hr hlk hw rfl dX11_pair_24

def wX11_laysWorst  (st : Nat → Int32) (worstOf : Nat → Int32) (post : (Nat → Int32) → Prop) : Prop := (∃ (I9 : Int32 → (Nat → Int32) → Prop) (mu9 : Int32 → (Nat → Int32) → Nat), I9 (0 : Int32) (upd worstOf 0 (-1 : Int32)) ∧ ∀ (l1_9 : Int32) (worstOf_9 : Nat → Int32), I9 l1_9 worstOf_9 → (((266 : Int32) ≤ l1_9 → post worstOf_9) ∧ (¬ (266 : Int32) ≤ l1_9 → ∀ x2 : Int32, x2 = l1_9 + (1 : Int32) → (∃ (I20 : Int32 → (Nat → Int32) → Prop) (mu20 : Int32 → (Nat → Int32) → Nat), I20 x2 worstOf_9 ∧ ∀ (l2_20 : Int32) (worstOf_20 : Nat → Int32), I20 l2_20 worstOf_20 → (((266 : Int32) ≤ l2_20 → ∀ x4 : Int32, x4 = l1_9 + 1 → (I9 x4 worstOf_20 ∧ mu9 x4 worstOf_20 < mu9 l1_9 worstOf_9)) ∧ (¬ (266 : Int32) ≤ l2_20 → wX11_hasStraight l1_9 l2_20 st (fun (r5 : Int32) => ((r5 = 0 → ∀ x7 : Int32, x7 = l2_20 + 1 → (I20 x7 worstOf_20 ∧ mu20 x7 worstOf_20 < mu20 l2_20 worstOf_20)) ∧ (¬ r5 = 0 → wX11_areNext l1_9 l2_20 (fun (r8 : Int32) => ((r8 = 0 → ∀ x10 : Int32, x10 = l2_20 + 1 → (I20 x10 worstOf_20 ∧ mu20 x10 worstOf_20 < mu20 l2_20 worstOf_20)) ∧ (¬ r8 = 0 → wX11_straightOf l1_9 l2_20 st (fun (r11 : Int32) => wX11_farOf l1_9 l2_20 st (fun (r12 : Int32) => wX11_size (r11 - r12) (fun (r13 : Int32) => ((r13 ≤ (worstOf_20 0) → ∀ x15 : Int32, x15 = l2_20 + 1 → (I20 x15 worstOf_20 ∧ mu20 x15 worstOf_20 < mu20 l2_20 worstOf_20)) ∧ (¬ r13 ≤ (worstOf_20 0) → ∀ x16 : Int32, x16 = l2_20 + 1 → (I20 x16 (upd (upd (upd worstOf_20 0 r13) 1 l1_9) 2 l2_20) ∧ mu20 x16 (upd (upd (upd worstOf_20 0 r13) 1 l1_9) 2 l2_20) < mu20 l2_20 worstOf_20))))))))))))))))))
def rmX11_laysWorst : Room := { frames := 7, cells := 0, slots := 0, locals := 155 }
theorem kX11_laysWorst_0 : Cond.fieldLink RX11 42 "GoreGlobeModel" "worstOf" "[I" ∈ wsX11_laysWorst := List.mem_cons_of_mem _ (List.mem_append_left _ (List.mem_append_left _ (List.mem_of_getElem? (i := 0) rfl)))
theorem kX11_laysWorst_cX11 : ∀ w ∈ wsX110, w ∈ wsX11_laysWorst := fun _ h => List.mem_cons_of_mem _ (List.mem_append_right _ h)
set_option maxHeartbeats 4000000 in
set_option maxRecDepth 100000 in
theorem mX11_laysWorst (l : Launch) (D : va_G) (K : Nat → ClassId) (h : Nat → Nat) (sz : Nat)  (st : Nat → Int32) (past : Nat → Int32) (acts : Int32) (image : Nat → Int32) (ipast : Nat → Int32) (iacts : Int32) (tape : Nat → Int32) (tmany : Int32) (laneOf : Nat → Int32) (sizeOf : Nat → Int32) (items : Nat → Int64) (seaFirst : Nat → Int32) (worstOf : Nat → Int32) (farTo : Nat → Int32) (stepsTo : Nat → Int32) (needs : Nat → Int32) (nmany : Int32) (mat : Int32) (told : Nat → Int32)  {post : (Nat → Int32) → Prop} (hw : wX11_laysWorst  st worstOf post) : Met l yX11_laysWorst wsX11_laysWorst rmX11_laysWorst (va_Pc [.ref (h 0)] (cP D K (fl [wMo K h st past acts image ipast iacts tape tmany laneOf sizeOf items seaFirst worstOf farTo stepsTo needs nmany mat told]) sz)) (va_Qv (fun (u : (Nat → Int32)) => post u) (fun u t => cQ D K (fl [wMo K h st past acts image ipast iacts tape tmany laneOf sizeOf items seaFirst u farTo stepsTo needs nmany mat told]) (va_A (fl [wMo K h st past acts image ipast iacts tape tmany laneOf sizeOf items seaFirst worstOf farTo stepsTo needs nmany mat told]) sz) t) (va_A (fl [wMo K h st past acts image ipast iacts tape tmany laneOf sizeOf items seaFirst worstOf farTo stepsTo needs nmany mat told]) sz)) 0 0 (va_A (fl [wMo K h st past acts image ipast iacts tape tmany laneOf sizeOf items seaFirst worstOf farTo stepsTo needs nmany mat told]) sz) := by
  refine x_entry (cc := cX11_laysWorst) (maxL := 4) (ret := none) (QA := fun A => va_Qv (fun (u : (Nat → Int32)) => post u) (fun u t => cQ D K (fl [wMo K h st past acts image ipast iacts tape tmany laneOf sizeOf items seaFirst u farTo stepsTo needs nmany mat told]) A t) A) (plainFor_of_name (by decide)) rfl (Nat.le_of_ble_eq_true rfl) ?_
  intro p e s m args below meth c A ls H Q hQ hC hlk hr hnm hI hl
  obtain ⟨hx, hb, hml, hown, hts, hK, hA, hZ⟩ := id hC
  obtain ⟨locs, hlocs⟩ : ∃ y : List Loc, y = [] := ⟨_, rfl⟩
  rw [← hlocs] at hI ⊢
  clear hlocs
  replace hl : lv_has ls 4 [(0, .ref (h 0))] := hl
  replace hw : (∃ (I9 : Int32 → (Nat → Int32) → Prop) (mu9 : Int32 → (Nat → Int32) → Nat), I9 (0 : Int32) (upd worstOf 0 (-1 : Int32)) ∧ ∀ (l1_9 : Int32) (worstOf_9 : Nat → Int32), I9 l1_9 worstOf_9 → (((266 : Int32) ≤ l1_9 → post worstOf_9) ∧ (¬ (266 : Int32) ≤ l1_9 → ∀ x2 : Int32, x2 = l1_9 + (1 : Int32) → (∃ (I20 : Int32 → (Nat → Int32) → Prop) (mu20 : Int32 → (Nat → Int32) → Nat), I20 x2 worstOf_9 ∧ ∀ (l2_20 : Int32) (worstOf_20 : Nat → Int32), I20 l2_20 worstOf_20 → (((266 : Int32) ≤ l2_20 → ∀ x4 : Int32, x4 = l1_9 + 1 → (I9 x4 worstOf_20 ∧ mu9 x4 worstOf_20 < mu9 l1_9 worstOf_9)) ∧ (¬ (266 : Int32) ≤ l2_20 → wX11_hasStraight l1_9 l2_20 st (fun (r5 : Int32) => ((r5 = 0 → ∀ x7 : Int32, x7 = l2_20 + 1 → (I20 x7 worstOf_20 ∧ mu20 x7 worstOf_20 < mu20 l2_20 worstOf_20)) ∧ (¬ r5 = 0 → wX11_areNext l1_9 l2_20 (fun (r8 : Int32) => ((r8 = 0 → ∀ x10 : Int32, x10 = l2_20 + 1 → (I20 x10 worstOf_20 ∧ mu20 x10 worstOf_20 < mu20 l2_20 worstOf_20)) ∧ (¬ r8 = 0 → wX11_straightOf l1_9 l2_20 st (fun (r11 : Int32) => wX11_farOf l1_9 l2_20 st (fun (r12 : Int32) => wX11_size (r11 - r12) (fun (r13 : Int32) => ((r13 ≤ (worstOf_20 0) → ∀ x15 : Int32, x15 = l2_20 + 1 → (I20 x15 worstOf_20 ∧ mu20 x15 worstOf_20 < mu20 l2_20 worstOf_20)) ∧ (¬ r13 ≤ (worstOf_20 0) → ∀ x16 : Int32, x16 = l2_20 + 1 → (I20 x16 (upd (upd (upd worstOf_20 0 r13) 1 l1_9) 2 l2_20) ∧ mu20 x16 (upd (upd (upd worstOf_20 0 r13) 1 l1_9) 2 l2_20) < mu20 l2_20 worstOf_20)))))))))))))))))) := hw
  refine lv_aload_n hx hb dX11_laysWorst_0 rfl (lv_at hl 0 rfl) ?_
  refine x_get (v := .ref (h 10)) hC hI kX11_laysWorst_cX11 0 rfl rfl 12 (by decide) kX11_laysWorst_0 rfl rfl dX11_laysWorst_1 ?_
  refine lv_iconst (v := (0 : Int32)) hx hb dX11_laysWorst_4 (by decide) ?_
  refine lv_iconst (v := (-1 : Int32)) hx hb dX11_laysWorst_5 (by decide) ?_
  refine x_iast (f := worstOf) hC hI 10 rfl (by unfold vp_in; decide) dX11_laysWorst_6 (fun H locs hI => ?_)
  have hI : wI s D A (fl [wMo K h st past acts image ipast iacts tape tmany laneOf sizeOf items seaFirst (upd worstOf 0 (-1 : Int32)) farTo stepsTo needs nmany mat told]) H locs := hI
  refine lv_iconst (v := (0 : Int32)) hx hb dX11_laysWorst_7 (by decide) ?_
  refine lv_istore_n (lv' := [(1, .int (0 : Int32)), (0, .ref (h 0))]) hx hb dX11_laysWorst_8 rfl hl (by decide) rfl (fun ls hl => ?_)
  obtain ⟨I9, mu9, hw, hb9⟩ := hw
  have lp9 : ∀ (k : Nat) (l1_9 : Int32) (worstOf_9 : Nat → Int32) (ls : Array Slot) (H : Heap) (locs : List Loc), mu9 l1_9 worstOf_9 < k → I9 l1_9 worstOf_9 → wI s D A (fl [wMo K h st past acts image ipast iacts tape tmany laneOf sizeOf items seaFirst worstOf_9 farTo stepsTo needs nmany mat told]) H locs → lv_has ls 4 [(0, .ref (h 0)), (1, .int l1_9)] → W p l e rmX11_laysWorst s m args below meth c H locs 0 0 Q (F0 m 9 ls []) := by
    intro k
    induction k with
    | zero => intro l1_9 worstOf_9 ls H locs hmu; exact absurd hmu (Nat.not_lt_zero _)
    | succ k ih9 =>
      intro l1_9 worstOf_9 ls H locs hmu9 hw hI hl
      replace hw := hb9 l1_9 worstOf_9 hw
      refine lv_iload_n hx hb dX11_laysWorst_9 rfl (lv_at hl 1 rfl) ?_
      refine lv_sipush (v := (266 : Int32)) hx hb dX11_laysWorst_10 (by decide) ?_
      refine lv_icmp_ge (tgt := 104) hx hb dX11_laysWorst_13 (by decide) (fun c1 => ?_) (fun c1 => ?_)
      · replace hw := hw.1 c1
        subst hQ
        exact x_vret (u := worstOf_9) hC hI hr hlk hw rfl dX11_laysWorst_104
      · replace hw := hw.2 c1
        refine lv_iload_n hx hb dX11_laysWorst_16 rfl (lv_at hl 1 rfl) ?_
        refine lv_iconst (v := (1 : Int32)) hx hb dX11_laysWorst_17 (by decide) ?_
        refine lv_iadd hx hb dX11_laysWorst_18 ?_
        refine lv_topi (fun x2 ex2 => ?_)
        replace hw := hw x2 ex2
        refine lv_istore_n (lv' := [(2, .int x2), (0, .ref (h 0)), (1, .int l1_9)]) hx hb dX11_laysWorst_19 rfl hl (by decide) rfl (fun ls hl => ?_)
        obtain ⟨I20, mu20, hw, hb20⟩ := hw
        have lp20 : ∀ (k : Nat) (l2_20 : Int32) (worstOf_20 : Nat → Int32) (ls : Array Slot) (H : Heap) (locs : List Loc), mu20 l2_20 worstOf_20 < k → I20 l2_20 worstOf_20 → wI s D A (fl [wMo K h st past acts image ipast iacts tape tmany laneOf sizeOf items seaFirst worstOf_20 farTo stepsTo needs nmany mat told]) H locs → lv_has ls 4 [(0, .ref (h 0)), (1, .int l1_9), (2, .int l2_20)] → W p l e rmX11_laysWorst s m args below meth c H locs 0 0 Q (F0 m 20 ls []) := by
          intro k
          induction k with
          | zero => intro l2_20 worstOf_20 ls H locs hmu; exact absurd hmu (Nat.not_lt_zero _)
          | succ k ih20 =>
            intro l2_20 worstOf_20 ls H locs hmu20 hw hI hl
            replace hw := hb20 l2_20 worstOf_20 hw
            refine lv_iload_n hx hb dX11_laysWorst_20 rfl (lv_at hl 2 rfl) ?_
            refine lv_sipush (v := (266 : Int32)) hx hb dX11_laysWorst_21 (by decide) ?_
            refine lv_icmp_ge (tgt := 98) hx hb dX11_laysWorst_24 (by decide) (fun c3 => ?_) (fun c3 => ?_)
            · replace hw := hw.1 c3
              obtain ⟨x4, ex4⟩ : ∃ y : Int32, y = l1_9 + 1 := ⟨_, rfl⟩
              replace hw := hw x4 ex4
              refine lv_iinc (v := x4) (lv' := [(1, .int x4), (0, .ref (h 0)), (2, .int l2_20)]) hx hb dX11_laysWorst_98 hl (k := 1) rfl (by rw [ex4]; rfl) (by decide) rfl (fun ls hl => ?_)
              refine lv_goto (tgt := 9) hx hb dX11_laysWorst_101 (by decide) ?_
              exact ih9 x4 worstOf_20 ls H locs (Nat.lt_of_lt_of_le hw.2 (Nat.le_of_lt_succ hmu9)) hw.1 hI (lv_sub hl [1, 0] rfl)
            · replace hw := hw.2 c3
              refine lv_aload_n hx hb dX11_laysWorst_27 rfl (lv_at hl 0 rfl) ?_
              refine lv_iload_n hx hb dX11_laysWorst_28 rfl (lv_at hl 1 rfl) ?_
              refine lv_iload_n hx hb dX11_laysWorst_29 rfl (lv_at hl 2 rfl) ?_
              refine x_callWi (rest := []) hC hI (mX11_hasStraight l D K h _ l1_9 l2_20 st past acts image ipast iacts tape tmany laneOf sizeOf items seaFirst worstOf_20 farTo stepsTo needs nmany mat told hw) (cwV 2 hts gX11_laysWorst_X11_hasStraight rfl rfl rfl (by decide +kernel) ⟨(Nat.le_of_ble_eq_true rfl), (Nat.le_of_ble_eq_true rfl)⟩) (fun _ => rfl) 0 9 rfl rfl rfl rfl hl.1 rfl (Nat.le_of_ble_eq_true rfl) dX11_laysWorst_30 ⟨(Nat.le_of_ble_eq_true rfl), (Nat.le_of_ble_eq_true rfl)⟩ (fun r5 u H locs hw hI => ?_)
              try dsimp only at hw
              have hI : wI s D A (fl [wMo K h st past acts image ipast iacts tape tmany laneOf sizeOf items seaFirst worstOf_20 farTo stepsTo needs nmany mat told]) H locs := hI
              refine lv_if_eq (tgt := 92) hx hb dX11_laysWorst_33 (by decide) (fun c6 => ?_) (fun c6 => ?_)
              · replace hw := hw.1 c6
                obtain ⟨x7, ex7⟩ : ∃ y : Int32, y = l2_20 + 1 := ⟨_, rfl⟩
                replace hw := hw x7 ex7
                refine lv_iinc (v := x7) (lv' := [(2, .int x7), (0, .ref (h 0)), (1, .int l1_9)]) hx hb dX11_laysWorst_92 hl (k := 2) rfl (by rw [ex7]; rfl) (by decide) rfl (fun ls hl => ?_)
                refine lv_goto (tgt := 20) hx hb dX11_laysWorst_95 (by decide) ?_
                exact ih20 x7 worstOf_20 ls H locs (Nat.lt_of_lt_of_le hw.2 (Nat.le_of_lt_succ hmu20)) hw.1 hI (lv_sub hl [1, 2, 0] rfl)
              · replace hw := hw.2 c6
                refine lv_iload_n hx hb dX11_laysWorst_36 rfl (lv_at hl 1 rfl) ?_
                refine lv_iload_n hx hb dX11_laysWorst_37 rfl (lv_at hl 2 rfl) ?_
                refine x_callSi (rest := []) hC hI [] (mX11_areNext l D K  _ l1_9 l2_20 hw) (va_cwS 2 hts gX11_laysWorst_X11_areNext rfl rfl rfl (by decide +kernel) ⟨(Nat.le_of_ble_eq_true rfl), (Nat.le_of_ble_eq_true rfl)⟩) (by decide) rfl (fun _ => rfl) rfl hl.1 rfl (Nat.le_of_ble_eq_true rfl) dX11_laysWorst_38 ⟨(Nat.le_of_ble_eq_true rfl), (Nat.le_of_ble_eq_true rfl)⟩ (fun r8 u H locs hw hI => ?_)
                try dsimp only at hw
                have hI : wI s D A (fl [wMo K h st past acts image ipast iacts tape tmany laneOf sizeOf items seaFirst worstOf_20 farTo stepsTo needs nmany mat told]) H locs := hI
                refine lv_if_eq (tgt := 92) hx hb dX11_laysWorst_41 (by decide) (fun c9 => ?_) (fun c9 => ?_)
                · replace hw := hw.1 c9
                  obtain ⟨x10, ex10⟩ : ∃ y : Int32, y = l2_20 + 1 := ⟨_, rfl⟩
                  replace hw := hw x10 ex10
                  refine lv_iinc (v := x10) (lv' := [(2, .int x10), (0, .ref (h 0)), (1, .int l1_9)]) hx hb dX11_laysWorst_92 hl (k := 2) rfl (by rw [ex10]; rfl) (by decide) rfl (fun ls hl => ?_)
                  refine lv_goto (tgt := 20) hx hb dX11_laysWorst_95 (by decide) ?_
                  exact ih20 x10 worstOf_20 ls H locs (Nat.lt_of_lt_of_le hw.2 (Nat.le_of_lt_succ hmu20)) hw.1 hI (lv_sub hl [1, 2, 0] rfl)
                · replace hw := hw.2 c9
                  refine lv_aload_n hx hb dX11_laysWorst_44 rfl (lv_at hl 0 rfl) ?_
                  refine lv_iload_n hx hb dX11_laysWorst_45 rfl (lv_at hl 1 rfl) ?_
                  refine lv_iload_n hx hb dX11_laysWorst_46 rfl (lv_at hl 2 rfl) ?_
                  refine x_callWi (rest := []) hC hI (mX11_straightOf l D K h _ l1_9 l2_20 st past acts image ipast iacts tape tmany laneOf sizeOf items seaFirst worstOf_20 farTo stepsTo needs nmany mat told hw) (cwV 2 hts gX11_laysWorst_X11_straightOf rfl rfl rfl (by decide +kernel) ⟨(Nat.le_of_ble_eq_true rfl), (Nat.le_of_ble_eq_true rfl)⟩) (fun _ => rfl) 0 9 rfl rfl rfl rfl hl.1 rfl (Nat.le_of_ble_eq_true rfl) dX11_laysWorst_47 ⟨(Nat.le_of_ble_eq_true rfl), (Nat.le_of_ble_eq_true rfl)⟩ (fun r11 u H locs hw hI => ?_)
                  try dsimp only at hw
                  have hI : wI s D A (fl [wMo K h st past acts image ipast iacts tape tmany laneOf sizeOf items seaFirst worstOf_20 farTo stepsTo needs nmany mat told]) H locs := hI
                  refine lv_aload_n hx hb dX11_laysWorst_50 rfl (lv_at hl 0 rfl) ?_
                  refine lv_iload_n hx hb dX11_laysWorst_51 rfl (lv_at hl 1 rfl) ?_
                  refine lv_iload_n hx hb dX11_laysWorst_52 rfl (lv_at hl 2 rfl) ?_
                  refine x_callWi (rest := [.int r11]) hC hI (mX11_farOf l D K h _ l1_9 l2_20 st past acts image ipast iacts tape tmany laneOf sizeOf items seaFirst worstOf_20 farTo stepsTo needs nmany mat told hw) (cwV 2 hts gX11_laysWorst_X11_farOf rfl rfl rfl (by decide +kernel) ⟨(Nat.le_of_ble_eq_true rfl), (Nat.le_of_ble_eq_true rfl)⟩) (fun _ => rfl) 0 9 rfl rfl rfl rfl hl.1 rfl (Nat.le_of_ble_eq_true rfl) dX11_laysWorst_53 ⟨(Nat.le_of_ble_eq_true rfl), (Nat.le_of_ble_eq_true rfl)⟩ (fun r12 u H locs hw hI => ?_)
                  try dsimp only at hw
                  have hI : wI s D A (fl [wMo K h st past acts image ipast iacts tape tmany laneOf sizeOf items seaFirst worstOf_20 farTo stepsTo needs nmany mat told]) H locs := hI
                  refine lv_isub hx hb dX11_laysWorst_56 ?_
                  refine x_callSi (rest := []) hC hI [] (mX11_size l D K  _ (r11 - r12) hw) (va_cwS 1 hts gX11_laysWorst_X11_size rfl rfl rfl (by decide +kernel) ⟨(Nat.le_of_ble_eq_true rfl), (Nat.le_of_ble_eq_true rfl)⟩) (by decide) rfl (fun _ => rfl) rfl hl.1 rfl (Nat.le_of_ble_eq_true rfl) dX11_laysWorst_57 ⟨(Nat.le_of_ble_eq_true rfl), (Nat.le_of_ble_eq_true rfl)⟩ (fun r13 u H locs hw hI => ?_)
                  try dsimp only at hw
                  have hI : wI s D A (fl [wMo K h st past acts image ipast iacts tape tmany laneOf sizeOf items seaFirst worstOf_20 farTo stepsTo needs nmany mat told]) H locs := hI
                  refine lv_istore_n (lv' := [(3, .int r13), (0, .ref (h 0)), (1, .int l1_9), (2, .int l2_20)]) hx hb dX11_laysWorst_60 rfl hl (by decide) rfl (fun ls hl => ?_)
                  refine lv_iload_n hx hb dX11_laysWorst_61 rfl (lv_at hl 0 rfl) ?_
                  refine lv_aload_n hx hb dX11_laysWorst_62 rfl (lv_at hl 1 rfl) ?_
                  refine x_get (v := .ref (h 10)) hC hI kX11_laysWorst_cX11 0 rfl rfl 12 (by decide) kX11_laysWorst_0 rfl rfl dX11_laysWorst_63 ?_
                  refine lv_iconst (v := (0 : Int32)) hx hb dX11_laysWorst_66 (by decide) ?_
                  refine x_iald (f := worstOf_20) hC hI 10 rfl (by unfold vp_in; decide) dX11_laysWorst_67 ?_
                  refine lv_icmp_le (tgt := 92) hx hb dX11_laysWorst_68 (by decide) (fun c14 => ?_) (fun c14 => ?_)
                  · replace hw := hw.1 c14
                    obtain ⟨x15, ex15⟩ : ∃ y : Int32, y = l2_20 + 1 := ⟨_, rfl⟩
                    replace hw := hw x15 ex15
                    refine lv_iinc (v := x15) (lv' := [(2, .int x15), (3, .int r13), (0, .ref (h 0)), (1, .int l1_9)]) hx hb dX11_laysWorst_92 hl (k := 3) rfl (by rw [ex15]; rfl) (by decide) rfl (fun ls hl => ?_)
                    refine lv_goto (tgt := 20) hx hb dX11_laysWorst_95 (by decide) ?_
                    exact ih20 x15 worstOf_20 ls H locs (Nat.lt_of_lt_of_le hw.2 (Nat.le_of_lt_succ hmu20)) hw.1 hI (lv_sub hl [2, 3, 0] rfl)
                  · replace hw := hw.2 c14
                    refine lv_aload_n hx hb dX11_laysWorst_71 rfl (lv_at hl 1 rfl) ?_
                    refine x_get (v := .ref (h 10)) hC hI kX11_laysWorst_cX11 0 rfl rfl 12 (by decide) kX11_laysWorst_0 rfl rfl dX11_laysWorst_72 ?_
                    refine lv_iconst (v := (0 : Int32)) hx hb dX11_laysWorst_75 (by decide) ?_
                    refine lv_iload_n hx hb dX11_laysWorst_76 rfl (lv_at hl 0 rfl) ?_
                    refine x_iast (f := worstOf_20) hC hI 10 rfl (by unfold vp_in; decide) dX11_laysWorst_77 (fun H locs hI => ?_)
                    have hI : wI s D A (fl [wMo K h st past acts image ipast iacts tape tmany laneOf sizeOf items seaFirst (upd worstOf_20 0 r13) farTo stepsTo needs nmany mat told]) H locs := hI
                    refine lv_aload_n hx hb dX11_laysWorst_78 rfl (lv_at hl 1 rfl) ?_
                    refine x_get (v := .ref (h 10)) hC hI kX11_laysWorst_cX11 0 rfl rfl 12 (by decide) kX11_laysWorst_0 rfl rfl dX11_laysWorst_79 ?_
                    refine lv_iconst (v := (1 : Int32)) hx hb dX11_laysWorst_82 (by decide) ?_
                    refine lv_iload_n hx hb dX11_laysWorst_83 rfl (lv_at hl 2 rfl) ?_
                    refine x_iast (f := (upd worstOf_20 0 r13)) hC hI 10 rfl (by unfold vp_in; decide) dX11_laysWorst_84 (fun H locs hI => ?_)
                    have hI : wI s D A (fl [wMo K h st past acts image ipast iacts tape tmany laneOf sizeOf items seaFirst (upd (upd worstOf_20 0 r13) 1 l1_9) farTo stepsTo needs nmany mat told]) H locs := hI
                    refine lv_aload_n hx hb dX11_laysWorst_85 rfl (lv_at hl 1 rfl) ?_
                    refine x_get (v := .ref (h 10)) hC hI kX11_laysWorst_cX11 0 rfl rfl 12 (by decide) kX11_laysWorst_0 rfl rfl dX11_laysWorst_86 ?_
                    refine lv_iconst (v := (2 : Int32)) hx hb dX11_laysWorst_89 (by decide) ?_
                    refine lv_iload_n hx hb dX11_laysWorst_90 rfl (lv_at hl 3 rfl) ?_
                    refine x_iast (f := (upd (upd worstOf_20 0 r13) 1 l1_9)) hC hI 10 rfl (by unfold vp_in; decide) dX11_laysWorst_91 (fun H locs hI => ?_)
                    have hI : wI s D A (fl [wMo K h st past acts image ipast iacts tape tmany laneOf sizeOf items seaFirst (upd (upd (upd worstOf_20 0 r13) 1 l1_9) 2 l2_20) farTo stepsTo needs nmany mat told]) H locs := hI
                    obtain ⟨x16, ex16⟩ : ∃ y : Int32, y = l2_20 + 1 := ⟨_, rfl⟩
                    replace hw := hw x16 ex16
                    refine lv_iinc (v := x16) (lv' := [(2, .int x16), (3, .int r13), (0, .ref (h 0)), (1, .int l1_9)]) hx hb dX11_laysWorst_92 hl (k := 3) rfl (by rw [ex16]; rfl) (by decide) rfl (fun ls hl => ?_)
                    refine lv_goto (tgt := 20) hx hb dX11_laysWorst_95 (by decide) ?_
                    exact ih20 x16 (upd (upd (upd worstOf_20 0 r13) 1 l1_9) 2 l2_20) ls H locs (Nat.lt_of_lt_of_le hw.2 (Nat.le_of_lt_succ hmu20)) hw.1 hI (lv_sub hl [2, 3, 0] rfl)
        exact lp20 (mu20 x2 worstOf_9 + 1) x2 worstOf_9 ls H locs (Nat.lt_succ_self _) hw hI (lv_sub hl [1, 2, 0] rfl)
  exact lp9 (mu9 (0 : Int32) (upd worstOf 0 (-1 : Int32)) + 1) (0 : Int32) (upd worstOf 0 (-1 : Int32)) ls H locs (Nat.lt_succ_self _) hw hI (lv_sub hl [1, 0] rfl)

def wX11_worst (a1 : Int32) (st : Nat → Int32) (worstOf : Nat → Int32) (post : Int32 → (Nat → Int32) → Prop) : Prop := wX11_in a1 (0 : Int32) (2 : Int32) (fun (r1 : Int32) => ((r1 = 0 → post (-1 : Int32) worstOf) ∧ (¬ r1 = 0 → wX11_laysWorst st worstOf (fun (worstOf_c3 : Nat → Int32) => vp_in a1 3 ∧ post (worstOf_c3 a1.toNatClampNeg) worstOf_c3))))
def rmX11_worst : Room := { frames := 8, cells := 0, slots := 0, locals := 178 }
theorem kX11_worst_0 : Cond.fieldLink RX11 42 "GoreGlobeModel" "worstOf" "[I" ∈ wsX11_worst := List.mem_cons_of_mem _ (List.mem_append_left _ (List.mem_append_left _ (List.mem_of_getElem? (i := 0) rfl)))
theorem kX11_worst_cX11 : ∀ w ∈ wsX110, w ∈ wsX11_worst := fun _ h => List.mem_cons_of_mem _ (List.mem_append_right _ h)
set_option maxHeartbeats 4000000 in
set_option maxRecDepth 100000 in
theorem mX11_worst (l : Launch) (D : va_G) (K : Nat → ClassId) (h : Nat → Nat) (sz : Nat) (a1 : Int32) (st : Nat → Int32) (past : Nat → Int32) (acts : Int32) (image : Nat → Int32) (ipast : Nat → Int32) (iacts : Int32) (tape : Nat → Int32) (tmany : Int32) (laneOf : Nat → Int32) (sizeOf : Nat → Int32) (items : Nat → Int64) (seaFirst : Nat → Int32) (worstOf : Nat → Int32) (farTo : Nat → Int32) (stepsTo : Nat → Int32) (needs : Nat → Int32) (nmany : Int32) (mat : Int32) (told : Nat → Int32)  {post : Int32 → (Nat → Int32) → Prop} (hw : wX11_worst a1 st worstOf post) : Met l yX11_worst wsX11_worst rmX11_worst (va_Pc [.ref (h 0), .int a1] (cP D K (fl [wMo K h st past acts image ipast iacts tape tmany laneOf sizeOf items seaFirst worstOf farTo stepsTo needs nmany mat told]) sz)) (va_Qi (fun (r : Int32) (u : (Nat → Int32)) => post r u) (fun u t => cQ D K (fl [wMo K h st past acts image ipast iacts tape tmany laneOf sizeOf items seaFirst u farTo stepsTo needs nmany mat told]) (va_A (fl [wMo K h st past acts image ipast iacts tape tmany laneOf sizeOf items seaFirst worstOf farTo stepsTo needs nmany mat told]) sz) t) (va_A (fl [wMo K h st past acts image ipast iacts tape tmany laneOf sizeOf items seaFirst worstOf farTo stepsTo needs nmany mat told]) sz)) 0 0 (va_A (fl [wMo K h st past acts image ipast iacts tape tmany laneOf sizeOf items seaFirst worstOf farTo stepsTo needs nmany mat told]) sz) := by
  refine x_entry (cc := cX11_worst) (maxL := 2) (ret := (some .int)) (QA := fun A => va_Qi (fun (r : Int32) (u : (Nat → Int32)) => post r u) (fun u t => cQ D K (fl [wMo K h st past acts image ipast iacts tape tmany laneOf sizeOf items seaFirst u farTo stepsTo needs nmany mat told]) A t) A) (plainFor_of_name (by decide)) rfl (Nat.le_of_ble_eq_true rfl) ?_
  intro p e s m args below meth c A ls H Q hQ hC hlk hr hnm hI hl
  obtain ⟨hx, hb, hml, hown, hts, hK, hA, hZ⟩ := id hC
  obtain ⟨locs, hlocs⟩ : ∃ y : List Loc, y = [] := ⟨_, rfl⟩
  rw [← hlocs] at hI ⊢
  clear hlocs
  replace hl : lv_has ls 2 [(0, .ref (h 0)), (1, .int a1)] := hl
  replace hw : wX11_in a1 (0 : Int32) (2 : Int32) (fun (r1 : Int32) => ((r1 = 0 → post (-1 : Int32) worstOf) ∧ (¬ r1 = 0 → wX11_laysWorst st worstOf (fun (worstOf_c3 : Nat → Int32) => vp_in a1 3 ∧ post (worstOf_c3 a1.toNatClampNeg) worstOf_c3)))) := hw
  refine lv_iload_n hx hb dX11_worst_0 rfl (lv_at hl 1 rfl) ?_
  refine lv_iconst (v := (0 : Int32)) hx hb dX11_worst_1 (by decide) ?_
  refine lv_iconst (v := (2 : Int32)) hx hb dX11_worst_2 (by decide) ?_
  refine x_callSi (rest := []) hC hI [] (mX11_in l D K  _ a1 (0 : Int32) (2 : Int32) hw) (va_cwS 3 hts gX11_worst_X11_in rfl rfl rfl (by decide +kernel) ⟨(Nat.le_of_ble_eq_true rfl), (Nat.le_of_ble_eq_true rfl)⟩) (by decide) rfl (fun _ => rfl) rfl hl.1 rfl (Nat.le_of_ble_eq_true rfl) dX11_worst_3 ⟨(Nat.le_of_ble_eq_true rfl), (Nat.le_of_ble_eq_true rfl)⟩ (fun r1 u H locs hw hI => ?_)
  try dsimp only at hw
  have hI : wI s D A (fl [wMo K h st past acts image ipast iacts tape tmany laneOf sizeOf items seaFirst worstOf farTo stepsTo needs nmany mat told]) H locs := hI
  refine lv_if_ne (tgt := 11) hx hb dX11_worst_6 (by decide) (fun c2 => ?_) (fun c2 => ?_)
  · replace hw := hw.2 c2
    refine lv_aload_n hx hb dX11_worst_11 rfl (lv_at hl 0 rfl) ?_
    refine x_callWv (rest := []) hC hI (mX11_laysWorst l D K h _ st past acts image ipast iacts tape tmany laneOf sizeOf items seaFirst worstOf farTo stepsTo needs nmany mat told hw) (cwV 0 hts gX11_worst_X11_laysWorst rfl rfl rfl (by decide +kernel) ⟨(Nat.le_of_ble_eq_true rfl), (Nat.le_of_ble_eq_true rfl)⟩) (fun _ => rfl) 0 9 rfl rfl rfl rfl hl.1 rfl (Nat.le_of_ble_eq_true rfl) dX11_worst_12 ⟨(Nat.le_of_ble_eq_true rfl), (Nat.le_of_ble_eq_true rfl)⟩ (fun worstOf_c3 H locs hw hI => ?_)
    have hI : wI s D A (fl [wMo K h st past acts image ipast iacts tape tmany laneOf sizeOf items seaFirst worstOf_c3 farTo stepsTo needs nmany mat told]) H locs := hI
    refine lv_aload_n hx hb dX11_worst_15 rfl (lv_at hl 0 rfl) ?_
    refine x_get (v := .ref (h 10)) hC hI kX11_worst_cX11 0 rfl rfl 12 (by decide) kX11_worst_0 rfl rfl dX11_worst_16 ?_
    refine lv_iload_n hx hb dX11_worst_19 rfl (lv_at hl 1 rfl) ?_
    obtain ⟨hc4, hw⟩ := hw
    refine x_iald (f := worstOf_c3) hC hI 10 rfl hc4 dX11_worst_20 ?_
    subst hQ
    exact x_iret (u := worstOf_c3) hC hI hr hlk hw rfl dX11_worst_21
  · replace hw := hw.1 c2
    refine lv_iconst (v := (-1 : Int32)) hx hb dX11_worst_9 (by decide) ?_
    subst hQ
    exact x_iret (u := worstOf) hC hI hr hlk hw rfl dX11_worst_10

def wX11_isShorter (a1 : Int32) (a2 : Int32) (st : Nat → Int32) (farTo : Nat → Int32) (stepsTo : Nat → Int32) (post : Int32 → Prop) : Prop := vp_in a2 266 ∧ wX11_farOf a1 a2 st (fun (r2 : Int32) => ∀ x3 : Int32, x3 = (farTo a2.toNatClampNeg) + r2 → vp_in a2 266 ∧ ∀ x5 : Int32, x5 = (stepsTo a2.toNatClampNeg) + (1 : Int32) → vp_in a2 266 ∧ (((100000000 : Int32) ≤ (farTo a2.toNatClampNeg) → post (0 : Int32)) ∧ (¬ (100000000 : Int32) ≤ (farTo a2.toNatClampNeg) → vp_in a1 266 ∧ ((x3 < (farTo a1.toNatClampNeg) → post (1 : Int32)) ∧ (¬ x3 < (farTo a1.toNatClampNeg) → vp_in a1 266 ∧ ((x3 = (farTo a1.toNatClampNeg) → vp_in a1 266 ∧ (((stepsTo a1.toNatClampNeg) ≤ x5 → post (0 : Int32)) ∧ (¬ (stepsTo a1.toNatClampNeg) ≤ x5 → post (1 : Int32)))) ∧ (¬ x3 = (farTo a1.toNatClampNeg) → post (0 : Int32))))))))
def rmX11_isShorter : Room := { frames := 5, cells := 0, slots := 0, locals := 105 }
theorem kX11_isShorter_0 : Cond.fieldLink RX11 45 "GoreGlobeModel" "farTo" "[I" ∈ wsX11_isShorter := List.mem_cons_of_mem _ (List.mem_append_left _ (List.mem_append_left _ (List.mem_of_getElem? (i := 0) rfl)))
theorem kX11_isShorter_cX11 : ∀ w ∈ wsX110, w ∈ wsX11_isShorter := fun _ h => List.mem_cons_of_mem _ (List.mem_append_right _ h)
theorem kX11_isShorter_2 : Cond.fieldLink RX11 48 "GoreGlobeModel" "stepsTo" "[I" ∈ wsX11_isShorter := List.mem_cons_of_mem _ (List.mem_append_left _ (List.mem_append_left _ (List.mem_of_getElem? (i := 1) rfl)))
theorem kX11_isShorter_3 : Cond.constant RX11 155 (100000000) ∈ wsX11_isShorter := List.mem_cons_of_mem _ (List.mem_append_left _ (List.mem_append_left _ (List.mem_of_getElem? (i := 2) rfl)))
set_option maxHeartbeats 4000000 in
set_option maxRecDepth 100000 in
theorem mX11_isShorter (l : Launch) (D : va_G) (K : Nat → ClassId) (h : Nat → Nat) (sz : Nat) (a1 : Int32) (a2 : Int32) (st : Nat → Int32) (past : Nat → Int32) (acts : Int32) (image : Nat → Int32) (ipast : Nat → Int32) (iacts : Int32) (tape : Nat → Int32) (tmany : Int32) (laneOf : Nat → Int32) (sizeOf : Nat → Int32) (items : Nat → Int64) (seaFirst : Nat → Int32) (worstOf : Nat → Int32) (farTo : Nat → Int32) (stepsTo : Nat → Int32) (needs : Nat → Int32) (nmany : Int32) (mat : Int32) (told : Nat → Int32)  {post : Int32 → Prop} (hw : wX11_isShorter a1 a2 st farTo stepsTo post) : Met l yX11_isShorter wsX11_isShorter rmX11_isShorter (va_Pc [.ref (h 0), .int a1, .int a2] (cP D K (fl [wMo K h st past acts image ipast iacts tape tmany laneOf sizeOf items seaFirst worstOf farTo stepsTo needs nmany mat told]) sz)) (va_Qi (fun (r : Int32) (u : Unit) => post r) (fun u t => cQ D K (fl [wMo K h st past acts image ipast iacts tape tmany laneOf sizeOf items seaFirst worstOf farTo stepsTo needs nmany mat told]) (va_A (fl [wMo K h st past acts image ipast iacts tape tmany laneOf sizeOf items seaFirst worstOf farTo stepsTo needs nmany mat told]) sz) t) (va_A (fl [wMo K h st past acts image ipast iacts tape tmany laneOf sizeOf items seaFirst worstOf farTo stepsTo needs nmany mat told]) sz)) 0 0 (va_A (fl [wMo K h st past acts image ipast iacts tape tmany laneOf sizeOf items seaFirst worstOf farTo stepsTo needs nmany mat told]) sz) := by
  refine x_entry (cc := cX11_isShorter) (maxL := 5) (ret := (some .boolean)) (QA := fun A => va_Qi (fun (r : Int32) (u : Unit) => post r) (fun u t => cQ D K (fl [wMo K h st past acts image ipast iacts tape tmany laneOf sizeOf items seaFirst worstOf farTo stepsTo needs nmany mat told]) A t) A) (plainFor_of_name (by decide)) rfl (Nat.le_of_ble_eq_true rfl) ?_
  intro p e s m args below meth c A ls H Q hQ hC hlk hr hnm hI hl
  obtain ⟨hx, hb, hml, hown, hts, hK, hA, hZ⟩ := id hC
  obtain ⟨locs, hlocs⟩ : ∃ y : List Loc, y = [] := ⟨_, rfl⟩
  rw [← hlocs] at hI ⊢
  clear hlocs
  replace hl : lv_has ls 5 [(0, .ref (h 0)), (1, .int a1), (2, .int a2)] := hl
  replace hw : vp_in a2 266 ∧ wX11_farOf a1 a2 st (fun (r2 : Int32) => ∀ x3 : Int32, x3 = (farTo a2.toNatClampNeg) + r2 → vp_in a2 266 ∧ ∀ x5 : Int32, x5 = (stepsTo a2.toNatClampNeg) + (1 : Int32) → vp_in a2 266 ∧ (((100000000 : Int32) ≤ (farTo a2.toNatClampNeg) → post (0 : Int32)) ∧ (¬ (100000000 : Int32) ≤ (farTo a2.toNatClampNeg) → vp_in a1 266 ∧ ((x3 < (farTo a1.toNatClampNeg) → post (1 : Int32)) ∧ (¬ x3 < (farTo a1.toNatClampNeg) → vp_in a1 266 ∧ ((x3 = (farTo a1.toNatClampNeg) → vp_in a1 266 ∧ (((stepsTo a1.toNatClampNeg) ≤ x5 → post (0 : Int32)) ∧ (¬ (stepsTo a1.toNatClampNeg) ≤ x5 → post (1 : Int32)))) ∧ (¬ x3 = (farTo a1.toNatClampNeg) → post (0 : Int32)))))))) := hw
  refine lv_aload_n hx hb dX11_isShorter_0 rfl (lv_at hl 0 rfl) ?_
  refine x_get (v := .ref (h 11)) hC hI kX11_isShorter_cX11 0 rfl rfl 13 (by decide) kX11_isShorter_0 rfl rfl dX11_isShorter_1 ?_
  refine lv_iload_n hx hb dX11_isShorter_4 rfl (lv_at hl 2 rfl) ?_
  obtain ⟨hc1, hw⟩ := hw
  refine x_iald (f := farTo) hC hI 11 rfl hc1 dX11_isShorter_5 ?_
  refine lv_aload_n hx hb dX11_isShorter_6 rfl (lv_at hl 0 rfl) ?_
  refine lv_iload_n hx hb dX11_isShorter_7 rfl (lv_at hl 1 rfl) ?_
  refine lv_iload_n hx hb dX11_isShorter_8 rfl (lv_at hl 2 rfl) ?_
  refine x_callWi (rest := [.int (farTo a2.toNatClampNeg)]) hC hI (mX11_farOf l D K h _ a1 a2 st past acts image ipast iacts tape tmany laneOf sizeOf items seaFirst worstOf farTo stepsTo needs nmany mat told hw) (cwV 2 hts gX11_isShorter_X11_farOf rfl rfl rfl (by decide +kernel) ⟨(Nat.le_of_ble_eq_true rfl), (Nat.le_of_ble_eq_true rfl)⟩) (fun _ => rfl) 0 9 rfl rfl rfl rfl hl.1 rfl (Nat.le_of_ble_eq_true rfl) dX11_isShorter_9 ⟨(Nat.le_of_ble_eq_true rfl), (Nat.le_of_ble_eq_true rfl)⟩ (fun r2 u H locs hw hI => ?_)
  try dsimp only at hw
  have hI : wI s D A (fl [wMo K h st past acts image ipast iacts tape tmany laneOf sizeOf items seaFirst worstOf farTo stepsTo needs nmany mat told]) H locs := hI
  refine lv_iadd hx hb dX11_isShorter_12 ?_
  refine lv_topi (fun x3 ex3 => ?_)
  replace hw := hw x3 ex3
  refine lv_istore_n (lv' := [(3, .int x3), (0, .ref (h 0)), (1, .int a1), (2, .int a2)]) hx hb dX11_isShorter_13 rfl hl (by decide) rfl (fun ls hl => ?_)
  refine lv_aload_n hx hb dX11_isShorter_14 rfl (lv_at hl 1 rfl) ?_
  refine x_get (v := .ref (h 12)) hC hI kX11_isShorter_cX11 0 rfl rfl 14 (by decide) kX11_isShorter_2 rfl rfl dX11_isShorter_15 ?_
  refine lv_iload_n hx hb dX11_isShorter_18 rfl (lv_at hl 3 rfl) ?_
  obtain ⟨hc4, hw⟩ := hw
  refine x_iald (f := stepsTo) hC hI 12 rfl hc4 dX11_isShorter_19 ?_
  refine lv_iconst (v := (1 : Int32)) hx hb dX11_isShorter_20 (by decide) ?_
  refine lv_iadd hx hb dX11_isShorter_21 ?_
  refine lv_topi (fun x5 ex5 => ?_)
  replace hw := hw x5 ex5
  refine lv_istore (lv' := [(4, .int x5), (3, .int x3), (0, .ref (h 0)), (1, .int a1), (2, .int a2)]) hx hb dX11_isShorter_22 hl (by decide) rfl (fun ls hl => ?_)
  refine lv_aload_n hx hb dX11_isShorter_24 rfl (lv_at hl 2 rfl) ?_
  refine x_get (v := .ref (h 11)) hC hI kX11_isShorter_cX11 0 rfl rfl 13 (by decide) kX11_isShorter_0 rfl rfl dX11_isShorter_25 ?_
  refine lv_iload_n hx hb dX11_isShorter_28 rfl (lv_at hl 4 rfl) ?_
  obtain ⟨hc6, hw⟩ := hw
  refine x_iald (f := farTo) hC hI 11 rfl hc6 dX11_isShorter_29 ?_
  refine lv_ldc (v := (100000000 : Int32)) hx hb hown (hts _ kX11_isShorter_3) dX11_isShorter_30 ?_
  refine lv_icmp_ge (tgt := 70) hx hb dX11_isShorter_32 (by decide) (fun c7 => ?_) (fun c7 => ?_)
  · replace hw := hw.1 c7
    refine lv_iconst (v := (0 : Int32)) hx hb dX11_isShorter_70 (by decide) ?_
    subst hQ
    exact x_zret (u := ()) hC hI hr hlk hw rfl (Or.inl rfl) dX11_isShorter_71
  · replace hw := hw.2 c7
    refine lv_iload_n hx hb dX11_isShorter_35 rfl (lv_at hl 1 rfl) ?_
    refine lv_aload_n hx hb dX11_isShorter_36 rfl (lv_at hl 2 rfl) ?_
    refine x_get (v := .ref (h 11)) hC hI kX11_isShorter_cX11 0 rfl rfl 13 (by decide) kX11_isShorter_0 rfl rfl dX11_isShorter_37 ?_
    refine lv_iload_n hx hb dX11_isShorter_40 rfl (lv_at hl 3 rfl) ?_
    obtain ⟨hc8, hw⟩ := hw
    refine x_iald (f := farTo) hC hI 11 rfl hc8 dX11_isShorter_41 ?_
    refine lv_icmp_lt (tgt := 66) hx hb dX11_isShorter_42 (by decide) (fun c9 => ?_) (fun c9 => ?_)
    · replace hw := hw.1 c9
      refine lv_iconst (v := (1 : Int32)) hx hb dX11_isShorter_66 (by decide) ?_
      refine lv_goto (tgt := 71) hx hb dX11_isShorter_67 (by decide) ?_
      subst hQ
      exact x_zret (u := ()) hC hI hr hlk hw rfl (Or.inr rfl) dX11_isShorter_71
    · replace hw := hw.2 c9
      refine lv_iload_n hx hb dX11_isShorter_45 rfl (lv_at hl 1 rfl) ?_
      refine lv_aload_n hx hb dX11_isShorter_46 rfl (lv_at hl 2 rfl) ?_
      refine x_get (v := .ref (h 11)) hC hI kX11_isShorter_cX11 0 rfl rfl 13 (by decide) kX11_isShorter_0 rfl rfl dX11_isShorter_47 ?_
      refine lv_iload_n hx hb dX11_isShorter_50 rfl (lv_at hl 3 rfl) ?_
      obtain ⟨hc10, hw⟩ := hw
      refine x_iald (f := farTo) hC hI 11 rfl hc10 dX11_isShorter_51 ?_
      refine lv_icmp_ne (tgt := 70) hx hb dX11_isShorter_52 (by decide) (fun c11 => ?_) (fun c11 => ?_)
      · replace hw := hw.2 c11
        refine lv_iconst (v := (0 : Int32)) hx hb dX11_isShorter_70 (by decide) ?_
        subst hQ
        exact x_zret (u := ()) hC hI hr hlk hw rfl (Or.inl rfl) dX11_isShorter_71
      · replace hw := hw.1 c11
        refine lv_iload hx hb dX11_isShorter_55 (lv_at hl 0 rfl) ?_
        refine lv_aload_n hx hb dX11_isShorter_57 rfl (lv_at hl 2 rfl) ?_
        refine x_get (v := .ref (h 12)) hC hI kX11_isShorter_cX11 0 rfl rfl 14 (by decide) kX11_isShorter_2 rfl rfl dX11_isShorter_58 ?_
        refine lv_iload_n hx hb dX11_isShorter_61 rfl (lv_at hl 3 rfl) ?_
        obtain ⟨hc12, hw⟩ := hw
        refine x_iald (f := stepsTo) hC hI 12 rfl hc12 dX11_isShorter_62 ?_
        refine lv_icmp_ge (tgt := 70) hx hb dX11_isShorter_63 (by decide) (fun c13 => ?_) (fun c13 => ?_)
        · replace hw := hw.1 c13
          refine lv_iconst (v := (0 : Int32)) hx hb dX11_isShorter_70 (by decide) ?_
          subst hQ
          exact x_zret (u := ()) hC hI hr hlk hw rfl (Or.inl rfl) dX11_isShorter_71
        · replace hw := hw.2 c13
          refine lv_iconst (v := (1 : Int32)) hx hb dX11_isShorter_66 (by decide) ?_
          refine lv_goto (tgt := 71) hx hb dX11_isShorter_67 (by decide) ?_
          subst hQ
          exact x_zret (u := ()) hC hI hr hlk hw rfl (Or.inr rfl) dX11_isShorter_71
