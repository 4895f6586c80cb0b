def wX10_isSheetOfLane (a0 : Int32) (a1 : Int32)  (post : Int32 → Prop) : Prop := wX10_isIn a0 (0 : Int32) (3 : Int32) (fun (r1 : Int32) => ((r1 = 0 → post (0 : Int32)) ∧ (¬ r1 = 0 → wX10_isIn a1 (0 : Int32) (3 : Int32) (fun (r3 : Int32) => ((r3 = 0 → post (0 : Int32)) ∧ (¬ r3 = 0 → post (1 : Int32)))))))
def rmX10_isSheetOfLane : Room := { frames := 1, cells := 0, slots := 0, locals := 22 }
set_option maxHeartbeats 4000000 in
set_option maxRecDepth 100000 in
theorem mX10_isSheetOfLane (l : Launch) (D : va_G) (K : Nat → ClassId)  (sz : Nat) (a0 : Int32) (a1 : Int32)   {post : Int32 → Prop} (hw : wX10_isSheetOfLane a0 a1  post) : Met l yX10_isSheetOfLane wsX10_isSheetOfLane rmX10_isSheetOfLane (va_Pc [.int a0, .int a1] (cP D K (fl []) sz)) (va_Qi (fun (r : Int32) (u : Unit) => post r) (fun u t => cQ D K (fl []) (va_A (fl []) sz) t) (va_A (fl []) sz)) 0 0 (va_A (fl []) sz) := by
  refine x_entry (cc := cX10_isSheetOfLane) (maxL := 2) (ret := (some .boolean)) (QA := fun A => va_Qi (fun (r : Int32) (u : Unit) => post r) (fun u t => cQ D K (fl []) A t) A) (plainFor_of_name (by decide)) rfl (Nat.le_of_ble_eq_true rfl) ?_
  intro p e s m args below meth c A ls H Q hQ hC hlk hr hnm hI hl
  obtain ⟨hx, hb, hml, hown, hts, hK, hA, hZ⟩ := id hC
  obtain ⟨locs, hlocs⟩ : ∃ y : List Loc, y = [] := ⟨_, rfl⟩
  rw [← hlocs] at hI ⊢
  clear hlocs
  replace hl : lv_has ls 2 [(0, .int a0), (1, .int a1)] := hl
  replace hw : wX10_isIn a0 (0 : Int32) (3 : Int32) (fun (r1 : Int32) => ((r1 = 0 → post (0 : Int32)) ∧ (¬ r1 = 0 → wX10_isIn a1 (0 : Int32) (3 : Int32) (fun (r3 : Int32) => ((r3 = 0 → post (0 : Int32)) ∧ (¬ r3 = 0 → post (1 : Int32))))))) := hw
  refine lv_iload_n hx hb dX10_isSheetOfLane_0 rfl (lv_at hl 0 rfl) ?_
  refine lv_iconst (v := (0 : Int32)) hx hb dX10_isSheetOfLane_1 (by decide) ?_
  refine lv_iconst (v := (3 : Int32)) hx hb dX10_isSheetOfLane_2 (by decide) ?_
  refine x_callSi (rest := []) hC hI [] (mX10_isIn l D K  _ a0 (0 : Int32) (3 : Int32) hw) (va_cwS 3 hts gX10_isSheetOfLane_X10_isIn rfl rfl rfl (by decide +kernel) ⟨(Nat.le_of_ble_eq_true rfl), (Nat.le_of_ble_eq_true rfl)⟩) (by decide) rfl (fun _ => rfl) rfl hl.1 rfl (Nat.le_of_ble_eq_true rfl) dX10_isSheetOfLane_3 ⟨(Nat.le_of_ble_eq_true rfl), (Nat.le_of_ble_eq_true rfl)⟩ (fun r1 u H locs hw hI => ?_)
  try dsimp only at hw
  have hI : wI s D A (fl []) H locs := hI
  refine lv_if_eq (tgt := 22) hx hb dX10_isSheetOfLane_6 (by decide) (fun c2 => ?_) (fun c2 => ?_)
  · replace hw := hw.1 c2
    refine lv_iconst (v := (0 : Int32)) hx hb dX10_isSheetOfLane_22 (by decide) ?_
    subst hQ
    exact x_zret (u := ()) hC hI hr hlk hw rfl (Or.inl rfl) dX10_isSheetOfLane_23
  · replace hw := hw.2 c2
    refine lv_iload_n hx hb dX10_isSheetOfLane_9 rfl (lv_at hl 1 rfl) ?_
    refine lv_iconst (v := (0 : Int32)) hx hb dX10_isSheetOfLane_10 (by decide) ?_
    refine lv_iconst (v := (3 : Int32)) hx hb dX10_isSheetOfLane_11 (by decide) ?_
    refine x_callSi (rest := []) hC hI [] (mX10_isIn l D K  _ a1 (0 : Int32) (3 : Int32) hw) (va_cwS 3 hts gX10_isSheetOfLane_X10_isIn rfl rfl rfl (by decide +kernel) ⟨(Nat.le_of_ble_eq_true rfl), (Nat.le_of_ble_eq_true rfl)⟩) (by decide) rfl (fun _ => rfl) rfl hl.1 rfl (Nat.le_of_ble_eq_true rfl) dX10_isSheetOfLane_12 ⟨(Nat.le_of_ble_eq_true rfl), (Nat.le_of_ble_eq_true rfl)⟩ (fun r3 u H locs hw hI => ?_)
    try dsimp only at hw
    have hI : wI s D A (fl []) H locs := hI
    refine lv_if_eq (tgt := 22) hx hb dX10_isSheetOfLane_15 (by decide) (fun c4 => ?_) (fun c4 => ?_)
    · replace hw := hw.1 c4
      refine lv_iconst (v := (0 : Int32)) hx hb dX10_isSheetOfLane_22 (by decide) ?_
      subst hQ
      exact x_zret (u := ()) hC hI hr hlk hw rfl (Or.inl rfl) dX10_isSheetOfLane_23
    · replace hw := hw.2 c4
      refine lv_iconst (v := (1 : Int32)) hx hb dX10_isSheetOfLane_18 (by decide) ?_
      refine lv_goto (tgt := 23) hx hb dX10_isSheetOfLane_19 (by decide) ?_
      subst hQ
      exact x_zret (u := ()) hC hI hr hlk hw rfl (Or.inr rfl) dX10_isSheetOfLane_23
