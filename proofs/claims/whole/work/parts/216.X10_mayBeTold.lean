def wX10_mayBeTold (a0 : Int32) (a1 : Int32)  (post : Int32 → Prop) : Prop := ((a0 = (0 : Int32) → wX10_isIn a1 (10 : Int32) (200 : Int32) (fun (r2 : Int32) => (r2 = 0 ∨ r2 = 1) ∧ post r2)) ∧ (¬ a0 = (0 : Int32) → ((a0 = (1 : Int32) → wX10_isStripNumber a1 (fun (r5 : Int32) => (r5 = 0 ∨ r5 = 1) ∧ post r5)) ∧ (¬ a0 = (1 : Int32) → ((a0 = (2 : Int32) → wX10_isIn a1 (0 : Int32) (3 : Int32) (fun (r8 : Int32) => (r8 = 0 ∨ r8 = 1) ∧ post r8)) ∧ (¬ a0 = (2 : Int32) → post (0 : Int32)))))))
def rmX10_mayBeTold : Room := { frames := 1, cells := 0, slots := 0, locals := 24 }
set_option maxHeartbeats 4000000 in
set_option maxRecDepth 100000 in
theorem mX10_mayBeTold (l : Launch) (D : va_G) (K : Nat → ClassId)  (sz : Nat) (a0 : Int32) (a1 : Int32)   {post : Int32 → Prop} (hw : wX10_mayBeTold a0 a1  post) : Met l yX10_mayBeTold wsX10_mayBeTold rmX10_mayBeTold (va_Pc [.int a0, .int a1] (cP D K (fl []) sz)) (va_Qi (fun (r : Int32) (u : Unit) => post r) (fun u t => cQ D K (fl []) (va_A (fl []) sz) t) (va_A (fl []) sz)) 0 0 (va_A (fl []) sz) := by
  refine x_entry (cc := cX10_mayBeTold) (maxL := 2) (ret := (some .boolean)) (QA := fun A => va_Qi (fun (r : Int32) (u : Unit) => post r) (fun u t => cQ D K (fl []) A t) A) (plainFor_of_name (by decide)) rfl (Nat.le_of_ble_eq_true rfl) ?_
  intro p e s m args below meth c A ls H Q hQ hC hlk hr hnm hI hl
  obtain ⟨hx, hb, hml, hown, hts, hK, hA, hZ⟩ := id hC
  obtain ⟨locs, hlocs⟩ : ∃ y : List Loc, y = [] := ⟨_, rfl⟩
  rw [← hlocs] at hI ⊢
  clear hlocs
  replace hl : lv_has ls 2 [(0, .int a0), (1, .int a1)] := hl
  replace hw : ((a0 = (0 : Int32) → wX10_isIn a1 (10 : Int32) (200 : Int32) (fun (r2 : Int32) => (r2 = 0 ∨ r2 = 1) ∧ post r2)) ∧ (¬ a0 = (0 : Int32) → ((a0 = (1 : Int32) → wX10_isStripNumber a1 (fun (r5 : Int32) => (r5 = 0 ∨ r5 = 1) ∧ post r5)) ∧ (¬ a0 = (1 : Int32) → ((a0 = (2 : Int32) → wX10_isIn a1 (0 : Int32) (3 : Int32) (fun (r8 : Int32) => (r8 = 0 ∨ r8 = 1) ∧ post r8)) ∧ (¬ a0 = (2 : Int32) → post (0 : Int32))))))) := hw
  refine lv_iload_n hx hb dX10_mayBeTold_0 rfl (lv_at hl 0 rfl) ?_
  by_cases c1 : a0 = (0 : Int32)
  · replace hw := hw.1 c1
    refine lv_tableIn (off := 27) (tgt := 28) hx hb dX10_mayBeTold_1 (by rw [c1]; decide) (by rw [c1]; decide) (by rw [c1]; rfl) (by decide) ?_
    refine lv_iload_n hx hb dX10_mayBeTold_28 rfl (lv_at hl 1 rfl) ?_
    refine lv_bipush (v := (10 : Int32)) hx hb dX10_mayBeTold_29 (by decide) ?_
    refine lv_sipush (v := (200 : Int32)) hx hb dX10_mayBeTold_31 (by decide) ?_
    refine x_callSi (rest := []) hC hI [] (mX10_isIn l D K  _ a1 (10 : Int32) (200 : Int32) hw) (va_cwS 3 hts gX10_mayBeTold_X10_isIn rfl rfl rfl (by decide +kernel) ⟨(Nat.le_of_ble_eq_true rfl), (Nat.le_of_ble_eq_true rfl)⟩) (by decide) rfl (fun _ => rfl) rfl hl.1 rfl (Nat.le_of_ble_eq_true rfl) dX10_mayBeTold_34 ⟨(Nat.le_of_ble_eq_true rfl), (Nat.le_of_ble_eq_true rfl)⟩ (fun r2 u H locs hw hI => ?_)
    try dsimp only at hw
    have hI : wI s D A (fl []) H locs := hI
    obtain ⟨hc3, hw⟩ := hw
    subst hQ
    exact x_zret (u := ()) hC hI hr hlk hw rfl hc3 dX10_mayBeTold_37
  · replace hw := hw.2 c1
    by_cases c4 : a0 = (1 : Int32)
    · replace hw := hw.1 c4
      refine lv_tableIn (off := 37) (tgt := 38) hx hb dX10_mayBeTold_1 (by rw [c4]; decide) (by rw [c4]; decide) (by rw [c4]; rfl) (by decide) ?_
      refine lv_iload_n hx hb dX10_mayBeTold_38 rfl (lv_at hl 1 rfl) ?_
      refine x_callSi (rest := []) hC hI [] (mX10_isStripNumber l D K  _ a1 hw) (va_cwS 1 hts gX10_mayBeTold_X10_isStripNumber rfl rfl rfl (by decide +kernel) ⟨(Nat.le_of_ble_eq_true rfl), (Nat.le_of_ble_eq_true rfl)⟩) (by decide) rfl (fun _ => rfl) rfl hl.1 rfl (Nat.le_of_ble_eq_true rfl) dX10_mayBeTold_39 ⟨(Nat.le_of_ble_eq_true rfl), (Nat.le_of_ble_eq_true rfl)⟩ (fun r5 u H locs hw hI => ?_)
      try dsimp only at hw
      have hI : wI s D A (fl []) H locs := hI
      obtain ⟨hc6, hw⟩ := hw
      subst hQ
      exact x_zret (u := ()) hC hI hr hlk hw rfl hc6 dX10_mayBeTold_42
    · replace hw := hw.2 c4
      by_cases c7 : a0 = (2 : Int32)
      · replace hw := hw.1 c7
        refine lv_tableIn (off := 42) (tgt := 43) hx hb dX10_mayBeTold_1 (by rw [c7]; decide) (by rw [c7]; decide) (by rw [c7]; rfl) (by decide) ?_
        refine lv_iload_n hx hb dX10_mayBeTold_43 rfl (lv_at hl 1 rfl) ?_
        refine lv_iconst (v := (0 : Int32)) hx hb dX10_mayBeTold_44 (by decide) ?_
        refine lv_iconst (v := (3 : Int32)) hx hb dX10_mayBeTold_45 (by decide) ?_
        refine x_callSi (rest := []) hC hI [] (mX10_isIn l D K  _ a1 (0 : Int32) (3 : Int32) hw) (va_cwS 3 hts gX10_mayBeTold_X10_isIn rfl rfl rfl (by decide +kernel) ⟨(Nat.le_of_ble_eq_true rfl), (Nat.le_of_ble_eq_true rfl)⟩) (by decide) rfl (fun _ => rfl) rfl hl.1 rfl (Nat.le_of_ble_eq_true rfl) dX10_mayBeTold_46 ⟨(Nat.le_of_ble_eq_true rfl), (Nat.le_of_ble_eq_true rfl)⟩ (fun r8 u H locs hw hI => ?_)
        try dsimp only at hw
        have hI : wI s D A (fl []) H locs := hI
        obtain ⟨hc9, hw⟩ := hw
        subst hQ
        exact x_zret (u := ()) hC hI hr hlk hw rfl hc9 dX10_mayBeTold_49
      · replace hw := hw.2 c7
        refine lv_tableOut (tgt := 50) hx hb dX10_mayBeTold_1 (by have nc1 := lv_neT c1 (a := 0) rfl; have nc4 := lv_neT c4 (a := 1) rfl; have nc7 := lv_neT c7 (a := 2) rfl; omega) (by decide) ?_
        refine lv_iconst (v := (0 : Int32)) hx hb dX10_mayBeTold_50 (by decide) ?_
        subst hQ
        exact x_zret (u := ()) hC hI hr hlk hw rfl (Or.inl rfl) dX10_mayBeTold_51
