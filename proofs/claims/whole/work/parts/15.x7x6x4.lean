def wX4_keep  (oldest : Int32) (known : Int32) (ring : Nat → GS) (bits : Nat → Int64) (stops : Nat → Int32) (num : Int32) (unit : Int32) (strips : Int32) (caps : Int32) (draw : Int32) (post : Int32 → Int32 → (Nat → GS) → Prop) : Prop := vp_in ((oldest + known) - (oldest + known) / (6 : Int32) * (6 : Int32)) 6 ∧ ∀ k2 : Nat, k2 = ((oldest + known) - (oldest + known) / (6 : Int32) * (6 : Int32)).toNatClampNeg → wX0_become ((ring k2).1) ((ring k2).2.1) bits stops num unit strips caps draw (fun (bits_c3 : Nat → Int64) (stops_c4 : Nat → Int32) (num_c5 : Int32) (unit_c6 : Int32) (strips_c7 : Int32) (caps_c8 : Int32) (draw_c9 : Int32) => (((6 : Int32) ≤ known → ∀ x11 : Int32, x11 = (oldest + (1 : Int32)) - (oldest + (1 : Int32)) / (6 : Int32) * (6 : Int32) → post x11 known (va_up ring k2 (bits_c3, stops_c4, num_c5, unit_c6, strips_c7, caps_c8, draw_c9))) ∧ (¬ (6 : Int32) ≤ known → ∀ x12 : Int32, x12 = known + (1 : Int32) → post oldest x12 (va_up ring k2 (bits_c3, stops_c4, num_c5, unit_c6, strips_c7, caps_c8, draw_c9)))))
def rmX4_keep : Room := { frames := 2, cells := 0, slots := 0, locals := 61 }
theorem kX4_keep_0 : Cond.fieldLink RX4 11 "GoreGlobe$Past" "ring" "[LGoreGlobe$Globe;" ∈ wsX4_keep := List.mem_cons_of_mem _ (List.mem_append_left _ (List.mem_append_left _ (List.mem_of_getElem? (i := 0) rfl)))
theorem kX4_keep_cX4 : ∀ w ∈ wsX40, w ∈ wsX4_keep := fun _ h => List.mem_cons_of_mem _ (List.mem_append_left _ (List.mem_append_right _ h))
theorem kX4_keep_2 : Cond.fieldLink RX4 16 "GoreGlobe$Past" "oldest" "I" ∈ wsX4_keep := List.mem_cons_of_mem _ (List.mem_append_left _ (List.mem_append_left _ (List.mem_of_getElem? (i := 1) rfl)))
theorem kX4_keep_3 : Cond.fieldLink RX4 20 "GoreGlobe$Past" "known" "I" ∈ wsX4_keep := List.mem_cons_of_mem _ (List.mem_append_left _ (List.mem_append_left _ (List.mem_of_getElem? (i := 2) rfl)))
set_option maxHeartbeats 4000000 in
set_option maxRecDepth 100000 in
theorem mX4_keep (l : Launch) (D : va_G) (K : Nat → ClassId) (h0 : Nat → Nat) (h1 : Nat → Nat) (sz : Nat)  (oldest : Int32) (known : Int32) (ring : Nat → GS) (bits : Nat → Int64) (stops : Nat → Int32) (num : Int32) (unit : Int32) (strips : Int32) (caps : Int32) (draw : Int32)  {post : Int32 → Int32 → (Nat → GS) → Prop} (hw : wX4_keep  oldest known ring bits stops num unit strips caps draw post) : Met l yX4_keep wsX4_keep rmX4_keep (va_Pc [.ref (h0 0), .ref (h1 0)] (cP D K (fl [wPa K h0 oldest known, wGl K (fun i => h0 (2 + i)) (ring 0), wGl K (fun i => h0 (5 + i)) (ring 1), wGl K (fun i => h0 (8 + i)) (ring 2), wGl K (fun i => h0 (11 + i)) (ring 3), wGl K (fun i => h0 (14 + i)) (ring 4), wGl K (fun i => h0 (17 + i)) (ring 5), wGl K h1 (bits, stops, num, unit, strips, caps, draw)]) sz)) (va_Qv (fun (u : Int32 × Int32 × (Nat → GS)) => post u.1 u.2.1 u.2.2) (fun u t => cQ D K (fl [wPa K h0 u.1 u.2.1, wGl K (fun i => h0 (2 + i)) (u.2.2 0), wGl K (fun i => h0 (5 + i)) (u.2.2 1), wGl K (fun i => h0 (8 + i)) (u.2.2 2), wGl K (fun i => h0 (11 + i)) (u.2.2 3), wGl K (fun i => h0 (14 + i)) (u.2.2 4), wGl K (fun i => h0 (17 + i)) (u.2.2 5), wGl K h1 (bits, stops, num, unit, strips, caps, draw)]) (va_A (fl [wPa K h0 oldest known, wGl K (fun i => h0 (2 + i)) (ring 0), wGl K (fun i => h0 (5 + i)) (ring 1), wGl K (fun i => h0 (8 + i)) (ring 2), wGl K (fun i => h0 (11 + i)) (ring 3), wGl K (fun i => h0 (14 + i)) (ring 4), wGl K (fun i => h0 (17 + i)) (ring 5), wGl K h1 (bits, stops, num, unit, strips, caps, draw)]) sz) t) (va_A (fl [wPa K h0 oldest known, wGl K (fun i => h0 (2 + i)) (ring 0), wGl K (fun i => h0 (5 + i)) (ring 1), wGl K (fun i => h0 (8 + i)) (ring 2), wGl K (fun i => h0 (11 + i)) (ring 3), wGl K (fun i => h0 (14 + i)) (ring 4), wGl K (fun i => h0 (17 + i)) (ring 5), wGl K h1 (bits, stops, num, unit, strips, caps, draw)]) sz)) 0 0 (va_A (fl [wPa K h0 oldest known, wGl K (fun i => h0 (2 + i)) (ring 0), wGl K (fun i => h0 (5 + i)) (ring 1), wGl K (fun i => h0 (8 + i)) (ring 2), wGl K (fun i => h0 (11 + i)) (ring 3), wGl K (fun i => h0 (14 + i)) (ring 4), wGl K (fun i => h0 (17 + i)) (ring 5), wGl K h1 (bits, stops, num, unit, strips, caps, draw)]) sz) := by
  refine x_entry (cc := cX4_keep) (maxL := 2) (ret := none) (QA := fun A => va_Qv (fun (u : Int32 × Int32 × (Nat → GS)) => post u.1 u.2.1 u.2.2) (fun u t => cQ D K (fl [wPa K h0 u.1 u.2.1, wGl K (fun i => h0 (2 + i)) (u.2.2 0), wGl K (fun i => h0 (5 + i)) (u.2.2 1), wGl K (fun i => h0 (8 + i)) (u.2.2 2), wGl K (fun i => h0 (11 + i)) (u.2.2 3), wGl K (fun i => h0 (14 + i)) (u.2.2 4), wGl K (fun i => h0 (17 + i)) (u.2.2 5), wGl K h1 (bits, stops, num, unit, strips, caps, draw)]) A t) A) (plainFor_of_name (by decide)) rfl (Nat.le_of_ble_eq_true rfl) ?_
  intro p e s m args below meth c A ls H Q hQ hC hlk hr hnm hI hl
  obtain ⟨hx, hb, hml, hown, hts, hK, hA, hZ⟩ := id hC
  obtain ⟨locs, hlocs⟩ : ∃ y : List Loc, y = [] := ⟨_, rfl⟩
  rw [← hlocs] at hI ⊢
  clear hlocs
  replace hl : lv_has ls 2 [(0, .ref (h0 0)), (1, .ref (h1 0))] := hl
  replace hw : vp_in ((oldest + known) - (oldest + known) / (6 : Int32) * (6 : Int32)) 6 ∧ ∀ k2 : Nat, k2 = ((oldest + known) - (oldest + known) / (6 : Int32) * (6 : Int32)).toNatClampNeg → wX0_become ((ring k2).1) ((ring k2).2.1) bits stops num unit strips caps draw (fun (bits_c3 : Nat → Int64) (stops_c4 : Nat → Int32) (num_c5 : Int32) (unit_c6 : Int32) (strips_c7 : Int32) (caps_c8 : Int32) (draw_c9 : Int32) => (((6 : Int32) ≤ known → ∀ x11 : Int32, x11 = (oldest + (1 : Int32)) - (oldest + (1 : Int32)) / (6 : Int32) * (6 : Int32) → post x11 known (va_up ring k2 (bits_c3, stops_c4, num_c5, unit_c6, strips_c7, caps_c8, draw_c9))) ∧ (¬ (6 : Int32) ≤ known → ∀ x12 : Int32, x12 = known + (1 : Int32) → post oldest x12 (va_up ring k2 (bits_c3, stops_c4, num_c5, unit_c6, strips_c7, caps_c8, draw_c9))))) := hw
  refine lv_aload_n hx hb dX4_keep_0 rfl (lv_at hl 0 rfl) ?_
  refine x_get (v := .ref (h0 1)) hC hI kX4_keep_cX4 0 rfl rfl 0 (by decide) kX4_keep_0 rfl rfl dX4_keep_1 ?_
  refine lv_aload_n hx hb dX4_keep_4 rfl (lv_at hl 0 rfl) ?_
  refine x_get (v := .int oldest) hC hI kX4_keep_cX4 0 rfl rfl 1 (by decide) kX4_keep_2 rfl rfl dX4_keep_5 ?_
  refine lv_aload_n hx hb dX4_keep_8 rfl (lv_at hl 0 rfl) ?_
  refine x_get (v := .int known) hC hI kX4_keep_cX4 0 rfl rfl 2 (by decide) kX4_keep_3 rfl rfl dX4_keep_9 ?_
  refine lv_iadd hx hb dX4_keep_12 ?_
  refine lv_bipush (v := (6 : Int32)) hx hb dX4_keep_13 (by decide) ?_
  refine lv_irem hx hb dX4_keep_15 (by decide) ?_
  obtain ⟨hc1, hw⟩ := hw
  obtain ⟨k2, ek2⟩ : ∃ y : Nat, y = ((oldest + known) - (oldest + known) / (6 : Int32) * (6 : Int32)).toNatClampNeg := ⟨_, rfl⟩
  replace hw := hw k2 ek2
  have hk2 : k2 < 6 := by rw [ek2]; exact vp_lt hc1
  refine x_aald (x := (h0 (2 + 3 * k2 + 0))) hC hI 1 2 rfl rfl hc1 (by rw [ek2]; rfl) dX4_keep_16 ?_
  refine lv_aload_n hx hb dX4_keep_17 rfl (lv_at hl 1 rfl) ?_
  refine x_callVv (fs := [.ref (h0 (2 + 3 * k2 + 1)), .ref (h0 (2 + 3 * k2 + 2)), .int ((ring k2).2.2.1), .int ((ring k2).2.2.2.1), .int ((ring k2).2.2.2.2.1), .int ((ring k2).2.2.2.2.2.1), .int ((ring k2).2.2.2.2.2.2)]) (rest := []) hC hI [(1 + k2), 7] (mX0_become l D K (fun i => h0 (2 + 3 * k2 + i)) h1 _ ((ring k2).1) ((ring k2).2.1) ((ring k2).2.2.1) ((ring k2).2.2.2.1) ((ring k2).2.2.2.2.1) ((ring k2).2.2.2.2.2.1) ((ring k2).2.2.2.2.2.2) bits stops num unit strips caps draw hw) (cwV 1 hts gX4_keep_X0_become rfl rfl rfl (by decide +kernel) ⟨(Nat.le_of_ble_eq_true rfl), (Nat.le_of_ble_eq_true rfl)⟩) (by rcases lt6 hk2 with rfl | rfl | rfl | rfl | rfl | rfl <;> rfl) (by rcases lt6 hk2 with rfl | rfl | rfl | rfl | rfl | rfl <;> rfl) (fun _ => rfl) (2 + 3 * k2 + 0) 0 rfl rfl (by rcases lt6 hk2 with rfl | rfl | rfl | rfl | rfl | rfl <;> rfl) rfl hl.1 rfl (Nat.le_of_ble_eq_true rfl) dX4_keep_18 ⟨(Nat.le_of_ble_eq_true rfl), (Nat.le_of_ble_eq_true rfl)⟩ (fun u H locs hw hI => ?_)
  obtain ⟨bits_c3, stops_c4, num_c5, unit_c6, strips_c7, caps_c8, draw_c9⟩ := u
  try dsimp only at hw
  have hI : wI s D A (fl [wPa K h0 oldest known, wGl K (fun i => h0 (2 + i)) ((va_up ring k2 (bits_c3, stops_c4, num_c5, unit_c6, strips_c7, caps_c8, draw_c9)) 0), wGl K (fun i => h0 (5 + i)) ((va_up ring k2 (bits_c3, stops_c4, num_c5, unit_c6, strips_c7, caps_c8, draw_c9)) 1), wGl K (fun i => h0 (8 + i)) ((va_up ring k2 (bits_c3, stops_c4, num_c5, unit_c6, strips_c7, caps_c8, draw_c9)) 2), wGl K (fun i => h0 (11 + i)) ((va_up ring k2 (bits_c3, stops_c4, num_c5, unit_c6, strips_c7, caps_c8, draw_c9)) 3), wGl K (fun i => h0 (14 + i)) ((va_up ring k2 (bits_c3, stops_c4, num_c5, unit_c6, strips_c7, caps_c8, draw_c9)) 4), wGl K (fun i => h0 (17 + i)) ((va_up ring k2 (bits_c3, stops_c4, num_c5, unit_c6, strips_c7, caps_c8, draw_c9)) 5), wGl K h1 (bits, stops, num, unit, strips, caps, draw)]) H locs := by rcases lt6 hk2 with rfl | rfl | rfl | rfl | rfl | rfl <;> exact hI
  refine lv_aload_n hx hb dX4_keep_21 rfl (lv_at hl 0 rfl) ?_
  refine x_get (v := .int known) hC hI kX4_keep_cX4 0 rfl rfl 2 (by decide) kX4_keep_3 rfl rfl dX4_keep_22 ?_
  refine lv_bipush (v := (6 : Int32)) hx hb dX4_keep_25 (by decide) ?_
  refine lv_icmp_ge (tgt := 43) hx hb dX4_keep_27 (by decide) (fun c10 => ?_) (fun c10 => ?_)
  · replace hw := hw.1 c10
    refine lv_aload_n hx hb dX4_keep_43 rfl (lv_at hl 0 rfl) ?_
    refine lv_aload_n hx hb dX4_keep_44 rfl (lv_at hl 0 rfl) ?_
    refine x_get (v := .int oldest) hC hI kX4_keep_cX4 0 rfl rfl 1 (by decide) kX4_keep_2 rfl rfl dX4_keep_45 ?_
    refine lv_iconst (v := (1 : Int32)) hx hb dX4_keep_48 (by decide) ?_
    refine lv_iadd hx hb dX4_keep_49 ?_
    refine lv_bipush (v := (6 : Int32)) hx hb dX4_keep_50 (by decide) ?_
    refine lv_irem hx hb dX4_keep_52 (by decide) ?_
    refine lv_topi (fun x11 ex11 => ?_)
    replace hw := hw x11 ex11
    refine x_put (v := .int x11) hC hI kX4_keep_cX4 tyX4 tyX4_ok nmX4 0 rfl rfl 1 (by decide) kX4_keep_2 rfl rfl rfl rfl (Nat.le_of_ble_eq_true rfl) dX4_keep_53 (fun H locs hI => ?_)
    have hI : wI s D A (fl [wPa K h0 x11 known, wGl K (fun i => h0 (2 + i)) ((va_up ring k2 (bits_c3, stops_c4, num_c5, unit_c6, strips_c7, caps_c8, draw_c9)) 0), wGl K (fun i => h0 (5 + i)) ((va_up ring k2 (bits_c3, stops_c4, num_c5, unit_c6, strips_c7, caps_c8, draw_c9)) 1), wGl K (fun i => h0 (8 + i)) ((va_up ring k2 (bits_c3, stops_c4, num_c5, unit_c6, strips_c7, caps_c8, draw_c9)) 2), wGl K (fun i => h0 (11 + i)) ((va_up ring k2 (bits_c3, stops_c4, num_c5, unit_c6, strips_c7, caps_c8, draw_c9)) 3), wGl K (fun i => h0 (14 + i)) ((va_up ring k2 (bits_c3, stops_c4, num_c5, unit_c6, strips_c7, caps_c8, draw_c9)) 4), wGl K (fun i => h0 (17 + i)) ((va_up ring k2 (bits_c3, stops_c4, num_c5, unit_c6, strips_c7, caps_c8, draw_c9)) 5), wGl K h1 (bits, stops, num, unit, strips, caps, draw)]) H locs := hI
    subst hQ
    exact x_vret (u := (x11, known, (va_up ring k2 (bits_c3, stops_c4, num_c5, unit_c6, strips_c7, caps_c8, draw_c9)))) hC hI hr hlk hw rfl dX4_keep_56
  · replace hw := hw.2 c10
    refine lv_aload_n hx hb dX4_keep_30 rfl (lv_at hl 0 rfl) ?_
    refine lv_dup hx hb dX4_keep_31 rfl ?_
    refine x_get (v := .int known) hC hI kX4_keep_cX4 0 rfl rfl 2 (by decide) kX4_keep_3 rfl rfl dX4_keep_32 ?_
    refine lv_iconst (v := (1 : Int32)) hx hb dX4_keep_35 (by decide) ?_
    refine lv_iadd hx hb dX4_keep_36 ?_
    refine lv_topi (fun x12 ex12 => ?_)
    replace hw := hw x12 ex12
    refine x_put (v := .int x12) hC hI kX4_keep_cX4 tyX4 tyX4_ok nmX4 0 rfl rfl 2 (by decide) kX4_keep_3 rfl rfl rfl rfl (Nat.le_of_ble_eq_true rfl) dX4_keep_37 (fun H locs hI => ?_)
    have hI : wI s D A (fl [wPa K h0 oldest x12, wGl K (fun i => h0 (2 + i)) ((va_up ring k2 (bits_c3, stops_c4, num_c5, unit_c6, strips_c7, caps_c8, draw_c9)) 0), wGl K (fun i => h0 (5 + i)) ((va_up ring k2 (bits_c3, stops_c4, num_c5, unit_c6, strips_c7, caps_c8, draw_c9)) 1), wGl K (fun i => h0 (8 + i)) ((va_up ring k2 (bits_c3, stops_c4, num_c5, unit_c6, strips_c7, caps_c8, draw_c9)) 2), wGl K (fun i => h0 (11 + i)) ((va_up ring k2 (bits_c3, stops_c4, num_c5, unit_c6, strips_c7, caps_c8, draw_c9)) 3), wGl K (fun i => h0 (14 + i)) ((va_up ring k2 (bits_c3, stops_c4, num_c5, unit_c6, strips_c7, caps_c8, draw_c9)) 4), wGl K (fun i => h0 (17 + i)) ((va_up ring k2 (bits_c3, stops_c4, num_c5, unit_c6, strips_c7, caps_c8, draw_c9)) 5), wGl K h1 (bits, stops, num, unit, strips, caps, draw)]) H locs := hI
    refine lv_goto (tgt := 56) hx hb dX4_keep_40 (by decide) ?_
    subst hQ
    exact x_vret (u := (oldest, x12, (va_up ring k2 (bits_c3, stops_c4, num_c5, unit_c6, strips_c7, caps_c8, draw_c9)))) hC hI hr hlk hw rfl dX4_keep_56

def wX4_takeBack  (oldest : Int32) (known : Int32) (ring : Nat → GS) (bits : Nat → Int64) (stops : Nat → Int32) (post : Int32 → (Nat → Int64) → (Nat → Int32) → Int32 → Int32 → Int32 → Int32 → Int32 → Prop) : Prop := ∀ x1 : Int32, x1 = known - (1 : Int32) → vp_in ((oldest + x1) - (oldest + x1) / (6 : Int32) * (6 : Int32)) 6 ∧ ∀ k3 : Nat, k3 = ((oldest + x1) - (oldest + x1) / (6 : Int32) * (6 : Int32)).toNatClampNeg → wX0_become bits stops ((ring k3).1) ((ring k3).2.1) ((ring k3).2.2.1) ((ring k3).2.2.2.1) ((ring k3).2.2.2.2.1) ((ring k3).2.2.2.2.2.1) ((ring k3).2.2.2.2.2.2) (fun (bits_c4 : Nat → Int64) (stops_c5 : Nat → Int32) (num_c6 : Int32) (unit_c7 : Int32) (strips_c8 : Int32) (caps_c9 : Int32) (draw_c10 : Int32) => post x1 bits_c4 stops_c5 num_c6 unit_c7 strips_c8 caps_c9 draw_c10)
def rmX4_takeBack : Room := { frames := 2, cells := 0, slots := 0, locals := 61 }
theorem kX4_takeBack_0 : Cond.fieldLink RX4 20 "GoreGlobe$Past" "known" "I" ∈ wsX4_takeBack := List.mem_cons_of_mem _ (List.mem_append_left _ (List.mem_append_left _ (List.mem_of_getElem? (i := 0) rfl)))
theorem kX4_takeBack_cX4 : ∀ w ∈ wsX40, w ∈ wsX4_takeBack := fun _ h => List.mem_cons_of_mem _ (List.mem_append_left _ (List.mem_append_right _ h))
theorem kX4_takeBack_2 : Cond.fieldLink RX4 11 "GoreGlobe$Past" "ring" "[LGoreGlobe$Globe;" ∈ wsX4_takeBack := List.mem_cons_of_mem _ (List.mem_append_left _ (List.mem_append_left _ (List.mem_of_getElem? (i := 1) rfl)))
theorem kX4_takeBack_3 : Cond.fieldLink RX4 16 "GoreGlobe$Past" "oldest" "I" ∈ wsX4_takeBack := List.mem_cons_of_mem _ (List.mem_append_left _ (List.mem_append_left _ (List.mem_of_getElem? (i := 2) rfl)))
set_option maxHeartbeats 4000000 in
set_option maxRecDepth 100000 in
theorem mX4_takeBack (l : Launch) (D : va_G) (K : Nat → ClassId) (h0 : Nat → Nat) (h1 : Nat → Nat) (sz : Nat)  (oldest : Int32) (known : Int32) (ring : Nat → GS) (bits : Nat → Int64) (stops : Nat → Int32) (num : Int32) (unit : Int32) (strips : Int32) (caps : Int32) (draw : Int32)  {post : Int32 → (Nat → Int64) → (Nat → Int32) → Int32 → Int32 → Int32 → Int32 → Int32 → Prop} (hw : wX4_takeBack  oldest known ring bits stops post) : Met l yX4_takeBack wsX4_takeBack rmX4_takeBack (va_Pc [.ref (h0 0), .ref (h1 0)] (cP D K (fl [wPa K h0 oldest known, wGl K (fun i => h0 (2 + i)) (ring 0), wGl K (fun i => h0 (5 + i)) (ring 1), wGl K (fun i => h0 (8 + i)) (ring 2), wGl K (fun i => h0 (11 + i)) (ring 3), wGl K (fun i => h0 (14 + i)) (ring 4), wGl K (fun i => h0 (17 + i)) (ring 5), wGl K h1 (bits, stops, num, unit, strips, caps, draw)]) sz)) (va_Qv (fun (u : Int32 × (Nat → Int64) × (Nat → Int32) × Int32 × Int32 × Int32 × Int32 × Int32) => post u.1 u.2.1 u.2.2.1 u.2.2.2.1 u.2.2.2.2.1 u.2.2.2.2.2.1 u.2.2.2.2.2.2.1 u.2.2.2.2.2.2.2) (fun u t => cQ D K (fl [wPa K h0 oldest u.1, wGl K (fun i => h0 (2 + i)) (ring 0), wGl K (fun i => h0 (5 + i)) (ring 1), wGl K (fun i => h0 (8 + i)) (ring 2), wGl K (fun i => h0 (11 + i)) (ring 3), wGl K (fun i => h0 (14 + i)) (ring 4), wGl K (fun i => h0 (17 + i)) (ring 5), wGl K h1 (u.2.1, u.2.2.1, u.2.2.2.1, u.2.2.2.2.1, u.2.2.2.2.2.1, u.2.2.2.2.2.2.1, u.2.2.2.2.2.2.2)]) (va_A (fl [wPa K h0 oldest known, wGl K (fun i => h0 (2 + i)) (ring 0), wGl K (fun i => h0 (5 + i)) (ring 1), wGl K (fun i => h0 (8 + i)) (ring 2), wGl K (fun i => h0 (11 + i)) (ring 3), wGl K (fun i => h0 (14 + i)) (ring 4), wGl K (fun i => h0 (17 + i)) (ring 5), wGl K h1 (bits, stops, num, unit, strips, caps, draw)]) sz) t) (va_A (fl [wPa K h0 oldest known, wGl K (fun i => h0 (2 + i)) (ring 0), wGl K (fun i => h0 (5 + i)) (ring 1), wGl K (fun i => h0 (8 + i)) (ring 2), wGl K (fun i => h0 (11 + i)) (ring 3), wGl K (fun i => h0 (14 + i)) (ring 4), wGl K (fun i => h0 (17 + i)) (ring 5), wGl K h1 (bits, stops, num, unit, strips, caps, draw)]) sz)) 0 0 (va_A (fl [wPa K h0 oldest known, wGl K (fun i => h0 (2 + i)) (ring 0), wGl K (fun i => h0 (5 + i)) (ring 1), wGl K (fun i => h0 (8 + i)) (ring 2), wGl K (fun i => h0 (11 + i)) (ring 3), wGl K (fun i => h0 (14 + i)) (ring 4), wGl K (fun i => h0 (17 + i)) (ring 5), wGl K h1 (bits, stops, num, unit, strips, caps, draw)]) sz) := by
  refine x_entry (cc := cX4_takeBack) (maxL := 2) (ret := none) (QA := fun A => va_Qv (fun (u : Int32 × (Nat → Int64) × (Nat → Int32) × Int32 × Int32 × Int32 × Int32 × Int32) => post u.1 u.2.1 u.2.2.1 u.2.2.2.1 u.2.2.2.2.1 u.2.2.2.2.2.1 u.2.2.2.2.2.2.1 u.2.2.2.2.2.2.2) (fun u t => cQ D K (fl [wPa K h0 oldest u.1, wGl K (fun i => h0 (2 + i)) (ring 0), wGl K (fun i => h0 (5 + i)) (ring 1), wGl K (fun i => h0 (8 + i)) (ring 2), wGl K (fun i => h0 (11 + i)) (ring 3), wGl K (fun i => h0 (14 + i)) (ring 4), wGl K (fun i => h0 (17 + i)) (ring 5), wGl K h1 (u.2.1, u.2.2.1, u.2.2.2.1, u.2.2.2.2.1, u.2.2.2.2.2.1, u.2.2.2.2.2.2.1, u.2.2.2.2.2.2.2)]) A t) A) (plainFor_of_name (by decide)) rfl (Nat.le_of_ble_eq_true rfl) ?_
  intro p e s m args below meth c A ls H Q hQ hC hlk hr hnm hI hl
  obtain ⟨hx, hb, hml, hown, hts, hK, hA, hZ⟩ := id hC
  obtain ⟨locs, hlocs⟩ : ∃ y : List Loc, y = [] := ⟨_, rfl⟩
  rw [← hlocs] at hI ⊢
  clear hlocs
  replace hl : lv_has ls 2 [(0, .ref (h0 0)), (1, .ref (h1 0))] := hl
  replace hw : ∀ x1 : Int32, x1 = known - (1 : Int32) → vp_in ((oldest + x1) - (oldest + x1) / (6 : Int32) * (6 : Int32)) 6 ∧ ∀ k3 : Nat, k3 = ((oldest + x1) - (oldest + x1) / (6 : Int32) * (6 : Int32)).toNatClampNeg → wX0_become bits stops ((ring k3).1) ((ring k3).2.1) ((ring k3).2.2.1) ((ring k3).2.2.2.1) ((ring k3).2.2.2.2.1) ((ring k3).2.2.2.2.2.1) ((ring k3).2.2.2.2.2.2) (fun (bits_c4 : Nat → Int64) (stops_c5 : Nat → Int32) (num_c6 : Int32) (unit_c7 : Int32) (strips_c8 : Int32) (caps_c9 : Int32) (draw_c10 : Int32) => post x1 bits_c4 stops_c5 num_c6 unit_c7 strips_c8 caps_c9 draw_c10) := hw
  refine lv_aload_n hx hb dX4_takeBack_0 rfl (lv_at hl 0 rfl) ?_
  refine lv_dup hx hb dX4_takeBack_1 rfl ?_
  refine x_get (v := .int known) hC hI kX4_takeBack_cX4 0 rfl rfl 2 (by decide) kX4_takeBack_0 rfl rfl dX4_takeBack_2 ?_
  refine lv_iconst (v := (1 : Int32)) hx hb dX4_takeBack_5 (by decide) ?_
  refine lv_isub hx hb dX4_takeBack_6 ?_
  refine lv_topi (fun x1 ex1 => ?_)
  replace hw := hw x1 ex1
  refine x_put (v := .int x1) hC hI kX4_takeBack_cX4 tyX4 tyX4_ok nmX4 0 rfl rfl 2 (by decide) kX4_takeBack_0 rfl rfl rfl rfl (Nat.le_of_ble_eq_true rfl) dX4_takeBack_7 (fun H locs hI => ?_)
  have hI : wI s D A (fl [wPa K h0 oldest x1, wGl K (fun i => h0 (2 + i)) (ring 0), wGl K (fun i => h0 (5 + i)) (ring 1), wGl K (fun i => h0 (8 + i)) (ring 2), wGl K (fun i => h0 (11 + i)) (ring 3), wGl K (fun i => h0 (14 + i)) (ring 4), wGl K (fun i => h0 (17 + i)) (ring 5), wGl K h1 (bits, stops, num, unit, strips, caps, draw)]) H locs := hI
  refine lv_aload_n hx hb dX4_takeBack_10 rfl (lv_at hl 1 rfl) ?_
  refine lv_aload_n hx hb dX4_takeBack_11 rfl (lv_at hl 0 rfl) ?_
  refine x_get (v := .ref (h0 1)) hC hI kX4_takeBack_cX4 0 rfl rfl 0 (by decide) kX4_takeBack_2 rfl rfl dX4_takeBack_12 ?_
  refine lv_aload_n hx hb dX4_takeBack_15 rfl (lv_at hl 0 rfl) ?_
  refine x_get (v := .int oldest) hC hI kX4_takeBack_cX4 0 rfl rfl 1 (by decide) kX4_takeBack_3 rfl rfl dX4_takeBack_16 ?_
  refine lv_aload_n hx hb dX4_takeBack_19 rfl (lv_at hl 0 rfl) ?_
  refine x_get (v := .int x1) hC hI kX4_takeBack_cX4 0 rfl rfl 2 (by decide) kX4_takeBack_0 rfl rfl dX4_takeBack_20 ?_
  refine lv_iadd hx hb dX4_takeBack_23 ?_
  refine lv_bipush (v := (6 : Int32)) hx hb dX4_takeBack_24 (by decide) ?_
  refine lv_irem hx hb dX4_takeBack_26 (by decide) ?_
  obtain ⟨hc2, hw⟩ := hw
  obtain ⟨k3, ek3⟩ : ∃ y : Nat, y = ((oldest + x1) - (oldest + x1) / (6 : Int32) * (6 : Int32)).toNatClampNeg := ⟨_, rfl⟩
  replace hw := hw k3 ek3
  have hk3 : k3 < 6 := by rw [ek3]; exact vp_lt hc2
  refine x_aald (x := (h0 (2 + 3 * k3 + 0))) hC hI 1 2 rfl rfl hc2 (by rw [ek3]; rfl) dX4_takeBack_27 ?_
  refine x_callVv (rest := []) hC hI [7, (1 + k3)] (mX0_become l D K h1 (fun i => h0 (2 + 3 * k3 + i)) _ bits stops num unit strips caps draw ((ring k3).1) ((ring k3).2.1) ((ring k3).2.2.1) ((ring k3).2.2.2.1) ((ring k3).2.2.2.2.1) ((ring k3).2.2.2.2.2.1) ((ring k3).2.2.2.2.2.2) hw) (cwV 1 hts gX4_takeBack_X0_become rfl rfl rfl (by decide +kernel) ⟨(Nat.le_of_ble_eq_true rfl), (Nat.le_of_ble_eq_true rfl)⟩) (by rcases lt6 hk3 with rfl | rfl | rfl | rfl | rfl | rfl <;> rfl) (by rcases lt6 hk3 with rfl | rfl | rfl | rfl | rfl | rfl <;> rfl) (fun _ => rfl) 20 0 rfl rfl rfl rfl hl.1 rfl (Nat.le_of_ble_eq_true rfl) dX4_takeBack_28 ⟨(Nat.le_of_ble_eq_true rfl), (Nat.le_of_ble_eq_true rfl)⟩ (fun u H locs hw hI => ?_)
  obtain ⟨bits_c4, stops_c5, num_c6, unit_c7, strips_c8, caps_c9, draw_c10⟩ := u
  try dsimp only at hw
  have hI : wI s D A (fl [wPa K h0 oldest x1, wGl K (fun i => h0 (2 + i)) (ring 0), wGl K (fun i => h0 (5 + i)) (ring 1), wGl K (fun i => h0 (8 + i)) (ring 2), wGl K (fun i => h0 (11 + i)) (ring 3), wGl K (fun i => h0 (14 + i)) (ring 4), wGl K (fun i => h0 (17 + i)) (ring 5), wGl K h1 (bits_c4, stops_c5, num_c6, unit_c7, strips_c8, caps_c9, draw_c10)]) H locs := by rcases lt6 hk3 with rfl | rfl | rfl | rfl | rfl | rfl <;> exact hI
  subst hQ
  exact x_vret (u := (x1, bits_c4, stops_c5, num_c6, unit_c7, strips_c8, caps_c9, draw_c10)) hC hI hr hlk hw rfl dX4_takeBack_31

def wX4_become  (ring : Nat → GS) (o_oldest : Int32) (o_known : Int32) (o_ring : Nat → GS) (post : Int32 → Int32 → (Nat → GS) → Prop) : Prop := (∃ (I2 : Int32 → (Nat → GS) → Prop) (mu2 : Int32 → (Nat → GS) → Nat), I2 (0 : Int32) ring ∧ ∀ (l2_2 : Int32) (ring_2 : Nat → GS), I2 l2_2 ring_2 → (((6 : Int32) ≤ l2_2 → post o_oldest o_known ring_2) ∧ (¬ (6 : Int32) ≤ l2_2 → vp_in l2_2 6 ∧ ∀ k3 : Nat, k3 = l2_2.toNatClampNeg → wX0_become ((ring_2 k3).1) ((ring_2 k3).2.1) ((o_ring k3).1) ((o_ring k3).2.1) ((o_ring k3).2.2.1) ((o_ring k3).2.2.2.1) ((o_ring k3).2.2.2.2.1) ((o_ring k3).2.2.2.2.2.1) ((o_ring k3).2.2.2.2.2.2) (fun (bits_c4 : Nat → Int64) (stops_c5 : Nat → Int32) (num_c6 : Int32) (unit_c7 : Int32) (strips_c8 : Int32) (caps_c9 : Int32) (draw_c10 : Int32) => ∀ x11 : Int32, x11 = l2_2 + 1 → (I2 x11 (va_up ring_2 k3 (bits_c4, stops_c5, num_c6, unit_c7, strips_c8, caps_c9, draw_c10)) ∧ mu2 x11 (va_up ring_2 k3 (bits_c4, stops_c5, num_c6, unit_c7, strips_c8, caps_c9, draw_c10)) < mu2 l2_2 ring_2)))))
def rmX4_become : Room := { frames := 2, cells := 0, slots := 0, locals := 61 }
theorem kX4_become_0 : Cond.fieldLink RX4 16 "GoreGlobe$Past" "oldest" "I" ∈ wsX4_become := List.mem_cons_of_mem _ (List.mem_append_left _ (List.mem_append_left _ (List.mem_of_getElem? (i := 1) rfl)))
theorem kX4_become_cX4 : ∀ w ∈ wsX40, w ∈ wsX4_become := fun _ h => List.mem_cons_of_mem _ (List.mem_append_left _ (List.mem_append_right _ h))
theorem kX4_become_2 : Cond.fieldLink RX4 20 "GoreGlobe$Past" "known" "I" ∈ wsX4_become := List.mem_cons_of_mem _ (List.mem_append_left _ (List.mem_append_left _ (List.mem_of_getElem? (i := 2) rfl)))
theorem kX4_become_3 : Cond.fieldLink RX4 11 "GoreGlobe$Past" "ring" "[LGoreGlobe$Globe;" ∈ wsX4_become := List.mem_cons_of_mem _ (List.mem_append_left _ (List.mem_append_left _ (List.mem_of_getElem? (i := 0) rfl)))
set_option maxHeartbeats 4000000 in
set_option maxRecDepth 100000 in
theorem mX4_become (l : Launch) (D : va_G) (K : Nat → ClassId) (h0 : Nat → Nat) (h1 : Nat → Nat) (sz : Nat)  (oldest : Int32) (known : Int32) (ring : Nat → GS) (o_oldest : Int32) (o_known : Int32) (o_ring : Nat → GS)  {post : Int32 → Int32 → (Nat → GS) → Prop} (hw : wX4_become  ring o_oldest o_known o_ring post) : Met l yX4_become wsX4_become rmX4_become (va_Pc [.ref (h0 0), .ref (h1 0)] (cP D K (fl [wPa K h0 oldest known, wGl K (fun i => h0 (2 + i)) (ring 0), wGl K (fun i => h0 (5 + i)) (ring 1), wGl K (fun i => h0 (8 + i)) (ring 2), wGl K (fun i => h0 (11 + i)) (ring 3), wGl K (fun i => h0 (14 + i)) (ring 4), wGl K (fun i => h0 (17 + i)) (ring 5), wPa K h1 o_oldest o_known, wGl K (fun i => h1 (2 + i)) (o_ring 0), wGl K (fun i => h1 (5 + i)) (o_ring 1), wGl K (fun i => h1 (8 + i)) (o_ring 2), wGl K (fun i => h1 (11 + i)) (o_ring 3), wGl K (fun i => h1 (14 + i)) (o_ring 4), wGl K (fun i => h1 (17 + i)) (o_ring 5)]) sz)) (va_Qv (fun (u : Int32 × Int32 × (Nat → GS)) => post u.1 u.2.1 u.2.2) (fun u t => cQ D K (fl [wPa K h0 u.1 u.2.1, wGl K (fun i => h0 (2 + i)) (u.2.2 0), wGl K (fun i => h0 (5 + i)) (u.2.2 1), wGl K (fun i => h0 (8 + i)) (u.2.2 2), wGl K (fun i => h0 (11 + i)) (u.2.2 3), wGl K (fun i => h0 (14 + i)) (u.2.2 4), wGl K (fun i => h0 (17 + i)) (u.2.2 5), wPa K h1 o_oldest o_known, wGl K (fun i => h1 (2 + i)) (o_ring 0), wGl K (fun i => h1 (5 + i)) (o_ring 1), wGl K (fun i => h1 (8 + i)) (o_ring 2), wGl K (fun i => h1 (11 + i)) (o_ring 3), wGl K (fun i => h1 (14 + i)) (o_ring 4), wGl K (fun i => h1 (17 + i)) (o_ring 5)]) (va_A (fl [wPa K h0 oldest known, wGl K (fun i => h0 (2 + i)) (ring 0), wGl K (fun i => h0 (5 + i)) (ring 1), wGl K (fun i => h0 (8 + i)) (ring 2), wGl K (fun i => h0 (11 + i)) (ring 3), wGl K (fun i => h0 (14 + i)) (ring 4), wGl K (fun i => h0 (17 + i)) (ring 5), wPa K h1 o_oldest o_known, wGl K (fun i => h1 (2 + i)) (o_ring 0), wGl K (fun i => h1 (5 + i)) (o_ring 1), wGl K (fun i => h1 (8 + i)) (o_ring 2), wGl K (fun i => h1 (11 + i)) (o_ring 3), wGl K (fun i => h1 (14 + i)) (o_ring 4), wGl K (fun i => h1 (17 + i)) (o_ring 5)]) sz) t) (va_A (fl [wPa K h0 oldest known, wGl K (fun i => h0 (2 + i)) (ring 0), wGl K (fun i => h0 (5 + i)) (ring 1), wGl K (fun i => h0 (8 + i)) (ring 2), wGl K (fun i => h0 (11 + i)) (ring 3), wGl K (fun i => h0 (14 + i)) (ring 4), wGl K (fun i => h0 (17 + i)) (ring 5), wPa K h1 o_oldest o_known, wGl K (fun i => h1 (2 + i)) (o_ring 0), wGl K (fun i => h1 (5 + i)) (o_ring 1), wGl K (fun i => h1 (8 + i)) (o_ring 2), wGl K (fun i => h1 (11 + i)) (o_ring 3), wGl K (fun i => h1 (14 + i)) (o_ring 4), wGl K (fun i => h1 (17 + i)) (o_ring 5)]) sz)) 0 0 (va_A (fl [wPa K h0 oldest known, wGl K (fun i => h0 (2 + i)) (ring 0), wGl K (fun i => h0 (5 + i)) (ring 1), wGl K (fun i => h0 (8 + i)) (ring 2), wGl K (fun i => h0 (11 + i)) (ring 3), wGl K (fun i => h0 (14 + i)) (ring 4), wGl K (fun i => h0 (17 + i)) (ring 5), wPa K h1 o_oldest o_known, wGl K (fun i => h1 (2 + i)) (o_ring 0), wGl K (fun i => h1 (5 + i)) (o_ring 1), wGl K (fun i => h1 (8 + i)) (o_ring 2), wGl K (fun i => h1 (11 + i)) (o_ring 3), wGl K (fun i => h1 (14 + i)) (o_ring 4), wGl K (fun i => h1 (17 + i)) (o_ring 5)]) sz) := by
  refine x_entry (cc := cX4_become) (maxL := 3) (ret := none) (QA := fun A => va_Qv (fun (u : Int32 × Int32 × (Nat → GS)) => post u.1 u.2.1 u.2.2) (fun u t => cQ D K (fl [wPa K h0 u.1 u.2.1, wGl K (fun i => h0 (2 + i)) (u.2.2 0), wGl K (fun i => h0 (5 + i)) (u.2.2 1), wGl K (fun i => h0 (8 + i)) (u.2.2 2), wGl K (fun i => h0 (11 + i)) (u.2.2 3), wGl K (fun i => h0 (14 + i)) (u.2.2 4), wGl K (fun i => h0 (17 + i)) (u.2.2 5), wPa K h1 o_oldest o_known, wGl K (fun i => h1 (2 + i)) (o_ring 0), wGl K (fun i => h1 (5 + i)) (o_ring 1), wGl K (fun i => h1 (8 + i)) (o_ring 2), wGl K (fun i => h1 (11 + i)) (o_ring 3), wGl K (fun i => h1 (14 + i)) (o_ring 4), wGl K (fun i => h1 (17 + i)) (o_ring 5)]) A t) A) (plainFor_of_name (by decide)) rfl (Nat.le_of_ble_eq_true rfl) ?_
  intro p e s m args below meth c A ls H Q hQ hC hlk hr hnm hI hl
  obtain ⟨hx, hb, hml, hown, hts, hK, hA, hZ⟩ := id hC
  obtain ⟨locs, hlocs⟩ : ∃ y : List Loc, y = [] := ⟨_, rfl⟩
  rw [← hlocs] at hI ⊢
  clear hlocs
  replace hl : lv_has ls 3 [(0, .ref (h0 0)), (1, .ref (h1 0))] := hl
  replace hw : (∃ (I2 : Int32 → (Nat → GS) → Prop) (mu2 : Int32 → (Nat → GS) → Nat), I2 (0 : Int32) ring ∧ ∀ (l2_2 : Int32) (ring_2 : Nat → GS), I2 l2_2 ring_2 → (((6 : Int32) ≤ l2_2 → post o_oldest o_known ring_2) ∧ (¬ (6 : Int32) ≤ l2_2 → vp_in l2_2 6 ∧ ∀ k3 : Nat, k3 = l2_2.toNatClampNeg → wX0_become ((ring_2 k3).1) ((ring_2 k3).2.1) ((o_ring k3).1) ((o_ring k3).2.1) ((o_ring k3).2.2.1) ((o_ring k3).2.2.2.1) ((o_ring k3).2.2.2.2.1) ((o_ring k3).2.2.2.2.2.1) ((o_ring k3).2.2.2.2.2.2) (fun (bits_c4 : Nat → Int64) (stops_c5 : Nat → Int32) (num_c6 : Int32) (unit_c7 : Int32) (strips_c8 : Int32) (caps_c9 : Int32) (draw_c10 : Int32) => ∀ x11 : Int32, x11 = l2_2 + 1 → (I2 x11 (va_up ring_2 k3 (bits_c4, stops_c5, num_c6, unit_c7, strips_c8, caps_c9, draw_c10)) ∧ mu2 x11 (va_up ring_2 k3 (bits_c4, stops_c5, num_c6, unit_c7, strips_c8, caps_c9, draw_c10)) < mu2 l2_2 ring_2))))) := hw
  refine lv_iconst (v := (0 : Int32)) hx hb dX4_become_0 (by decide) ?_
  refine lv_istore_n (lv' := [(2, .int (0 : Int32)), (0, .ref (h0 0)), (1, .ref (h1 0))]) hx hb dX4_become_1 rfl hl (by decide) rfl (fun ls hl => ?_)
  obtain ⟨I2, mu2, hw, hb2⟩ := hw
  have lp2 : ∀ (k : Nat) (l2_2 : Int32) (ring_2 : Nat → GS) (ls : Array Slot) (H : Heap) (locs : List Loc), mu2 l2_2 ring_2 < k → I2 l2_2 ring_2 → wI s D A (fl [wPa K h0 oldest known, wGl K (fun i => h0 (2 + i)) (ring_2 0), wGl K (fun i => h0 (5 + i)) (ring_2 1), wGl K (fun i => h0 (8 + i)) (ring_2 2), wGl K (fun i => h0 (11 + i)) (ring_2 3), wGl K (fun i => h0 (14 + i)) (ring_2 4), wGl K (fun i => h0 (17 + i)) (ring_2 5), wPa K h1 o_oldest o_known, wGl K (fun i => h1 (2 + i)) (o_ring 0), wGl K (fun i => h1 (5 + i)) (o_ring 1), wGl K (fun i => h1 (8 + i)) (o_ring 2), wGl K (fun i => h1 (11 + i)) (o_ring 3), wGl K (fun i => h1 (14 + i)) (o_ring 4), wGl K (fun i => h1 (17 + i)) (o_ring 5)]) H locs → lv_has ls 3 [(0, .ref (h0 0)), (1, .ref (h1 0)), (2, .int l2_2)] → W p l e rmX4_become s m args below meth c H locs 0 0 Q (F0 m 2 ls []) := by
    intro k
    induction k with
    | zero => intro l2_2 ring_2 ls H locs hmu; exact absurd hmu (Nat.not_lt_zero _)
    | succ k ih2 =>
      intro l2_2 ring_2 ls H locs hmu2 hw hI hl
      replace hw := hb2 l2_2 ring_2 hw
      refine lv_iload_n hx hb dX4_become_2 rfl (lv_at hl 2 rfl) ?_
      refine lv_bipush (v := (6 : Int32)) hx hb dX4_become_3 (by decide) ?_
      refine lv_icmp_ge (tgt := 29) hx hb dX4_become_5 (by decide) (fun c1 => ?_) (fun c1 => ?_)
      · replace hw := hw.1 c1
        refine lv_aload_n hx hb dX4_become_29 rfl (lv_at hl 0 rfl) ?_
        refine lv_aload_n hx hb dX4_become_30 rfl (lv_at hl 1 rfl) ?_
        refine x_get (v := .int o_oldest) hC hI kX4_become_cX4 20 rfl rfl 1 (by decide) kX4_become_0 rfl rfl dX4_become_31 ?_
        refine x_put (v := .int o_oldest) hC hI kX4_become_cX4 tyX4 tyX4_ok nmX4 0 rfl rfl 1 (by decide) kX4_become_0 rfl rfl rfl rfl (Nat.le_of_ble_eq_true rfl) dX4_become_34 (fun H locs hI => ?_)
        have hI : wI s D A (fl [wPa K h0 o_oldest known, wGl K (fun i => h0 (2 + i)) (ring_2 0), wGl K (fun i => h0 (5 + i)) (ring_2 1), wGl K (fun i => h0 (8 + i)) (ring_2 2), wGl K (fun i => h0 (11 + i)) (ring_2 3), wGl K (fun i => h0 (14 + i)) (ring_2 4), wGl K (fun i => h0 (17 + i)) (ring_2 5), wPa K h1 o_oldest o_known, wGl K (fun i => h1 (2 + i)) (o_ring 0), wGl K (fun i => h1 (5 + i)) (o_ring 1), wGl K (fun i => h1 (8 + i)) (o_ring 2), wGl K (fun i => h1 (11 + i)) (o_ring 3), wGl K (fun i => h1 (14 + i)) (o_ring 4), wGl K (fun i => h1 (17 + i)) (o_ring 5)]) H locs := hI
        refine lv_aload_n hx hb dX4_become_37 rfl (lv_at hl 0 rfl) ?_
        refine lv_aload_n hx hb dX4_become_38 rfl (lv_at hl 1 rfl) ?_
        refine x_get (v := .int o_known) hC hI kX4_become_cX4 20 rfl rfl 2 (by decide) kX4_become_2 rfl rfl dX4_become_39 ?_
        refine x_put (v := .int o_known) hC hI kX4_become_cX4 tyX4 tyX4_ok nmX4 0 rfl rfl 2 (by decide) kX4_become_2 rfl rfl rfl rfl (Nat.le_of_ble_eq_true rfl) dX4_become_42 (fun H locs hI => ?_)
        have hI : wI s D A (fl [wPa K h0 o_oldest o_known, wGl K (fun i => h0 (2 + i)) (ring_2 0), wGl K (fun i => h0 (5 + i)) (ring_2 1), wGl K (fun i => h0 (8 + i)) (ring_2 2), wGl K (fun i => h0 (11 + i)) (ring_2 3), wGl K (fun i => h0 (14 + i)) (ring_2 4), wGl K (fun i => h0 (17 + i)) (ring_2 5), wPa K h1 o_oldest o_known, wGl K (fun i => h1 (2 + i)) (o_ring 0), wGl K (fun i => h1 (5 + i)) (o_ring 1), wGl K (fun i => h1 (8 + i)) (o_ring 2), wGl K (fun i => h1 (11 + i)) (o_ring 3), wGl K (fun i => h1 (14 + i)) (o_ring 4), wGl K (fun i => h1 (17 + i)) (o_ring 5)]) H locs := hI
        subst hQ
        exact x_vret (u := (o_oldest, o_known, ring_2)) hC hI hr hlk hw rfl dX4_become_45
      · replace hw := hw.2 c1
        refine lv_aload_n hx hb dX4_become_8 rfl (lv_at hl 0 rfl) ?_
        refine x_get (v := .ref (h0 1)) hC hI kX4_become_cX4 0 rfl rfl 0 (by decide) kX4_become_3 rfl rfl dX4_become_9 ?_
        refine lv_iload_n hx hb dX4_become_12 rfl (lv_at hl 2 rfl) ?_
        obtain ⟨hc2, hw⟩ := hw
        obtain ⟨k3, ek3⟩ : ∃ y : Nat, y = l2_2.toNatClampNeg := ⟨_, rfl⟩
        replace hw := hw k3 ek3
        have hk3 : k3 < 6 := by rw [ek3]; exact vp_lt hc2
        refine x_aald (x := (h0 (2 + 3 * k3 + 0))) hC hI 1 2 rfl rfl hc2 (by rw [ek3]; rfl) dX4_become_13 ?_
        refine lv_aload_n hx hb dX4_become_14 rfl (lv_at hl 1 rfl) ?_
        refine x_get (v := .ref (h1 1)) hC hI kX4_become_cX4 20 rfl rfl 0 (by decide) kX4_become_3 rfl rfl dX4_become_15 ?_
        refine lv_iload_n hx hb dX4_become_18 rfl (lv_at hl 2 rfl) ?_
        refine x_aald (x := (h1 (2 + 3 * k3 + 0))) hC hI 21 2 rfl rfl hc2 (by rw [ek3]; rfl) dX4_become_19 ?_
        refine x_callVv (fs := [.ref (h0 (2 + 3 * k3 + 1)), .ref (h0 (2 + 3 * k3 + 2)), .int ((ring_2 k3).2.2.1), .int ((ring_2 k3).2.2.2.1), .int ((ring_2 k3).2.2.2.2.1), .int ((ring_2 k3).2.2.2.2.2.1), .int ((ring_2 k3).2.2.2.2.2.2)]) (rest := []) hC hI [(1 + k3), (8 + k3)] (mX0_become l D K (fun i => h0 (2 + 3 * k3 + i)) (fun i => h1 (2 + 3 * k3 + i)) _ ((ring_2 k3).1) ((ring_2 k3).2.1) ((ring_2 k3).2.2.1) ((ring_2 k3).2.2.2.1) ((ring_2 k3).2.2.2.2.1) ((ring_2 k3).2.2.2.2.2.1) ((ring_2 k3).2.2.2.2.2.2) ((o_ring k3).1) ((o_ring k3).2.1) ((o_ring k3).2.2.1) ((o_ring k3).2.2.2.1) ((o_ring k3).2.2.2.2.1) ((o_ring k3).2.2.2.2.2.1) ((o_ring k3).2.2.2.2.2.2) hw) (cwV 1 hts gX4_become_X0_become rfl rfl rfl (by decide +kernel) ⟨(Nat.le_of_ble_eq_true rfl), (Nat.le_of_ble_eq_true rfl)⟩) (by rcases lt6 hk3 with rfl | rfl | rfl | rfl | rfl | rfl <;> rfl) (by rcases lt6 hk3 with rfl | rfl | rfl | rfl | rfl | rfl <;> rfl) (fun _ => rfl) (2 + 3 * k3 + 0) 0 rfl rfl (by rcases lt6 hk3 with rfl | rfl | rfl | rfl | rfl | rfl <;> rfl) rfl hl.1 rfl (Nat.le_of_ble_eq_true rfl) dX4_become_20 ⟨(Nat.le_of_ble_eq_true rfl), (Nat.le_of_ble_eq_true rfl)⟩ (fun u H locs hw hI => ?_)
        obtain ⟨bits_c4, stops_c5, num_c6, unit_c7, strips_c8, caps_c9, draw_c10⟩ := u
        try dsimp only at hw
        have hI : wI s D A (fl [wPa K h0 oldest known, wGl K (fun i => h0 (2 + i)) ((va_up ring_2 k3 (bits_c4, stops_c5, num_c6, unit_c7, strips_c8, caps_c9, draw_c10)) 0), wGl K (fun i => h0 (5 + i)) ((va_up ring_2 k3 (bits_c4, stops_c5, num_c6, unit_c7, strips_c8, caps_c9, draw_c10)) 1), wGl K (fun i => h0 (8 + i)) ((va_up ring_2 k3 (bits_c4, stops_c5, num_c6, unit_c7, strips_c8, caps_c9, draw_c10)) 2), wGl K (fun i => h0 (11 + i)) ((va_up ring_2 k3 (bits_c4, stops_c5, num_c6, unit_c7, strips_c8, caps_c9, draw_c10)) 3), wGl K (fun i => h0 (14 + i)) ((va_up ring_2 k3 (bits_c4, stops_c5, num_c6, unit_c7, strips_c8, caps_c9, draw_c10)) 4), wGl K (fun i => h0 (17 + i)) ((va_up ring_2 k3 (bits_c4, stops_c5, num_c6, unit_c7, strips_c8, caps_c9, draw_c10)) 5), wPa K h1 o_oldest o_known, wGl K (fun i => h1 (2 + i)) (o_ring 0), wGl K (fun i => h1 (5 + i)) (o_ring 1), wGl K (fun i => h1 (8 + i)) (o_ring 2), wGl K (fun i => h1 (11 + i)) (o_ring 3), wGl K (fun i => h1 (14 + i)) (o_ring 4), wGl K (fun i => h1 (17 + i)) (o_ring 5)]) H locs := by rcases lt6 hk3 with rfl | rfl | rfl | rfl | rfl | rfl <;> exact hI
        obtain ⟨x11, ex11⟩ : ∃ y : Int32, y = l2_2 + 1 := ⟨_, rfl⟩
        replace hw := hw x11 ex11
        refine lv_iinc (v := x11) (lv' := [(2, .int x11), (0, .ref (h0 0)), (1, .ref (h1 0))]) hx hb dX4_become_23 hl (k := 2) rfl (by rw [ex11]; rfl) (by decide) rfl (fun ls hl => ?_)
        refine lv_goto (tgt := 2) hx hb dX4_become_26 (by decide) ?_
        exact ih2 x11 (va_up ring_2 k3 (bits_c4, stops_c5, num_c6, unit_c7, strips_c8, caps_c9, draw_c10)) ls H locs (Nat.lt_of_lt_of_le hw.2 (Nat.le_of_lt_succ hmu2)) hw.1 hI (lv_sub hl [1, 2, 0] rfl)
  exact lp2 (mu2 (0 : Int32) ring + 1) (0 : Int32) ring ls H locs (Nat.lt_succ_self _) hw hI (lv_sub hl [1, 2, 0] rfl)

def wX6_renew (a1 : Int32) (a2 : Int32) (items : Nat → Int64) (post : (Nat → Int64) → Int32 → Int32 → Int32 → Prop) : Prop := wJ7_fill_d0a16 (0 : Int64) items 30 (fun (arr_c1 : Nat → Int64) => post arr_c1 (1 : Int32) a1 a2)
def rmX6_renew : Room := { frames := 1, cells := 0, slots := 0, locals := 24 }
theorem kX6_renew_0 : Cond.fieldLink RX6 11 "GoreGlobe$Sheet" "items" "[J" ∈ wsX6_renew := List.mem_cons_of_mem _ (List.mem_append_left _ (List.mem_of_getElem? (i := 0) rfl))
theorem kX6_renew_cX6 : ∀ w ∈ wsX60, w ∈ wsX6_renew := fun _ h => List.mem_cons_of_mem _ (List.mem_append_right _ h)
theorem kX6_renew_2 : Cond.fieldLink RX6 21 "GoreGlobe$Sheet" "isHeld" "Z" ∈ wsX6_renew := List.mem_cons_of_mem _ (List.mem_append_left _ (List.mem_of_getElem? (i := 1) rfl))
theorem kX6_renew_3 : Cond.fieldLink RX6 25 "GoreGlobe$Sheet" "lane" "I" ∈ wsX6_renew := List.mem_cons_of_mem _ (List.mem_append_left _ (List.mem_of_getElem? (i := 2) rfl))
theorem kX6_renew_4 : Cond.fieldLink RX6 29 "GoreGlobe$Sheet" "size" "I" ∈ wsX6_renew := List.mem_cons_of_mem _ (List.mem_append_left _ (List.mem_of_getElem? (i := 3) rfl))
set_option maxHeartbeats 4000000 in
set_option maxRecDepth 100000 in
theorem mX6_renew (l : Launch) (D : va_G) (K : Nat → ClassId) (h : Nat → Nat) (sz : Nat) (a1 : Int32) (a2 : Int32) (items : Nat → Int64) (held : Int32) (lane : Int32) (size : Int32)  {post : (Nat → Int64) → Int32 → Int32 → Int32 → Prop} (hw : wX6_renew a1 a2 items post) : Met l yX6_renew wsX6_renew rmX6_renew (va_Pc [.ref (h 0), .int a1, .int a2] (cP D K (fl [wSh K h items held lane size]) sz)) (va_Qv (fun (u : (Nat → Int64) × Int32 × Int32 × Int32) => post u.1 u.2.1 u.2.2.1 u.2.2.2) (fun u t => cQ D K (fl [wSh K h u.1 u.2.1 u.2.2.1 u.2.2.2]) (va_A (fl [wSh K h items held lane size]) sz) t) (va_A (fl [wSh K h items held lane size]) sz)) 0 0 (va_A (fl [wSh K h items held lane size]) sz) := by
  refine x_entry (cc := cX6_renew) (maxL := 3) (ret := none) (QA := fun A => va_Qv (fun (u : (Nat → Int64) × Int32 × Int32 × Int32) => post u.1 u.2.1 u.2.2.1 u.2.2.2) (fun u t => cQ D K (fl [wSh K h u.1 u.2.1 u.2.2.1 u.2.2.2]) A t) A) (plainFor_of_name (by decide)) rfl (Nat.le_of_ble_eq_true rfl) ?_
  intro p e s m args below meth c A ls H Q hQ hC hlk hr hnm hI hl
  obtain ⟨hx, hb, hml, hown, hts, hK, hA, hZ⟩ := id hC
  obtain ⟨locs, hlocs⟩ : ∃ y : List Loc, y = [] := ⟨_, rfl⟩
  rw [← hlocs] at hI ⊢
  clear hlocs
  replace hl : lv_has ls 3 [(0, .ref (h 0)), (1, .int a1), (2, .int a2)] := hl
  replace hw : wJ7_fill_d0a16 (0 : Int64) items 30 (fun (arr_c1 : Nat → Int64) => post arr_c1 (1 : Int32) a1 a2) := hw
  refine lv_aload_n hx hb dX6_renew_0 rfl (lv_at hl 0 rfl) ?_
  refine x_get (v := .ref (h 1)) hC hI kX6_renew_cX6 0 rfl rfl 0 (by decide) kX6_renew_0 rfl rfl dX6_renew_1 ?_
  refine lv_lconst (v := (0 : Int64)) hx hb dX6_renew_4 (by decide) ?_
  refine x_callSv (L := List.map (fun c => [c]) (fl [wSh K h items held lane size])) (rest := []) hC (by rw [fl_single]; exact hI) [1] (mJ7_fill_d0a16 l D K (fun _ => (h 1)) _ (0 : Int64) items 30 hw) (va_cwS 2 hts gX6_renew_J7_fill_d0a16 rfl rfl rfl (by decide +kernel) ⟨(Nat.le_of_ble_eq_true rfl), (Nat.le_of_ble_eq_true rfl)⟩) (by decide) rfl (fun _ => rfl) rfl hl.1 rfl (Nat.le_of_ble_eq_true rfl) dX6_renew_5 ⟨(Nat.le_of_ble_eq_true rfl), (Nat.le_of_ble_eq_true rfl)⟩ (fun arr_c1 H locs hw hI => ?_)
  have hI : wI s D A (fl [wSh K h arr_c1 held lane size]) H locs := hI
  refine lv_aload_n hx hb dX6_renew_8 rfl (lv_at hl 0 rfl) ?_
  refine lv_iconst (v := (1 : Int32)) hx hb dX6_renew_9 (by decide) ?_
  refine x_put (v := .int (1 : Int32)) hC hI kX6_renew_cX6 tyX6 tyX6_ok nmX6 0 rfl rfl 1 (by decide) kX6_renew_2 rfl rfl rfl rfl (Nat.le_of_ble_eq_true rfl) dX6_renew_10 (fun H locs hI => ?_)
  have hI : wI s D A (fl [wSh K h arr_c1 (1 : Int32) lane size]) H locs := hI
  refine lv_aload_n hx hb dX6_renew_13 rfl (lv_at hl 0 rfl) ?_
  refine lv_iload_n hx hb dX6_renew_14 rfl (lv_at hl 1 rfl) ?_
  refine x_put (v := .int a1) hC hI kX6_renew_cX6 tyX6 tyX6_ok nmX6 0 rfl rfl 2 (by decide) kX6_renew_3 rfl rfl rfl rfl (Nat.le_of_ble_eq_true rfl) dX6_renew_15 (fun H locs hI => ?_)
  have hI : wI s D A (fl [wSh K h arr_c1 (1 : Int32) a1 size]) H locs := hI
  refine lv_aload_n hx hb dX6_renew_18 rfl (lv_at hl 0 rfl) ?_
  refine lv_iload_n hx hb dX6_renew_19 rfl (lv_at hl 2 rfl) ?_
  refine x_put (v := .int a2) hC hI kX6_renew_cX6 tyX6 tyX6_ok nmX6 0 rfl rfl 3 (by decide) kX6_renew_4 rfl rfl rfl rfl (Nat.le_of_ble_eq_true rfl) dX6_renew_20 (fun H locs hI => ?_)
  have hI : wI s D A (fl [wSh K h arr_c1 (1 : Int32) a1 a2]) H locs := hI
  subst hQ
  exact x_vret (u := (arr_c1, (1 : Int32), a1, a2)) hC hI hr hlk hw rfl dX6_renew_23

def wX6_hasItems (a1 : Int32) (a2 : Int32) (size : Int32) (post : Int32 → Prop) : Prop := ((a2 < 0 → post (0 : Int32)) ∧ (¬ a2 < 0 → ((a1 < 0 → post (0 : Int32)) ∧ (¬ a1 < 0 → ((size < a1 → post (0 : Int32)) ∧ (¬ size < a1 → (((size - a1) < a2 → post (0 : Int32)) ∧ (¬ (size - a1) < a2 → post (1 : Int32)))))))))
def rmX6_hasItems : Room := { frames := 0, cells := 0, slots := 0, locals := 0 }
theorem kX6_hasItems_0 : Cond.fieldLink RX6 29 "GoreGlobe$Sheet" "size" "I" ∈ wsX6_hasItems := List.mem_cons_of_mem _ (List.mem_append_left _ (List.mem_of_getElem? (i := 0) rfl))
theorem kX6_hasItems_cX6 : ∀ w ∈ wsX60, w ∈ wsX6_hasItems := fun _ h => List.mem_cons_of_mem _ (List.mem_append_right _ h)
set_option maxHeartbeats 4000000 in
set_option maxRecDepth 100000 in
theorem mX6_hasItems (l : Launch) (D : va_G) (K : Nat → ClassId) (h : Nat → Nat) (sz : Nat) (a1 : Int32) (a2 : Int32) (items : Nat → Int64) (held : Int32) (lane : Int32) (size : Int32)  {post : Int32 → Prop} (hw : wX6_hasItems a1 a2 size post) : Met l yX6_hasItems wsX6_hasItems rmX6_hasItems (va_Pc [.ref (h 0), .int a1, .int a2] (cP D K (fl [wSh K h items held lane size]) sz)) (va_Qi (fun (r : Int32) (u : Unit) => post r) (fun u t => cQ D K (fl [wSh K h items held lane size]) (va_A (fl [wSh K h items held lane size]) sz) t) (va_A (fl [wSh K h items held lane size]) sz)) 0 0 (va_A (fl [wSh K h items held lane size]) sz) := by
  refine x_entry (cc := cX6_hasItems) (maxL := 3) (ret := (some .boolean)) (QA := fun A => va_Qi (fun (r : Int32) (u : Unit) => post r) (fun u t => cQ D K (fl [wSh K h items held lane size]) A t) A) (plainFor_of_name (by decide)) rfl (Nat.le_of_ble_eq_true rfl) ?_
  intro p e s m args below meth c A ls H Q hQ hC hlk hr hnm hI hl
  obtain ⟨hx, hb, hml, hown, hts, hK, hA, hZ⟩ := id hC
  obtain ⟨locs, hlocs⟩ : ∃ y : List Loc, y = [] := ⟨_, rfl⟩
  rw [← hlocs] at hI ⊢
  clear hlocs
  replace hl : lv_has ls 3 [(0, .ref (h 0)), (1, .int a1), (2, .int a2)] := hl
  replace hw : ((a2 < 0 → post (0 : Int32)) ∧ (¬ a2 < 0 → ((a1 < 0 → post (0 : Int32)) ∧ (¬ a1 < 0 → ((size < a1 → post (0 : Int32)) ∧ (¬ size < a1 → (((size - a1) < a2 → post (0 : Int32)) ∧ (¬ (size - a1) < a2 → post (1 : Int32))))))))) := hw
  refine lv_iload_n hx hb dX6_hasItems_0 rfl (lv_at hl 2 rfl) ?_
  refine lv_if_lt (tgt := 30) hx hb dX6_hasItems_1 (by decide) (fun c1 => ?_) (fun c1 => ?_)
  · replace hw := hw.1 c1
    refine lv_iconst (v := (0 : Int32)) hx hb dX6_hasItems_30 (by decide) ?_
    subst hQ
    exact x_zret (u := ()) hC hI hr hlk hw rfl (Or.inl rfl) dX6_hasItems_31
  · replace hw := hw.2 c1
    refine lv_iload_n hx hb dX6_hasItems_4 rfl (lv_at hl 1 rfl) ?_
    refine lv_if_lt (tgt := 30) hx hb dX6_hasItems_5 (by decide) (fun c2 => ?_) (fun c2 => ?_)
    · replace hw := hw.1 c2
      refine lv_iconst (v := (0 : Int32)) hx hb dX6_hasItems_30 (by decide) ?_
      subst hQ
      exact x_zret (u := ()) hC hI hr hlk hw rfl (Or.inl rfl) dX6_hasItems_31
    · replace hw := hw.2 c2
      refine lv_iload_n hx hb dX6_hasItems_8 rfl (lv_at hl 1 rfl) ?_
      refine lv_aload_n hx hb dX6_hasItems_9 rfl (lv_at hl 0 rfl) ?_
      refine x_get (v := .int size) hC hI kX6_hasItems_cX6 0 rfl rfl 3 (by decide) kX6_hasItems_0 rfl rfl dX6_hasItems_10 ?_
      refine lv_icmp_gt (tgt := 30) hx hb dX6_hasItems_13 (by decide) (fun c3 => ?_) (fun c3 => ?_)
      · replace hw := hw.1 c3
        refine lv_iconst (v := (0 : Int32)) hx hb dX6_hasItems_30 (by decide) ?_
        subst hQ
        exact x_zret (u := ()) hC hI hr hlk hw rfl (Or.inl rfl) dX6_hasItems_31
      · replace hw := hw.2 c3
        refine lv_iload_n hx hb dX6_hasItems_16 rfl (lv_at hl 2 rfl) ?_
        refine lv_aload_n hx hb dX6_hasItems_17 rfl (lv_at hl 0 rfl) ?_
        refine x_get (v := .int size) hC hI kX6_hasItems_cX6 0 rfl rfl 3 (by decide) kX6_hasItems_0 rfl rfl dX6_hasItems_18 ?_
        refine lv_iload_n hx hb dX6_hasItems_21 rfl (lv_at hl 1 rfl) ?_
        refine lv_isub hx hb dX6_hasItems_22 ?_
        refine lv_icmp_gt (tgt := 30) hx hb dX6_hasItems_23 (by decide) (fun c4 => ?_) (fun c4 => ?_)
        · replace hw := hw.1 c4
          refine lv_iconst (v := (0 : Int32)) hx hb dX6_hasItems_30 (by decide) ?_
          subst hQ
          exact x_zret (u := ()) hC hI hr hlk hw rfl (Or.inl rfl) dX6_hasItems_31
        · replace hw := hw.2 c4
          refine lv_iconst (v := (1 : Int32)) hx hb dX6_hasItems_26 (by decide) ?_
          refine lv_goto (tgt := 31) hx hb dX6_hasItems_27 (by decide) ?_
          subst hQ
          exact x_zret (u := ()) hC hI hr hlk hw rfl (Or.inr rfl) dX6_hasItems_31

def wX6_refusal (a1 : Int32) (a2 : Int32) (a3 : Int32) (held : Int32) (lane : Int32) (size : Int32) (post : Int32 → Prop) : Prop := ((held = 0 → post (-11 : Int32)) ∧ (¬ held = 0 → ((lane = a1 → wX6_hasItems a2 a3 size (fun (r3 : Int32) => ((r3 = 0 → post (-13 : Int32)) ∧ (¬ r3 = 0 → post (0 : Int32))))) ∧ (¬ lane = a1 → post (-12 : Int32)))))
def rmX6_refusal : Room := { frames := 1, cells := 0, slots := 0, locals := 22 }
theorem kX6_refusal_0 : Cond.fieldLink RX6 21 "GoreGlobe$Sheet" "isHeld" "Z" ∈ wsX6_refusal := List.mem_cons_of_mem _ (List.mem_append_left _ (List.mem_of_getElem? (i := 0) rfl))
theorem kX6_refusal_cX6 : ∀ w ∈ wsX60, w ∈ wsX6_refusal := fun _ h => List.mem_cons_of_mem _ (List.mem_append_right _ h)
theorem kX6_refusal_2 : Cond.fieldLink RX6 25 "GoreGlobe$Sheet" "lane" "I" ∈ wsX6_refusal := List.mem_cons_of_mem _ (List.mem_append_left _ (List.mem_of_getElem? (i := 1) rfl))
set_option maxHeartbeats 4000000 in
set_option maxRecDepth 100000 in
theorem mX6_refusal (l : Launch) (D : va_G) (K : Nat → ClassId) (h : Nat → Nat) (sz : Nat) (a1 : Int32) (a2 : Int32) (a3 : Int32) (items : Nat → Int64) (held : Int32) (lane : Int32) (size : Int32)  {post : Int32 → Prop} (hw : wX6_refusal a1 a2 a3 held lane size post) : Met l yX6_refusal wsX6_refusal rmX6_refusal (va_Pc [.ref (h 0), .int a1, .int a2, .int a3] (cP D K (fl [wSh K h items held lane size]) sz)) (va_Qi (fun (r : Int32) (u : Unit) => post r) (fun u t => cQ D K (fl [wSh K h items held lane size]) (va_A (fl [wSh K h items held lane size]) sz) t) (va_A (fl [wSh K h items held lane size]) sz)) 0 0 (va_A (fl [wSh K h items held lane size]) sz) := by
  refine x_entry (cc := cX6_refusal) (maxL := 4) (ret := (some .int)) (QA := fun A => va_Qi (fun (r : Int32) (u : Unit) => post r) (fun u t => cQ D K (fl [wSh K h items held lane size]) A t) A) (plainFor_of_name (by decide)) rfl (Nat.le_of_ble_eq_true rfl) ?_
  intro p e s m args below meth c A ls H Q hQ hC hlk hr hnm hI hl
  obtain ⟨hx, hb, hml, hown, hts, hK, hA, hZ⟩ := id hC
  obtain ⟨locs, hlocs⟩ : ∃ y : List Loc, y = [] := ⟨_, rfl⟩
  rw [← hlocs] at hI ⊢
  clear hlocs
  replace hl : lv_has ls 4 [(0, .ref (h 0)), (1, .int a1), (2, .int a2), (3, .int a3)] := hl
  replace hw : ((held = 0 → post (-11 : Int32)) ∧ (¬ held = 0 → ((lane = a1 → wX6_hasItems a2 a3 size (fun (r3 : Int32) => ((r3 = 0 → post (-13 : Int32)) ∧ (¬ r3 = 0 → post (0 : Int32))))) ∧ (¬ lane = a1 → post (-12 : Int32))))) := hw
  refine lv_aload_n hx hb dX6_refusal_0 rfl (lv_at hl 0 rfl) ?_
  refine x_get (v := .int held) hC hI kX6_refusal_cX6 0 rfl rfl 1 (by decide) kX6_refusal_0 rfl rfl dX6_refusal_1 ?_
  refine lv_if_ne (tgt := 10) hx hb dX6_refusal_4 (by decide) (fun c1 => ?_) (fun c1 => ?_)
  · replace hw := hw.2 c1
    refine lv_aload_n hx hb dX6_refusal_10 rfl (lv_at hl 0 rfl) ?_
    refine x_get (v := .int lane) hC hI kX6_refusal_cX6 0 rfl rfl 2 (by decide) kX6_refusal_2 rfl rfl dX6_refusal_11 ?_
    refine lv_iload_n hx hb dX6_refusal_14 rfl (lv_at hl 1 rfl) ?_
    refine lv_icmp_eq (tgt := 21) hx hb dX6_refusal_15 (by decide) (fun c2 => ?_) (fun c2 => ?_)
    · replace hw := hw.1 c2
      refine lv_aload_n hx hb dX6_refusal_21 rfl (lv_at hl 0 rfl) ?_
      refine lv_iload_n hx hb dX6_refusal_22 rfl (lv_at hl 2 rfl) ?_
      refine lv_iload_n hx hb dX6_refusal_23 rfl (lv_at hl 3 rfl) ?_
      refine x_callVi (rest := []) hC hI [0] (mX6_hasItems l D K h _ a2 a3 items held lane size hw) (cwV 2 hts gX6_refusal_X6_hasItems rfl rfl rfl (by decide +kernel) ⟨(Nat.le_of_ble_eq_true rfl), (Nat.le_of_ble_eq_true rfl)⟩) (by decide) rfl (fun _ => rfl) 0 4 rfl rfl rfl rfl hl.1 rfl (Nat.le_of_ble_eq_true rfl) dX6_refusal_24 ⟨(Nat.le_of_ble_eq_true rfl), (Nat.le_of_ble_eq_true rfl)⟩ (fun r3 u H locs hw hI => ?_)
      try dsimp only at hw
      have hI : wI s D A (fl [wSh K h items held lane size]) H locs := hI
      refine lv_if_eq (tgt := 34) hx hb dX6_refusal_27 (by decide) (fun c4 => ?_) (fun c4 => ?_)
      · replace hw := hw.1 c4
        refine lv_bipush (v := (-13 : Int32)) hx hb dX6_refusal_34 (by decide) ?_
        subst hQ
        exact x_iret (u := ()) hC hI hr hlk hw rfl dX6_refusal_36
      · replace hw := hw.2 c4
        refine lv_iconst (v := (0 : Int32)) hx hb dX6_refusal_30 (by decide) ?_
        refine lv_goto (tgt := 36) hx hb dX6_refusal_31 (by decide) ?_
        subst hQ
        exact x_iret (u := ()) hC hI hr hlk hw rfl dX6_refusal_36
    · replace hw := hw.2 c2
      refine lv_bipush (v := (-12 : Int32)) hx hb dX6_refusal_18 (by decide) ?_
      subst hQ
      exact x_iret (u := ()) hC hI hr hlk hw rfl dX6_refusal_20
  · replace hw := hw.1 c1
    refine lv_bipush (v := (-11 : Int32)) hx hb dX6_refusal_7 (by decide) ?_
    subst hQ
    exact x_iret (u := ()) hC hI hr hlk hw rfl dX6_refusal_9

def wX6_put (a1 : Int32) (a2 : Int64) (items : Nat → Int64) (lane : Int32) (post : (Nat → Int64) → Prop) : Prop := ((lane = (0 : Int32) → vp_in a1 30 ∧ post (vp_updL items a1.toNatClampNeg a2.toInt32.toInt8.toInt32.toInt64)) ∧ (¬ lane = (0 : Int32) → ((lane = (1 : Int32) → vp_in a1 30 ∧ post (vp_updL items a1.toNatClampNeg a2.toInt32.toInt16.toInt32.toInt64)) ∧ (¬ lane = (1 : Int32) → ((lane = (2 : Int32) → vp_in a1 30 ∧ post (vp_updL items a1.toNatClampNeg a2.toInt32.toInt64)) ∧ (¬ lane = (2 : Int32) → vp_in a1 30 ∧ post (vp_updL items a1.toNatClampNeg a2)))))))
def rmX6_put : Room := { frames := 0, cells := 0, slots := 0, locals := 0 }
theorem kX6_put_0 : Cond.fieldLink RX6 25 "GoreGlobe$Sheet" "lane" "I" ∈ wsX6_put := List.mem_cons_of_mem _ (List.mem_append_left _ (List.mem_of_getElem? (i := 0) rfl))
theorem kX6_put_cX6 : ∀ w ∈ wsX60, w ∈ wsX6_put := fun _ h => List.mem_cons_of_mem _ (List.mem_append_right _ h)
theorem kX6_put_2 : Cond.fieldLink RX6 11 "GoreGlobe$Sheet" "items" "[J" ∈ wsX6_put := List.mem_cons_of_mem _ (List.mem_append_left _ (List.mem_of_getElem? (i := 1) rfl))
set_option maxHeartbeats 4000000 in
set_option maxRecDepth 100000 in
theorem mX6_put (l : Launch) (D : va_G) (K : Nat → ClassId) (h : Nat → Nat) (sz : Nat) (a1 : Int32) (a2 : Int64) (items : Nat → Int64) (held : Int32) (lane : Int32) (size : Int32)  {post : (Nat → Int64) → Prop} (hw : wX6_put a1 a2 items lane post) : Met l yX6_put wsX6_put rmX6_put (va_Pc [.ref (h 0), .int a1, .long a2] (cP D K (fl [wSh K h items held lane size]) sz)) (va_Qv (fun (u : (Nat → Int64)) => post u) (fun u t => cQ D K (fl [wSh K h u held lane size]) (va_A (fl [wSh K h items held lane size]) sz) t) (va_A (fl [wSh K h items held lane size]) sz)) 0 0 (va_A (fl [wSh K h items held lane size]) sz) := by
  refine x_entry (cc := cX6_put) (maxL := 4) (ret := none) (QA := fun A => va_Qv (fun (u : (Nat → Int64)) => post u) (fun u t => cQ D K (fl [wSh K h u held lane size]) A t) A) (plainFor_of_name (by decide)) rfl (Nat.le_of_ble_eq_true rfl) ?_
  intro p e s m args below meth c A ls H Q hQ hC hlk hr hnm hI hl
  obtain ⟨hx, hb, hml, hown, hts, hK, hA, hZ⟩ := id hC
  obtain ⟨locs, hlocs⟩ : ∃ y : List Loc, y = [] := ⟨_, rfl⟩
  rw [← hlocs] at hI ⊢
  clear hlocs
  replace hl : lv_has ls 4 [(0, .ref (h 0)), (1, .int a1), (2, .long a2)] := hl
  replace hw : ((lane = (0 : Int32) → vp_in a1 30 ∧ post (vp_updL items a1.toNatClampNeg a2.toInt32.toInt8.toInt32.toInt64)) ∧ (¬ lane = (0 : Int32) → ((lane = (1 : Int32) → vp_in a1 30 ∧ post (vp_updL items a1.toNatClampNeg a2.toInt32.toInt16.toInt32.toInt64)) ∧ (¬ lane = (1 : Int32) → ((lane = (2 : Int32) → vp_in a1 30 ∧ post (vp_updL items a1.toNatClampNeg a2.toInt32.toInt64)) ∧ (¬ lane = (2 : Int32) → vp_in a1 30 ∧ post (vp_updL items a1.toNatClampNeg a2))))))) := hw
  refine lv_aload_n hx hb dX6_put_0 rfl (lv_at hl 0 rfl) ?_
  refine x_get (v := .int lane) hC hI kX6_put_cX6 0 rfl rfl 2 (by decide) kX6_put_0 rfl rfl dX6_put_1 ?_
  by_cases c1 : lane = (0 : Int32)
  · replace hw := hw.1 c1
    refine lv_tableIn (off := 28) (tgt := 32) hx hb dX6_put_4 (by rw [c1]; decide) (by rw [c1]; decide) (by rw [c1]; rfl) (by decide) ?_
    refine lv_aload_n hx hb dX6_put_32 rfl (lv_at hl 0 rfl) ?_
    refine x_get (v := .ref (h 1)) hC hI kX6_put_cX6 0 rfl rfl 0 (by decide) kX6_put_2 rfl rfl dX6_put_33 ?_
    refine lv_iload_n hx hb dX6_put_36 rfl (lv_at hl 1 rfl) ?_
    refine lv_lload_n hx hb dX6_put_37 rfl (lv_at hl 2 rfl) ?_
    refine lv_l2i (v := a2.toInt32) hx hb dX6_put_38 rfl ?_
    refine lv_i2b (v := a2.toInt32.toInt8.toInt32) hx hb dX6_put_39 rfl ?_
    refine lv_i2l (v := a2.toInt32.toInt8.toInt32.toInt64) hx hb dX6_put_40 rfl ?_
    obtain ⟨hc2, hw⟩ := hw
    refine x_last (f := items) hC hI 1 rfl hc2 dX6_put_41 (fun H locs hI => ?_)
    have hI : wI s D A (fl [wSh K h (vp_updL items a1.toNatClampNeg a2.toInt32.toInt8.toInt32.toInt64) held lane size]) H locs := hI
    refine lv_goto (tgt := 77) hx hb dX6_put_42 (by decide) ?_
    subst hQ
    exact x_vret (u := (vp_updL items a1.toNatClampNeg a2.toInt32.toInt8.toInt32.toInt64)) hC hI hr hlk hw rfl dX6_put_77
  · replace hw := hw.2 c1
    by_cases c3 : lane = (1 : Int32)
    · replace hw := hw.1 c3
      refine lv_tableIn (off := 41) (tgt := 45) hx hb dX6_put_4 (by rw [c3]; decide) (by rw [c3]; decide) (by rw [c3]; rfl) (by decide) ?_
      refine lv_aload_n hx hb dX6_put_45 rfl (lv_at hl 0 rfl) ?_
      refine x_get (v := .ref (h 1)) hC hI kX6_put_cX6 0 rfl rfl 0 (by decide) kX6_put_2 rfl rfl dX6_put_46 ?_
      refine lv_iload_n hx hb dX6_put_49 rfl (lv_at hl 1 rfl) ?_
      refine lv_lload_n hx hb dX6_put_50 rfl (lv_at hl 2 rfl) ?_
      refine lv_l2i (v := a2.toInt32) hx hb dX6_put_51 rfl ?_
      refine lv_i2s (v := a2.toInt32.toInt16.toInt32) hx hb dX6_put_52 rfl ?_
      refine lv_i2l (v := a2.toInt32.toInt16.toInt32.toInt64) hx hb dX6_put_53 rfl ?_
      obtain ⟨hc4, hw⟩ := hw
      refine x_last (f := items) hC hI 1 rfl hc4 dX6_put_54 (fun H locs hI => ?_)
      have hI : wI s D A (fl [wSh K h (vp_updL items a1.toNatClampNeg a2.toInt32.toInt16.toInt32.toInt64) held lane size]) H locs := hI
      refine lv_goto (tgt := 77) hx hb dX6_put_55 (by decide) ?_
      subst hQ
      exact x_vret (u := (vp_updL items a1.toNatClampNeg a2.toInt32.toInt16.toInt32.toInt64)) hC hI hr hlk hw rfl dX6_put_77
    · replace hw := hw.2 c3
      by_cases c5 : lane = (2 : Int32)
      · replace hw := hw.1 c5
        refine lv_tableIn (off := 54) (tgt := 58) hx hb dX6_put_4 (by rw [c5]; decide) (by rw [c5]; decide) (by rw [c5]; rfl) (by decide) ?_
        refine lv_aload_n hx hb dX6_put_58 rfl (lv_at hl 0 rfl) ?_
        refine x_get (v := .ref (h 1)) hC hI kX6_put_cX6 0 rfl rfl 0 (by decide) kX6_put_2 rfl rfl dX6_put_59 ?_
        refine lv_iload_n hx hb dX6_put_62 rfl (lv_at hl 1 rfl) ?_
        refine lv_lload_n hx hb dX6_put_63 rfl (lv_at hl 2 rfl) ?_
        refine lv_l2i (v := a2.toInt32) hx hb dX6_put_64 rfl ?_
        refine lv_i2l (v := a2.toInt32.toInt64) hx hb dX6_put_65 rfl ?_
        obtain ⟨hc6, hw⟩ := hw
        refine x_last (f := items) hC hI 1 rfl hc6 dX6_put_66 (fun H locs hI => ?_)
        have hI : wI s D A (fl [wSh K h (vp_updL items a1.toNatClampNeg a2.toInt32.toInt64) held lane size]) H locs := hI
        refine lv_goto (tgt := 77) hx hb dX6_put_67 (by decide) ?_
        subst hQ
        exact x_vret (u := (vp_updL items a1.toNatClampNeg a2.toInt32.toInt64)) hC hI hr hlk hw rfl dX6_put_77
      · replace hw := hw.2 c5
        refine lv_tableOut (tgt := 70) hx hb dX6_put_4 (by have nc1 := lv_neT c1 (a := 0) rfl; have nc3 := lv_neT c3 (a := 1) rfl; have nc5 := lv_neT c5 (a := 2) rfl; omega) (by decide) ?_
        refine lv_aload_n hx hb dX6_put_70 rfl (lv_at hl 0 rfl) ?_
        refine x_get (v := .ref (h 1)) hC hI kX6_put_cX6 0 rfl rfl 0 (by decide) kX6_put_2 rfl rfl dX6_put_71 ?_
        refine lv_iload_n hx hb dX6_put_74 rfl (lv_at hl 1 rfl) ?_
        refine lv_lload_n hx hb dX6_put_75 rfl (lv_at hl 2 rfl) ?_
        obtain ⟨hc7, hw⟩ := hw
        refine x_last (f := items) hC hI 1 rfl hc7 dX6_put_76 (fun H locs hI => ?_)
        have hI : wI s D A (fl [wSh K h (vp_updL items a1.toNatClampNeg a2) held lane size]) H locs := hI
        subst hQ
        exact x_vret (u := (vp_updL items a1.toNatClampNeg a2)) hC hI hr hlk hw rfl dX6_put_77

def wX6_tellsPlaceAt (a1 : Int32) (items : Nat → Int64) (post : Int32 → Prop) : Prop := vp_in a1 30 ∧ ∀ x2 : Int64, x2 = items a1.toNatClampNeg → vp_in (a1 + (1 : Int32)) 30 ∧ ∀ x4 : Int64, x4 = items (a1 + (1 : Int32)).toNatClampNeg → (((lg_cmp x2 (-6 : Int64)) < 0 → post (0 : Int32)) ∧ (¬ (lg_cmp x2 (-6 : Int64)) < 0 → ((0 < (lg_cmp x2 (6 : Int64)) → post (0 : Int32)) ∧ (¬ 0 < (lg_cmp x2 (6 : Int64)) → (((lg_cmp x4 (0 : Int64)) < 0 → post (0 : Int32)) ∧ (¬ (lg_cmp x4 (0 : Int64)) < 0 → ((0 ≤ (lg_cmp x4 (24 : Int64)) → post (0 : Int32)) ∧ (¬ 0 ≤ (lg_cmp x4 (24 : Int64)) → post (1 : Int32)))))))))
def rmX6_tellsPlaceAt : Room := { frames := 0, cells := 0, slots := 0, locals := 0 }
theorem kX6_tellsPlaceAt_0 : Cond.fieldLink RX6 11 "GoreGlobe$Sheet" "items" "[J" ∈ wsX6_tellsPlaceAt := List.mem_cons_of_mem _ (List.mem_append_left _ (List.mem_of_getElem? (i := 0) rfl))
theorem kX6_tellsPlaceAt_cX6 : ∀ w ∈ wsX60, w ∈ wsX6_tellsPlaceAt := fun _ h => List.mem_cons_of_mem _ (List.mem_append_right _ h)
theorem kX6_tellsPlaceAt_2 : Cond.constantLong RX6 38 (-6) ∈ wsX6_tellsPlaceAt := List.mem_cons_of_mem _ (List.mem_append_left _ (List.mem_of_getElem? (i := 1) rfl))
theorem kX6_tellsPlaceAt_3 : Cond.constantLong RX6 40 (6) ∈ wsX6_tellsPlaceAt := List.mem_cons_of_mem _ (List.mem_append_left _ (List.mem_of_getElem? (i := 2) rfl))
theorem kX6_tellsPlaceAt_4 : Cond.constantLong RX6 42 (24) ∈ wsX6_tellsPlaceAt := List.mem_cons_of_mem _ (List.mem_append_left _ (List.mem_of_getElem? (i := 3) rfl))
set_option maxHeartbeats 4000000 in
set_option maxRecDepth 100000 in
theorem mX6_tellsPlaceAt (l : Launch) (D : va_G) (K : Nat → ClassId) (h : Nat → Nat) (sz : Nat) (a1 : Int32) (items : Nat → Int64) (held : Int32) (lane : Int32) (size : Int32)  {post : Int32 → Prop} (hw : wX6_tellsPlaceAt a1 items post) : Met l yX6_tellsPlaceAt wsX6_tellsPlaceAt rmX6_tellsPlaceAt (va_Pc [.ref (h 0), .int a1] (cP D K (fl [wSh K h items held lane size]) sz)) (va_Qi (fun (r : Int32) (u : Unit) => post r) (fun u t => cQ D K (fl [wSh K h items held lane size]) (va_A (fl [wSh K h items held lane size]) sz) t) (va_A (fl [wSh K h items held lane size]) sz)) 0 0 (va_A (fl [wSh K h items held lane size]) sz) := by
  refine x_entry (cc := cX6_tellsPlaceAt) (maxL := 6) (ret := (some .boolean)) (QA := fun A => va_Qi (fun (r : Int32) (u : Unit) => post r) (fun u t => cQ D K (fl [wSh K h items held lane size]) A t) A) (plainFor_of_name (by decide)) rfl (Nat.le_of_ble_eq_true rfl) ?_
  intro p e s m args below meth c A ls H Q hQ hC hlk hr hnm hI hl
  obtain ⟨hx, hb, hml, hown, hts, hK, hA, hZ⟩ := id hC
  obtain ⟨locs, hlocs⟩ : ∃ y : List Loc, y = [] := ⟨_, rfl⟩
  rw [← hlocs] at hI ⊢
  clear hlocs
  replace hl : lv_has ls 6 [(0, .ref (h 0)), (1, .int a1)] := hl
  replace hw : vp_in a1 30 ∧ ∀ x2 : Int64, x2 = items a1.toNatClampNeg → vp_in (a1 + (1 : Int32)) 30 ∧ ∀ x4 : Int64, x4 = items (a1 + (1 : Int32)).toNatClampNeg → (((lg_cmp x2 (-6 : Int64)) < 0 → post (0 : Int32)) ∧ (¬ (lg_cmp x2 (-6 : Int64)) < 0 → ((0 < (lg_cmp x2 (6 : Int64)) → post (0 : Int32)) ∧ (¬ 0 < (lg_cmp x2 (6 : Int64)) → (((lg_cmp x4 (0 : Int64)) < 0 → post (0 : Int32)) ∧ (¬ (lg_cmp x4 (0 : Int64)) < 0 → ((0 ≤ (lg_cmp x4 (24 : Int64)) → post (0 : Int32)) ∧ (¬ 0 ≤ (lg_cmp x4 (24 : Int64)) → post (1 : Int32))))))))) := hw
  refine lv_aload_n hx hb dX6_tellsPlaceAt_0 rfl (lv_at hl 0 rfl) ?_
  refine x_get (v := .ref (h 1)) hC hI kX6_tellsPlaceAt_cX6 0 rfl rfl 0 (by decide) kX6_tellsPlaceAt_0 rfl rfl dX6_tellsPlaceAt_1 ?_
  refine lv_iload_n hx hb dX6_tellsPlaceAt_4 rfl (lv_at hl 1 rfl) ?_
  obtain ⟨hc1, hw⟩ := hw
  refine x_lald (f := items) hC hI 1 rfl hc1 dX6_tellsPlaceAt_5 ?_
  refine lv_topl (fun x2 ex2 => ?_)
  replace hw := hw x2 ex2
  refine lv_lstore_n (lv' := [(2, .long x2), (0, .ref (h 0)), (1, .int a1)]) hx hb dX6_tellsPlaceAt_6 rfl hl (by decide) rfl (fun ls hl => ?_)
  refine lv_aload_n hx hb dX6_tellsPlaceAt_7 rfl (lv_at hl 1 rfl) ?_
  refine x_get (v := .ref (h 1)) hC hI kX6_tellsPlaceAt_cX6 0 rfl rfl 0 (by decide) kX6_tellsPlaceAt_0 rfl rfl dX6_tellsPlaceAt_8 ?_
  refine lv_iload_n hx hb dX6_tellsPlaceAt_11 rfl (lv_at hl 2 rfl) ?_
  refine lv_iconst (v := (1 : Int32)) hx hb dX6_tellsPlaceAt_12 (by decide) ?_
  refine lv_iadd hx hb dX6_tellsPlaceAt_13 ?_
  obtain ⟨hc3, hw⟩ := hw
  refine x_lald (f := items) hC hI 1 rfl hc3 dX6_tellsPlaceAt_14 ?_
  refine lv_topl (fun x4 ex4 => ?_)
  replace hw := hw x4 ex4
  refine lv_lstore (lv' := [(4, .long x4), (2, .long x2), (0, .ref (h 0)), (1, .int a1)]) hx hb dX6_tellsPlaceAt_15 hl (by decide) rfl (fun ls hl => ?_)
  refine lv_lload_n hx hb dX6_tellsPlaceAt_17 rfl (lv_at hl 1 rfl) ?_
  refine lv_ldc2 (v := (-6 : Int64)) hx hb hown (hts _ kX6_tellsPlaceAt_2) dX6_tellsPlaceAt_18 ?_
  refine W.lcmp hx hb dX6_tellsPlaceAt_21 ?_
  refine lv_if_lt (tgt := 53) hx hb dX6_tellsPlaceAt_22 (by decide) (fun c5 => ?_) (fun c5 => ?_)
  · replace hw := hw.1 c5
    refine lv_iconst (v := (0 : Int32)) hx hb dX6_tellsPlaceAt_53 (by decide) ?_
    subst hQ
    exact x_zret (u := ()) hC hI hr hlk hw rfl (Or.inl rfl) dX6_tellsPlaceAt_54
  · replace hw := hw.2 c5
    refine lv_lload_n hx hb dX6_tellsPlaceAt_25 rfl (lv_at hl 1 rfl) ?_
    refine lv_ldc2 (v := (6 : Int64)) hx hb hown (hts _ kX6_tellsPlaceAt_3) dX6_tellsPlaceAt_26 ?_
    refine W.lcmp hx hb dX6_tellsPlaceAt_29 ?_
    refine lv_if_gt (tgt := 53) hx hb dX6_tellsPlaceAt_30 (by decide) (fun c6 => ?_) (fun c6 => ?_)
    · replace hw := hw.1 c6
      refine lv_iconst (v := (0 : Int32)) hx hb dX6_tellsPlaceAt_53 (by decide) ?_
      subst hQ
      exact x_zret (u := ()) hC hI hr hlk hw rfl (Or.inl rfl) dX6_tellsPlaceAt_54
    · replace hw := hw.2 c6
      refine lv_lload hx hb dX6_tellsPlaceAt_33 (lv_at hl 0 rfl) ?_
      refine lv_lconst (v := (0 : Int64)) hx hb dX6_tellsPlaceAt_35 (by decide) ?_
      refine W.lcmp hx hb dX6_tellsPlaceAt_36 ?_
      refine lv_if_lt (tgt := 53) hx hb dX6_tellsPlaceAt_37 (by decide) (fun c7 => ?_) (fun c7 => ?_)
      · replace hw := hw.1 c7
        refine lv_iconst (v := (0 : Int32)) hx hb dX6_tellsPlaceAt_53 (by decide) ?_
        subst hQ
        exact x_zret (u := ()) hC hI hr hlk hw rfl (Or.inl rfl) dX6_tellsPlaceAt_54
      · replace hw := hw.2 c7
        refine lv_lload hx hb dX6_tellsPlaceAt_40 (lv_at hl 0 rfl) ?_
        refine lv_ldc2 (v := (24 : Int64)) hx hb hown (hts _ kX6_tellsPlaceAt_4) dX6_tellsPlaceAt_42 ?_
        refine W.lcmp hx hb dX6_tellsPlaceAt_45 ?_
        refine lv_if_ge (tgt := 53) hx hb dX6_tellsPlaceAt_46 (by decide) (fun c8 => ?_) (fun c8 => ?_)
        · replace hw := hw.1 c8
          refine lv_iconst (v := (0 : Int32)) hx hb dX6_tellsPlaceAt_53 (by decide) ?_
          subst hQ
          exact x_zret (u := ()) hC hI hr hlk hw rfl (Or.inl rfl) dX6_tellsPlaceAt_54
        · replace hw := hw.2 c8
          refine lv_iconst (v := (1 : Int32)) hx hb dX6_tellsPlaceAt_49 (by decide) ?_
          refine lv_goto (tgt := 54) hx hb dX6_tellsPlaceAt_50 (by decide) ?_
          subst hQ
          exact x_zret (u := ()) hC hI hr hlk hw rfl (Or.inr rfl) dX6_tellsPlaceAt_54

def wX6_agreesWith (a1 : Int32) (a2 : Int32) (a3 : Int32) (a4 : Int32) (items : Nat → Int64) (post : Int32 → Prop) : Prop := (∃ (I3 : Int32 → Prop) (mu3 : Int32 → Nat), I3 a3 ∧ ∀ (l5_3 : Int32), I3 l5_3 → (((a3 + ((3 : Int32) * a4)) ≤ l5_3 → post (1 : Int32)) ∧ (¬ (a3 + ((3 : Int32) * a4)) ≤ l5_3 → vp_in l5_3 30 ∧ ∀ x3 : Int32, x3 = (items l5_3.toNatClampNeg).toInt32 → vp_in (l5_3 + (1 : Int32)) 30 ∧ wX1_numberOf x3 ((items (l5_3 + (1 : Int32)).toNatClampNeg).toInt32) (fun (r5 : Int32) => wX1_stepOf r5 (fun (r6 : Int32) => wX3_stripX a1 a2 x3 r6 (fun (r7 : Int32) => vp_in (l5_3 + (2 : Int32)) 30 ∧ (((lg_cmp r7.toInt64 (items (l5_3 + (2 : Int32)).toNatClampNeg)) = 0 → ∀ x10 : Int32, x10 = l5_3 + 3 → (I3 x10 ∧ mu3 x10 < mu3 l5_3)) ∧ (¬ (lg_cmp r7.toInt64 (items (l5_3 + (2 : Int32)).toNatClampNeg)) = 0 → post (0 : Int32)))))))))
def rmX6_agreesWith : Room := { frames := 3, cells := 0, slots := 0, locals := 68 }
theorem kX6_agreesWith_0 : Cond.fieldLink RX6 11 "GoreGlobe$Sheet" "items" "[J" ∈ wsX6_agreesWith := List.mem_cons_of_mem _ (List.mem_append_left _ (List.mem_of_getElem? (i := 0) rfl))
theorem kX6_agreesWith_cX6 : ∀ w ∈ wsX60, w ∈ wsX6_agreesWith := fun _ h => List.mem_cons_of_mem _ (List.mem_append_right _ h)
set_option maxHeartbeats 4000000 in
set_option maxRecDepth 100000 in
theorem mX6_agreesWith (l : Launch) (D : va_G) (K : Nat → ClassId) (h : Nat → Nat) (sz : Nat) (a1 : Int32) (a2 : Int32) (a3 : Int32) (a4 : Int32) (items : Nat → Int64) (held : Int32) (lane : Int32) (size : Int32)  {post : Int32 → Prop} (hw : wX6_agreesWith a1 a2 a3 a4 items post) : Met l yX6_agreesWith wsX6_agreesWith rmX6_agreesWith (va_Pc [.ref (h 0), .int a1, .int a2, .int a3, .int a4] (cP D K (fl [wSh K h items held lane size]) sz)) (va_Qi (fun (r : Int32) (u : Unit) => post r) (fun u t => cQ D K (fl [wSh K h items held lane size]) (va_A (fl [wSh K h items held lane size]) sz) t) (va_A (fl [wSh K h items held lane size]) sz)) 0 0 (va_A (fl [wSh K h items held lane size]) sz) := by
  refine x_entry (cc := cX6_agreesWith) (maxL := 8) (ret := (some .boolean)) (QA := fun A => va_Qi (fun (r : Int32) (u : Unit) => post r) (fun u t => cQ D K (fl [wSh K h items held lane size]) A t) A) (plainFor_of_name (by decide)) rfl (Nat.le_of_ble_eq_true rfl) ?_
  intro p e s m args below meth c A ls H Q hQ hC hlk hr hnm hI hl
  obtain ⟨hx, hb, hml, hown, hts, hK, hA, hZ⟩ := id hC
  obtain ⟨locs, hlocs⟩ : ∃ y : List Loc, y = [] := ⟨_, rfl⟩
  rw [← hlocs] at hI ⊢
  clear hlocs
  replace hl : lv_has ls 8 [(0, .ref (h 0)), (1, .int a1), (2, .int a2), (3, .int a3), (4, .int a4)] := hl
  replace hw : (∃ (I3 : Int32 → Prop) (mu3 : Int32 → Nat), I3 a3 ∧ ∀ (l5_3 : Int32), I3 l5_3 → (((a3 + ((3 : Int32) * a4)) ≤ l5_3 → post (1 : Int32)) ∧ (¬ (a3 + ((3 : Int32) * a4)) ≤ l5_3 → vp_in l5_3 30 ∧ ∀ x3 : Int32, x3 = (items l5_3.toNatClampNeg).toInt32 → vp_in (l5_3 + (1 : Int32)) 30 ∧ wX1_numberOf x3 ((items (l5_3 + (1 : Int32)).toNatClampNeg).toInt32) (fun (r5 : Int32) => wX1_stepOf r5 (fun (r6 : Int32) => wX3_stripX a1 a2 x3 r6 (fun (r7 : Int32) => vp_in (l5_3 + (2 : Int32)) 30 ∧ (((lg_cmp r7.toInt64 (items (l5_3 + (2 : Int32)).toNatClampNeg)) = 0 → ∀ x10 : Int32, x10 = l5_3 + 3 → (I3 x10 ∧ mu3 x10 < mu3 l5_3)) ∧ (¬ (lg_cmp r7.toInt64 (items (l5_3 + (2 : Int32)).toNatClampNeg)) = 0 → post (0 : Int32))))))))) := hw
  refine lv_iload_n hx hb dX6_agreesWith_0 rfl (lv_at hl 3 rfl) ?_
  refine lv_istore (lv' := [(5, .int a3), (0, .ref (h 0)), (1, .int a1), (2, .int a2), (3, .int a3), (4, .int a4)]) hx hb dX6_agreesWith_1 hl (by decide) rfl (fun ls hl => ?_)
  obtain ⟨I3, mu3, hw, hb3⟩ := hw
  have lp3 : ∀ (k : Nat) (l5_3 : Int32) (ls : Array Slot) (H : Heap) (locs : List Loc), mu3 l5_3 < k → I3 l5_3 → wI s D A (fl [wSh K h items held lane size]) H locs → lv_has ls 8 [(0, .ref (h 0)), (1, .int a1), (2, .int a2), (3, .int a3), (4, .int a4), (5, .int l5_3)] → W p l e rmX6_agreesWith s m args below meth c H locs 0 0 Q (F0 m 3 ls []) := by
    intro k
    induction k with
    | zero => intro l5_3 ls H locs hmu; exact absurd hmu (Nat.not_lt_zero _)
    | succ k ih3 =>
      intro l5_3 ls H locs hmu3 hw hI hl
      replace hw := hb3 l5_3 hw
      refine lv_iload hx hb dX6_agreesWith_3 (lv_at hl 5 rfl) ?_
      refine lv_iload_n hx hb dX6_agreesWith_5 rfl (lv_at hl 3 rfl) ?_
      refine lv_iconst (v := (3 : Int32)) hx hb dX6_agreesWith_6 (by decide) ?_
      refine lv_iload hx hb dX6_agreesWith_7 (lv_at hl 4 rfl) ?_
      refine lv_imul hx hb dX6_agreesWith_9 ?_
      refine lv_iadd hx hb dX6_agreesWith_10 ?_
      refine lv_icmp_ge (tgt := 75) hx hb dX6_agreesWith_11 (by decide) (fun c1 => ?_) (fun c1 => ?_)
      · replace hw := hw.1 c1
        refine lv_iconst (v := (1 : Int32)) hx hb dX6_agreesWith_75 (by decide) ?_
        subst hQ
        exact x_zret (u := ()) hC hI hr hlk hw rfl (Or.inr rfl) dX6_agreesWith_76
      · replace hw := hw.2 c1
        refine lv_aload_n hx hb dX6_agreesWith_14 rfl (lv_at hl 0 rfl) ?_
        refine x_get (v := .ref (h 1)) hC hI kX6_agreesWith_cX6 0 rfl rfl 0 (by decide) kX6_agreesWith_0 rfl rfl dX6_agreesWith_15 ?_
        refine lv_iload hx hb dX6_agreesWith_18 (lv_at hl 5 rfl) ?_
        obtain ⟨hc2, hw⟩ := hw
        refine x_lald (f := items) hC hI 1 rfl hc2 dX6_agreesWith_20 ?_
        refine lv_l2i (v := (items l5_3.toNatClampNeg).toInt32) hx hb dX6_agreesWith_21 rfl ?_
        refine lv_topi (fun x3 ex3 => ?_)
        replace hw := hw x3 ex3
        refine lv_istore (lv' := [(6, .int x3), (0, .ref (h 0)), (1, .int a1), (2, .int a2), (3, .int a3), (4, .int a4), (5, .int l5_3)]) hx hb dX6_agreesWith_22 hl (by decide) rfl (fun ls hl => ?_)
        refine lv_iload hx hb dX6_agreesWith_24 (lv_at hl 0 rfl) ?_
        refine lv_aload_n hx hb dX6_agreesWith_26 rfl (lv_at hl 1 rfl) ?_
        refine x_get (v := .ref (h 1)) hC hI kX6_agreesWith_cX6 0 rfl rfl 0 (by decide) kX6_agreesWith_0 rfl rfl dX6_agreesWith_27 ?_
        refine lv_iload hx hb dX6_agreesWith_30 (lv_at hl 6 rfl) ?_
        refine lv_iconst (v := (1 : Int32)) hx hb dX6_agreesWith_32 (by decide) ?_
        refine lv_iadd hx hb dX6_agreesWith_33 ?_
        obtain ⟨hc4, hw⟩ := hw
        refine x_lald (f := items) hC hI 1 rfl hc4 dX6_agreesWith_34 ?_
        refine lv_l2i (v := (items (l5_3 + (1 : Int32)).toNatClampNeg).toInt32) hx hb dX6_agreesWith_35 rfl ?_
        refine x_callSi (rest := []) hC hI [] (mX1_numberOf l D K  _ x3 ((items (l5_3 + (1 : Int32)).toNatClampNeg).toInt32) hw) (va_cwS 2 hts gX6_agreesWith_X1_numberOf rfl rfl rfl (by decide +kernel) ⟨(Nat.le_of_ble_eq_true rfl), (Nat.le_of_ble_eq_true rfl)⟩) (by decide) rfl (fun _ => rfl) rfl hl.1 rfl (Nat.le_of_ble_eq_true rfl) dX6_agreesWith_36 ⟨(Nat.le_of_ble_eq_true rfl), (Nat.le_of_ble_eq_true rfl)⟩ (fun r5 u H locs hw hI => ?_)
        try dsimp only at hw
        have hI : wI s D A (fl [wSh K h items held lane size]) H locs := hI
        refine x_callSi (rest := []) hC hI [] (mX1_stepOf l D K  _ r5 hw) (va_cwS 1 hts gX6_agreesWith_X1_stepOf rfl rfl rfl (by decide +kernel) ⟨(Nat.le_of_ble_eq_true rfl), (Nat.le_of_ble_eq_true rfl)⟩) (by decide) rfl (fun _ => rfl) rfl hl.1 rfl (Nat.le_of_ble_eq_true rfl) dX6_agreesWith_39 ⟨(Nat.le_of_ble_eq_true rfl), (Nat.le_of_ble_eq_true rfl)⟩ (fun r6 u H locs hw hI => ?_)
        try dsimp only at hw
        have hI : wI s D A (fl [wSh K h items held lane size]) H locs := hI
        refine lv_istore (lv' := [(7, .int r6), (6, .int x3), (0, .ref (h 0)), (1, .int a1), (2, .int a2), (3, .int a3), (4, .int a4), (5, .int l5_3)]) hx hb dX6_agreesWith_42 hl (by decide) rfl (fun ls hl => ?_)
        refine lv_iload_n hx hb dX6_agreesWith_44 rfl (lv_at hl 3 rfl) ?_
        refine lv_iload_n hx hb dX6_agreesWith_45 rfl (lv_at hl 4 rfl) ?_
        refine lv_iload hx hb dX6_agreesWith_46 (lv_at hl 1 rfl) ?_
        refine lv_iload hx hb dX6_agreesWith_48 (lv_at hl 0 rfl) ?_
        refine x_callSi (rest := []) hC hI [] (mX3_stripX l D K  _ a1 a2 x3 r6 hw) (va_cwS 4 hts gX6_agreesWith_X3_stripX rfl rfl rfl (by decide +kernel) ⟨(Nat.le_of_ble_eq_true rfl), (Nat.le_of_ble_eq_true rfl)⟩) (by decide) rfl (fun _ => rfl) rfl hl.1 rfl (Nat.le_of_ble_eq_true rfl) dX6_agreesWith_50 ⟨(Nat.le_of_ble_eq_true rfl), (Nat.le_of_ble_eq_true rfl)⟩ (fun r7 u H locs hw hI => ?_)
        try dsimp only at hw
        have hI : wI s D A (fl [wSh K h items held lane size]) H locs := hI
        refine lv_i2l (v := r7.toInt64) hx hb dX6_agreesWith_53 rfl ?_
        refine lv_aload_n hx hb dX6_agreesWith_54 rfl (lv_at hl 2 rfl) ?_
        refine x_get (v := .ref (h 1)) hC hI kX6_agreesWith_cX6 0 rfl rfl 0 (by decide) kX6_agreesWith_0 rfl rfl dX6_agreesWith_55 ?_
        refine lv_iload hx hb dX6_agreesWith_58 (lv_at hl 7 rfl) ?_
        refine lv_iconst (v := (2 : Int32)) hx hb dX6_agreesWith_60 (by decide) ?_
        refine lv_iadd hx hb dX6_agreesWith_61 ?_
        obtain ⟨hc8, hw⟩ := hw
        refine x_lald (f := items) hC hI 1 rfl hc8 dX6_agreesWith_62 ?_
        refine W.lcmp hx hb dX6_agreesWith_63 ?_
        refine lv_if_eq (tgt := 69) hx hb dX6_agreesWith_64 (by decide) (fun c9 => ?_) (fun c9 => ?_)
        · replace hw := hw.1 c9
          obtain ⟨x10, ex10⟩ : ∃ y : Int32, y = l5_3 + 3 := ⟨_, rfl⟩
          replace hw := hw x10 ex10
          refine lv_iinc (v := x10) (lv' := [(5, .int x10), (7, .int r6), (6, .int x3), (0, .ref (h 0)), (1, .int a1), (2, .int a2), (3, .int a3), (4, .int a4)]) hx hb dX6_agreesWith_69 hl (k := 7) rfl (by rw [ex10]; rfl) (by decide) rfl (fun ls hl => ?_)
          refine lv_goto (tgt := 3) hx hb dX6_agreesWith_72 (by decide) ?_
          exact ih3 x10 ls H locs (Nat.lt_of_lt_of_le hw.2 (Nat.le_of_lt_succ hmu3)) hw.1 hI (lv_sub hl [3, 4, 5, 6, 7, 0] rfl)
        · replace hw := hw.2 c9
          refine lv_iconst (v := (0 : Int32)) hx hb dX6_agreesWith_67 (by decide) ?_
          subst hQ
          exact x_zret (u := ()) hC hI hr hlk hw rfl (Or.inl rfl) dX6_agreesWith_68
  exact lp3 (mu3 a3 + 1) a3 ls H locs (Nat.lt_succ_self _) hw hI (lv_sub hl [1, 2, 3, 4, 5, 0] rfl)

def wX7_next  (letters : Nat → Int32) (tlen : Int32) (tat : Int32) (post : Int32 → Int32 → Prop) : Prop := (∃ (I0 : Int32 → Prop) (mu0 : Int32 → Nat), I0 tat ∧ ∀ (tat_0 : Int32), I0 tat_0 → ∃ J38 : Prop, (J38 → ((tlen ≤ tat_0 → post (-1 : Int32) tat_0) ∧ (¬ tlen ≤ tat_0 → vp_in tat_0 90 ∧ post (letters tat_0.toNatClampNeg) tat_0))) ∧ ((tlen ≤ tat_0 → J38) ∧ (¬ tlen ≤ tat_0 → vp_in tat_0 90 ∧ (((letters tat_0.toNatClampNeg) = (32 : Int32) → ∀ x6 : Int32, x6 = tat_0 + (1 : Int32) → (I0 x6 ∧ mu0 x6 < mu0 tat_0)) ∧ (¬ (letters tat_0.toNatClampNeg) = (32 : Int32) → J38)))))
def rmX7_next : Room := { frames := 0, cells := 0, slots := 0, locals := 0 }
theorem kX7_next_0 : Cond.fieldLink RX7 25 "GoreGlobe$Tape" "at" "I" ∈ wsX7_next := List.mem_cons_of_mem _ (List.mem_append_left _ (List.mem_of_getElem? (i := 0) rfl))
theorem kX7_next_cX7 : ∀ w ∈ wsX70, w ∈ wsX7_next := fun _ h => List.mem_cons_of_mem _ (List.mem_append_right _ h)
theorem kX7_next_2 : Cond.fieldLink RX7 64 "GoreGlobe$Tape" "length" "I" ∈ wsX7_next := List.mem_cons_of_mem _ (List.mem_append_left _ (List.mem_of_getElem? (i := 1) rfl))
theorem kX7_next_3 : Cond.fieldLink RX7 9 "GoreGlobe$Tape" "letters" "[I" ∈ wsX7_next := List.mem_cons_of_mem _ (List.mem_append_left _ (List.mem_of_getElem? (i := 2) rfl))
set_option maxHeartbeats 4000000 in
set_option maxRecDepth 100000 in
theorem mX7_next (l : Launch) (D : va_G) (K : Nat → ClassId) (h : Nat → Nat) (sz : Nat)  (letters : Nat → Int32) (tbits : Nat → Int64) (tlen : Int32) (tat : Int32) (fig : Int32)  {post : Int32 → Int32 → Prop} (hw : wX7_next  letters tlen tat post) : Met l yX7_next wsX7_next rmX7_next (va_Pc [.ref (h 0)] (cP D K (fl [wTa K h letters tbits tlen tat fig]) sz)) (va_Qi (fun (r : Int32) (u : Int32) => post r u) (fun u t => cQ D K (fl [wTa K h letters tbits tlen u fig]) (va_A (fl [wTa K h letters tbits tlen tat fig]) sz) t) (va_A (fl [wTa K h letters tbits tlen tat fig]) sz)) 0 0 (va_A (fl [wTa K h letters tbits tlen tat fig]) sz) := by
  refine x_entry (cc := cX7_next) (maxL := 1) (ret := (some .int)) (QA := fun A => va_Qi (fun (r : Int32) (u : Int32) => post r u) (fun u t => cQ D K (fl [wTa K h letters tbits tlen u fig]) A t) A) (plainFor_of_name (by decide)) rfl (Nat.le_of_ble_eq_true rfl) ?_
  intro p e s m args below meth c A ls H Q hQ hC hlk hr hnm hI hl
  obtain ⟨hx, hb, hml, hown, hts, hK, hA, hZ⟩ := id hC
  obtain ⟨locs, hlocs⟩ : ∃ y : List Loc, y = [] := ⟨_, rfl⟩
  rw [← hlocs] at hI ⊢
  clear hlocs
  replace hl : lv_has ls 1 [(0, .ref (h 0))] := hl
  replace hw : (∃ (I0 : Int32 → Prop) (mu0 : Int32 → Nat), I0 tat ∧ ∀ (tat_0 : Int32), I0 tat_0 → ∃ J38 : Prop, (J38 → ((tlen ≤ tat_0 → post (-1 : Int32) tat_0) ∧ (¬ tlen ≤ tat_0 → vp_in tat_0 90 ∧ post (letters tat_0.toNatClampNeg) tat_0))) ∧ ((tlen ≤ tat_0 → J38) ∧ (¬ tlen ≤ tat_0 → vp_in tat_0 90 ∧ (((letters tat_0.toNatClampNeg) = (32 : Int32) → ∀ x6 : Int32, x6 = tat_0 + (1 : Int32) → (I0 x6 ∧ mu0 x6 < mu0 tat_0)) ∧ (¬ (letters tat_0.toNatClampNeg) = (32 : Int32) → J38))))) := hw
  obtain ⟨I0, mu0, hw, hb0⟩ := hw
  have lp0 : ∀ (k : Nat) (tat_0 : Int32) (ls : Array Slot) (H : Heap) (locs : List Loc), mu0 tat_0 < k → I0 tat_0 → wI s D A (fl [wTa K h letters tbits tlen tat_0 fig]) H locs → lv_has ls 1 [(0, .ref (h 0))] → W p l e rmX7_next s m args below meth c H locs 0 0 Q (F0 m 0 ls []) := by
    intro k
    induction k with
    | zero => intro tat_0 ls H locs hmu; exact absurd hmu (Nat.not_lt_zero _)
    | succ k ih0 =>
      intro tat_0 ls H locs hmu0 hw hI hl
      replace hw := hb0 tat_0 hw
      refine lv_aload_n hx hb dX7_next_0 rfl (lv_at hl 0 rfl) ?_
      refine x_get (v := .int tat_0) hC hI kX7_next_cX7 0 rfl rfl 3 (by decide) kX7_next_0 rfl rfl dX7_next_1 ?_
      refine lv_aload_n hx hb dX7_next_4 rfl (lv_at hl 0 rfl) ?_
      refine x_get (v := .int tlen) hC hI kX7_next_cX7 0 rfl rfl 1 (by decide) kX7_next_2 rfl rfl dX7_next_5 ?_
      obtain ⟨J38, hJ38, hw⟩ := hw
      have jn38 : ∀  (ls : Array Slot) (H : Heap) (locs : List Loc), J38  → wI s D A (fl [wTa K h letters tbits tlen tat_0 fig]) H locs → lv_has ls 1 [(0, .ref (h 0))] → W p l e rmX7_next s m args below meth c H locs 0 0 Q (F0 m 38 ls []) := by
        intro  ls H locs hw hI hl
        replace hw := hJ38 hw
        refine lv_aload_n hx hb dX7_next_38 rfl (lv_at hl 0 rfl) ?_
        refine x_get (v := .int tat_0) hC hI kX7_next_cX7 0 rfl rfl 3 (by decide) kX7_next_0 rfl rfl dX7_next_39 ?_
        refine lv_aload_n hx hb dX7_next_42 rfl (lv_at hl 0 rfl) ?_
        refine x_get (v := .int tlen) hC hI kX7_next_cX7 0 rfl rfl 1 (by decide) kX7_next_2 rfl rfl dX7_next_43 ?_
        refine lv_icmp_ge (tgt := 61) hx hb dX7_next_46 (by decide) (fun c1 => ?_) (fun c1 => ?_)
        · replace hw := hw.1 c1
          refine lv_iconst (v := (-1 : Int32)) hx hb dX7_next_61 (by decide) ?_
          subst hQ
          exact x_iret (u := tat_0) hC hI hr hlk hw rfl dX7_next_62
        · replace hw := hw.2 c1
          refine lv_aload_n hx hb dX7_next_49 rfl (lv_at hl 0 rfl) ?_
          refine x_get (v := .ref (h 1)) hC hI kX7_next_cX7 0 rfl rfl 0 (by decide) kX7_next_3 rfl rfl dX7_next_50 ?_
          refine lv_aload_n hx hb dX7_next_53 rfl (lv_at hl 0 rfl) ?_
          refine x_get (v := .int tat_0) hC hI kX7_next_cX7 0 rfl rfl 3 (by decide) kX7_next_0 rfl rfl dX7_next_54 ?_
          obtain ⟨hc2, hw⟩ := hw
          refine x_iald (f := letters) hC hI 1 rfl hc2 dX7_next_57 ?_
          refine lv_goto (tgt := 62) hx hb dX7_next_58 (by decide) ?_
          subst hQ
          exact x_iret (u := tat_0) hC hI hr hlk hw rfl dX7_next_62
      refine lv_icmp_ge (tgt := 38) hx hb dX7_next_8 (by decide) (fun c3 => ?_) (fun c3 => ?_)
      · replace hw := hw.1 c3
        exact jn38 ls H locs hw hI (lv_sub hl [0] rfl)
      · replace hw := hw.2 c3
        refine lv_aload_n hx hb dX7_next_11 rfl (lv_at hl 0 rfl) ?_
        refine x_get (v := .ref (h 1)) hC hI kX7_next_cX7 0 rfl rfl 0 (by decide) kX7_next_3 rfl rfl dX7_next_12 ?_
        refine lv_aload_n hx hb dX7_next_15 rfl (lv_at hl 0 rfl) ?_
        refine x_get (v := .int tat_0) hC hI kX7_next_cX7 0 rfl rfl 3 (by decide) kX7_next_0 rfl rfl dX7_next_16 ?_
        obtain ⟨hc4, hw⟩ := hw
        refine x_iald (f := letters) hC hI 1 rfl hc4 dX7_next_19 ?_
        refine lv_bipush (v := (32 : Int32)) hx hb dX7_next_20 (by decide) ?_
        refine lv_icmp_ne (tgt := 38) hx hb dX7_next_22 (by decide) (fun c5 => ?_) (fun c5 => ?_)
        · replace hw := hw.2 c5
          exact jn38 ls H locs hw hI (lv_sub hl [0] rfl)
        · replace hw := hw.1 c5
          refine lv_aload_n hx hb dX7_next_25 rfl (lv_at hl 0 rfl) ?_
          refine lv_dup hx hb dX7_next_26 rfl ?_
          refine x_get (v := .int tat_0) hC hI kX7_next_cX7 0 rfl rfl 3 (by decide) kX7_next_0 rfl rfl dX7_next_27 ?_
          refine lv_iconst (v := (1 : Int32)) hx hb dX7_next_30 (by decide) ?_
          refine lv_iadd hx hb dX7_next_31 ?_
          refine lv_topi (fun x6 ex6 => ?_)
          replace hw := hw x6 ex6
          refine x_put (v := .int x6) hC hI kX7_next_cX7 tyX7 tyX7_ok nmX7 0 rfl rfl 3 (by decide) kX7_next_0 rfl rfl rfl rfl (Nat.le_of_ble_eq_true rfl) dX7_next_32 (fun H locs hI => ?_)
          have hI : wI s D A (fl [wTa K h letters tbits tlen x6 fig]) H locs := hI
          refine lv_goto (tgt := 0) hx hb dX7_next_35 (by decide) ?_
          exact ih0 x6 ls H locs (Nat.lt_of_lt_of_le hw.2 (Nat.le_of_lt_succ hmu0)) hw.1 hI (lv_sub hl [0] rfl)
  exact lp0 (mu0 tat + 1) tat ls H locs (Nat.lt_succ_self _) hw hI (lv_sub hl [0] rfl)

def wX7_takes (a1 : Int32) (letters : Nat → Int32) (tlen : Int32) (tat : Int32) (post : Int32 → Int32 → Prop) : Prop := wX7_next letters tlen tat (fun (r2 : Int32) (tat_c1 : Int32) => ∃ J13 : Int32 → Prop, (∀ (t_13 : Int32), J13 t_13 → ((t_13 = 0 → (t_13 = 0 ∨ t_13 = 1) ∧ post t_13 tat_c1) ∧ (¬ t_13 = 0 → ∀ x5 : Int32, x5 = tat_c1 + (1 : Int32) → (t_13 = 0 ∨ t_13 = 1) ∧ post t_13 x5))) ∧ ((r2 = a1 → J13 (1 : Int32)) ∧ (¬ r2 = a1 → J13 (0 : Int32))))
def rmX7_takes : Room := { frames := 1, cells := 0, slots := 0, locals := 20 }
theorem kX7_takes_0 : Cond.fieldLink RX7 25 "GoreGlobe$Tape" "at" "I" ∈ wsX7_takes := List.mem_cons_of_mem _ (List.mem_append_left _ (List.mem_of_getElem? (i := 0) rfl))
theorem kX7_takes_cX7 : ∀ w ∈ wsX70, w ∈ wsX7_takes := fun _ h => List.mem_cons_of_mem _ (List.mem_append_right _ h)
set_option maxHeartbeats 4000000 in
set_option maxRecDepth 100000 in
theorem mX7_takes (l : Launch) (D : va_G) (K : Nat → ClassId) (h : Nat → Nat) (sz : Nat) (a1 : Int32) (letters : Nat → Int32) (tbits : Nat → Int64) (tlen : Int32) (tat : Int32) (fig : Int32)  {post : Int32 → Int32 → Prop} (hw : wX7_takes a1 letters tlen tat post) : Met l yX7_takes wsX7_takes rmX7_takes (va_Pc [.ref (h 0), .int a1] (cP D K (fl [wTa K h letters tbits tlen tat fig]) sz)) (va_Qi (fun (r : Int32) (u : Int32) => post r u) (fun u t => cQ D K (fl [wTa K h letters tbits tlen u fig]) (va_A (fl [wTa K h letters tbits tlen tat fig]) sz) t) (va_A (fl [wTa K h letters tbits tlen tat fig]) sz)) 0 0 (va_A (fl [wTa K h letters tbits tlen tat fig]) sz) := by
  refine x_entry (cc := cX7_takes) (maxL := 3) (ret := (some .boolean)) (QA := fun A => va_Qi (fun (r : Int32) (u : Int32) => post r u) (fun u t => cQ D K (fl [wTa K h letters tbits tlen u fig]) A t) A) (plainFor_of_name (by decide)) rfl (Nat.le_of_ble_eq_true rfl) ?_
  intro p e s m args below meth c A ls H Q hQ hC hlk hr hnm hI hl
  obtain ⟨hx, hb, hml, hown, hts, hK, hA, hZ⟩ := id hC
  obtain ⟨locs, hlocs⟩ : ∃ y : List Loc, y = [] := ⟨_, rfl⟩
  rw [← hlocs] at hI ⊢
  clear hlocs
  replace hl : lv_has ls 3 [(0, .ref (h 0)), (1, .int a1)] := hl
  replace hw : wX7_next letters tlen tat (fun (r2 : Int32) (tat_c1 : Int32) => ∃ J13 : Int32 → Prop, (∀ (t_13 : Int32), J13 t_13 → ((t_13 = 0 → (t_13 = 0 ∨ t_13 = 1) ∧ post t_13 tat_c1) ∧ (¬ t_13 = 0 → ∀ x5 : Int32, x5 = tat_c1 + (1 : Int32) → (t_13 = 0 ∨ t_13 = 1) ∧ post t_13 x5))) ∧ ((r2 = a1 → J13 (1 : Int32)) ∧ (¬ r2 = a1 → J13 (0 : Int32)))) := hw
  refine lv_aload_n hx hb dX7_takes_0 rfl (lv_at hl 0 rfl) ?_
  refine x_callVi (rest := []) hC hI [0] (mX7_next l D K h _ letters tbits tlen tat fig hw) (cwV 0 hts gX7_takes_X7_next rfl rfl rfl (by decide +kernel) ⟨(Nat.le_of_ble_eq_true rfl), (Nat.le_of_ble_eq_true rfl)⟩) (by decide) rfl (fun _ => rfl) 0 5 rfl rfl rfl rfl hl.1 rfl (Nat.le_of_ble_eq_true rfl) dX7_takes_1 ⟨(Nat.le_of_ble_eq_true rfl), (Nat.le_of_ble_eq_true rfl)⟩ (fun r2 tat_c1 H locs hw hI => ?_)
  have hI : wI s D A (fl [wTa K h letters tbits tlen tat_c1 fig]) H locs := hI
  refine lv_iload_n hx hb dX7_takes_4 rfl (lv_at hl 1 rfl) ?_
  obtain ⟨J13, hJ13, hw⟩ := hw
  have jn13 : ∀ (t_13 : Int32) (ls : Array Slot) (H : Heap) (locs : List Loc), J13 t_13 → wI s D A (fl [wTa K h letters tbits tlen tat_c1 fig]) H locs → lv_has ls 3 [(0, .ref (h 0))] → W p l e rmX7_takes s m args below meth c H locs 0 0 Q (F0 m 13 ls [.int t_13]) := by
    intro t_13 ls H locs hw hI hl
    replace hw := hJ13 t_13 hw
    refine lv_istore_n (lv' := [(2, .int t_13), (0, .ref (h 0))]) hx hb dX7_takes_13 rfl hl (by decide) rfl (fun ls hl => ?_)
    refine lv_iload_n hx hb dX7_takes_14 rfl (lv_at hl 0 rfl) ?_
    refine lv_if_eq (tgt := 28) hx hb dX7_takes_15 (by decide) (fun c3 => ?_) (fun c3 => ?_)
    · replace hw := hw.1 c3
      refine lv_iload_n hx hb dX7_takes_28 rfl (lv_at hl 0 rfl) ?_
      obtain ⟨hc4, hw⟩ := hw
      subst hQ
      exact x_zret (u := tat_c1) hC hI hr hlk hw rfl hc4 dX7_takes_29
    · replace hw := hw.2 c3
      refine lv_aload_n hx hb dX7_takes_18 rfl (lv_at hl 1 rfl) ?_
      refine lv_dup hx hb dX7_takes_19 rfl ?_
      refine x_get (v := .int tat_c1) hC hI kX7_takes_cX7 0 rfl rfl 3 (by decide) kX7_takes_0 rfl rfl dX7_takes_20 ?_
      refine lv_iconst (v := (1 : Int32)) hx hb dX7_takes_23 (by decide) ?_
      refine lv_iadd hx hb dX7_takes_24 ?_
      refine lv_topi (fun x5 ex5 => ?_)
      replace hw := hw x5 ex5
      refine x_put (v := .int x5) hC hI kX7_takes_cX7 tyX7 tyX7_ok nmX7 0 rfl rfl 3 (by decide) kX7_takes_0 rfl rfl rfl rfl (Nat.le_of_ble_eq_true rfl) dX7_takes_25 (fun H locs hI => ?_)
      have hI : wI s D A (fl [wTa K h letters tbits tlen x5 fig]) H locs := hI
      refine lv_iload_n hx hb dX7_takes_28 rfl (lv_at hl 0 rfl) ?_
      obtain ⟨hc6, hw⟩ := hw
      subst hQ
      exact x_zret (u := x5) hC hI hr hlk hw rfl hc6 dX7_takes_29
  refine lv_icmp_ne (tgt := 12) hx hb dX7_takes_5 (by decide) (fun c7 => ?_) (fun c7 => ?_)
  · replace hw := hw.2 c7
    refine lv_iconst (v := (0 : Int32)) hx hb dX7_takes_12 (by decide) ?_
    exact jn13 (0 : Int32) ls H locs hw hI (lv_sub hl [0] rfl)
  · replace hw := hw.1 c7
    refine lv_iconst (v := (1 : Int32)) hx hb dX7_takes_8 (by decide) ?_
    refine lv_goto (tgt := 13) hx hb dX7_takes_9 (by decide) ?_
    exact jn13 (1 : Int32) ls H locs hw hI (lv_sub hl [0] rfl)

def wX7_isFigure (a0 : Int32)  (post : Int32 → Prop) : Prop := ((a0 < (48 : Int32) → post (0 : Int32)) ∧ (¬ a0 < (48 : Int32) → (((57 : Int32) < a0 → post (0 : Int32)) ∧ (¬ (57 : Int32) < a0 → post (1 : Int32)))))
def rmX7_isFigure : Room := { frames := 0, cells := 0, slots := 0, locals := 0 }
set_option maxHeartbeats 4000000 in
set_option maxRecDepth 100000 in
theorem mX7_isFigure (l : Launch) (D : va_G) (K : Nat → ClassId)  (sz : Nat) (a0 : Int32)   {post : Int32 → Prop} (hw : wX7_isFigure a0  post) : Met l yX7_isFigure wsX7_isFigure rmX7_isFigure (va_Pc [.int a0] (cP D K (fl []) sz)) (va_Qi (fun (r : Int32) (u : Unit) => post r) (fun u t => cQ D K (fl []) (va_A (fl []) sz) t) (va_A (fl []) sz)) 0 0 (va_A (fl []) sz) := by
  refine x_entry (cc := cX7_isFigure) (maxL := 1) (ret := (some .boolean)) (QA := fun A => va_Qi (fun (r : Int32) (u : Unit) => post r) (fun u t => cQ D K (fl []) A t) A) (plainFor_of_name (by decide)) rfl (Nat.le_of_ble_eq_true rfl) ?_
  intro p e s m args below meth c A ls H Q hQ hC hlk hr hnm hI hl
  obtain ⟨hx, hb, hml, hown, hts, hK, hA, hZ⟩ := id hC
  obtain ⟨locs, hlocs⟩ : ∃ y : List Loc, y = [] := ⟨_, rfl⟩
  rw [← hlocs] at hI ⊢
  clear hlocs
  replace hl : lv_has ls 1 [(0, .int a0)] := hl
  replace hw : ((a0 < (48 : Int32) → post (0 : Int32)) ∧ (¬ a0 < (48 : Int32) → (((57 : Int32) < a0 → post (0 : Int32)) ∧ (¬ (57 : Int32) < a0 → post (1 : Int32))))) := hw
  refine lv_iload_n hx hb dX7_isFigure_0 rfl (lv_at hl 0 rfl) ?_
  refine lv_bipush (v := (48 : Int32)) hx hb dX7_isFigure_1 (by decide) ?_
  refine lv_icmp_lt (tgt := 16) hx hb dX7_isFigure_3 (by decide) (fun c1 => ?_) (fun c1 => ?_)
  · replace hw := hw.1 c1
    refine lv_iconst (v := (0 : Int32)) hx hb dX7_isFigure_16 (by decide) ?_
    subst hQ
    exact x_zret (u := ()) hC hI hr hlk hw rfl (Or.inl rfl) dX7_isFigure_17
  · replace hw := hw.2 c1
    refine lv_iload_n hx hb dX7_isFigure_6 rfl (lv_at hl 0 rfl) ?_
    refine lv_bipush (v := (57 : Int32)) hx hb dX7_isFigure_7 (by decide) ?_
    refine lv_icmp_gt (tgt := 16) hx hb dX7_isFigure_9 (by decide) (fun c2 => ?_) (fun c2 => ?_)
    · replace hw := hw.1 c2
      refine lv_iconst (v := (0 : Int32)) hx hb dX7_isFigure_16 (by decide) ?_
      subst hQ
      exact x_zret (u := ()) hC hI hr hlk hw rfl (Or.inl rfl) dX7_isFigure_17
    · replace hw := hw.2 c2
      refine lv_iconst (v := (1 : Int32)) hx hb dX7_isFigure_12 (by decide) ?_
      refine lv_goto (tgt := 17) hx hb dX7_isFigure_13 (by decide) ?_
      subst hQ
      exact x_zret (u := ()) hC hI hr hlk hw rfl (Or.inr rfl) dX7_isFigure_17

def wX7_understandNumber  (letters : Nat → Int32) (tlen : Int32) (tat : Int32) (fig : Int32) (post : Int32 → Int32 → Int32 → Prop) : Prop := wX7_next letters tlen tat (fun (r2 : Int32) (tat_c1 : Int32) => wX7_isFigure r2 (fun (r3 : Int32) => ((r3 = 0 → post tat_c1 tat_c1 fig) ∧ (¬ r3 = 0 → vp_in tat_c1 90 ∧ ∀ x6 : Int32, x6 = (letters tat_c1.toNatClampNeg) - (48 : Int32) → ∀ x7 : Int32, x7 = tat_c1 + (1 : Int32) → ∃ J106 : Int32 → Int32 → Prop, (∀ (tat_106 : Int32) (fig_106 : Int32), J106 tat_106 fig_106 → (((24 : Int32) ≤ fig_106 → post tat_c1 tat_106 fig_106) ∧ (¬ (24 : Int32) ≤ fig_106 → post (-1 : Int32) tat_106 fig_106))) ∧ ((tlen ≤ x7 → J106 x7 x6) ∧ (¬ tlen ≤ x7 → vp_in x7 90 ∧ wX7_isFigure (letters x7.toNatClampNeg) (fun (r11 : Int32) => ((r11 = 0 → J106 x7 x6) ∧ (¬ r11 = 0 → vp_in x7 90 ∧ ∀ x14 : Int32, x14 = (((10 : Int32) * x6) + (letters x7.toNatClampNeg)) - (48 : Int32) → ∀ x15 : Int32, x15 = x7 + (1 : Int32) → J106 x15 x14)))))))))
def rmX7_understandNumber : Room := { frames := 1, cells := 0, slots := 0, locals := 20 }
theorem kX7_understandNumber_0 : Cond.fieldLink RX7 25 "GoreGlobe$Tape" "at" "I" ∈ wsX7_understandNumber := List.mem_cons_of_mem _ (List.mem_append_left _ (List.mem_of_getElem? (i := 0) rfl))
theorem kX7_understandNumber_cX7 : ∀ w ∈ wsX70, w ∈ wsX7_understandNumber := fun _ h => List.mem_cons_of_mem _ (List.mem_append_right _ h)
theorem kX7_understandNumber_2 : Cond.fieldLink RX7 9 "GoreGlobe$Tape" "letters" "[I" ∈ wsX7_understandNumber := List.mem_cons_of_mem _ (List.mem_append_left _ (List.mem_of_getElem? (i := 1) rfl))
theorem kX7_understandNumber_3 : Cond.fieldLink RX7 47 "GoreGlobe$Tape" "figures" "I" ∈ wsX7_understandNumber := List.mem_cons_of_mem _ (List.mem_append_left _ (List.mem_of_getElem? (i := 2) rfl))
theorem kX7_understandNumber_4 : Cond.fieldLink RX7 64 "GoreGlobe$Tape" "length" "I" ∈ wsX7_understandNumber := List.mem_cons_of_mem _ (List.mem_append_left _ (List.mem_of_getElem? (i := 3) rfl))
set_option maxHeartbeats 4000000 in
set_option maxRecDepth 100000 in
theorem mX7_understandNumber (l : Launch) (D : va_G) (K : Nat → ClassId) (h : Nat → Nat) (sz : Nat)  (letters : Nat → Int32) (tbits : Nat → Int64) (tlen : Int32) (tat : Int32) (fig : Int32)  {post : Int32 → Int32 → Int32 → Prop} (hw : wX7_understandNumber  letters tlen tat fig post) : Met l yX7_understandNumber wsX7_understandNumber rmX7_understandNumber (va_Pc [.ref (h 0)] (cP D K (fl [wTa K h letters tbits tlen tat fig]) sz)) (va_Qi (fun (r : Int32) (u : Int32 × Int32) => post r u.1 u.2) (fun u t => cQ D K (fl [wTa K h letters tbits tlen u.1 u.2]) (va_A (fl [wTa K h letters tbits tlen tat fig]) sz) t) (va_A (fl [wTa K h letters tbits tlen tat fig]) sz)) 0 0 (va_A (fl [wTa K h letters tbits tlen tat fig]) sz) := by
  refine x_entry (cc := cX7_understandNumber) (maxL := 2) (ret := (some .int)) (QA := fun A => va_Qi (fun (r : Int32) (u : Int32 × Int32) => post r u.1 u.2) (fun u t => cQ D K (fl [wTa K h letters tbits tlen u.1 u.2]) A t) A) (plainFor_of_name (by decide)) rfl (Nat.le_of_ble_eq_true rfl) ?_
  intro p e s m args below meth c A ls H Q hQ hC hlk hr hnm hI hl
  obtain ⟨hx, hb, hml, hown, hts, hK, hA, hZ⟩ := id hC
  obtain ⟨locs, hlocs⟩ : ∃ y : List Loc, y = [] := ⟨_, rfl⟩
  rw [← hlocs] at hI ⊢
  clear hlocs
  replace hl : lv_has ls 2 [(0, .ref (h 0))] := hl
  replace hw : wX7_next letters tlen tat (fun (r2 : Int32) (tat_c1 : Int32) => wX7_isFigure r2 (fun (r3 : Int32) => ((r3 = 0 → post tat_c1 tat_c1 fig) ∧ (¬ r3 = 0 → vp_in tat_c1 90 ∧ ∀ x6 : Int32, x6 = (letters tat_c1.toNatClampNeg) - (48 : Int32) → ∀ x7 : Int32, x7 = tat_c1 + (1 : Int32) → ∃ J106 : Int32 → Int32 → Prop, (∀ (tat_106 : Int32) (fig_106 : Int32), J106 tat_106 fig_106 → (((24 : Int32) ≤ fig_106 → post tat_c1 tat_106 fig_106) ∧ (¬ (24 : Int32) ≤ fig_106 → post (-1 : Int32) tat_106 fig_106))) ∧ ((tlen ≤ x7 → J106 x7 x6) ∧ (¬ tlen ≤ x7 → vp_in x7 90 ∧ wX7_isFigure (letters x7.toNatClampNeg) (fun (r11 : Int32) => ((r11 = 0 → J106 x7 x6) ∧ (¬ r11 = 0 → vp_in x7 90 ∧ ∀ x14 : Int32, x14 = (((10 : Int32) * x6) + (letters x7.toNatClampNeg)) - (48 : Int32) → ∀ x15 : Int32, x15 = x7 + (1 : Int32) → J106 x15 x14))))))))) := hw
  refine lv_aload_n hx hb dX7_understandNumber_0 rfl (lv_at hl 0 rfl) ?_
  refine x_callVi (rest := []) hC hI [0] (mX7_next l D K h _ letters tbits tlen tat fig hw) (cwV 0 hts gX7_understandNumber_X7_next rfl rfl rfl (by decide +kernel) ⟨(Nat.le_of_ble_eq_true rfl), (Nat.le_of_ble_eq_true rfl)⟩) (by decide) rfl (fun _ => rfl) 0 5 rfl rfl rfl rfl hl.1 rfl (Nat.le_of_ble_eq_true rfl) dX7_understandNumber_1 ⟨(Nat.le_of_ble_eq_true rfl), (Nat.le_of_ble_eq_true rfl)⟩ (fun r2 tat_c1 H locs hw hI => ?_)
  have hI : wI s D A (fl [wTa K h letters tbits tlen tat_c1 fig]) H locs := hI
  refine x_callSi (rest := []) hC hI [] (mX7_isFigure l D K  _ r2 hw) (va_cwS 1 hts gX7_understandNumber_X7_isFigure rfl rfl rfl (by decide +kernel) ⟨(Nat.le_of_ble_eq_true rfl), (Nat.le_of_ble_eq_true rfl)⟩) (by decide) rfl (fun _ => rfl) rfl hl.1 rfl (Nat.le_of_ble_eq_true rfl) dX7_understandNumber_4 ⟨(Nat.le_of_ble_eq_true rfl), (Nat.le_of_ble_eq_true rfl)⟩ (fun r3 u H locs hw hI => ?_)
  try dsimp only at hw
  have hI : wI s D A (fl [wTa K h letters tbits tlen tat_c1 fig]) H locs := hI
  refine lv_if_ne (tgt := 15) hx hb dX7_understandNumber_7 (by decide) (fun c4 => ?_) (fun c4 => ?_)
  · replace hw := hw.2 c4
    refine lv_aload_n hx hb dX7_understandNumber_15 rfl (lv_at hl 0 rfl) ?_
    refine x_get (v := .int tat_c1) hC hI kX7_understandNumber_cX7 0 rfl rfl 3 (by decide) kX7_understandNumber_0 rfl rfl dX7_understandNumber_16 ?_
    refine lv_istore_n (lv' := [(1, .int tat_c1), (0, .ref (h 0))]) hx hb dX7_understandNumber_19 rfl hl (by decide) rfl (fun ls hl => ?_)
    refine lv_aload_n hx hb dX7_understandNumber_20 rfl (lv_at hl 1 rfl) ?_
    refine lv_aload_n hx hb dX7_understandNumber_21 rfl (lv_at hl 1 rfl) ?_
    refine x_get (v := .ref (h 1)) hC hI kX7_understandNumber_cX7 0 rfl rfl 0 (by decide) kX7_understandNumber_2 rfl rfl dX7_understandNumber_22 ?_
    refine lv_aload_n hx hb dX7_understandNumber_25 rfl (lv_at hl 1 rfl) ?_
    refine x_get (v := .int tat_c1) hC hI kX7_understandNumber_cX7 0 rfl rfl 3 (by decide) kX7_understandNumber_0 rfl rfl dX7_understandNumber_26 ?_
    obtain ⟨hc5, hw⟩ := hw
    refine x_iald (f := letters) hC hI 1 rfl hc5 dX7_understandNumber_29 ?_
    refine lv_bipush (v := (48 : Int32)) hx hb dX7_understandNumber_30 (by decide) ?_
    refine lv_isub hx hb dX7_understandNumber_32 ?_
    refine lv_topi (fun x6 ex6 => ?_)
    replace hw := hw x6 ex6
    refine x_put (v := .int x6) hC hI kX7_understandNumber_cX7 tyX7 tyX7_ok nmX7 0 rfl rfl 4 (by decide) kX7_understandNumber_3 rfl rfl rfl rfl (Nat.le_of_ble_eq_true rfl) dX7_understandNumber_33 (fun H locs hI => ?_)
    have hI : wI s D A (fl [wTa K h letters tbits tlen tat_c1 x6]) H locs := hI
    refine lv_aload_n hx hb dX7_understandNumber_36 rfl (lv_at hl 1 rfl) ?_
    refine lv_dup hx hb dX7_understandNumber_37 rfl ?_
    refine x_get (v := .int tat_c1) hC hI kX7_understandNumber_cX7 0 rfl rfl 3 (by decide) kX7_understandNumber_0 rfl rfl dX7_understandNumber_38 ?_
    refine lv_iconst (v := (1 : Int32)) hx hb dX7_understandNumber_41 (by decide) ?_
    refine lv_iadd hx hb dX7_understandNumber_42 ?_
    refine lv_topi (fun x7 ex7 => ?_)
    replace hw := hw x7 ex7
    refine x_put (v := .int x7) hC hI kX7_understandNumber_cX7 tyX7 tyX7_ok nmX7 0 rfl rfl 3 (by decide) kX7_understandNumber_0 rfl rfl rfl rfl (Nat.le_of_ble_eq_true rfl) dX7_understandNumber_43 (fun H locs hI => ?_)
    have hI : wI s D A (fl [wTa K h letters tbits tlen x7 x6]) H locs := hI
    refine lv_aload_n hx hb dX7_understandNumber_46 rfl (lv_at hl 1 rfl) ?_
    refine x_get (v := .int x7) hC hI kX7_understandNumber_cX7 0 rfl rfl 3 (by decide) kX7_understandNumber_0 rfl rfl dX7_understandNumber_47 ?_
    refine lv_aload_n hx hb dX7_understandNumber_50 rfl (lv_at hl 1 rfl) ?_
    refine x_get (v := .int tlen) hC hI kX7_understandNumber_cX7 0 rfl rfl 1 (by decide) kX7_understandNumber_4 rfl rfl dX7_understandNumber_51 ?_
    obtain ⟨J106, hJ106, hw⟩ := hw
    have jn106 : ∀ (tat_106 : Int32) (fig_106 : Int32) (ls : Array Slot) (H : Heap) (locs : List Loc), J106 tat_106 fig_106 → wI s D A (fl [wTa K h letters tbits tlen tat_106 fig_106]) H locs → lv_has ls 2 [(0, .ref (h 0)), (1, .int tat_c1)] → W p l e rmX7_understandNumber s m args below meth c H locs 0 0 Q (F0 m 106 ls []) := by
      intro tat_106 fig_106 ls H locs hw hI hl
      replace hw := hJ106 tat_106 fig_106 hw
      refine lv_aload_n hx hb dX7_understandNumber_106 rfl (lv_at hl 0 rfl) ?_
      refine x_get (v := .int fig_106) hC hI kX7_understandNumber_cX7 0 rfl rfl 4 (by decide) kX7_understandNumber_3 rfl rfl dX7_understandNumber_107 ?_
      refine lv_bipush (v := (24 : Int32)) hx hb dX7_understandNumber_110 (by decide) ?_
      refine lv_icmp_ge (tgt := 119) hx hb dX7_understandNumber_112 (by decide) (fun c8 => ?_) (fun c8 => ?_)
      · replace hw := hw.1 c8
        refine lv_iload_n hx hb dX7_understandNumber_119 rfl (lv_at hl 1 rfl) ?_
        subst hQ
        exact x_iret (u := (tat_106, fig_106)) hC hI hr hlk hw rfl dX7_understandNumber_120
      · replace hw := hw.2 c8
        refine lv_iconst (v := (-1 : Int32)) hx hb dX7_understandNumber_115 (by decide) ?_
        refine lv_goto (tgt := 120) hx hb dX7_understandNumber_116 (by decide) ?_
        subst hQ
        exact x_iret (u := (tat_106, fig_106)) hC hI hr hlk hw rfl dX7_understandNumber_120
    refine lv_icmp_ge (tgt := 106) hx hb dX7_understandNumber_54 (by decide) (fun c9 => ?_) (fun c9 => ?_)
    · replace hw := hw.1 c9
      exact jn106 x7 x6 ls H locs hw hI (lv_sub hl [1, 0] rfl)
    · replace hw := hw.2 c9
      refine lv_aload_n hx hb dX7_understandNumber_57 rfl (lv_at hl 1 rfl) ?_
      refine x_get (v := .ref (h 1)) hC hI kX7_understandNumber_cX7 0 rfl rfl 0 (by decide) kX7_understandNumber_2 rfl rfl dX7_understandNumber_58 ?_
      refine lv_aload_n hx hb dX7_understandNumber_61 rfl (lv_at hl 1 rfl) ?_
      refine x_get (v := .int x7) hC hI kX7_understandNumber_cX7 0 rfl rfl 3 (by decide) kX7_understandNumber_0 rfl rfl dX7_understandNumber_62 ?_
      obtain ⟨hc10, hw⟩ := hw
      refine x_iald (f := letters) hC hI 1 rfl hc10 dX7_understandNumber_65 ?_
      refine x_callSi (rest := []) hC hI [] (mX7_isFigure l D K  _ (letters x7.toNatClampNeg) hw) (va_cwS 1 hts gX7_understandNumber_X7_isFigure rfl rfl rfl (by decide +kernel) ⟨(Nat.le_of_ble_eq_true rfl), (Nat.le_of_ble_eq_true rfl)⟩) (by decide) rfl (fun _ => rfl) rfl hl.1 rfl (Nat.le_of_ble_eq_true rfl) dX7_understandNumber_66 ⟨(Nat.le_of_ble_eq_true rfl), (Nat.le_of_ble_eq_true rfl)⟩ (fun r11 u H locs hw hI => ?_)
      try dsimp only at hw
      have hI : wI s D A (fl [wTa K h letters tbits tlen x7 x6]) H locs := hI
      refine lv_if_eq (tgt := 106) hx hb dX7_understandNumber_69 (by decide) (fun c12 => ?_) (fun c12 => ?_)
      · replace hw := hw.1 c12
        exact jn106 x7 x6 ls H locs hw hI (lv_sub hl [1, 0] rfl)
      · replace hw := hw.2 c12
        refine lv_aload_n hx hb dX7_understandNumber_72 rfl (lv_at hl 1 rfl) ?_
        refine lv_bipush (v := (10 : Int32)) hx hb dX7_understandNumber_73 (by decide) ?_
        refine lv_aload_n hx hb dX7_understandNumber_75 rfl (lv_at hl 1 rfl) ?_
        refine x_get (v := .int x6) hC hI kX7_understandNumber_cX7 0 rfl rfl 4 (by decide) kX7_understandNumber_3 rfl rfl dX7_understandNumber_76 ?_
        refine lv_imul hx hb dX7_understandNumber_79 ?_
        refine lv_aload_n hx hb dX7_understandNumber_80 rfl (lv_at hl 1 rfl) ?_
        refine x_get (v := .ref (h 1)) hC hI kX7_understandNumber_cX7 0 rfl rfl 0 (by decide) kX7_understandNumber_2 rfl rfl dX7_understandNumber_81 ?_
        refine lv_aload_n hx hb dX7_understandNumber_84 rfl (lv_at hl 1 rfl) ?_
        refine x_get (v := .int x7) hC hI kX7_understandNumber_cX7 0 rfl rfl 3 (by decide) kX7_understandNumber_0 rfl rfl dX7_understandNumber_85 ?_
        obtain ⟨hc13, hw⟩ := hw
        refine x_iald (f := letters) hC hI 1 rfl hc13 dX7_understandNumber_88 ?_
        refine lv_iadd hx hb dX7_understandNumber_89 ?_
        refine lv_bipush (v := (48 : Int32)) hx hb dX7_understandNumber_90 (by decide) ?_
        refine lv_isub hx hb dX7_understandNumber_92 ?_
        refine lv_topi (fun x14 ex14 => ?_)
        replace hw := hw x14 ex14
        refine x_put (v := .int x14) hC hI kX7_understandNumber_cX7 tyX7 tyX7_ok nmX7 0 rfl rfl 4 (by decide) kX7_understandNumber_3 rfl rfl rfl rfl (Nat.le_of_ble_eq_true rfl) dX7_understandNumber_93 (fun H locs hI => ?_)
        have hI : wI s D A (fl [wTa K h letters tbits tlen x7 x14]) H locs := hI
        refine lv_aload_n hx hb dX7_understandNumber_96 rfl (lv_at hl 1 rfl) ?_
        refine lv_dup hx hb dX7_understandNumber_97 rfl ?_
        refine x_get (v := .int x7) hC hI kX7_understandNumber_cX7 0 rfl rfl 3 (by decide) kX7_understandNumber_0 rfl rfl dX7_understandNumber_98 ?_
        refine lv_iconst (v := (1 : Int32)) hx hb dX7_understandNumber_101 (by decide) ?_
        refine lv_iadd hx hb dX7_understandNumber_102 ?_
        refine lv_topi (fun x15 ex15 => ?_)
        replace hw := hw x15 ex15
        refine x_put (v := .int x15) hC hI kX7_understandNumber_cX7 tyX7 tyX7_ok nmX7 0 rfl rfl 3 (by decide) kX7_understandNumber_0 rfl rfl rfl rfl (Nat.le_of_ble_eq_true rfl) dX7_understandNumber_103 (fun H locs hI => ?_)
        have hI : wI s D A (fl [wTa K h letters tbits tlen x15 x14]) H locs := hI
        exact jn106 x15 x14 ls H locs hw hI (lv_sub hl [1, 0] rfl)
  · replace hw := hw.1 c4
    refine lv_aload_n hx hb dX7_understandNumber_10 rfl (lv_at hl 0 rfl) ?_
    refine x_get (v := .int tat_c1) hC hI kX7_understandNumber_cX7 0 rfl rfl 3 (by decide) kX7_understandNumber_0 rfl rfl dX7_understandNumber_11 ?_
    subst hQ
    exact x_iret (u := (tat_c1, fig)) hC hI hr hlk hw rfl dX7_understandNumber_14

def wX7_understandRun (a1 : Int32) (letters : Nat → Int32) (tbits : Nat → Int64) (tlen : Int32) (tat : Int32) (fig : Int32) (post : Int32 → (Nat → Int64) → Int32 → Int32 → Prop) : Prop := wX7_understandNumber letters tlen tat fig (fun (r3 : Int32) (tat_c1 : Int32) (fig_c2 : Int32) => ((r3 = (-1 : Int32) → wX7_takes (45 : Int32) letters tlen tat_c1 (fun (r6 : Int32) (tat_c5 : Int32) => ∃ J38 : Int32 → Int32 → Prop, (∀ (tat_38 : Int32) (fig_38 : Int32), J38 tat_38 fig_38 → wJ9_floorMod_7cf53 (fig_38 - fig_c2) (24 : Int32) (fun (r7 : Int32) => (∃ (I54 : Int32 → (Nat → Int64) → Prop) (mu54 : Int32 → (Nat → Int64) → Nat), I54 (0 : Int32) tbits ∧ ∀ (l5_54 : Int32) (tbits_54 : Nat → Int64), I54 l5_54 tbits_54 → ((r7 < l5_54 → post (-1 : Int32) tbits_54 tat_38 fig_38) ∧ (¬ r7 < l5_54 → wX1_numberOf a1 ((fig_c2 + l5_54) - (fig_c2 + l5_54) / (24 : Int32) * (24 : Int32)) (fun (r9 : Int32) => vp_in (r9 >>> ((6 : Int32) &&& 31)) 5 ∧ vp_in (r9 >>> ((6 : Int32) &&& 31)) 5 ∧ ∀ x12 : Int32, x12 = l5_54 + 1 → (I54 x12 (vp_updL tbits_54 (r9 >>> ((6 : Int32) &&& 31)).toNatClampNeg ((tbits_54 (r9 >>> ((6 : Int32) &&& 31)).toNatClampNeg) ||| ((1 : Int64) <<< ((r9 &&& (63 : Int32)).toInt64 &&& 63)))) ∧ mu54 x12 (vp_updL tbits_54 (r9 >>> ((6 : Int32) &&& 31)).toNatClampNeg ((tbits_54 (r9 >>> ((6 : Int32) &&& 31)).toNatClampNeg) ||| ((1 : Int64) <<< ((r9 &&& (63 : Int32)).toInt64 &&& 63)))) < mu54 l5_54 tbits_54))))))) ∧ ((r6 = 0 → J38 tat_c5 fig_c2) ∧ (¬ r6 = 0 → wX7_understandNumber letters tlen tat_c5 fig_c2 (fun (r16 : Int32) (tat_c14 : Int32) (fig_c15 : Int32) => ((r16 = (-1 : Int32) → J38 tat_c14 fig_c15) ∧ (¬ r16 = (-1 : Int32) → post r16 tbits tat_c14 fig_c15))))))) ∧ (¬ r3 = (-1 : Int32) → post r3 tbits tat_c1 fig_c2)))
def rmX7_understandRun : Room := { frames := 2, cells := 0, slots := 0, locals := 42 }
theorem kX7_understandRun_0 : Cond.fieldLink RX7 47 "GoreGlobe$Tape" "figures" "I" ∈ wsX7_understandRun := List.mem_cons_of_mem _ (List.mem_append_left _ (List.mem_append_left _ (List.mem_of_getElem? (i := 0) rfl)))
theorem kX7_understandRun_cX7 : ∀ w ∈ wsX70, w ∈ wsX7_understandRun := fun _ h => List.mem_cons_of_mem _ (List.mem_append_right _ h)
theorem kX7_understandRun_2 : Cond.fieldLink RX7 15 "GoreGlobe$Tape" "landBits" "[J" ∈ wsX7_understandRun := List.mem_cons_of_mem _ (List.mem_append_left _ (List.mem_append_left _ (List.mem_of_getElem? (i := 1) rfl)))
set_option maxHeartbeats 4000000 in
set_option maxRecDepth 100000 in
theorem mX7_understandRun (l : Launch) (D : va_G) (K : Nat → ClassId) (h : Nat → Nat) (sz : Nat) (a1 : Int32) (letters : Nat → Int32) (tbits : Nat → Int64) (tlen : Int32) (tat : Int32) (fig : Int32)  {post : Int32 → (Nat → Int64) → Int32 → Int32 → Prop} (hw : wX7_understandRun a1 letters tbits tlen tat fig post) : Met l yX7_understandRun wsX7_understandRun rmX7_understandRun (va_Pc [.ref (h 0), .int a1] (cP D K (fl [wTa K h letters tbits tlen tat fig]) sz)) (va_Qi (fun (r : Int32) (u : (Nat → Int64) × Int32 × Int32) => post r u.1 u.2.1 u.2.2) (fun u t => cQ D K (fl [wTa K h letters u.1 tlen u.2.1 u.2.2]) (va_A (fl [wTa K h letters tbits tlen tat fig]) sz) t) (va_A (fl [wTa K h letters tbits tlen tat fig]) sz)) 0 0 (va_A (fl [wTa K h letters tbits tlen tat fig]) sz) := by
  refine x_entry (cc := cX7_understandRun) (maxL := 7) (ret := (some .int)) (QA := fun A => va_Qi (fun (r : Int32) (u : (Nat → Int64) × Int32 × Int32) => post r u.1 u.2.1 u.2.2) (fun u t => cQ D K (fl [wTa K h letters u.1 tlen u.2.1 u.2.2]) A t) A) (plainFor_of_name (by decide)) rfl (Nat.le_of_ble_eq_true rfl) ?_
  intro p e s m args below meth c A ls H Q hQ hC hlk hr hnm hI hl
  obtain ⟨hx, hb, hml, hown, hts, hK, hA, hZ⟩ := id hC
  obtain ⟨locs, hlocs⟩ : ∃ y : List Loc, y = [] := ⟨_, rfl⟩
  rw [← hlocs] at hI ⊢
  clear hlocs
  replace hl : lv_has ls 7 [(0, .ref (h 0)), (1, .int a1)] := hl
  replace hw : wX7_understandNumber letters tlen tat fig (fun (r3 : Int32) (tat_c1 : Int32) (fig_c2 : Int32) => ((r3 = (-1 : Int32) → wX7_takes (45 : Int32) letters tlen tat_c1 (fun (r6 : Int32) (tat_c5 : Int32) => ∃ J38 : Int32 → Int32 → Prop, (∀ (tat_38 : Int32) (fig_38 : Int32), J38 tat_38 fig_38 → wJ9_floorMod_7cf53 (fig_38 - fig_c2) (24 : Int32) (fun (r7 : Int32) => (∃ (I54 : Int32 → (Nat → Int64) → Prop) (mu54 : Int32 → (Nat → Int64) → Nat), I54 (0 : Int32) tbits ∧ ∀ (l5_54 : Int32) (tbits_54 : Nat → Int64), I54 l5_54 tbits_54 → ((r7 < l5_54 → post (-1 : Int32) tbits_54 tat_38 fig_38) ∧ (¬ r7 < l5_54 → wX1_numberOf a1 ((fig_c2 + l5_54) - (fig_c2 + l5_54) / (24 : Int32) * (24 : Int32)) (fun (r9 : Int32) => vp_in (r9 >>> ((6 : Int32) &&& 31)) 5 ∧ vp_in (r9 >>> ((6 : Int32) &&& 31)) 5 ∧ ∀ x12 : Int32, x12 = l5_54 + 1 → (I54 x12 (vp_updL tbits_54 (r9 >>> ((6 : Int32) &&& 31)).toNatClampNeg ((tbits_54 (r9 >>> ((6 : Int32) &&& 31)).toNatClampNeg) ||| ((1 : Int64) <<< ((r9 &&& (63 : Int32)).toInt64 &&& 63)))) ∧ mu54 x12 (vp_updL tbits_54 (r9 >>> ((6 : Int32) &&& 31)).toNatClampNeg ((tbits_54 (r9 >>> ((6 : Int32) &&& 31)).toNatClampNeg) ||| ((1 : Int64) <<< ((r9 &&& (63 : Int32)).toInt64 &&& 63)))) < mu54 l5_54 tbits_54))))))) ∧ ((r6 = 0 → J38 tat_c5 fig_c2) ∧ (¬ r6 = 0 → wX7_understandNumber letters tlen tat_c5 fig_c2 (fun (r16 : Int32) (tat_c14 : Int32) (fig_c15 : Int32) => ((r16 = (-1 : Int32) → J38 tat_c14 fig_c15) ∧ (¬ r16 = (-1 : Int32) → post r16 tbits tat_c14 fig_c15))))))) ∧ (¬ r3 = (-1 : Int32) → post r3 tbits tat_c1 fig_c2))) := hw
  refine lv_aload_n hx hb dX7_understandRun_0 rfl (lv_at hl 0 rfl) ?_
  refine x_callVi (rest := []) hC hI [0] (mX7_understandNumber l D K h _ letters tbits tlen tat fig hw) (cwV 0 hts gX7_understandRun_X7_understandNumber rfl rfl rfl (by decide +kernel) ⟨(Nat.le_of_ble_eq_true rfl), (Nat.le_of_ble_eq_true rfl)⟩) (by decide) rfl (fun _ => rfl) 0 5 rfl rfl rfl rfl hl.1 rfl (Nat.le_of_ble_eq_true rfl) dX7_understandRun_1 ⟨(Nat.le_of_ble_eq_true rfl), (Nat.le_of_ble_eq_true rfl)⟩ (fun r3 u H locs hw hI => ?_)
  obtain ⟨tat_c1, fig_c2⟩ := u
  try dsimp only at hw
  have hI : wI s D A (fl [wTa K h letters tbits tlen tat_c1 fig_c2]) H locs := hI
  refine lv_istore_n (lv' := [(2, .int r3), (0, .ref (h 0)), (1, .int a1)]) hx hb dX7_understandRun_4 rfl hl (by decide) rfl (fun ls hl => ?_)
  refine lv_iload_n hx hb dX7_understandRun_5 rfl (lv_at hl 0 rfl) ?_
  refine lv_iconst (v := (-1 : Int32)) hx hb dX7_understandRun_6 (by decide) ?_
  refine lv_icmp_eq (tgt := 12) hx hb dX7_understandRun_7 (by decide) (fun c4 => ?_) (fun c4 => ?_)
  · replace hw := hw.1 c4
    refine lv_aload_n hx hb dX7_understandRun_12 rfl (lv_at hl 1 rfl) ?_
    refine x_get (v := .int fig_c2) hC hI kX7_understandRun_cX7 0 rfl rfl 4 (by decide) kX7_understandRun_0 rfl rfl dX7_understandRun_13 ?_
    refine lv_istore_n (lv' := [(3, .int fig_c2), (2, .int r3), (0, .ref (h 0)), (1, .int a1)]) hx hb dX7_understandRun_16 rfl hl (by decide) rfl (fun ls hl => ?_)
    refine lv_aload_n hx hb dX7_understandRun_17 rfl (lv_at hl 2 rfl) ?_
    refine lv_bipush (v := (45 : Int32)) hx hb dX7_understandRun_18 (by decide) ?_
    refine x_callVi (rest := []) hC hI [0] (mX7_takes l D K h _ (45 : Int32) letters tbits tlen tat_c1 fig_c2 hw) (cwV 1 hts gX7_understandRun_X7_takes rfl rfl rfl (by decide +kernel) ⟨(Nat.le_of_ble_eq_true rfl), (Nat.le_of_ble_eq_true rfl)⟩) (by decide) rfl (fun _ => rfl) 0 5 rfl rfl rfl rfl hl.1 rfl (Nat.le_of_ble_eq_true rfl) dX7_understandRun_20 ⟨(Nat.le_of_ble_eq_true rfl), (Nat.le_of_ble_eq_true rfl)⟩ (fun r6 tat_c5 H locs hw hI => ?_)
    have hI : wI s D A (fl [wTa K h letters tbits tlen tat_c5 fig_c2]) H locs := hI
    obtain ⟨J38, hJ38, hw⟩ := hw
    have jn38 : ∀ (tat_38 : Int32) (fig_38 : Int32) (ls : Array Slot) (H : Heap) (locs : List Loc), J38 tat_38 fig_38 → wI s D A (fl [wTa K h letters tbits tlen tat_38 fig_38]) H locs → lv_has ls 7 [(0, .ref (h 0)), (1, .int a1), (3, .int fig_c2)] → W p l e rmX7_understandRun s m args below meth c H locs 0 0 Q (F0 m 38 ls []) := by
      intro tat_38 fig_38 ls H locs hw hI hl
      replace hw := hJ38 tat_38 fig_38 hw
      refine lv_aload_n hx hb dX7_understandRun_38 rfl (lv_at hl 0 rfl) ?_
      refine x_get (v := .int fig_38) hC hI kX7_understandRun_cX7 0 rfl rfl 4 (by decide) kX7_understandRun_0 rfl rfl dX7_understandRun_39 ?_
      refine lv_iload_n hx hb dX7_understandRun_42 rfl (lv_at hl 2 rfl) ?_
      refine lv_isub hx hb dX7_understandRun_43 ?_
      refine lv_bipush (v := (24 : Int32)) hx hb dX7_understandRun_44 (by decide) ?_
      refine x_callSi (rest := []) hC hI [] (mJ9_floorMod_7cf53 l D K  _ (fig_38 - fig_c2) (24 : Int32) hw) (va_cwS 2 hts gX7_understandRun_J9_floorMod_7cf53 rfl rfl rfl (by decide +kernel) ⟨(Nat.le_of_ble_eq_true rfl), (Nat.le_of_ble_eq_true rfl)⟩) (by decide) rfl (fun _ => rfl) rfl hl.1 rfl (Nat.le_of_ble_eq_true rfl) dX7_understandRun_46 ⟨(Nat.le_of_ble_eq_true rfl), (Nat.le_of_ble_eq_true rfl)⟩ (fun r7 u H locs hw hI => ?_)
      try dsimp only at hw
      have hI : wI s D A (fl [wTa K h letters tbits tlen tat_38 fig_38]) H locs := hI
      refine lv_istore (lv' := [(4, .int r7), (0, .ref (h 0)), (1, .int a1), (3, .int fig_c2)]) hx hb dX7_understandRun_49 hl (by decide) rfl (fun ls hl => ?_)
      refine lv_iconst (v := (0 : Int32)) hx hb dX7_understandRun_51 (by decide) ?_
      refine lv_istore (lv' := [(5, .int (0 : Int32)), (4, .int r7), (0, .ref (h 0)), (1, .int a1), (3, .int fig_c2)]) hx hb dX7_understandRun_52 hl (by decide) rfl (fun ls hl => ?_)
      obtain ⟨I54, mu54, hw, hb54⟩ := hw
      have lp54 : ∀ (k : Nat) (l5_54 : Int32) (tbits_54 : Nat → Int64) (ls : Array Slot) (H : Heap) (locs : List Loc), mu54 l5_54 tbits_54 < k → I54 l5_54 tbits_54 → wI s D A (fl [wTa K h letters tbits_54 tlen tat_38 fig_38]) H locs → lv_has ls 7 [(0, .ref (h 0)), (1, .int a1), (3, .int fig_c2), (4, .int r7), (5, .int l5_54)] → W p l e rmX7_understandRun s m args below meth c H locs 0 0 Q (F0 m 54 ls []) := by
        intro k
        induction k with
        | zero => intro l5_54 tbits_54 ls H locs hmu; exact absurd hmu (Nat.not_lt_zero _)
        | succ k ih54 =>
          intro l5_54 tbits_54 ls H locs hmu54 hw hI hl
          replace hw := hb54 l5_54 tbits_54 hw
          refine lv_iload hx hb dX7_understandRun_54 (lv_at hl 4 rfl) ?_
          refine lv_iload hx hb dX7_understandRun_56 (lv_at hl 3 rfl) ?_
          refine lv_icmp_gt (tgt := 100) hx hb dX7_understandRun_58 (by decide) (fun c8 => ?_) (fun c8 => ?_)
          · replace hw := hw.1 c8
            refine lv_iconst (v := (-1 : Int32)) hx hb dX7_understandRun_100 (by decide) ?_
            subst hQ
            exact x_iret (u := (tbits_54, tat_38, fig_38)) hC hI hr hlk hw rfl dX7_understandRun_101
          · replace hw := hw.2 c8
            refine lv_iload_n hx hb dX7_understandRun_61 rfl (lv_at hl 1 rfl) ?_
            refine lv_iload_n hx hb dX7_understandRun_62 rfl (lv_at hl 2 rfl) ?_
            refine lv_iload hx hb dX7_understandRun_63 (lv_at hl 4 rfl) ?_
            refine lv_iadd hx hb dX7_understandRun_65 ?_
            refine lv_bipush (v := (24 : Int32)) hx hb dX7_understandRun_66 (by decide) ?_
            refine lv_irem hx hb dX7_understandRun_68 (by decide) ?_
            refine x_callSi (rest := []) hC hI [] (mX1_numberOf l D K  _ a1 ((fig_c2 + l5_54) - (fig_c2 + l5_54) / (24 : Int32) * (24 : Int32)) hw) (va_cwS 2 hts gX7_understandRun_X1_numberOf rfl rfl rfl (by decide +kernel) ⟨(Nat.le_of_ble_eq_true rfl), (Nat.le_of_ble_eq_true rfl)⟩) (by decide) rfl (fun _ => rfl) rfl hl.1 rfl (Nat.le_of_ble_eq_true rfl) dX7_understandRun_69 ⟨(Nat.le_of_ble_eq_true rfl), (Nat.le_of_ble_eq_true rfl)⟩ (fun r9 u H locs hw hI => ?_)
            try dsimp only at hw
            have hI : wI s D A (fl [wTa K h letters tbits_54 tlen tat_38 fig_38]) H locs := hI
            refine lv_istore (lv' := [(6, .int r9), (0, .ref (h 0)), (1, .int a1), (3, .int fig_c2), (4, .int r7), (5, .int l5_54)]) hx hb dX7_understandRun_72 hl (by decide) rfl (fun ls hl => ?_)
            refine lv_aload_n hx hb dX7_understandRun_74 rfl (lv_at hl 1 rfl) ?_
            refine x_get (v := .ref (h 2)) hC hI kX7_understandRun_cX7 0 rfl rfl 2 (by decide) kX7_understandRun_2 rfl rfl dX7_understandRun_75 ?_
            refine lv_iload hx hb dX7_understandRun_78 (lv_at hl 0 rfl) ?_
            refine lv_bipush (v := (6 : Int32)) hx hb dX7_understandRun_80 (by decide) ?_
            refine lv_ishr hx hb dX7_understandRun_82 ?_
            refine lv_dup2_11 hx hb dX7_understandRun_83 rfl rfl ?_
            obtain ⟨hc10, hw⟩ := hw
            refine x_lald (f := tbits_54) hC hI 2 rfl hc10 dX7_understandRun_84 ?_
            refine lv_lconst (v := (1 : Int64)) hx hb dX7_understandRun_85 (by decide) ?_
            refine lv_iload hx hb dX7_understandRun_86 (lv_at hl 0 rfl) ?_
            refine lv_bipush (v := (63 : Int32)) hx hb dX7_understandRun_88 (by decide) ?_
            refine lv_iand hx hb dX7_understandRun_90 ?_
            refine lv_lshl (v := ((1 : Int64) <<< ((r9 &&& (63 : Int32)).toInt64 &&& 63))) hx hb dX7_understandRun_91 rfl ?_
            refine lv_lor hx hb dX7_understandRun_92 ?_
            obtain ⟨hc11, hw⟩ := hw
            refine x_last (f := tbits_54) hC hI 2 rfl hc11 dX7_understandRun_93 (fun H locs hI => ?_)
            have hI : wI s D A (fl [wTa K h letters (vp_updL tbits_54 (r9 >>> ((6 : Int32) &&& 31)).toNatClampNeg ((tbits_54 (r9 >>> ((6 : Int32) &&& 31)).toNatClampNeg) ||| ((1 : Int64) <<< ((r9 &&& (63 : Int32)).toInt64 &&& 63)))) tlen tat_38 fig_38]) H locs := hI
            obtain ⟨x12, ex12⟩ : ∃ y : Int32, y = l5_54 + 1 := ⟨_, rfl⟩
            replace hw := hw x12 ex12
            refine lv_iinc (v := x12) (lv' := [(5, .int x12), (6, .int r9), (0, .ref (h 0)), (1, .int a1), (3, .int fig_c2), (4, .int r7)]) hx hb dX7_understandRun_94 hl (k := 5) rfl (by rw [ex12]; rfl) (by decide) rfl (fun ls hl => ?_)
            refine lv_goto (tgt := 54) hx hb dX7_understandRun_97 (by decide) ?_
            exact ih54 x12 (vp_updL tbits_54 (r9 >>> ((6 : Int32) &&& 31)).toNatClampNeg ((tbits_54 (r9 >>> ((6 : Int32) &&& 31)).toNatClampNeg) ||| ((1 : Int64) <<< ((r9 &&& (63 : Int32)).toInt64 &&& 63)))) ls H locs (Nat.lt_of_lt_of_le hw.2 (Nat.le_of_lt_succ hmu54)) hw.1 hI (lv_sub hl [2, 3, 4, 5, 0] rfl)
      exact lp54 (mu54 (0 : Int32) tbits + 1) (0 : Int32) tbits ls H locs (Nat.lt_succ_self _) hw hI (lv_sub hl [2, 3, 4, 1, 0] rfl)
    refine lv_if_eq (tgt := 38) hx hb dX7_understandRun_23 (by decide) (fun c13 => ?_) (fun c13 => ?_)
    · replace hw := hw.1 c13
      exact jn38 tat_c5 fig_c2 ls H locs hw hI (lv_sub hl [2, 3, 0] rfl)
    · replace hw := hw.2 c13
      refine lv_aload_n hx hb dX7_understandRun_26 rfl (lv_at hl 2 rfl) ?_
      refine x_callVi (rest := []) hC hI [0] (mX7_understandNumber l D K h _ letters tbits tlen tat_c5 fig_c2 hw) (cwV 0 hts gX7_understandRun_X7_understandNumber rfl rfl rfl (by decide +kernel) ⟨(Nat.le_of_ble_eq_true rfl), (Nat.le_of_ble_eq_true rfl)⟩) (by decide) rfl (fun _ => rfl) 0 5 rfl rfl rfl rfl hl.1 rfl (Nat.le_of_ble_eq_true rfl) dX7_understandRun_27 ⟨(Nat.le_of_ble_eq_true rfl), (Nat.le_of_ble_eq_true rfl)⟩ (fun r16 u H locs hw hI => ?_)
      obtain ⟨tat_c14, fig_c15⟩ := u
      try dsimp only at hw
      have hI : wI s D A (fl [wTa K h letters tbits tlen tat_c14 fig_c15]) H locs := hI
      refine lv_istore_n (lv' := [(2, .int r16), (3, .int fig_c2), (0, .ref (h 0)), (1, .int a1)]) hx hb dX7_understandRun_30 rfl hl (by decide) rfl (fun ls hl => ?_)
      refine lv_iload_n hx hb dX7_understandRun_31 rfl (lv_at hl 0 rfl) ?_
      refine lv_iconst (v := (-1 : Int32)) hx hb dX7_understandRun_32 (by decide) ?_
      refine lv_icmp_eq (tgt := 38) hx hb dX7_understandRun_33 (by decide) (fun c17 => ?_) (fun c17 => ?_)
      · replace hw := hw.1 c17
        exact jn38 tat_c14 fig_c15 ls H locs hw hI (lv_sub hl [2, 3, 1] rfl)
      · replace hw := hw.2 c17
        refine lv_iload_n hx hb dX7_understandRun_36 rfl (lv_at hl 0 rfl) ?_
        subst hQ
        exact x_iret (u := (tbits, tat_c14, fig_c15)) hC hI hr hlk hw rfl dX7_understandRun_37
  · replace hw := hw.2 c4
    refine lv_iload_n hx hb dX7_understandRun_10 rfl (lv_at hl 0 rfl) ?_
    subst hQ
    exact x_iret (u := (tbits, tat_c1, fig_c2)) hC hI hr hlk hw rfl dX7_understandRun_11

def wX7_understandRow  (letters : Nat → Int32) (tbits : Nat → Int64) (tlen : Int32) (tat : Int32) (fig : Int32) (post : Int32 → (Nat → Int64) → Int32 → Int32 → Prop) : Prop := wX7_takes (45 : Int32) letters tlen tat (fun (r2 : Int32) (tat_c1 : Int32) => wX7_next letters tlen tat_c1 (fun (r4 : Int32) (tat_c3 : Int32) => ∀ x5 : Int32, x5 = r4 - (48 : Int32) → ((x5 < 0 → post tat_c3 tbits tat_c3 fig) ∧ (¬ x5 < 0 → ((x5 ≤ (6 : Int32) → ∀ x8 : Int32, x8 = tat_c3 + (1 : Int32) → wX7_takes (58 : Int32) letters tlen x8 (fun (r10 : Int32) (tat_c9 : Int32) => ((r10 = 0 → post tat_c9 tbits tat_c9 fig) ∧ (¬ r10 = 0 → (∃ (I56 : Int32 → (Nat → Int64) → Int32 → Int32 → Prop) (mu56 : Int32 → (Nat → Int64) → Int32 → Int32 → Nat), I56 (0 : Int32) tbits tat_c9 fig ∧ ∀ (l3_56 : Int32) (tbits_56 : Nat → Int64) (tat_56 : Int32) (fig_56 : Int32), I56 l3_56 tbits_56 tat_56 fig_56 → (((90 : Int32) < l3_56 → post tat_56 tbits_56 tat_56 fig_56) ∧ (¬ (90 : Int32) < l3_56 → ∃ J73 : Int32 → Prop, (∀ (t_73 : Int32), J73 t_73 → wX7_understandRun t_73 letters tbits_56 tlen tat_56 fig_56 (fun (r16 : Int32) (tbits_c13 : Nat → Int64) (tat_c14 : Int32) (fig_c15 : Int32) => ((r16 = (-1 : Int32) → wX7_takes (44 : Int32) letters tlen tat_c14 (fun (r19 : Int32) (tat_c18 : Int32) => ((r19 = 0 → post (-1 : Int32) tbits_c13 tat_c18 fig_c15) ∧ (¬ r19 = 0 → ∀ x21 : Int32, x21 = l3_56 + 1 → (I56 x21 tbits_c13 tat_c18 fig_c15 ∧ mu56 x21 tbits_c13 tat_c18 fig_c15 < mu56 l3_56 tbits_56 tat_56 fig_56))))) ∧ (¬ r16 = (-1 : Int32) → post r16 tbits_c13 tat_c14 fig_c15)))) ∧ ((r2 = 0 → J73 x5) ∧ (¬ r2 = 0 → J73 (-x5)))))))))) ∧ (¬ x5 ≤ (6 : Int32) → post tat_c3 tbits tat_c3 fig))))))
def rmX7_understandRow : Room := { frames := 3, cells := 0, slots := 0, locals := 68 }
theorem kX7_understandRow_0 : Cond.fieldLink RX7 25 "GoreGlobe$Tape" "at" "I" ∈ wsX7_understandRow := List.mem_cons_of_mem _ (List.mem_append_left _ (List.mem_append_left _ (List.mem_of_getElem? (i := 0) rfl)))
theorem kX7_understandRow_cX7 : ∀ w ∈ wsX70, w ∈ wsX7_understandRow := fun _ h => List.mem_cons_of_mem _ (List.mem_append_right _ h)
set_option maxHeartbeats 4000000 in
set_option maxRecDepth 100000 in
theorem mX7_understandRow (l : Launch) (D : va_G) (K : Nat → ClassId) (h : Nat → Nat) (sz : Nat)  (letters : Nat → Int32) (tbits : Nat → Int64) (tlen : Int32) (tat : Int32) (fig : Int32)  {post : Int32 → (Nat → Int64) → Int32 → Int32 → Prop} (hw : wX7_understandRow  letters tbits tlen tat fig post) : Met l yX7_understandRow wsX7_understandRow rmX7_understandRow (va_Pc [.ref (h 0)] (cP D K (fl [wTa K h letters tbits tlen tat fig]) sz)) (va_Qi (fun (r : Int32) (u : (Nat → Int64) × Int32 × Int32) => post r u.1 u.2.1 u.2.2) (fun u t => cQ D K (fl [wTa K h letters u.1 tlen u.2.1 u.2.2]) (va_A (fl [wTa K h letters tbits tlen tat fig]) sz) t) (va_A (fl [wTa K h letters tbits tlen tat fig]) sz)) 0 0 (va_A (fl [wTa K h letters tbits tlen tat fig]) sz) := by
  refine x_entry (cc := cX7_understandRow) (maxL := 5) (ret := (some .int)) (QA := fun A => va_Qi (fun (r : Int32) (u : (Nat → Int64) × Int32 × Int32) => post r u.1 u.2.1 u.2.2) (fun u t => cQ D K (fl [wTa K h letters u.1 tlen u.2.1 u.2.2]) A t) A) (plainFor_of_name (by decide)) rfl (Nat.le_of_ble_eq_true rfl) ?_
  intro p e s m args below meth c A ls H Q hQ hC hlk hr hnm hI hl
  obtain ⟨hx, hb, hml, hown, hts, hK, hA, hZ⟩ := id hC
  obtain ⟨locs, hlocs⟩ : ∃ y : List Loc, y = [] := ⟨_, rfl⟩
  rw [← hlocs] at hI ⊢
  clear hlocs
  replace hl : lv_has ls 5 [(0, .ref (h 0))] := hl
  replace hw : wX7_takes (45 : Int32) letters tlen tat (fun (r2 : Int32) (tat_c1 : Int32) => wX7_next letters tlen tat_c1 (fun (r4 : Int32) (tat_c3 : Int32) => ∀ x5 : Int32, x5 = r4 - (48 : Int32) → ((x5 < 0 → post tat_c3 tbits tat_c3 fig) ∧ (¬ x5 < 0 → ((x5 ≤ (6 : Int32) → ∀ x8 : Int32, x8 = tat_c3 + (1 : Int32) → wX7_takes (58 : Int32) letters tlen x8 (fun (r10 : Int32) (tat_c9 : Int32) => ((r10 = 0 → post tat_c9 tbits tat_c9 fig) ∧ (¬ r10 = 0 → (∃ (I56 : Int32 → (Nat → Int64) → Int32 → Int32 → Prop) (mu56 : Int32 → (Nat → Int64) → Int32 → Int32 → Nat), I56 (0 : Int32) tbits tat_c9 fig ∧ ∀ (l3_56 : Int32) (tbits_56 : Nat → Int64) (tat_56 : Int32) (fig_56 : Int32), I56 l3_56 tbits_56 tat_56 fig_56 → (((90 : Int32) < l3_56 → post tat_56 tbits_56 tat_56 fig_56) ∧ (¬ (90 : Int32) < l3_56 → ∃ J73 : Int32 → Prop, (∀ (t_73 : Int32), J73 t_73 → wX7_understandRun t_73 letters tbits_56 tlen tat_56 fig_56 (fun (r16 : Int32) (tbits_c13 : Nat → Int64) (tat_c14 : Int32) (fig_c15 : Int32) => ((r16 = (-1 : Int32) → wX7_takes (44 : Int32) letters tlen tat_c14 (fun (r19 : Int32) (tat_c18 : Int32) => ((r19 = 0 → post (-1 : Int32) tbits_c13 tat_c18 fig_c15) ∧ (¬ r19 = 0 → ∀ x21 : Int32, x21 = l3_56 + 1 → (I56 x21 tbits_c13 tat_c18 fig_c15 ∧ mu56 x21 tbits_c13 tat_c18 fig_c15 < mu56 l3_56 tbits_56 tat_56 fig_56))))) ∧ (¬ r16 = (-1 : Int32) → post r16 tbits_c13 tat_c14 fig_c15)))) ∧ ((r2 = 0 → J73 x5) ∧ (¬ r2 = 0 → J73 (-x5)))))))))) ∧ (¬ x5 ≤ (6 : Int32) → post tat_c3 tbits tat_c3 fig)))))) := hw
  refine lv_aload_n hx hb dX7_understandRow_0 rfl (lv_at hl 0 rfl) ?_
  refine lv_bipush (v := (45 : Int32)) hx hb dX7_understandRow_1 (by decide) ?_
  refine x_callVi (rest := []) hC hI [0] (mX7_takes l D K h _ (45 : Int32) letters tbits tlen tat fig hw) (cwV 1 hts gX7_understandRow_X7_takes rfl rfl rfl (by decide +kernel) ⟨(Nat.le_of_ble_eq_true rfl), (Nat.le_of_ble_eq_true rfl)⟩) (by decide) rfl (fun _ => rfl) 0 5 rfl rfl rfl rfl hl.1 rfl (Nat.le_of_ble_eq_true rfl) dX7_understandRow_3 ⟨(Nat.le_of_ble_eq_true rfl), (Nat.le_of_ble_eq_true rfl)⟩ (fun r2 tat_c1 H locs hw hI => ?_)
  have hI : wI s D A (fl [wTa K h letters tbits tlen tat_c1 fig]) H locs := hI
  refine lv_istore_n (lv' := [(1, .int r2), (0, .ref (h 0))]) hx hb dX7_understandRow_6 rfl hl (by decide) rfl (fun ls hl => ?_)
  refine lv_aload_n hx hb dX7_understandRow_7 rfl (lv_at hl 1 rfl) ?_
  refine x_callVi (rest := []) hC hI [0] (mX7_next l D K h _ letters tbits tlen tat_c1 fig hw) (cwV 0 hts gX7_understandRow_X7_next rfl rfl rfl (by decide +kernel) ⟨(Nat.le_of_ble_eq_true rfl), (Nat.le_of_ble_eq_true rfl)⟩) (by decide) rfl (fun _ => rfl) 0 5 rfl rfl rfl rfl hl.1 rfl (Nat.le_of_ble_eq_true rfl) dX7_understandRow_8 ⟨(Nat.le_of_ble_eq_true rfl), (Nat.le_of_ble_eq_true rfl)⟩ (fun r4 tat_c3 H locs hw hI => ?_)
  have hI : wI s D A (fl [wTa K h letters tbits tlen tat_c3 fig]) H locs := hI
  refine lv_bipush (v := (48 : Int32)) hx hb dX7_understandRow_11 (by decide) ?_
  refine lv_isub hx hb dX7_understandRow_13 ?_
  refine lv_topi (fun x5 ex5 => ?_)
  replace hw := hw x5 ex5
  refine lv_istore_n (lv' := [(2, .int x5), (1, .int r2), (0, .ref (h 0))]) hx hb dX7_understandRow_14 rfl hl (by decide) rfl (fun ls hl => ?_)
  refine lv_iload_n hx hb dX7_understandRow_15 rfl (lv_at hl 0 rfl) ?_
  refine lv_if_lt (tgt := 25) hx hb dX7_understandRow_16 (by decide) (fun c6 => ?_) (fun c6 => ?_)
  · replace hw := hw.1 c6
    refine lv_aload_n hx hb dX7_understandRow_25 rfl (lv_at hl 2 rfl) ?_
    refine x_get (v := .int tat_c3) hC hI kX7_understandRow_cX7 0 rfl rfl 3 (by decide) kX7_understandRow_0 rfl rfl dX7_understandRow_26 ?_
    subst hQ
    exact x_iret (u := (tbits, tat_c3, fig)) hC hI hr hlk hw rfl dX7_understandRow_29
  · replace hw := hw.2 c6
    refine lv_iload_n hx hb dX7_understandRow_19 rfl (lv_at hl 0 rfl) ?_
    refine lv_bipush (v := (6 : Int32)) hx hb dX7_understandRow_20 (by decide) ?_
    refine lv_icmp_le (tgt := 30) hx hb dX7_understandRow_22 (by decide) (fun c7 => ?_) (fun c7 => ?_)
    · replace hw := hw.1 c7
      refine lv_aload_n hx hb dX7_understandRow_30 rfl (lv_at hl 2 rfl) ?_
      refine lv_dup hx hb dX7_understandRow_31 rfl ?_
      refine x_get (v := .int tat_c3) hC hI kX7_understandRow_cX7 0 rfl rfl 3 (by decide) kX7_understandRow_0 rfl rfl dX7_understandRow_32 ?_
      refine lv_iconst (v := (1 : Int32)) hx hb dX7_understandRow_35 (by decide) ?_
      refine lv_iadd hx hb dX7_understandRow_36 ?_
      refine lv_topi (fun x8 ex8 => ?_)
      replace hw := hw x8 ex8
      refine x_put (v := .int x8) hC hI kX7_understandRow_cX7 tyX7 tyX7_ok nmX7 0 rfl rfl 3 (by decide) kX7_understandRow_0 rfl rfl rfl rfl (Nat.le_of_ble_eq_true rfl) dX7_understandRow_37 (fun H locs hI => ?_)
      have hI : wI s D A (fl [wTa K h letters tbits tlen x8 fig]) H locs := hI
      refine lv_aload_n hx hb dX7_understandRow_40 rfl (lv_at hl 2 rfl) ?_
      refine lv_bipush (v := (58 : Int32)) hx hb dX7_understandRow_41 (by decide) ?_
      refine x_callVi (rest := []) hC hI [0] (mX7_takes l D K h _ (58 : Int32) letters tbits tlen x8 fig hw) (cwV 1 hts gX7_understandRow_X7_takes rfl rfl rfl (by decide +kernel) ⟨(Nat.le_of_ble_eq_true rfl), (Nat.le_of_ble_eq_true rfl)⟩) (by decide) rfl (fun _ => rfl) 0 5 rfl rfl rfl rfl hl.1 rfl (Nat.le_of_ble_eq_true rfl) dX7_understandRow_43 ⟨(Nat.le_of_ble_eq_true rfl), (Nat.le_of_ble_eq_true rfl)⟩ (fun r10 tat_c9 H locs hw hI => ?_)
      have hI : wI s D A (fl [wTa K h letters tbits tlen tat_c9 fig]) H locs := hI
      refine lv_if_ne (tgt := 54) hx hb dX7_understandRow_46 (by decide) (fun c11 => ?_) (fun c11 => ?_)
      · replace hw := hw.2 c11
        refine lv_iconst (v := (0 : Int32)) hx hb dX7_understandRow_54 (by decide) ?_
        refine lv_istore_n (lv' := [(3, .int (0 : Int32)), (2, .int x5), (1, .int r2), (0, .ref (h 0))]) hx hb dX7_understandRow_55 rfl hl (by decide) rfl (fun ls hl => ?_)
        obtain ⟨I56, mu56, hw, hb56⟩ := hw
        have lp56 : ∀ (k : Nat) (l3_56 : Int32) (tbits_56 : Nat → Int64) (tat_56 : Int32) (fig_56 : Int32) (ls : Array Slot) (H : Heap) (locs : List Loc), mu56 l3_56 tbits_56 tat_56 fig_56 < k → I56 l3_56 tbits_56 tat_56 fig_56 → wI s D A (fl [wTa K h letters tbits_56 tlen tat_56 fig_56]) H locs → lv_has ls 5 [(0, .ref (h 0)), (1, .int r2), (2, .int x5), (3, .int l3_56)] → W p l e rmX7_understandRow s m args below meth c H locs 0 0 Q (F0 m 56 ls []) := by
          intro k
          induction k with
          | zero => intro l3_56 tbits_56 tat_56 fig_56 ls H locs hmu; exact absurd hmu (Nat.not_lt_zero _)
          | succ k ih56 =>
            intro l3_56 tbits_56 tat_56 fig_56 ls H locs hmu56 hw hI hl
            replace hw := hb56 l3_56 tbits_56 tat_56 fig_56 hw
            refine lv_iload_n hx hb dX7_understandRow_56 rfl (lv_at hl 3 rfl) ?_
            refine lv_bipush (v := (90 : Int32)) hx hb dX7_understandRow_57 (by decide) ?_
            refine lv_icmp_gt (tgt := 104) hx hb dX7_understandRow_59 (by decide) (fun c12 => ?_) (fun c12 => ?_)
            · replace hw := hw.1 c12
              refine lv_aload_n hx hb dX7_understandRow_104 rfl (lv_at hl 0 rfl) ?_
              refine x_get (v := .int tat_56) hC hI kX7_understandRow_cX7 0 rfl rfl 3 (by decide) kX7_understandRow_0 rfl rfl dX7_understandRow_105 ?_
              subst hQ
              exact x_iret (u := (tbits_56, tat_56, fig_56)) hC hI hr hlk hw rfl dX7_understandRow_108
            · replace hw := hw.2 c12
              refine lv_aload_n hx hb dX7_understandRow_62 rfl (lv_at hl 0 rfl) ?_
              refine lv_iload_n hx hb dX7_understandRow_63 rfl (lv_at hl 1 rfl) ?_
              obtain ⟨J73, hJ73, hw⟩ := hw
              have jn73 : ∀ (t_73 : Int32) (ls : Array Slot) (H : Heap) (locs : List Loc), J73 t_73 → wI s D A (fl [wTa K h letters tbits_56 tlen tat_56 fig_56]) H locs → lv_has ls 5 [(0, .ref (h 0)), (1, .int r2), (2, .int x5), (3, .int l3_56)] → W p l e rmX7_understandRow s m args below meth c H locs 0 0 Q (F0 m 73 ls [.int t_73, .ref (h 0)]) := by
                intro t_73 ls H locs hw hI hl
                replace hw := hJ73 t_73 hw
                refine x_callVi (rest := []) hC hI [0] (mX7_understandRun l D K h _ t_73 letters tbits_56 tlen tat_56 fig_56 hw) (cwV 1 hts gX7_understandRow_X7_understandRun rfl rfl rfl (by decide +kernel) ⟨(Nat.le_of_ble_eq_true rfl), (Nat.le_of_ble_eq_true rfl)⟩) (by decide) rfl (fun _ => rfl) 0 5 rfl rfl rfl rfl hl.1 rfl (Nat.le_of_ble_eq_true rfl) dX7_understandRow_73 ⟨(Nat.le_of_ble_eq_true rfl), (Nat.le_of_ble_eq_true rfl)⟩ (fun r16 u H locs hw hI => ?_)
                obtain ⟨tbits_c13, tat_c14, fig_c15⟩ := u
                try dsimp only at hw
                have hI : wI s D A (fl [wTa K h letters tbits_c13 tlen tat_c14 fig_c15]) H locs := hI
                refine lv_istore (lv' := [(4, .int r16), (0, .ref (h 0)), (1, .int r2), (2, .int x5), (3, .int l3_56)]) hx hb dX7_understandRow_76 hl (by decide) rfl (fun ls hl => ?_)
                refine lv_iload hx hb dX7_understandRow_78 (lv_at hl 0 rfl) ?_
                refine lv_iconst (v := (-1 : Int32)) hx hb dX7_understandRow_80 (by decide) ?_
                refine lv_icmp_eq (tgt := 87) hx hb dX7_understandRow_81 (by decide) (fun c17 => ?_) (fun c17 => ?_)
                · replace hw := hw.1 c17
                  refine lv_aload_n hx hb dX7_understandRow_87 rfl (lv_at hl 1 rfl) ?_
                  refine lv_bipush (v := (44 : Int32)) hx hb dX7_understandRow_88 (by decide) ?_
                  refine x_callVi (rest := []) hC hI [0] (mX7_takes l D K h _ (44 : Int32) letters tbits_c13 tlen tat_c14 fig_c15 hw) (cwV 1 hts gX7_understandRow_X7_takes rfl rfl rfl (by decide +kernel) ⟨(Nat.le_of_ble_eq_true rfl), (Nat.le_of_ble_eq_true rfl)⟩) (by decide) rfl (fun _ => rfl) 0 5 rfl rfl rfl rfl hl.1 rfl (Nat.le_of_ble_eq_true rfl) dX7_understandRow_90 ⟨(Nat.le_of_ble_eq_true rfl), (Nat.le_of_ble_eq_true rfl)⟩ (fun r19 tat_c18 H locs hw hI => ?_)
                  have hI : wI s D A (fl [wTa K h letters tbits_c13 tlen tat_c18 fig_c15]) H locs := hI
                  refine lv_if_ne (tgt := 98) hx hb dX7_understandRow_93 (by decide) (fun c20 => ?_) (fun c20 => ?_)
                  · replace hw := hw.2 c20
                    obtain ⟨x21, ex21⟩ : ∃ y : Int32, y = l3_56 + 1 := ⟨_, rfl⟩
                    replace hw := hw x21 ex21
                    refine lv_iinc (v := x21) (lv' := [(3, .int x21), (4, .int r16), (0, .ref (h 0)), (1, .int r2), (2, .int x5)]) hx hb dX7_understandRow_98 hl (k := 4) rfl (by rw [ex21]; rfl) (by decide) rfl (fun ls hl => ?_)
                    refine lv_goto (tgt := 56) hx hb dX7_understandRow_101 (by decide) ?_
                    exact ih56 x21 tbits_c13 tat_c18 fig_c15 ls H locs (Nat.lt_of_lt_of_le hw.2 (Nat.le_of_lt_succ hmu56)) hw.1 hI (lv_sub hl [2, 3, 4, 0] rfl)
                  · replace hw := hw.1 c20
                    refine lv_iconst (v := (-1 : Int32)) hx hb dX7_understandRow_96 (by decide) ?_
                    subst hQ
                    exact x_iret (u := (tbits_c13, tat_c18, fig_c15)) hC hI hr hlk hw rfl dX7_understandRow_97
                · replace hw := hw.2 c17
                  refine lv_iload hx hb dX7_understandRow_84 (lv_at hl 0 rfl) ?_
                  subst hQ
                  exact x_iret (u := (tbits_c13, tat_c14, fig_c15)) hC hI hr hlk hw rfl dX7_understandRow_86
              refine lv_if_eq (tgt := 72) hx hb dX7_understandRow_64 (by decide) (fun c22 => ?_) (fun c22 => ?_)
              · replace hw := hw.1 c22
                refine lv_iload_n hx hb dX7_understandRow_72 rfl (lv_at hl 2 rfl) ?_
                exact jn73 x5 ls H locs hw hI (lv_sub hl [0, 1, 2, 3] rfl)
              · replace hw := hw.2 c22
                refine lv_iload_n hx hb dX7_understandRow_67 rfl (lv_at hl 2 rfl) ?_
                refine lv_ineg hx hb dX7_understandRow_68 ?_
                refine lv_goto (tgt := 73) hx hb dX7_understandRow_69 (by decide) ?_
                exact jn73 (-x5) ls H locs hw hI (lv_sub hl [0, 1, 2, 3] rfl)
        exact lp56 (mu56 (0 : Int32) tbits tat_c9 fig + 1) (0 : Int32) tbits tat_c9 fig ls H locs (Nat.lt_succ_self _) hw hI (lv_sub hl [3, 2, 1, 0] rfl)
      · replace hw := hw.1 c11
        refine lv_aload_n hx hb dX7_understandRow_49 rfl (lv_at hl 2 rfl) ?_
        refine x_get (v := .int tat_c9) hC hI kX7_understandRow_cX7 0 rfl rfl 3 (by decide) kX7_understandRow_0 rfl rfl dX7_understandRow_50 ?_
        subst hQ
        exact x_iret (u := (tbits, tat_c9, fig)) hC hI hr hlk hw rfl dX7_understandRow_53
    · replace hw := hw.2 c7
      refine lv_aload_n hx hb dX7_understandRow_25 rfl (lv_at hl 2 rfl) ?_
      refine x_get (v := .int tat_c3) hC hI kX7_understandRow_cX7 0 rfl rfl 3 (by decide) kX7_understandRow_0 rfl rfl dX7_understandRow_26 ?_
      subst hQ
      exact x_iret (u := (tbits, tat_c3, fig)) hC hI hr hlk hw rfl dX7_understandRow_29

def wX7_understand  (letters : Nat → Int32) (tbits : Nat → Int64) (tlen : Int32) (fig : Int32) (post : Int32 → (Nat → Int64) → Int32 → Int32 → Prop) : Prop := wJ7_fill_d0a16 (0 : Int64) tbits 5 (fun (arr_c1 : Nat → Int64) => (∃ (I15 : Int32 → (Nat → Int64) → Int32 → Int32 → Prop) (mu15 : Int32 → (Nat → Int64) → Int32 → Int32 → Nat), I15 (0 : Int32) arr_c1 (0 : Int32) fig ∧ ∀ (l1_15 : Int32) (tbits_15 : Nat → Int64) (tat_15 : Int32) (fig_15 : Int32), I15 l1_15 tbits_15 tat_15 fig_15 → (((90 : Int32) < l1_15 → post tat_15 tbits_15 tat_15 fig_15) ∧ (¬ (90 : Int32) < l1_15 → wX7_understandRow letters tbits_15 tlen tat_15 fig_15 (fun (r6 : Int32) (tbits_c3 : Nat → Int64) (tat_c4 : Int32) (fig_c5 : Int32) => ((r6 = (-1 : Int32) → wX7_next letters tlen tat_c4 (fun (r9 : Int32) (tat_c8 : Int32) => ((r9 = (-1 : Int32) → post (-1 : Int32) tbits_c3 tat_c8 fig_c5) ∧ (¬ r9 = (-1 : Int32) → wX7_takes (59 : Int32) letters tlen tat_c8 (fun (r12 : Int32) (tat_c11 : Int32) => ((r12 = 0 → post tat_c11 tbits_c3 tat_c11 fig_c5) ∧ (¬ r12 = 0 → ∀ x14 : Int32, x14 = l1_15 + 1 → (I15 x14 tbits_c3 tat_c11 fig_c5 ∧ mu15 x14 tbits_c3 tat_c11 fig_c5 < mu15 l1_15 tbits_15 tat_15 fig_15)))))))) ∧ (¬ r6 = (-1 : Int32) → post r6 tbits_c3 tat_c4 fig_c5)))))))
def rmX7_understand : Room := { frames := 4, cells := 0, slots := 0, locals := 92 }
theorem kX7_understand_0 : Cond.fieldLink RX7 15 "GoreGlobe$Tape" "landBits" "[J" ∈ wsX7_understand := List.mem_cons_of_mem _ (List.mem_append_left _ (List.mem_append_left _ (List.mem_of_getElem? (i := 0) rfl)))
theorem kX7_understand_cX7 : ∀ w ∈ wsX70, w ∈ wsX7_understand := fun _ h => List.mem_cons_of_mem _ (List.mem_append_right _ h)
theorem kX7_understand_2 : Cond.fieldLink RX7 25 "GoreGlobe$Tape" "at" "I" ∈ wsX7_understand := List.mem_cons_of_mem _ (List.mem_append_left _ (List.mem_append_left _ (List.mem_of_getElem? (i := 1) rfl)))
set_option maxHeartbeats 4000000 in
set_option maxRecDepth 100000 in
theorem mX7_understand (l : Launch) (D : va_G) (K : Nat → ClassId) (h : Nat → Nat) (sz : Nat)  (letters : Nat → Int32) (tbits : Nat → Int64) (tlen : Int32) (tat : Int32) (fig : Int32)  {post : Int32 → (Nat → Int64) → Int32 → Int32 → Prop} (hw : wX7_understand  letters tbits tlen fig post) : Met l yX7_understand wsX7_understand rmX7_understand (va_Pc [.ref (h 0)] (cP D K (fl [wTa K h letters tbits tlen tat fig]) sz)) (va_Qi (fun (r : Int32) (u : (Nat → Int64) × Int32 × Int32) => post r u.1 u.2.1 u.2.2) (fun u t => cQ D K (fl [wTa K h letters u.1 tlen u.2.1 u.2.2]) (va_A (fl [wTa K h letters tbits tlen tat fig]) sz) t) (va_A (fl [wTa K h letters tbits tlen tat fig]) sz)) 0 0 (va_A (fl [wTa K h letters tbits tlen tat fig]) sz) := by
  refine x_entry (cc := cX7_understand) (maxL := 3) (ret := (some .int)) (QA := fun A => va_Qi (fun (r : Int32) (u : (Nat → Int64) × Int32 × Int32) => post r u.1 u.2.1 u.2.2) (fun u t => cQ D K (fl [wTa K h letters u.1 tlen u.2.1 u.2.2]) A t) A) (plainFor_of_name (by decide)) rfl (Nat.le_of_ble_eq_true rfl) ?_
  intro p e s m args below meth c A ls H Q hQ hC hlk hr hnm hI hl
  obtain ⟨hx, hb, hml, hown, hts, hK, hA, hZ⟩ := id hC
  obtain ⟨locs, hlocs⟩ : ∃ y : List Loc, y = [] := ⟨_, rfl⟩
  rw [← hlocs] at hI ⊢
  clear hlocs
  replace hl : lv_has ls 3 [(0, .ref (h 0))] := hl
  replace hw : wJ7_fill_d0a16 (0 : Int64) tbits 5 (fun (arr_c1 : Nat → Int64) => (∃ (I15 : Int32 → (Nat → Int64) → Int32 → Int32 → Prop) (mu15 : Int32 → (Nat → Int64) → Int32 → Int32 → Nat), I15 (0 : Int32) arr_c1 (0 : Int32) fig ∧ ∀ (l1_15 : Int32) (tbits_15 : Nat → Int64) (tat_15 : Int32) (fig_15 : Int32), I15 l1_15 tbits_15 tat_15 fig_15 → (((90 : Int32) < l1_15 → post tat_15 tbits_15 tat_15 fig_15) ∧ (¬ (90 : Int32) < l1_15 → wX7_understandRow letters tbits_15 tlen tat_15 fig_15 (fun (r6 : Int32) (tbits_c3 : Nat → Int64) (tat_c4 : Int32) (fig_c5 : Int32) => ((r6 = (-1 : Int32) → wX7_next letters tlen tat_c4 (fun (r9 : Int32) (tat_c8 : Int32) => ((r9 = (-1 : Int32) → post (-1 : Int32) tbits_c3 tat_c8 fig_c5) ∧ (¬ r9 = (-1 : Int32) → wX7_takes (59 : Int32) letters tlen tat_c8 (fun (r12 : Int32) (tat_c11 : Int32) => ((r12 = 0 → post tat_c11 tbits_c3 tat_c11 fig_c5) ∧ (¬ r12 = 0 → ∀ x14 : Int32, x14 = l1_15 + 1 → (I15 x14 tbits_c3 tat_c11 fig_c5 ∧ mu15 x14 tbits_c3 tat_c11 fig_c5 < mu15 l1_15 tbits_15 tat_15 fig_15)))))))) ∧ (¬ r6 = (-1 : Int32) → post r6 tbits_c3 tat_c4 fig_c5))))))) := hw
  refine lv_aload_n hx hb dX7_understand_0 rfl (lv_at hl 0 rfl) ?_
  refine x_get (v := .ref (h 2)) hC hI kX7_understand_cX7 0 rfl rfl 2 (by decide) kX7_understand_0 rfl rfl dX7_understand_1 ?_
  refine lv_lconst (v := (0 : Int64)) hx hb dX7_understand_4 (by decide) ?_
  refine x_callSv (L := List.map (fun c => [c]) (fl [wTa K h letters tbits tlen tat fig])) (rest := []) hC (by rw [fl_single]; exact hI) [2] (mJ7_fill_d0a16 l D K (fun _ => (h 2)) _ (0 : Int64) tbits 5 hw) (va_cwS 2 hts gX7_understand_J7_fill_d0a16 rfl rfl rfl (by decide +kernel) ⟨(Nat.le_of_ble_eq_true rfl), (Nat.le_of_ble_eq_true rfl)⟩) (by decide) rfl (fun _ => rfl) rfl hl.1 rfl (Nat.le_of_ble_eq_true rfl) dX7_understand_5 ⟨(Nat.le_of_ble_eq_true rfl), (Nat.le_of_ble_eq_true rfl)⟩ (fun arr_c1 H locs hw hI => ?_)
  have hI : wI s D A (fl [wTa K h letters arr_c1 tlen tat fig]) H locs := hI
  refine lv_aload_n hx hb dX7_understand_8 rfl (lv_at hl 0 rfl) ?_
  refine lv_iconst (v := (0 : Int32)) hx hb dX7_understand_9 (by decide) ?_
  refine x_put (v := .int (0 : Int32)) hC hI kX7_understand_cX7 tyX7 tyX7_ok nmX7 0 rfl rfl 3 (by decide) kX7_understand_2 rfl rfl rfl rfl (Nat.le_of_ble_eq_true rfl) dX7_understand_10 (fun H locs hI => ?_)
  have hI : wI s D A (fl [wTa K h letters arr_c1 tlen (0 : Int32) fig]) H locs := hI
  refine lv_iconst (v := (0 : Int32)) hx hb dX7_understand_13 (by decide) ?_
  refine lv_istore_n (lv' := [(1, .int (0 : Int32)), (0, .ref (h 0))]) hx hb dX7_understand_14 rfl hl (by decide) rfl (fun ls hl => ?_)
  obtain ⟨I15, mu15, hw, hb15⟩ := hw
  have lp15 : ∀ (k : Nat) (l1_15 : Int32) (tbits_15 : Nat → Int64) (tat_15 : Int32) (fig_15 : Int32) (ls : Array Slot) (H : Heap) (locs : List Loc), mu15 l1_15 tbits_15 tat_15 fig_15 < k → I15 l1_15 tbits_15 tat_15 fig_15 → wI s D A (fl [wTa K h letters tbits_15 tlen tat_15 fig_15]) H locs → lv_has ls 3 [(0, .ref (h 0)), (1, .int l1_15)] → W p l e rmX7_understand s m args below meth c H locs 0 0 Q (F0 m 15 ls []) := by
    intro k
    induction k with
    | zero => intro l1_15 tbits_15 tat_15 fig_15 ls H locs hmu; exact absurd hmu (Nat.not_lt_zero _)
    | succ k ih15 =>
      intro l1_15 tbits_15 tat_15 fig_15 ls H locs hmu15 hw hI hl
      replace hw := hb15 l1_15 tbits_15 tat_15 fig_15 hw
      refine lv_iload_n hx hb dX7_understand_15 rfl (lv_at hl 1 rfl) ?_
      refine lv_bipush (v := (90 : Int32)) hx hb dX7_understand_16 (by decide) ?_
      refine lv_icmp_gt (tgt := 63) hx hb dX7_understand_18 (by decide) (fun c2 => ?_) (fun c2 => ?_)
      · replace hw := hw.1 c2
        refine lv_aload_n hx hb dX7_understand_63 rfl (lv_at hl 0 rfl) ?_
        refine x_get (v := .int tat_15) hC hI kX7_understand_cX7 0 rfl rfl 3 (by decide) kX7_understand_2 rfl rfl dX7_understand_64 ?_
        subst hQ
        exact x_iret (u := (tbits_15, tat_15, fig_15)) hC hI hr hlk hw rfl dX7_understand_67
      · replace hw := hw.2 c2
        refine lv_aload_n hx hb dX7_understand_21 rfl (lv_at hl 0 rfl) ?_
        refine x_callVi (rest := []) hC hI [0] (mX7_understandRow l D K h _ letters tbits_15 tlen tat_15 fig_15 hw) (cwV 0 hts gX7_understand_X7_understandRow rfl rfl rfl (by decide +kernel) ⟨(Nat.le_of_ble_eq_true rfl), (Nat.le_of_ble_eq_true rfl)⟩) (by decide) rfl (fun _ => rfl) 0 5 rfl rfl rfl rfl hl.1 rfl (Nat.le_of_ble_eq_true rfl) dX7_understand_22 ⟨(Nat.le_of_ble_eq_true rfl), (Nat.le_of_ble_eq_true rfl)⟩ (fun r6 u H locs hw hI => ?_)
        obtain ⟨tbits_c3, tat_c4, fig_c5⟩ := u
        try dsimp only at hw
        have hI : wI s D A (fl [wTa K h letters tbits_c3 tlen tat_c4 fig_c5]) H locs := hI
        refine lv_istore_n (lv' := [(2, .int r6), (0, .ref (h 0)), (1, .int l1_15)]) hx hb dX7_understand_25 rfl hl (by decide) rfl (fun ls hl => ?_)
        refine lv_iload_n hx hb dX7_understand_26 rfl (lv_at hl 0 rfl) ?_
        refine lv_iconst (v := (-1 : Int32)) hx hb dX7_understand_27 (by decide) ?_
        refine lv_icmp_eq (tgt := 33) hx hb dX7_understand_28 (by decide) (fun c7 => ?_) (fun c7 => ?_)
        · replace hw := hw.1 c7
          refine lv_aload_n hx hb dX7_understand_33 rfl (lv_at hl 1 rfl) ?_
          refine x_callVi (rest := []) hC hI [0] (mX7_next l D K h _ letters tbits_c3 tlen tat_c4 fig_c5 hw) (cwV 0 hts gX7_understand_X7_next rfl rfl rfl (by decide +kernel) ⟨(Nat.le_of_ble_eq_true rfl), (Nat.le_of_ble_eq_true rfl)⟩) (by decide) rfl (fun _ => rfl) 0 5 rfl rfl rfl rfl hl.1 rfl (Nat.le_of_ble_eq_true rfl) dX7_understand_34 ⟨(Nat.le_of_ble_eq_true rfl), (Nat.le_of_ble_eq_true rfl)⟩ (fun r9 tat_c8 H locs hw hI => ?_)
          have hI : wI s D A (fl [wTa K h letters tbits_c3 tlen tat_c8 fig_c5]) H locs := hI
          refine lv_iconst (v := (-1 : Int32)) hx hb dX7_understand_37 (by decide) ?_
          refine lv_icmp_ne (tgt := 43) hx hb dX7_understand_38 (by decide) (fun c10 => ?_) (fun c10 => ?_)
          · replace hw := hw.2 c10
            refine lv_aload_n hx hb dX7_understand_43 rfl (lv_at hl 1 rfl) ?_
            refine lv_bipush (v := (59 : Int32)) hx hb dX7_understand_44 (by decide) ?_
            refine x_callVi (rest := []) hC hI [0] (mX7_takes l D K h _ (59 : Int32) letters tbits_c3 tlen tat_c8 fig_c5 hw) (cwV 1 hts gX7_understand_X7_takes rfl rfl rfl (by decide +kernel) ⟨(Nat.le_of_ble_eq_true rfl), (Nat.le_of_ble_eq_true rfl)⟩) (by decide) rfl (fun _ => rfl) 0 5 rfl rfl rfl rfl hl.1 rfl (Nat.le_of_ble_eq_true rfl) dX7_understand_46 ⟨(Nat.le_of_ble_eq_true rfl), (Nat.le_of_ble_eq_true rfl)⟩ (fun r12 tat_c11 H locs hw hI => ?_)
            have hI : wI s D A (fl [wTa K h letters tbits_c3 tlen tat_c11 fig_c5]) H locs := hI
            refine lv_if_ne (tgt := 57) hx hb dX7_understand_49 (by decide) (fun c13 => ?_) (fun c13 => ?_)
            · replace hw := hw.2 c13
              obtain ⟨x14, ex14⟩ : ∃ y : Int32, y = l1_15 + 1 := ⟨_, rfl⟩
              replace hw := hw x14 ex14
              refine lv_iinc (v := x14) (lv' := [(1, .int x14), (2, .int r6), (0, .ref (h 0))]) hx hb dX7_understand_57 hl (k := 2) rfl (by rw [ex14]; rfl) (by decide) rfl (fun ls hl => ?_)
              refine lv_goto (tgt := 15) hx hb dX7_understand_60 (by decide) ?_
              exact ih15 x14 tbits_c3 tat_c11 fig_c5 ls H locs (Nat.lt_of_lt_of_le hw.2 (Nat.le_of_lt_succ hmu15)) hw.1 hI (lv_sub hl [2, 0] rfl)
            · replace hw := hw.1 c13
              refine lv_aload_n hx hb dX7_understand_52 rfl (lv_at hl 1 rfl) ?_
              refine x_get (v := .int tat_c11) hC hI kX7_understand_cX7 0 rfl rfl 3 (by decide) kX7_understand_2 rfl rfl dX7_understand_53 ?_
              subst hQ
              exact x_iret (u := (tbits_c3, tat_c11, fig_c5)) hC hI hr hlk hw rfl dX7_understand_56
          · replace hw := hw.1 c10
            refine lv_iconst (v := (-1 : Int32)) hx hb dX7_understand_41 (by decide) ?_
            subst hQ
            exact x_iret (u := (tbits_c3, tat_c8, fig_c5)) hC hI hr hlk hw rfl dX7_understand_42
        · replace hw := hw.2 c7
          refine lv_iload_n hx hb dX7_understand_31 rfl (lv_at hl 0 rfl) ?_
          subst hQ
          exact x_iret (u := (tbits_c3, tat_c4, fig_c5)) hC hI hr hlk hw rfl dX7_understand_32
  exact lp15 (mu15 (0 : Int32) arr_c1 (0 : Int32) fig + 1) (0 : Int32) arr_c1 (0 : Int32) fig ls H locs (Nat.lt_succ_self _) hw hI (lv_sub hl [1, 0] rfl)
