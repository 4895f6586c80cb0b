def gs0 : GS := ((fun _ => 0), (fun _ => 0), 0, 60, 12, 1, 1)
theorem wI_row {s : State} {D : va_G} {A : Nat → Prop} {V : va_W} {H : Heap} {locs : List Loc} {a n : Nat} {cA : ClassId} {f g : Nat → Option Nat} (hI : wI s D A V H locs) (k : Nat) (he : V[k]? = some (a, .inl (cA, n, .inr (.inr (.inr (.inr f)))))) (hfg : ∀ j, j < n → f j = g j) : wI s D A (V.set k (a, .inl (cA, n, .inr (.inr (.inr (.inr g)))))) H locs := by
  refine ⟨hI.1.set hI.2.1 he ?_ (fun _ _ => rfl), hI.2.1.set he, hI.2.2⟩
  have h1 : H[a]? = some (vp_cell cA (n, .inr (.inr (.inr (.inr f))))) := hI.1 k _ he
  show H[a]? = some (vp_cell cA (n, .inr (.inr (.inr (.inr g)))))
  rw [h1, vp_cell_q, vp_cell_q, arrV_same cA n (fun j => va_rf (f j)) (fun j => va_rf (g j)) (fun j hj => by rw [hfg j hj])]
theorem wI_perm {s : State} {D : va_G} {A : Nat → Prop} {L : List va_W} {H : Heap} {locs : List Loc} (hI : wI s D A (fl L) H locs) (is : List Nat) (hnd : va_nd is = true) {Bs : List va_W} (hsub : is.map (fun i => L[i]?) = Bs.map some) : wI s D A (fl Bs) H locs :=
  ⟨P_mem.mpr fun q hq => P_mem.mp hI.1 q (sub_in hsub hq), D_mem.mpr ⟨sub_apart hnd hsub (D_mem.mp hI.2.1).1, fun q hq => (D_mem.mp hI.2.1).2 q (sub_in hsub hq)⟩, hI.2.2⟩
def rmX0_init : Room := { frames := 1, cells := 2, slots := 13, locals := 20 }
theorem kX0_init_0 : Cond.methodLink RX0 1 objectInit ∈ wsX0_init := List.mem_cons_of_mem _ (List.mem_append_left _ (List.mem_of_getElem? (i := 0) rfl))
theorem kX0_init_1 : Cond.instanceMethod objectInit ∈ wsX0_init := List.mem_cons_of_mem _ (List.mem_append_left _ (List.mem_of_getElem? (i := 1) rfl))
theorem kX0_init_2 : Cond.code objectInit ⟨#[0xb1]⟩ 1 none ∈ wsX0_init := List.mem_cons_of_mem _ (List.mem_append_left _ (List.mem_of_getElem? (i := 2) rfl))
theorem kX0_init_3 : Cond.arrayClass .long ∈ wsX0_init := List.mem_cons_of_mem _ (List.mem_append_left _ (List.mem_of_getElem? (i := 3) rfl))
theorem kX0_init_4 : Cond.fieldLink RX0 9 "GoreGlobe$Globe" "landBits" "[J" ∈ wsX0_init := List.mem_cons_of_mem _ (List.mem_append_left _ (List.mem_of_getElem? (i := 4) rfl))
theorem kX0_init_cX0 : ∀ w ∈ wsX00, w ∈ wsX0_init := fun _ h => List.mem_cons_of_mem _ (List.mem_append_right _ h)
theorem kX0_init_6 : Cond.arrayClass .int ∈ wsX0_init := List.mem_cons_of_mem _ (List.mem_append_left _ (List.mem_of_getElem? (i := 5) rfl))
theorem kX0_init_7 : Cond.fieldLink RX0 13 "GoreGlobe$Globe" "stops" "[I" ∈ wsX0_init := List.mem_cons_of_mem _ (List.mem_append_left _ (List.mem_of_getElem? (i := 6) rfl))
theorem kX0_init_8 : Cond.fieldLink RX0 17 "GoreGlobe$Globe" "unit" "I" ∈ wsX0_init := List.mem_cons_of_mem _ (List.mem_append_left _ (List.mem_of_getElem? (i := 7) rfl))
theorem kX0_init_9 : Cond.fieldLink RX0 21 "GoreGlobe$Globe" "strips" "I" ∈ wsX0_init := List.mem_cons_of_mem _ (List.mem_append_left _ (List.mem_of_getElem? (i := 8) rfl))
theorem kX0_init_10 : Cond.fieldLink RX0 24 "GoreGlobe$Globe" "caps" "I" ∈ wsX0_init := List.mem_cons_of_mem _ (List.mem_append_left _ (List.mem_of_getElem? (i := 9) rfl))
theorem kX0_init_11 : Cond.fieldLink RX0 27 "GoreGlobe$Globe" "draw" "I" ∈ wsX0_init := List.mem_cons_of_mem _ (List.mem_append_left _ (List.mem_of_getElem? (i := 10) rfl))
set_option maxHeartbeats 4000000 in
set_option maxRecDepth 100000 in
theorem iX0 (l : Launch) (D : va_G) (K : Nat → ClassId) (a sz : Nat) : Met l yX0_init wsX0_init rmX0_init (va_Pc [.ref a] (cPi D K (fl [[(a, .inr (0, [.null, .null, .int 0, .int 0, .int 0, .int 0, .int 0]))]]) sz)) (va_Qv (fun h : Nat → Nat => h 0 = a) (fun h t => cQ D K (fl [wGl K h gs0]) (va_A (fl [[(a, .inr (0, [.null, .null, .int 0, .int 0, .int 0, .int 0, .int 0]))]]) sz) t) (va_A (fl [[(a, .inr (0, [.null, .null, .int 0, .int 0, .int 0, .int 0, .int 0]))]]) sz)) 2 13 (va_A (fl [[(a, .inr (0, [.null, .null, .int 0, .int 0, .int 0, .int 0, .int 0]))]]) sz) := by
  refine x_entryI (cc := cX0_init) (maxL := 1) (ret := none) (QA := fun A => va_Qv (fun h : Nat → Nat => h 0 = a) (fun h t => cQ D K (fl [wGl K h gs0]) A t) A) (plainFor_of_name (by decide)) rfl (Nat.le_of_ble_eq_true rfl) ?_
  intro p e s m args below meth c A ls H Q hQ hC hlk hr hnm hX hI hl
  obtain ⟨hx, hb, hml, hown, hts, hK, hA, hZ⟩ := id hC
  obtain ⟨locs, hlocs⟩ : ∃ y : List Loc, y = [] := ⟨_, rfl⟩
  rw [← hlocs] at hI ⊢
  clear hlocs
  replace hl : lv_has ls 1 [(0, .ref a)] := hl
  refine lv_aload_n hx hb dX0_init_0 rfl (lv_at hl 0 rfl) ?_
  refine x_obj hC hl.1 kX0_init_0 kX0_init_1 kX0_init_2 dX0_init_1 (Nat.le_of_ble_eq_true rfl) (Nat.le_of_ble_eq_true rfl) ?_
  refine lv_aload_n hx hb dX0_init_4 rfl (lv_at hl 0 rfl) ?_
  refine lv_iconst (v := (5 : Int32)) hx hb dX0_init_5 (by decide) ?_
  refine x_newJ hC hI kX0_init_3 5 (by decide) (by decide) (Nat.le_of_ble_eq_true rfl) (Nat.le_of_ble_eq_true rfl) (Nat.le_of_ble_eq_true rfl) dX0_init_6 (fun q1 H hI => ?_)
  refine W.widen (k := 1) (n := 5) (Nat.le_of_ble_eq_true rfl) (Nat.le_of_ble_eq_true rfl) ?_
  have hI : wI s D A (fl [[(a, .inr (0, [.null, .null, .int 0, .int 0, .int 0, .int 0, .int 0]))], [(q1, .inl (K 1, 5, .inr (.inl (fun _ => 0))))]]) H locs := hI
  refine x_putF (v := .ref q1) hC hI kX0_init_cX0 tyX0 tyX0_ok nmX0 0 rfl rfl 0 (by decide) kX0_init_4 rfl rfl hnm rfl rfl rfl (Nat.le_of_ble_eq_true rfl) dX0_init_8 (fun H locs hI => ?_)
  have hI : wI s D A (fl [[(a, .inr (0, [.ref q1, .null, .int 0, .int 0, .int 0, .int 0, .int 0]))], [(q1, .inl (K 1, 5, .inr (.inl (fun _ => 0))))]]) H locs := hI
  refine lv_aload_n hx hb dX0_init_11 rfl (lv_at hl 0 rfl) ?_
  refine lv_bipush (v := (8 : Int32)) hx hb dX0_init_12 (by decide) ?_
  refine x_newI hC hI kX0_init_6 8 (by decide) (by decide) (Nat.le_of_ble_eq_true rfl) (Nat.le_of_ble_eq_true rfl) (Nat.le_of_ble_eq_true rfl) dX0_init_14 (fun q2 H hI => ?_)
  refine W.widen (k := 2) (n := 13) (Nat.le_of_ble_eq_true rfl) (Nat.le_of_ble_eq_true rfl) ?_
  have hI : wI s D A (fl [[(a, .inr (0, [.ref q1, .null, .int 0, .int 0, .int 0, .int 0, .int 0]))], [(q1, .inl (K 1, 5, .inr (.inl (fun _ => 0))))], [(q2, .inl (K 0, 8, .inl (fun _ => 0)))]]) H locs := hI
  refine x_putF (v := .ref q2) hC hI kX0_init_cX0 tyX0 tyX0_ok nmX0 0 rfl rfl 1 (by decide) kX0_init_7 rfl rfl hnm rfl rfl rfl (Nat.le_of_ble_eq_true rfl) dX0_init_16 (fun H locs hI => ?_)
  have hI : wI s D A (fl [[(a, .inr (0, [.ref q1, .ref q2, .int 0, .int 0, .int 0, .int 0, .int 0]))], [(q1, .inl (K 1, 5, .inr (.inl (fun _ => 0))))], [(q2, .inl (K 0, 8, .inl (fun _ => 0)))]]) H locs := hI
  refine lv_aload_n hx hb dX0_init_19 rfl (lv_at hl 0 rfl) ?_
  refine lv_bipush (v := (60 : Int32)) hx hb dX0_init_20 (by decide) ?_
  refine x_put (v := .int (60 : Int32)) hC hI kX0_init_cX0 tyX0 tyX0_ok nmX0 0 rfl rfl 3 (by decide) kX0_init_8 rfl rfl rfl rfl (Nat.le_of_ble_eq_true rfl) dX0_init_22 (fun H locs hI => ?_)
  have hI : wI s D A (fl [[(a, .inr (0, [.ref q1, .ref q2, .int 0, .int (60 : Int32), .int 0, .int 0, .int 0]))], [(q1, .inl (K 1, 5, .inr (.inl (fun _ => 0))))], [(q2, .inl (K 0, 8, .inl (fun _ => 0)))]]) H locs := hI
  refine lv_aload_n hx hb dX0_init_25 rfl (lv_at hl 0 rfl) ?_
  refine lv_bipush (v := (12 : Int32)) hx hb dX0_init_26 (by decide) ?_
  refine x_put (v := .int (12 : Int32)) hC hI kX0_init_cX0 tyX0 tyX0_ok nmX0 0 rfl rfl 4 (by decide) kX0_init_9 rfl rfl rfl rfl (Nat.le_of_ble_eq_true rfl) dX0_init_28 (fun H locs hI => ?_)
  have hI : wI s D A (fl [[(a, .inr (0, [.ref q1, .ref q2, .int 0, .int (60 : Int32), .int (12 : Int32), .int 0, .int 0]))], [(q1, .inl (K 1, 5, .inr (.inl (fun _ => 0))))], [(q2, .inl (K 0, 8, .inl (fun _ => 0)))]]) H locs := hI
  refine lv_aload_n hx hb dX0_init_31 rfl (lv_at hl 0 rfl) ?_
  refine lv_iconst (v := (1 : Int32)) hx hb dX0_init_32 (by decide) ?_
  refine x_put (v := .int (1 : Int32)) hC hI kX0_init_cX0 tyX0 tyX0_ok nmX0 0 rfl rfl 5 (by decide) kX0_init_10 rfl rfl rfl rfl (Nat.le_of_ble_eq_true rfl) dX0_init_33 (fun H locs hI => ?_)
  have hI : wI s D A (fl [[(a, .inr (0, [.ref q1, .ref q2, .int 0, .int (60 : Int32), .int (12 : Int32), .int (1 : Int32), .int 0]))], [(q1, .inl (K 1, 5, .inr (.inl (fun _ => 0))))], [(q2, .inl (K 0, 8, .inl (fun _ => 0)))]]) H locs := hI
  refine lv_aload_n hx hb dX0_init_36 rfl (lv_at hl 0 rfl) ?_
  refine lv_iconst (v := (1 : Int32)) hx hb dX0_init_37 (by decide) ?_
  refine x_put (v := .int (1 : Int32)) hC hI kX0_init_cX0 tyX0 tyX0_ok nmX0 0 rfl rfl 6 (by decide) kX0_init_11 rfl rfl rfl rfl (Nat.le_of_ble_eq_true rfl) dX0_init_38 (fun H locs hI => ?_)
  have hI : wI s D A (fl [[(a, .inr (0, [.ref q1, .ref q2, .int 0, .int (60 : Int32), .int (12 : Int32), .int (1 : Int32), .int (1 : Int32)]))], [(q1, .inl (K 1, 5, .inr (.inl (fun _ => 0))))], [(q2, .inl (K 0, 8, .inl (fun _ => 0)))]]) H locs := hI
  subst hQ
  exact x_vret (u := (fun i => ([a, q1, q2] : List Nat).getD i 0)) hC hI hr hlk rfl rfl dX0_init_41

def rmX2_init : Room := { frames := 1, cells := 0, slots := 0, locals := 20 }
theorem kX2_init_0 : Cond.methodLink RX2 1 objectInit ∈ wsX2_init := List.mem_cons_of_mem _ (List.mem_of_getElem? (i := 0) rfl)
theorem kX2_init_1 : Cond.instanceMethod objectInit ∈ wsX2_init := List.mem_cons_of_mem _ (List.mem_of_getElem? (i := 1) rfl)
theorem kX2_init_2 : Cond.code objectInit ⟨#[0xb1]⟩ 1 none ∈ wsX2_init := List.mem_cons_of_mem _ (List.mem_of_getElem? (i := 2) rfl)
set_option maxHeartbeats 4000000 in
set_option maxRecDepth 100000 in
theorem iX2 (l : Launch) (D : va_G) (K : Nat → ClassId) (a sz : Nat) : Met l yX2_init wsX2_init rmX2_init (va_Pc [.ref a] (cPi D K (fl [[(a, .inr (1, [.long 0, .long 0, .int 0, .int 0, .int 0]))]]) sz)) (va_Qv (fun h : Nat → Nat => h 0 = a) (fun h t => cQ D K (fl [wOd K h 0 0 0 0 0]) (va_A (fl [[(a, .inr (1, [.long 0, .long 0, .int 0, .int 0, .int 0]))]]) sz) t) (va_A (fl [[(a, .inr (1, [.long 0, .long 0, .int 0, .int 0, .int 0]))]]) sz)) 0 0 (va_A (fl [[(a, .inr (1, [.long 0, .long 0, .int 0, .int 0, .int 0]))]]) sz) := by
  refine x_entryI (cc := cX2_init) (maxL := 1) (ret := none) (QA := fun A => va_Qv (fun h : Nat → Nat => h 0 = a) (fun h t => cQ D K (fl [wOd K h 0 0 0 0 0]) A t) A) (plainFor_of_name (by decide)) rfl (Nat.le_of_ble_eq_true rfl) ?_
  intro p e s m args below meth c A ls H Q hQ hC hlk hr hnm hX hI hl
  obtain ⟨hx, hb, hml, hown, hts, hK, hA, hZ⟩ := id hC
  obtain ⟨locs, hlocs⟩ : ∃ y : List Loc, y = [] := ⟨_, rfl⟩
  rw [← hlocs] at hI ⊢
  clear hlocs
  replace hl : lv_has ls 1 [(0, .ref a)] := hl
  refine lv_aload_n hx hb dX2_init_0 rfl (lv_at hl 0 rfl) ?_
  refine x_obj hC hl.1 kX2_init_0 kX2_init_1 kX2_init_2 dX2_init_1 (Nat.le_of_ble_eq_true rfl) (Nat.le_of_ble_eq_true rfl) ?_
  subst hQ
  exact x_vret (u := (fun i => ([a] : List Nat).getD i 0)) hC hI hr hlk rfl rfl dX2_init_4

def rmX5_init : Room := { frames := 1, cells := 2, slots := 532, locals := 20 }
theorem kX5_init_0 : Cond.methodLink RX5 3 objectInit ∈ wsX5_init := List.mem_cons_of_mem _ (List.mem_append_left _ (List.mem_of_getElem? (i := 0) rfl))
theorem kX5_init_1 : Cond.instanceMethod objectInit ∈ wsX5_init := List.mem_cons_of_mem _ (List.mem_append_left _ (List.mem_of_getElem? (i := 1) rfl))
theorem kX5_init_2 : Cond.code objectInit ⟨#[0xb1]⟩ 1 none ∈ wsX5_init := List.mem_cons_of_mem _ (List.mem_append_left _ (List.mem_of_getElem? (i := 2) rfl))
theorem kX5_init_3 : Cond.arrayClass .int ∈ wsX5_init := List.mem_cons_of_mem _ (List.mem_append_left _ (List.mem_of_getElem? (i := 3) rfl))
theorem kX5_init_4 : Cond.fieldLink RX5 11 "GoreGlobe$Seas" "seaOf" "[I" ∈ wsX5_init := List.mem_cons_of_mem _ (List.mem_append_left _ (List.mem_of_getElem? (i := 4) rfl))
theorem kX5_init_cX5 : ∀ w ∈ wsX50, w ∈ wsX5_init := fun _ h => List.mem_cons_of_mem _ (List.mem_append_right _ h)
theorem kX5_init_6 : Cond.fieldLink RX5 17 "GoreGlobe$Seas" "queue" "[I" ∈ wsX5_init := List.mem_cons_of_mem _ (List.mem_append_left _ (List.mem_of_getElem? (i := 5) rfl))
set_option maxHeartbeats 4000000 in
set_option maxRecDepth 100000 in
theorem iX5 (l : Launch) (D : va_G) (K : Nat → ClassId) (a sz : Nat) : Met l yX5_init wsX5_init rmX5_init (va_Pc [.ref a] (cPi D K (fl [[(a, .inr (3, [.null, .null, .int 0]))]]) sz)) (va_Qv (fun h : Nat → Nat => h 0 = a) (fun h t => cQ D K (fl [wSe K h (fun _ => 0) (fun _ => 0) 0]) (va_A (fl [[(a, .inr (3, [.null, .null, .int 0]))]]) sz) t) (va_A (fl [[(a, .inr (3, [.null, .null, .int 0]))]]) sz)) 2 532 (va_A (fl [[(a, .inr (3, [.null, .null, .int 0]))]]) sz) := by
  refine x_entryI (cc := cX5_init) (maxL := 1) (ret := none) (QA := fun A => va_Qv (fun h : Nat → Nat => h 0 = a) (fun h t => cQ D K (fl [wSe K h (fun _ => 0) (fun _ => 0) 0]) A t) A) (plainFor_of_name (by decide)) rfl (Nat.le_of_ble_eq_true rfl) ?_
  intro p e s m args below meth c A ls H Q hQ hC hlk hr hnm hX hI hl
  obtain ⟨hx, hb, hml, hown, hts, hK, hA, hZ⟩ := id hC
  obtain ⟨locs, hlocs⟩ : ∃ y : List Loc, y = [] := ⟨_, rfl⟩
  rw [← hlocs] at hI ⊢
  clear hlocs
  replace hl : lv_has ls 1 [(0, .ref a)] := hl
  refine lv_aload_n hx hb dX5_init_0 rfl (lv_at hl 0 rfl) ?_
  refine x_obj hC hl.1 kX5_init_0 kX5_init_1 kX5_init_2 dX5_init_1 (Nat.le_of_ble_eq_true rfl) (Nat.le_of_ble_eq_true rfl) ?_
  refine lv_aload_n hx hb dX5_init_4 rfl (lv_at hl 0 rfl) ?_
  refine lv_sipush (v := (266 : Int32)) hx hb dX5_init_5 (by decide) ?_
  refine x_newI hC hI kX5_init_3 266 (by decide) (by decide) (Nat.le_of_ble_eq_true rfl) (Nat.le_of_ble_eq_true rfl) (Nat.le_of_ble_eq_true rfl) dX5_init_8 (fun q1 H hI => ?_)
  refine W.widen (k := 1) (n := 266) (Nat.le_of_ble_eq_true rfl) (Nat.le_of_ble_eq_true rfl) ?_
  have hI : wI s D A (fl [[(a, .inr (3, [.null, .null, .int 0]))], [(q1, .inl (K 0, 266, .inl (fun _ => 0)))]]) H locs := hI
  refine x_putF (v := .ref q1) hC hI kX5_init_cX5 tyX5 tyX5_ok nmX5 0 rfl rfl 0 (by decide) kX5_init_4 rfl rfl hnm rfl rfl rfl (Nat.le_of_ble_eq_true rfl) dX5_init_10 (fun H locs hI => ?_)
  have hI : wI s D A (fl [[(a, .inr (3, [.ref q1, .null, .int 0]))], [(q1, .inl (K 0, 266, .inl (fun _ => 0)))]]) H locs := hI
  refine lv_aload_n hx hb dX5_init_13 rfl (lv_at hl 0 rfl) ?_
  refine lv_sipush (v := (266 : Int32)) hx hb dX5_init_14 (by decide) ?_
  refine x_newI hC hI kX5_init_3 266 (by decide) (by decide) (Nat.le_of_ble_eq_true rfl) (Nat.le_of_ble_eq_true rfl) (Nat.le_of_ble_eq_true rfl) dX5_init_17 (fun q2 H hI => ?_)
  refine W.widen (k := 2) (n := 532) (Nat.le_of_ble_eq_true rfl) (Nat.le_of_ble_eq_true rfl) ?_
  have hI : wI s D A (fl [[(a, .inr (3, [.ref q1, .null, .int 0]))], [(q1, .inl (K 0, 266, .inl (fun _ => 0)))], [(q2, .inl (K 0, 266, .inl (fun _ => 0)))]]) H locs := hI
  refine x_putF (v := .ref q2) hC hI kX5_init_cX5 tyX5 tyX5_ok nmX5 0 rfl rfl 1 (by decide) kX5_init_6 rfl rfl hnm rfl rfl rfl (Nat.le_of_ble_eq_true rfl) dX5_init_19 (fun H locs hI => ?_)
  have hI : wI s D A (fl [[(a, .inr (3, [.ref q1, .ref q2, .int 0]))], [(q1, .inl (K 0, 266, .inl (fun _ => 0)))], [(q2, .inl (K 0, 266, .inl (fun _ => 0)))]]) H locs := hI
  subst hQ
  exact x_vret (u := (fun i => ([a, q1, q2] : List Nat).getD i 0)) hC hI hr hlk rfl rfl dX5_init_22

def rmX6_init : Room := { frames := 1, cells := 1, slots := 30, locals := 20 }
theorem kX6_init_0 : Cond.methodLink RX6 3 objectInit ∈ wsX6_init := List.mem_cons_of_mem _ (List.mem_append_left _ (List.mem_of_getElem? (i := 0) rfl))
theorem kX6_init_1 : Cond.instanceMethod objectInit ∈ wsX6_init := List.mem_cons_of_mem _ (List.mem_append_left _ (List.mem_of_getElem? (i := 1) rfl))
theorem kX6_init_2 : Cond.code objectInit ⟨#[0xb1]⟩ 1 none ∈ wsX6_init := List.mem_cons_of_mem _ (List.mem_append_left _ (List.mem_of_getElem? (i := 2) rfl))
theorem kX6_init_3 : Cond.arrayClass .long ∈ wsX6_init := List.mem_cons_of_mem _ (List.mem_append_left _ (List.mem_of_getElem? (i := 3) rfl))
theorem kX6_init_4 : Cond.fieldLink RX6 11 "GoreGlobe$Sheet" "items" "[J" ∈ wsX6_init := List.mem_cons_of_mem _ (List.mem_append_left _ (List.mem_of_getElem? (i := 4) rfl))
theorem kX6_init_cX6 : ∀ w ∈ wsX60, w ∈ wsX6_init := fun _ h => List.mem_cons_of_mem _ (List.mem_append_right _ h)
set_option maxHeartbeats 4000000 in
set_option maxRecDepth 100000 in
theorem iX6 (l : Launch) (D : va_G) (K : Nat → ClassId) (a sz : Nat) : Met l yX6_init wsX6_init rmX6_init (va_Pc [.ref a] (cPi D K (fl [[(a, .inr (4, [.null, .int 0, .int 0, .int 0]))]]) sz)) (va_Qv (fun h : Nat → Nat => h 0 = a) (fun h t => cQ D K (fl [wSh K h (fun _ => 0) 0 0 0]) (va_A (fl [[(a, .inr (4, [.null, .int 0, .int 0, .int 0]))]]) sz) t) (va_A (fl [[(a, .inr (4, [.null, .int 0, .int 0, .int 0]))]]) sz)) 1 30 (va_A (fl [[(a, .inr (4, [.null, .int 0, .int 0, .int 0]))]]) sz) := by
  refine x_entryI (cc := cX6_init) (maxL := 1) (ret := none) (QA := fun A => va_Qv (fun h : Nat → Nat => h 0 = a) (fun h t => cQ D K (fl [wSh K h (fun _ => 0) 0 0 0]) A t) A) (plainFor_of_name (by decide)) rfl (Nat.le_of_ble_eq_true rfl) ?_
  intro p e s m args below meth c A ls H Q hQ hC hlk hr hnm hX hI hl
  obtain ⟨hx, hb, hml, hown, hts, hK, hA, hZ⟩ := id hC
  obtain ⟨locs, hlocs⟩ : ∃ y : List Loc, y = [] := ⟨_, rfl⟩
  rw [← hlocs] at hI ⊢
  clear hlocs
  replace hl : lv_has ls 1 [(0, .ref a)] := hl
  refine lv_aload_n hx hb dX6_init_0 rfl (lv_at hl 0 rfl) ?_
  refine x_obj hC hl.1 kX6_init_0 kX6_init_1 kX6_init_2 dX6_init_1 (Nat.le_of_ble_eq_true rfl) (Nat.le_of_ble_eq_true rfl) ?_
  refine lv_aload_n hx hb dX6_init_4 rfl (lv_at hl 0 rfl) ?_
  refine lv_bipush (v := (30 : Int32)) hx hb dX6_init_5 (by decide) ?_
  refine x_newJ hC hI kX6_init_3 30 (by decide) (by decide) (Nat.le_of_ble_eq_true rfl) (Nat.le_of_ble_eq_true rfl) (Nat.le_of_ble_eq_true rfl) dX6_init_7 (fun q1 H hI => ?_)
  refine W.widen (k := 1) (n := 30) (Nat.le_of_ble_eq_true rfl) (Nat.le_of_ble_eq_true rfl) ?_
  have hI : wI s D A (fl [[(a, .inr (4, [.null, .int 0, .int 0, .int 0]))], [(q1, .inl (K 1, 30, .inr (.inl (fun _ => 0))))]]) H locs := hI
  refine x_putF (v := .ref q1) hC hI kX6_init_cX6 tyX6 tyX6_ok nmX6 0 rfl rfl 0 (by decide) kX6_init_4 rfl rfl hnm rfl rfl rfl (Nat.le_of_ble_eq_true rfl) dX6_init_9 (fun H locs hI => ?_)
  have hI : wI s D A (fl [[(a, .inr (4, [.ref q1, .int 0, .int 0, .int 0]))], [(q1, .inl (K 1, 30, .inr (.inl (fun _ => 0))))]]) H locs := hI
  subst hQ
  exact x_vret (u := (fun i => ([a, q1] : List Nat).getD i 0)) hC hI hr hlk rfl rfl dX6_init_12

def rmX7_init : Room := { frames := 1, cells := 2, slots := 95, locals := 20 }
theorem kX7_init_0 : Cond.methodLink RX7 1 objectInit ∈ wsX7_init := List.mem_cons_of_mem _ (List.mem_append_left _ (List.mem_of_getElem? (i := 0) rfl))
theorem kX7_init_1 : Cond.instanceMethod objectInit ∈ wsX7_init := List.mem_cons_of_mem _ (List.mem_append_left _ (List.mem_of_getElem? (i := 1) rfl))
theorem kX7_init_2 : Cond.code objectInit ⟨#[0xb1]⟩ 1 none ∈ wsX7_init := List.mem_cons_of_mem _ (List.mem_append_left _ (List.mem_of_getElem? (i := 2) rfl))
theorem kX7_init_3 : Cond.arrayClass .int ∈ wsX7_init := List.mem_cons_of_mem _ (List.mem_append_left _ (List.mem_of_getElem? (i := 3) rfl))
theorem kX7_init_4 : Cond.fieldLink RX7 9 "GoreGlobe$Tape" "letters" "[I" ∈ wsX7_init := List.mem_cons_of_mem _ (List.mem_append_left _ (List.mem_of_getElem? (i := 4) rfl))
theorem kX7_init_cX7 : ∀ w ∈ wsX70, w ∈ wsX7_init := fun _ h => List.mem_cons_of_mem _ (List.mem_append_right _ h)
theorem kX7_init_6 : Cond.arrayClass .long ∈ wsX7_init := List.mem_cons_of_mem _ (List.mem_append_left _ (List.mem_of_getElem? (i := 5) rfl))
theorem kX7_init_7 : Cond.fieldLink RX7 15 "GoreGlobe$Tape" "landBits" "[J" ∈ wsX7_init := List.mem_cons_of_mem _ (List.mem_append_left _ (List.mem_of_getElem? (i := 6) rfl))
set_option maxHeartbeats 4000000 in
set_option maxRecDepth 100000 in
theorem iX7 (l : Launch) (D : va_G) (K : Nat → ClassId) (a sz : Nat) : Met l yX7_init wsX7_init rmX7_init (va_Pc [.ref a] (cPi D K (fl [[(a, .inr (5, [.null, .int 0, .null, .int 0, .int 0]))]]) sz)) (va_Qv (fun h : Nat → Nat => h 0 = a) (fun h t => cQ D K (fl [wTa K h (fun _ => 0) (fun _ => 0) 0 0 0]) (va_A (fl [[(a, .inr (5, [.null, .int 0, .null, .int 0, .int 0]))]]) sz) t) (va_A (fl [[(a, .inr (5, [.null, .int 0, .null, .int 0, .int 0]))]]) sz)) 2 95 (va_A (fl [[(a, .inr (5, [.null, .int 0, .null, .int 0, .int 0]))]]) sz) := by
  refine x_entryI (cc := cX7_init) (maxL := 1) (ret := none) (QA := fun A => va_Qv (fun h : Nat → Nat => h 0 = a) (fun h t => cQ D K (fl [wTa K h (fun _ => 0) (fun _ => 0) 0 0 0]) A t) A) (plainFor_of_name (by decide)) rfl (Nat.le_of_ble_eq_true rfl) ?_
  intro p e s m args below meth c A ls H Q hQ hC hlk hr hnm hX hI hl
  obtain ⟨hx, hb, hml, hown, hts, hK, hA, hZ⟩ := id hC
  obtain ⟨locs, hlocs⟩ : ∃ y : List Loc, y = [] := ⟨_, rfl⟩
  rw [← hlocs] at hI ⊢
  clear hlocs
  replace hl : lv_has ls 1 [(0, .ref a)] := hl
  refine lv_aload_n hx hb dX7_init_0 rfl (lv_at hl 0 rfl) ?_
  refine x_obj hC hl.1 kX7_init_0 kX7_init_1 kX7_init_2 dX7_init_1 (Nat.le_of_ble_eq_true rfl) (Nat.le_of_ble_eq_true rfl) ?_
  refine lv_aload_n hx hb dX7_init_4 rfl (lv_at hl 0 rfl) ?_
  refine lv_bipush (v := (90 : Int32)) hx hb dX7_init_5 (by decide) ?_
  refine x_newI hC hI kX7_init_3 90 (by decide) (by decide) (Nat.le_of_ble_eq_true rfl) (Nat.le_of_ble_eq_true rfl) (Nat.le_of_ble_eq_true rfl) dX7_init_7 (fun q1 H hI => ?_)
  refine W.widen (k := 1) (n := 90) (Nat.le_of_ble_eq_true rfl) (Nat.le_of_ble_eq_true rfl) ?_
  have hI : wI s D A (fl [[(a, .inr (5, [.null, .int 0, .null, .int 0, .int 0]))], [(q1, .inl (K 0, 90, .inl (fun _ => 0)))]]) H locs := hI
  refine x_putF (v := .ref q1) hC hI kX7_init_cX7 tyX7 tyX7_ok nmX7 0 rfl rfl 0 (by decide) kX7_init_4 rfl rfl hnm rfl rfl rfl (Nat.le_of_ble_eq_true rfl) dX7_init_9 (fun H locs hI => ?_)
  have hI : wI s D A (fl [[(a, .inr (5, [.ref q1, .int 0, .null, .int 0, .int 0]))], [(q1, .inl (K 0, 90, .inl (fun _ => 0)))]]) H locs := hI
  refine lv_aload_n hx hb dX7_init_12 rfl (lv_at hl 0 rfl) ?_
  refine lv_iconst (v := (5 : Int32)) hx hb dX7_init_13 (by decide) ?_
  refine x_newJ hC hI kX7_init_6 5 (by decide) (by decide) (Nat.le_of_ble_eq_true rfl) (Nat.le_of_ble_eq_true rfl) (Nat.le_of_ble_eq_true rfl) dX7_init_14 (fun q2 H hI => ?_)
  refine W.widen (k := 2) (n := 95) (Nat.le_of_ble_eq_true rfl) (Nat.le_of_ble_eq_true rfl) ?_
  have hI : wI s D A (fl [[(a, .inr (5, [.ref q1, .int 0, .null, .int 0, .int 0]))], [(q1, .inl (K 0, 90, .inl (fun _ => 0)))], [(q2, .inl (K 1, 5, .inr (.inl (fun _ => 0))))]]) H locs := hI
  refine x_putF (v := .ref q2) hC hI kX7_init_cX7 tyX7 tyX7_ok nmX7 0 rfl rfl 2 (by decide) kX7_init_7 rfl rfl hnm rfl rfl rfl (Nat.le_of_ble_eq_true rfl) dX7_init_16 (fun H locs hI => ?_)
  have hI : wI s D A (fl [[(a, .inr (5, [.ref q1, .int 0, .ref q2, .int 0, .int 0]))], [(q1, .inl (K 0, 90, .inl (fun _ => 0)))], [(q2, .inl (K 1, 5, .inr (.inl (fun _ => 0))))]]) H locs := hI
  subst hQ
  exact x_vret (u := (fun i => ([a, q1, q2] : List Nat).getD i 0)) hC hI hr hlk rfl rfl dX7_init_19

def rmX8_init : Room := { frames := 1, cells := 2, slots := 1371, locals := 20 }
theorem kX8_init_0 : Cond.methodLink RX8 5 objectInit ∈ wsX8_init := List.mem_cons_of_mem _ (List.mem_append_left _ (List.mem_of_getElem? (i := 0) rfl))
theorem kX8_init_1 : Cond.instanceMethod objectInit ∈ wsX8_init := List.mem_cons_of_mem _ (List.mem_append_left _ (List.mem_of_getElem? (i := 1) rfl))
theorem kX8_init_2 : Cond.code objectInit ⟨#[0xb1]⟩ 1 none ∈ wsX8_init := List.mem_cons_of_mem _ (List.mem_append_left _ (List.mem_of_getElem? (i := 2) rfl))
theorem kX8_init_3 : Cond.arrayClass .int ∈ wsX8_init := List.mem_cons_of_mem _ (List.mem_append_left _ (List.mem_of_getElem? (i := 3) rfl))
theorem kX8_init_4 : Cond.fieldLink RX8 13 "GoreGlobe$Ways" "cost" "[I" ∈ wsX8_init := List.mem_cons_of_mem _ (List.mem_append_left _ (List.mem_of_getElem? (i := 4) rfl))
theorem kX8_init_cX8 : ∀ w ∈ wsX80, w ∈ wsX8_init := fun _ h => List.mem_cons_of_mem _ (List.mem_append_right _ h)
theorem kX8_init_6 : Cond.arrayClass .long ∈ wsX8_init := List.mem_cons_of_mem _ (List.mem_append_left _ (List.mem_of_getElem? (i := 5) rfl))
theorem kX8_init_7 : Cond.fieldLink RX8 17 "GoreGlobe$Ways" "heap" "[J" ∈ wsX8_init := List.mem_cons_of_mem _ (List.mem_append_left _ (List.mem_of_getElem? (i := 6) rfl))
set_option maxHeartbeats 4000000 in
set_option maxRecDepth 100000 in
theorem iX8 (l : Launch) (D : va_G) (K : Nat → ClassId) (a sz : Nat) : Met l yX8_init wsX8_init rmX8_init (va_Pc [.ref a] (cPi D K (fl [[(a, .inr (6, [.null, .null, .int 0]))]]) sz)) (va_Qv (fun h : Nat → Nat => h 0 = a) (fun h t => cQ D K (fl [wWa K h (fun _ => 0) (fun _ => 0) 0]) (va_A (fl [[(a, .inr (6, [.null, .null, .int 0]))]]) sz) t) (va_A (fl [[(a, .inr (6, [.null, .null, .int 0]))]]) sz)) 2 1371 (va_A (fl [[(a, .inr (6, [.null, .null, .int 0]))]]) sz) := by
  refine x_entryI (cc := cX8_init) (maxL := 1) (ret := none) (QA := fun A => va_Qv (fun h : Nat → Nat => h 0 = a) (fun h t => cQ D K (fl [wWa K h (fun _ => 0) (fun _ => 0) 0]) A t) A) (plainFor_of_name (by decide)) rfl (Nat.le_of_ble_eq_true rfl) ?_
  intro p e s m args below meth c A ls H Q hQ hC hlk hr hnm hX hI hl
  obtain ⟨hx, hb, hml, hown, hts, hK, hA, hZ⟩ := id hC
  obtain ⟨locs, hlocs⟩ : ∃ y : List Loc, y = [] := ⟨_, rfl⟩
  rw [← hlocs] at hI ⊢
  clear hlocs
  replace hl : lv_has ls 1 [(0, .ref a)] := hl
  refine lv_aload_n hx hb dX8_init_0 rfl (lv_at hl 0 rfl) ?_
  refine x_obj hC hl.1 kX8_init_0 kX8_init_1 kX8_init_2 dX8_init_1 (Nat.le_of_ble_eq_true rfl) (Nat.le_of_ble_eq_true rfl) ?_
  refine lv_aload_n hx hb dX8_init_4 rfl (lv_at hl 0 rfl) ?_
  refine lv_sipush (v := (266 : Int32)) hx hb dX8_init_5 (by decide) ?_
  refine x_newI hC hI kX8_init_3 266 (by decide) (by decide) (Nat.le_of_ble_eq_true rfl) (Nat.le_of_ble_eq_true rfl) (Nat.le_of_ble_eq_true rfl) dX8_init_8 (fun q1 H hI => ?_)
  refine W.widen (k := 1) (n := 266) (Nat.le_of_ble_eq_true rfl) (Nat.le_of_ble_eq_true rfl) ?_
  have hI : wI s D A (fl [[(a, .inr (6, [.null, .null, .int 0]))], [(q1, .inl (K 0, 266, .inl (fun _ => 0)))]]) H locs := hI
  refine x_putF (v := .ref q1) hC hI kX8_init_cX8 tyX8 tyX8_ok nmX8 0 rfl rfl 0 (by decide) kX8_init_4 rfl rfl hnm rfl rfl rfl (Nat.le_of_ble_eq_true rfl) dX8_init_10 (fun H locs hI => ?_)
  have hI : wI s D A (fl [[(a, .inr (6, [.ref q1, .null, .int 0]))], [(q1, .inl (K 0, 266, .inl (fun _ => 0)))]]) H locs := hI
  refine lv_aload_n hx hb dX8_init_13 rfl (lv_at hl 0 rfl) ?_
  refine lv_sipush (v := (1105 : Int32)) hx hb dX8_init_14 (by decide) ?_
  refine x_newJ hC hI kX8_init_6 1105 (by decide) (by decide) (Nat.le_of_ble_eq_true rfl) (Nat.le_of_ble_eq_true rfl) (Nat.le_of_ble_eq_true rfl) dX8_init_17 (fun q2 H hI => ?_)
  refine W.widen (k := 2) (n := 1371) (Nat.le_of_ble_eq_true rfl) (Nat.le_of_ble_eq_true rfl) ?_
  have hI : wI s D A (fl [[(a, .inr (6, [.ref q1, .null, .int 0]))], [(q1, .inl (K 0, 266, .inl (fun _ => 0)))], [(q2, .inl (K 1, 1105, .inr (.inl (fun _ => 0))))]]) H locs := hI
  refine x_putF (v := .ref q2) hC hI kX8_init_cX8 tyX8 tyX8_ok nmX8 0 rfl rfl 1 (by decide) kX8_init_7 rfl rfl hnm rfl rfl rfl (Nat.le_of_ble_eq_true rfl) dX8_init_19 (fun H locs hI => ?_)
  have hI : wI s D A (fl [[(a, .inr (6, [.ref q1, .ref q2, .int 0]))], [(q1, .inl (K 0, 266, .inl (fun _ => 0)))], [(q2, .inl (K 1, 1105, .inr (.inl (fun _ => 0))))]]) H locs := hI
  subst hQ
  exact x_vret (u := (fun i => ([a, q1, q2] : List Nat).getD i 0)) hC hI hr hlk rfl rfl dX8_init_22

def rmX9_init : Room := { frames := 1, cells := 0, slots := 0, locals := 20 }
theorem kX9_init_0 : Cond.methodLink RX9 1 objectInit ∈ wsX9_init := List.mem_cons_of_mem _ (List.mem_of_getElem? (i := 0) rfl)
theorem kX9_init_1 : Cond.instanceMethod objectInit ∈ wsX9_init := List.mem_cons_of_mem _ (List.mem_of_getElem? (i := 1) rfl)
theorem kX9_init_2 : Cond.code objectInit ⟨#[0xb1]⟩ 1 none ∈ wsX9_init := List.mem_cons_of_mem _ (List.mem_of_getElem? (i := 2) rfl)
set_option maxHeartbeats 4000000 in
set_option maxRecDepth 100000 in
theorem iX9 (l : Launch) (D : va_G) (K : Nat → ClassId) (a sz : Nat) : Met l yX9_init wsX9_init rmX9_init (va_Pc [.ref a] (cPi D K (fl [[(a, .inr (7, [.int 0, .int 0, .int 0]))]]) sz)) (va_Qv (fun h : Nat → Nat => h 0 = a) (fun h t => cQ D K (fl [wWo K h 0 0 0]) (va_A (fl [[(a, .inr (7, [.int 0, .int 0, .int 0]))]]) sz) t) (va_A (fl [[(a, .inr (7, [.int 0, .int 0, .int 0]))]]) sz)) 0 0 (va_A (fl [[(a, .inr (7, [.int 0, .int 0, .int 0]))]]) sz) := by
  refine x_entryI (cc := cX9_init) (maxL := 1) (ret := none) (QA := fun A => va_Qv (fun h : Nat → Nat => h 0 = a) (fun h t => cQ D K (fl [wWo K h 0 0 0]) A t) A) (plainFor_of_name (by decide)) rfl (Nat.le_of_ble_eq_true rfl) ?_
  intro p e s m args below meth c A ls H Q hQ hC hlk hr hnm hX hI hl
  obtain ⟨hx, hb, hml, hown, hts, hK, hA, hZ⟩ := id hC
  obtain ⟨locs, hlocs⟩ : ∃ y : List Loc, y = [] := ⟨_, rfl⟩
  rw [← hlocs] at hI ⊢
  clear hlocs
  replace hl : lv_has ls 1 [(0, .ref a)] := hl
  refine lv_aload_n hx hb dX9_init_0 rfl (lv_at hl 0 rfl) ?_
  refine x_obj hC hl.1 kX9_init_0 kX9_init_1 kX9_init_2 dX9_init_1 (Nat.le_of_ble_eq_true rfl) (Nat.le_of_ble_eq_true rfl) ?_
  subst hQ
  exact x_vret (u := (fun i => ([a] : List Nat).getD i 0)) hC hI hr hlk rfl rfl dX9_init_4

def rmX4_init : Room := { frames := 2, cells := 19, slots := 126, locals := 40 }
theorem kX4_init_0 : Cond.methodLink RX4 1 objectInit ∈ wsX4_init := List.mem_cons_of_mem _ (List.mem_append_left _ (List.mem_append_left _ (List.mem_of_getElem? (i := 0) rfl)))
theorem kX4_init_1 : Cond.instanceMethod objectInit ∈ wsX4_init := List.mem_cons_of_mem _ (List.mem_append_left _ (List.mem_append_left _ (List.mem_of_getElem? (i := 1) rfl)))
theorem kX4_init_2 : Cond.code objectInit ⟨#[0xb1]⟩ 1 none ∈ wsX4_init := List.mem_cons_of_mem _ (List.mem_append_left _ (List.mem_append_left _ (List.mem_of_getElem? (i := 2) rfl)))
theorem kX4_init_3 : Cond.classLink RX4 9 RX0 ∈ wsX4_init := List.mem_cons_of_mem _ (List.mem_append_left _ (List.mem_append_left _ (List.mem_of_getElem? (i := 3) rfl)))
theorem kX4_init_4 : Cond.fieldLink RX4 11 "GoreGlobe$Past" "ring" "[LGoreGlobe$Globe;" ∈ wsX4_init := List.mem_cons_of_mem _ (List.mem_append_left _ (List.mem_append_left _ (List.mem_of_getElem? (i := 4) rfl)))
theorem kX4_init_cX4 : ∀ w ∈ wsX40, w ∈ wsX4_init := fun _ h => List.mem_cons_of_mem _ (List.mem_append_left _ (List.mem_append_right _ h))
theorem kX4_init_6 : Cond.instantiable RX0 7 ∈ wsX4_init := List.mem_cons_of_mem _ (List.mem_append_left _ (List.mem_append_left _ (List.mem_of_getElem? (i := 5) rfl)))
theorem kX4_init_7 : Cond.initialized RX0 ∈ wsX4_init := List.mem_cons_of_mem _ (List.mem_append_left _ (List.mem_append_left _ (List.mem_of_getElem? (i := 6) rfl)))
theorem kX4_init_cX0 : ∀ w ∈ wsX00, w ∈ wsX4_init := fun _ h => List.mem_cons_of_mem _ (List.mem_append_right _ h)
theorem kX4_init_9 : Cond.instanceMethod yX0_init ∈ wsX4_init := List.mem_cons_of_mem _ (List.mem_append_left _ (List.mem_append_left _ (List.mem_of_getElem? (i := 7) rfl)))
set_option maxHeartbeats 4000000 in
set_option maxRecDepth 100000 in
theorem iX4 (l : Launch) (D : va_G) (K : Nat → ClassId) (a sz : Nat) : Met l yX4_init wsX4_init rmX4_init (va_Pc [.ref a] (cPi D K (fl [[(a, .inr (2, [.null, .int 0, .int 0]))]]) sz)) (va_Qv (fun h : Nat → Nat => h 0 = a) (fun h t => cQ D K (fl [fl [wPa K h 0 0, wGl K (fun i => h (2 + i)) gs0, wGl K (fun i => h (5 + i)) gs0, wGl K (fun i => h (8 + i)) gs0, wGl K (fun i => h (11 + i)) gs0, wGl K (fun i => h (14 + i)) gs0, wGl K (fun i => h (17 + i)) gs0]]) (va_A (fl [[(a, .inr (2, [.null, .int 0, .int 0]))]]) sz) t) (va_A (fl [[(a, .inr (2, [.null, .int 0, .int 0]))]]) sz)) 19 126 (va_A (fl [[(a, .inr (2, [.null, .int 0, .int 0]))]]) sz) := by
  refine x_entryI (cc := cX4_init) (maxL := 2) (ret := none) (QA := fun A => va_Qv (fun h : Nat → Nat => h 0 = a) (fun h t => cQ D K (fl [fl [wPa K h 0 0, wGl K (fun i => h (2 + i)) gs0, wGl K (fun i => h (5 + i)) gs0, wGl K (fun i => h (8 + i)) gs0, wGl K (fun i => h (11 + i)) gs0, wGl K (fun i => h (14 + i)) gs0, wGl K (fun i => h (17 + i)) gs0]]) A t) A) (plainFor_of_name (by decide)) rfl (Nat.le_of_ble_eq_true rfl) ?_
  intro p e s m args below meth c A ls H Q hQ hC hlk hr hnm hX hI hl
  obtain ⟨hx, hb, hml, hown, hts, hK, hA, hZ⟩ := id hC
  obtain ⟨locs, hlocs⟩ : ∃ y : List Loc, y = [] := ⟨_, rfl⟩
  rw [← hlocs] at hI ⊢
  clear hlocs
  replace hl : lv_has ls 2 [(0, .ref a)] := hl
  refine lv_aload_n hx hb dX4_init_0 rfl (lv_at hl 0 rfl) ?_
  refine x_obj hC hl.1 kX4_init_0 kX4_init_1 kX4_init_2 dX4_init_1 (Nat.le_of_ble_eq_true rfl) (Nat.le_of_ble_eq_true rfl) ?_
  refine lv_aload_n hx hb dX4_init_4 rfl (lv_at hl 0 rfl) ?_
  refine lv_bipush (v := (6 : Int32)) hx hb dX4_init_5 (by decide) ?_
  refine x_newQ hC hI 2 rfl kX4_init_3 hX.2.2.2.2.2.2.2.2.1 6 (by decide) (by decide) (Nat.le_of_ble_eq_true rfl) (Nat.le_of_ble_eq_true rfl) (Nat.le_of_ble_eq_true rfl) dX4_init_7 (fun q1 H hI => ?_)
  refine W.widen (k := 1) (n := 6) (Nat.le_of_ble_eq_true rfl) (Nat.le_of_ble_eq_true rfl) ?_
  have hI : wI s D A (fl [[(a, .inr (2, [.null, .int 0, .int 0]))], [(q1, .inl (K 2, 6, .inr (.inr (.inr (.inr (fun _ => none))))))]]) H locs := hI
  refine x_putF (v := .ref q1) hC hI kX4_init_cX4 tyX4 tyX4_ok nmX4 0 rfl rfl 0 (by decide) kX4_init_4 rfl rfl hnm rfl rfl rfl (Nat.le_of_ble_eq_true rfl) dX4_init_10 (fun H locs hI => ?_)
  have hI : wI s D A (fl [[(a, .inr (2, [.ref q1, .int 0, .int 0]))], [(q1, .inl (K 2, 6, .inr (.inr (.inr (.inr (fun _ => none))))))]]) H locs := hI
  refine lv_iconst (v := (0 : Int32)) hx hb dX4_init_13 (by decide) ?_
  refine lv_istore_n (lv' := [(1, .int (0 : Int32)), (0, .ref a)]) hx hb dX4_init_14 rfl hl (by decide) rfl (fun ls hl => ?_)
  refine lv_iload_n hx hb dX4_init_15 rfl (lv_at hl 0 rfl) ?_
  refine lv_bipush (v := (6 : Int32)) hx hb dX4_init_16 (by decide) ?_
  refine lv_icmp_ge (tgt := 40) hx hb dX4_init_18 (by decide) (fun c1 => ?_) (fun c1 => ?_)
  · exact absurd c1 (by decide)
  refine lv_aload_n hx hb dX4_init_21 rfl (lv_at hl 1 rfl) ?_
  refine x_get (v := .ref q1) hC hI kX4_init_cX4 0 rfl rfl 0 (by decide) kX4_init_4 rfl rfl dX4_init_22 ?_
  refine lv_iload_n hx hb dX4_init_25 rfl (lv_at hl 0 rfl) ?_
  refine x_new (ci := 0) (fs := [.null, .null, .int 0, .int 0, .int 0, .int 0, .int 0]) hC hI kX4_init_cX0 tyX0 tyX0_ok kX4_init_3 kX4_init_6 kX4_init_7 rfl (fun j hj => by rcases (show j = 0 ∨ j = 1 ∨ j = 2 ∨ j = 3 ∨ j = 4 ∨ j = 5 ∨ j = 6 by omega) with rfl | rfl | rfl | rfl | rfl | rfl | rfl <;> rfl) (Nat.le_of_ble_eq_true rfl) (Nat.le_of_ble_eq_true rfl) dX4_init_26 (fun q2 H hI => ?_)
  refine W.widen (k := 2) (n := 13) (Nat.le_of_ble_eq_true rfl) (Nat.le_of_ble_eq_true rfl) ?_
  have hI : wI s D A (fl [[(a, .inr (2, [.ref q1, .int 0, .int 0]))], [(q1, .inl (K 2, 6, .inr (.inr (.inr (.inr (fun _ => none))))))], [(q2, .inr (0, [.null, .null, .int 0, .int 0, .int 0, .int 0, .int 0]))]]) H locs := hI
  refine lv_dup hx hb dX4_init_29 rfl ?_
  refine x_callIN (rest := [.ref q2, .int (0 : Int32), .ref q1]) hC hX hI [2] (iX0 l D K q2 _) (va_cnB 0 hts gX4_init_X0_init_n15 rfl rfl rfl hX.1 (hts _ kX4_init_7) (by decide +kernel) ⟨(Nat.le_of_ble_eq_true rfl), (Nat.le_of_ble_eq_true rfl)⟩) rfl kX4_init_9 (by decide) rfl (fun _ => rfl) rfl hl.1 rfl (Nat.le_of_ble_eq_true rfl) dX4_init_30 ⟨(Nat.le_of_ble_eq_true rfl), (Nat.le_of_ble_eq_true rfl)⟩ (fun h3 H locs hw hI => ?_)
  subst hw
  refine W.widen (k := 4) (n := 26) (Nat.le_of_ble_eq_true rfl) (Nat.le_of_ble_eq_true rfl) ?_
  have hI : wI s D A (fl [[(a, .inr (2, [.ref q1, .int 0, .int 0]))], [(q1, .inl (K 2, 6, .inr (.inr (.inr (.inr (fun _ => none))))))], wGl K h3 gs0]) H locs := hI
  refine x_astq (f := (fun _ => none)) hC hI 1 2 2 0 rfl rfl rfl rfl (by unfold vp_in; decide) dX4_init_33 (fun H locs hI => ?_)
  have hI : wI s D A (fl [[(a, .inr (2, [.ref q1, .int 0, .int 0]))], [(q1, .inl (K 2, 6, .inr (.inr (.inr (.inr (va_up (fun _ => none) 0 (some (h3 0))))))))], wGl K h3 gs0]) H locs := hI
  refine lv_iinc (v := (1 : Int32)) (lv' := [(1, .int (1 : Int32)), (0, .ref a)]) hx hb dX4_init_34 hl (k := 0) rfl (by decide) (by decide) rfl (fun ls hl => ?_)
  refine lv_goto (tgt := 15) hx hb dX4_init_37 (by decide) ?_
  refine lv_iload_n hx hb dX4_init_15 rfl (lv_at hl 0 rfl) ?_
  refine lv_bipush (v := (6 : Int32)) hx hb dX4_init_16 (by decide) ?_
  refine lv_icmp_ge (tgt := 40) hx hb dX4_init_18 (by decide) (fun c1 => ?_) (fun c1 => ?_)
  · exact absurd c1 (by decide)
  refine lv_aload_n hx hb dX4_init_21 rfl (lv_at hl 1 rfl) ?_
  refine x_get (v := .ref q1) hC hI kX4_init_cX4 0 rfl rfl 0 (by decide) kX4_init_4 rfl rfl dX4_init_22 ?_
  refine lv_iload_n hx hb dX4_init_25 rfl (lv_at hl 0 rfl) ?_
  refine x_new (ci := 0) (fs := [.null, .null, .int 0, .int 0, .int 0, .int 0, .int 0]) hC hI kX4_init_cX0 tyX0 tyX0_ok kX4_init_3 kX4_init_6 kX4_init_7 rfl (fun j hj => by rcases (show j = 0 ∨ j = 1 ∨ j = 2 ∨ j = 3 ∨ j = 4 ∨ j = 5 ∨ j = 6 by omega) with rfl | rfl | rfl | rfl | rfl | rfl | rfl <;> rfl) (Nat.le_of_ble_eq_true rfl) (Nat.le_of_ble_eq_true rfl) dX4_init_26 (fun q4 H hI => ?_)
  refine W.widen (k := 5) (n := 33) (Nat.le_of_ble_eq_true rfl) (Nat.le_of_ble_eq_true rfl) ?_
  have hI : wI s D A (fl [[(a, .inr (2, [.ref q1, .int 0, .int 0]))], [(q1, .inl (K 2, 6, .inr (.inr (.inr (.inr (va_up (fun _ => none) 0 (some (h3 0))))))))], wGl K h3 gs0, [(q4, .inr (0, [.null, .null, .int 0, .int 0, .int 0, .int 0, .int 0]))]]) H locs := hI
  refine lv_dup hx hb dX4_init_29 rfl ?_
  refine x_callIN (rest := [.ref q4, .int (1 : Int32), .ref q1]) hC hX hI [3] (iX0 l D K q4 _) (va_cnB 0 hts gX4_init_X0_init_n15 rfl rfl rfl hX.1 (hts _ kX4_init_7) (by decide +kernel) ⟨(Nat.le_of_ble_eq_true rfl), (Nat.le_of_ble_eq_true rfl)⟩) rfl kX4_init_9 (by decide) rfl (fun _ => rfl) rfl hl.1 rfl (Nat.le_of_ble_eq_true rfl) dX4_init_30 ⟨(Nat.le_of_ble_eq_true rfl), (Nat.le_of_ble_eq_true rfl)⟩ (fun h5 H locs hw hI => ?_)
  subst hw
  refine W.widen (k := 7) (n := 46) (Nat.le_of_ble_eq_true rfl) (Nat.le_of_ble_eq_true rfl) ?_
  have hI : wI s D A (fl [[(a, .inr (2, [.ref q1, .int 0, .int 0]))], [(q1, .inl (K 2, 6, .inr (.inr (.inr (.inr (va_up (fun _ => none) 0 (some (h3 0))))))))], wGl K h3 gs0, wGl K h5 gs0]) H locs := hI
  refine x_astq (f := (va_up (fun _ => none) 0 (some (h3 0)))) hC hI 1 2 5 0 rfl rfl rfl rfl (by unfold vp_in; decide) dX4_init_33 (fun H locs hI => ?_)
  have hI : wI s D A (fl [[(a, .inr (2, [.ref q1, .int 0, .int 0]))], [(q1, .inl (K 2, 6, .inr (.inr (.inr (.inr (va_up (va_up (fun _ => none) 0 (some (h3 0))) 1 (some (h5 0))))))))], wGl K h3 gs0, wGl K h5 gs0]) H locs := hI
  refine lv_iinc (v := (2 : Int32)) (lv' := [(1, .int (2 : Int32)), (0, .ref a)]) hx hb dX4_init_34 hl (k := 0) rfl (by decide) (by decide) rfl (fun ls hl => ?_)
  refine lv_goto (tgt := 15) hx hb dX4_init_37 (by decide) ?_
  refine lv_iload_n hx hb dX4_init_15 rfl (lv_at hl 0 rfl) ?_
  refine lv_bipush (v := (6 : Int32)) hx hb dX4_init_16 (by decide) ?_
  refine lv_icmp_ge (tgt := 40) hx hb dX4_init_18 (by decide) (fun c1 => ?_) (fun c1 => ?_)
  · exact absurd c1 (by decide)
  refine lv_aload_n hx hb dX4_init_21 rfl (lv_at hl 1 rfl) ?_
  refine x_get (v := .ref q1) hC hI kX4_init_cX4 0 rfl rfl 0 (by decide) kX4_init_4 rfl rfl dX4_init_22 ?_
  refine lv_iload_n hx hb dX4_init_25 rfl (lv_at hl 0 rfl) ?_
  refine x_new (ci := 0) (fs := [.null, .null, .int 0, .int 0, .int 0, .int 0, .int 0]) hC hI kX4_init_cX0 tyX0 tyX0_ok kX4_init_3 kX4_init_6 kX4_init_7 rfl (fun j hj => by rcases (show j = 0 ∨ j = 1 ∨ j = 2 ∨ j = 3 ∨ j = 4 ∨ j = 5 ∨ j = 6 by omega) with rfl | rfl | rfl | rfl | rfl | rfl | rfl <;> rfl) (Nat.le_of_ble_eq_true rfl) (Nat.le_of_ble_eq_true rfl) dX4_init_26 (fun q6 H hI => ?_)
  refine W.widen (k := 8) (n := 53) (Nat.le_of_ble_eq_true rfl) (Nat.le_of_ble_eq_true rfl) ?_
  have hI : wI s D A (fl [[(a, .inr (2, [.ref q1, .int 0, .int 0]))], [(q1, .inl (K 2, 6, .inr (.inr (.inr (.inr (va_up (va_up (fun _ => none) 0 (some (h3 0))) 1 (some (h5 0))))))))], wGl K h3 gs0, wGl K h5 gs0, [(q6, .inr (0, [.null, .null, .int 0, .int 0, .int 0, .int 0, .int 0]))]]) H locs := hI
  refine lv_dup hx hb dX4_init_29 rfl ?_
  refine x_callIN (rest := [.ref q6, .int (2 : Int32), .ref q1]) hC hX hI [4] (iX0 l D K q6 _) (va_cnB 0 hts gX4_init_X0_init_n15 rfl rfl rfl hX.1 (hts _ kX4_init_7) (by decide +kernel) ⟨(Nat.le_of_ble_eq_true rfl), (Nat.le_of_ble_eq_true rfl)⟩) rfl kX4_init_9 (by decide) rfl (fun _ => rfl) rfl hl.1 rfl (Nat.le_of_ble_eq_true rfl) dX4_init_30 ⟨(Nat.le_of_ble_eq_true rfl), (Nat.le_of_ble_eq_true rfl)⟩ (fun h7 H locs hw hI => ?_)
  subst hw
  refine W.widen (k := 10) (n := 66) (Nat.le_of_ble_eq_true rfl) (Nat.le_of_ble_eq_true rfl) ?_
  have hI : wI s D A (fl [[(a, .inr (2, [.ref q1, .int 0, .int 0]))], [(q1, .inl (K 2, 6, .inr (.inr (.inr (.inr (va_up (va_up (fun _ => none) 0 (some (h3 0))) 1 (some (h5 0))))))))], wGl K h3 gs0, wGl K h5 gs0, wGl K h7 gs0]) H locs := hI
  refine x_astq (f := (va_up (va_up (fun _ => none) 0 (some (h3 0))) 1 (some (h5 0)))) hC hI 1 2 8 0 rfl rfl rfl rfl (by unfold vp_in; decide) dX4_init_33 (fun H locs hI => ?_)
  have hI : wI s D A (fl [[(a, .inr (2, [.ref q1, .int 0, .int 0]))], [(q1, .inl (K 2, 6, .inr (.inr (.inr (.inr (va_up (va_up (va_up (fun _ => none) 0 (some (h3 0))) 1 (some (h5 0))) 2 (some (h7 0))))))))], wGl K h3 gs0, wGl K h5 gs0, wGl K h7 gs0]) H locs := hI
  refine lv_iinc (v := (3 : Int32)) (lv' := [(1, .int (3 : Int32)), (0, .ref a)]) hx hb dX4_init_34 hl (k := 0) rfl (by decide) (by decide) rfl (fun ls hl => ?_)
  refine lv_goto (tgt := 15) hx hb dX4_init_37 (by decide) ?_
  refine lv_iload_n hx hb dX4_init_15 rfl (lv_at hl 0 rfl) ?_
  refine lv_bipush (v := (6 : Int32)) hx hb dX4_init_16 (by decide) ?_
  refine lv_icmp_ge (tgt := 40) hx hb dX4_init_18 (by decide) (fun c1 => ?_) (fun c1 => ?_)
  · exact absurd c1 (by decide)
  refine lv_aload_n hx hb dX4_init_21 rfl (lv_at hl 1 rfl) ?_
  refine x_get (v := .ref q1) hC hI kX4_init_cX4 0 rfl rfl 0 (by decide) kX4_init_4 rfl rfl dX4_init_22 ?_
  refine lv_iload_n hx hb dX4_init_25 rfl (lv_at hl 0 rfl) ?_
  refine x_new (ci := 0) (fs := [.null, .null, .int 0, .int 0, .int 0, .int 0, .int 0]) hC hI kX4_init_cX0 tyX0 tyX0_ok kX4_init_3 kX4_init_6 kX4_init_7 rfl (fun j hj => by rcases (show j = 0 ∨ j = 1 ∨ j = 2 ∨ j = 3 ∨ j = 4 ∨ j = 5 ∨ j = 6 by omega) with rfl | rfl | rfl | rfl | rfl | rfl | rfl <;> rfl) (Nat.le_of_ble_eq_true rfl) (Nat.le_of_ble_eq_true rfl) dX4_init_26 (fun q8 H hI => ?_)
  refine W.widen (k := 11) (n := 73) (Nat.le_of_ble_eq_true rfl) (Nat.le_of_ble_eq_true rfl) ?_
  have hI : wI s D A (fl [[(a, .inr (2, [.ref q1, .int 0, .int 0]))], [(q1, .inl (K 2, 6, .inr (.inr (.inr (.inr (va_up (va_up (va_up (fun _ => none) 0 (some (h3 0))) 1 (some (h5 0))) 2 (some (h7 0))))))))], wGl K h3 gs0, wGl K h5 gs0, wGl K h7 gs0, [(q8, .inr (0, [.null, .null, .int 0, .int 0, .int 0, .int 0, .int 0]))]]) H locs := hI
  refine lv_dup hx hb dX4_init_29 rfl ?_
  refine x_callIN (rest := [.ref q8, .int (3 : Int32), .ref q1]) hC hX hI [5] (iX0 l D K q8 _) (va_cnB 0 hts gX4_init_X0_init_n15 rfl rfl rfl hX.1 (hts _ kX4_init_7) (by decide +kernel) ⟨(Nat.le_of_ble_eq_true rfl), (Nat.le_of_ble_eq_true rfl)⟩) rfl kX4_init_9 (by decide) rfl (fun _ => rfl) rfl hl.1 rfl (Nat.le_of_ble_eq_true rfl) dX4_init_30 ⟨(Nat.le_of_ble_eq_true rfl), (Nat.le_of_ble_eq_true rfl)⟩ (fun h9 H locs hw hI => ?_)
  subst hw
  refine W.widen (k := 13) (n := 86) (Nat.le_of_ble_eq_true rfl) (Nat.le_of_ble_eq_true rfl) ?_
  have hI : wI s D A (fl [[(a, .inr (2, [.ref q1, .int 0, .int 0]))], [(q1, .inl (K 2, 6, .inr (.inr (.inr (.inr (va_up (va_up (va_up (fun _ => none) 0 (some (h3 0))) 1 (some (h5 0))) 2 (some (h7 0))))))))], wGl K h3 gs0, wGl K h5 gs0, wGl K h7 gs0, wGl K h9 gs0]) H locs := hI
  refine x_astq (f := (va_up (va_up (va_up (fun _ => none) 0 (some (h3 0))) 1 (some (h5 0))) 2 (some (h7 0)))) hC hI 1 2 11 0 rfl rfl rfl rfl (by unfold vp_in; decide) dX4_init_33 (fun H locs hI => ?_)
  have hI : wI s D A (fl [[(a, .inr (2, [.ref q1, .int 0, .int 0]))], [(q1, .inl (K 2, 6, .inr (.inr (.inr (.inr (va_up (va_up (va_up (va_up (fun _ => none) 0 (some (h3 0))) 1 (some (h5 0))) 2 (some (h7 0))) 3 (some (h9 0))))))))], wGl K h3 gs0, wGl K h5 gs0, wGl K h7 gs0, wGl K h9 gs0]) H locs := hI
  refine lv_iinc (v := (4 : Int32)) (lv' := [(1, .int (4 : Int32)), (0, .ref a)]) hx hb dX4_init_34 hl (k := 0) rfl (by decide) (by decide) rfl (fun ls hl => ?_)
  refine lv_goto (tgt := 15) hx hb dX4_init_37 (by decide) ?_
  refine lv_iload_n hx hb dX4_init_15 rfl (lv_at hl 0 rfl) ?_
  refine lv_bipush (v := (6 : Int32)) hx hb dX4_init_16 (by decide) ?_
  refine lv_icmp_ge (tgt := 40) hx hb dX4_init_18 (by decide) (fun c1 => ?_) (fun c1 => ?_)
  · exact absurd c1 (by decide)
  refine lv_aload_n hx hb dX4_init_21 rfl (lv_at hl 1 rfl) ?_
  refine x_get (v := .ref q1) hC hI kX4_init_cX4 0 rfl rfl 0 (by decide) kX4_init_4 rfl rfl dX4_init_22 ?_
  refine lv_iload_n hx hb dX4_init_25 rfl (lv_at hl 0 rfl) ?_
  refine x_new (ci := 0) (fs := [.null, .null, .int 0, .int 0, .int 0, .int 0, .int 0]) hC hI kX4_init_cX0 tyX0 tyX0_ok kX4_init_3 kX4_init_6 kX4_init_7 rfl (fun j hj => by rcases (show j = 0 ∨ j = 1 ∨ j = 2 ∨ j = 3 ∨ j = 4 ∨ j = 5 ∨ j = 6 by omega) with rfl | rfl | rfl | rfl | rfl | rfl | rfl <;> rfl) (Nat.le_of_ble_eq_true rfl) (Nat.le_of_ble_eq_true rfl) dX4_init_26 (fun q10 H hI => ?_)
  refine W.widen (k := 14) (n := 93) (Nat.le_of_ble_eq_true rfl) (Nat.le_of_ble_eq_true rfl) ?_
  have hI : wI s D A (fl [[(a, .inr (2, [.ref q1, .int 0, .int 0]))], [(q1, .inl (K 2, 6, .inr (.inr (.inr (.inr (va_up (va_up (va_up (va_up (fun _ => none) 0 (some (h3 0))) 1 (some (h5 0))) 2 (some (h7 0))) 3 (some (h9 0))))))))], wGl K h3 gs0, wGl K h5 gs0, wGl K h7 gs0, wGl K h9 gs0, [(q10, .inr (0, [.null, .null, .int 0, .int 0, .int 0, .int 0, .int 0]))]]) H locs := hI
  refine lv_dup hx hb dX4_init_29 rfl ?_
  refine x_callIN (rest := [.ref q10, .int (4 : Int32), .ref q1]) hC hX hI [6] (iX0 l D K q10 _) (va_cnB 0 hts gX4_init_X0_init_n15 rfl rfl rfl hX.1 (hts _ kX4_init_7) (by decide +kernel) ⟨(Nat.le_of_ble_eq_true rfl), (Nat.le_of_ble_eq_true rfl)⟩) rfl kX4_init_9 (by decide) rfl (fun _ => rfl) rfl hl.1 rfl (Nat.le_of_ble_eq_true rfl) dX4_init_30 ⟨(Nat.le_of_ble_eq_true rfl), (Nat.le_of_ble_eq_true rfl)⟩ (fun h11 H locs hw hI => ?_)
  subst hw
  refine W.widen (k := 16) (n := 106) (Nat.le_of_ble_eq_true rfl) (Nat.le_of_ble_eq_true rfl) ?_
  have hI : wI s D A (fl [[(a, .inr (2, [.ref q1, .int 0, .int 0]))], [(q1, .inl (K 2, 6, .inr (.inr (.inr (.inr (va_up (va_up (va_up (va_up (fun _ => none) 0 (some (h3 0))) 1 (some (h5 0))) 2 (some (h7 0))) 3 (some (h9 0))))))))], wGl K h3 gs0, wGl K h5 gs0, wGl K h7 gs0, wGl K h9 gs0, wGl K h11 gs0]) H locs := hI
  refine x_astq (f := (va_up (va_up (va_up (va_up (fun _ => none) 0 (some (h3 0))) 1 (some (h5 0))) 2 (some (h7 0))) 3 (some (h9 0)))) hC hI 1 2 14 0 rfl rfl rfl rfl (by unfold vp_in; decide) dX4_init_33 (fun H locs hI => ?_)
  have hI : wI s D A (fl [[(a, .inr (2, [.ref q1, .int 0, .int 0]))], [(q1, .inl (K 2, 6, .inr (.inr (.inr (.inr (va_up (va_up (va_up (va_up (va_up (fun _ => none) 0 (some (h3 0))) 1 (some (h5 0))) 2 (some (h7 0))) 3 (some (h9 0))) 4 (some (h11 0))))))))], wGl K h3 gs0, wGl K h5 gs0, wGl K h7 gs0, wGl K h9 gs0, wGl K h11 gs0]) H locs := hI
  refine lv_iinc (v := (5 : Int32)) (lv' := [(1, .int (5 : Int32)), (0, .ref a)]) hx hb dX4_init_34 hl (k := 0) rfl (by decide) (by decide) rfl (fun ls hl => ?_)
  refine lv_goto (tgt := 15) hx hb dX4_init_37 (by decide) ?_
  refine lv_iload_n hx hb dX4_init_15 rfl (lv_at hl 0 rfl) ?_
  refine lv_bipush (v := (6 : Int32)) hx hb dX4_init_16 (by decide) ?_
  refine lv_icmp_ge (tgt := 40) hx hb dX4_init_18 (by decide) (fun c1 => ?_) (fun c1 => ?_)
  · exact absurd c1 (by decide)
  refine lv_aload_n hx hb dX4_init_21 rfl (lv_at hl 1 rfl) ?_
  refine x_get (v := .ref q1) hC hI kX4_init_cX4 0 rfl rfl 0 (by decide) kX4_init_4 rfl rfl dX4_init_22 ?_
  refine lv_iload_n hx hb dX4_init_25 rfl (lv_at hl 0 rfl) ?_
  refine x_new (ci := 0) (fs := [.null, .null, .int 0, .int 0, .int 0, .int 0, .int 0]) hC hI kX4_init_cX0 tyX0 tyX0_ok kX4_init_3 kX4_init_6 kX4_init_7 rfl (fun j hj => by rcases (show j = 0 ∨ j = 1 ∨ j = 2 ∨ j = 3 ∨ j = 4 ∨ j = 5 ∨ j = 6 by omega) with rfl | rfl | rfl | rfl | rfl | rfl | rfl <;> rfl) (Nat.le_of_ble_eq_true rfl) (Nat.le_of_ble_eq_true rfl) dX4_init_26 (fun q12 H hI => ?_)
  refine W.widen (k := 17) (n := 113) (Nat.le_of_ble_eq_true rfl) (Nat.le_of_ble_eq_true rfl) ?_
  have hI : wI s D A (fl [[(a, .inr (2, [.ref q1, .int 0, .int 0]))], [(q1, .inl (K 2, 6, .inr (.inr (.inr (.inr (va_up (va_up (va_up (va_up (va_up (fun _ => none) 0 (some (h3 0))) 1 (some (h5 0))) 2 (some (h7 0))) 3 (some (h9 0))) 4 (some (h11 0))))))))], wGl K h3 gs0, wGl K h5 gs0, wGl K h7 gs0, wGl K h9 gs0, wGl K h11 gs0, [(q12, .inr (0, [.null, .null, .int 0, .int 0, .int 0, .int 0, .int 0]))]]) H locs := hI
  refine lv_dup hx hb dX4_init_29 rfl ?_
  refine x_callIN (rest := [.ref q12, .int (5 : Int32), .ref q1]) hC hX hI [7] (iX0 l D K q12 _) (va_cnB 0 hts gX4_init_X0_init_n15 rfl rfl rfl hX.1 (hts _ kX4_init_7) (by decide +kernel) ⟨(Nat.le_of_ble_eq_true rfl), (Nat.le_of_ble_eq_true rfl)⟩) rfl kX4_init_9 (by decide) rfl (fun _ => rfl) rfl hl.1 rfl (Nat.le_of_ble_eq_true rfl) dX4_init_30 ⟨(Nat.le_of_ble_eq_true rfl), (Nat.le_of_ble_eq_true rfl)⟩ (fun h13 H locs hw hI => ?_)
  subst hw
  refine W.widen (k := 19) (n := 126) (Nat.le_of_ble_eq_true rfl) (Nat.le_of_ble_eq_true rfl) ?_
  have hI : wI s D A (fl [[(a, .inr (2, [.ref q1, .int 0, .int 0]))], [(q1, .inl (K 2, 6, .inr (.inr (.inr (.inr (va_up (va_up (va_up (va_up (va_up (fun _ => none) 0 (some (h3 0))) 1 (some (h5 0))) 2 (some (h7 0))) 3 (some (h9 0))) 4 (some (h11 0))))))))], wGl K h3 gs0, wGl K h5 gs0, wGl K h7 gs0, wGl K h9 gs0, wGl K h11 gs0, wGl K h13 gs0]) H locs := hI
  refine x_astq (f := (va_up (va_up (va_up (va_up (va_up (fun _ => none) 0 (some (h3 0))) 1 (some (h5 0))) 2 (some (h7 0))) 3 (some (h9 0))) 4 (some (h11 0)))) hC hI 1 2 17 0 rfl rfl rfl rfl (by unfold vp_in; decide) dX4_init_33 (fun H locs hI => ?_)
  have hI : wI s D A (fl [[(a, .inr (2, [.ref q1, .int 0, .int 0]))], [(q1, .inl (K 2, 6, .inr (.inr (.inr (.inr (va_up (va_up (va_up (va_up (va_up (va_up (fun _ => none) 0 (some (h3 0))) 1 (some (h5 0))) 2 (some (h7 0))) 3 (some (h9 0))) 4 (some (h11 0))) 5 (some (h13 0))))))))], wGl K h3 gs0, wGl K h5 gs0, wGl K h7 gs0, wGl K h9 gs0, wGl K h11 gs0, wGl K h13 gs0]) H locs := hI
  refine lv_iinc (v := (6 : Int32)) (lv' := [(1, .int (6 : Int32)), (0, .ref a)]) hx hb dX4_init_34 hl (k := 0) rfl (by decide) (by decide) rfl (fun ls hl => ?_)
  refine lv_goto (tgt := 15) hx hb dX4_init_37 (by decide) ?_
  refine lv_iload_n hx hb dX4_init_15 rfl (lv_at hl 0 rfl) ?_
  refine lv_bipush (v := (6 : Int32)) hx hb dX4_init_16 (by decide) ?_
  refine lv_icmp_ge (tgt := 40) hx hb dX4_init_18 (by decide) (fun c1 => ?_) (fun c1 => ?_)
  rotate_left
  · exact absurd (by decide) c1
  have hI : wI s D A (fl [[(a, .inr (2, [.ref q1, .int 0, .int 0]))], [(q1, .inl (K 2, 6, .inr (.inr (.inr (.inr (fun k => some ((fun i => ([a, q1, (h3 0), (h3 1), (h3 2), (h5 0), (h5 1), (h5 2), (h7 0), (h7 1), (h7 2), (h9 0), (h9 1), (h9 2), (h11 0), (h11 1), (h11 2), (h13 0), (h13 1), (h13 2)] : List Nat).getD i 0) (2 + 3 * k))))))))], wGl K h3 gs0, wGl K h5 gs0, wGl K h7 gs0, wGl K h9 gs0, wGl K h11 gs0, wGl K h13 gs0]) H locs := wI_row (f := (va_up (va_up (va_up (va_up (va_up (va_up (fun _ => none) 0 (some (h3 0))) 1 (some (h5 0))) 2 (some (h7 0))) 3 (some (h9 0))) 4 (some (h11 0))) 5 (some (h13 0)))) (g := (fun k => some ((fun i => ([a, q1, (h3 0), (h3 1), (h3 2), (h5 0), (h5 1), (h5 2), (h7 0), (h7 1), (h7 2), (h9 0), (h9 1), (h9 2), (h11 0), (h11 1), (h11 2), (h13 0), (h13 1), (h13 2)] : List Nat).getD i 0) (2 + 3 * k)))) hI 1 rfl (fun j hj => by rcases lt6 hj with rfl | rfl | rfl | rfl | rfl | rfl <;> rfl)
  subst hQ
  exact x_vret (u := (fun i => ([a, q1, (h3 0), (h3 1), (h3 2), (h5 0), (h5 1), (h5 2), (h7 0), (h7 1), (h7 2), (h9 0), (h9 1), (h9 2), (h11 0), (h11 1), (h11 2), (h13 0), (h13 1), (h13 2)] : List Nat).getD i 0)) hC hI hr hlk rfl rfl dX4_init_40
