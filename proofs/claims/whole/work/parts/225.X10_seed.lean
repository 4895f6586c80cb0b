def wX10_seed (a1 : Int32) (draw : Int32) (post : Int32 → Int32 → Prop) : Prop := ((0 ≤ a1 → post draw a1) ∧ (¬ 0 ≤ a1 → post (-1 : Int32) draw))
def rmX10_seed : Room := { frames := 0, cells := 0, slots := 0, locals := 0 }
theorem kX10_seed_0 : Cond.fieldLink RX10 10 "GoreGlobe" "now" "LGoreGlobe$Globe;" ∈ wsX10_seed := List.mem_cons_of_mem _ (List.mem_append_left _ (List.mem_append_left _ (List.mem_of_getElem? (i := 0) rfl)))
theorem kX10_seed_cX10 : ∀ w ∈ wsX100, w ∈ wsX10_seed := fun _ h => List.mem_cons_of_mem _ (List.mem_append_left _ (List.mem_append_right _ h))
theorem kX10_seed_2 : Cond.fieldLink RX10 283 "GoreGlobe$Globe" "draw" "I" ∈ wsX10_seed := List.mem_cons_of_mem _ (List.mem_append_left _ (List.mem_append_left _ (List.mem_of_getElem? (i := 1) rfl)))
theorem kX10_seed_cX0 : ∀ w ∈ wsX00, w ∈ wsX10_seed := fun _ h => List.mem_cons_of_mem _ (List.mem_append_right _ h)
set_option maxHeartbeats 4000000 in
set_option maxRecDepth 100000 in
theorem mX10_seed (l : Launch) (D : va_G) (K : Nat → ClassId) (q : Nat → Nat) (sz : Nat) (a1 : Int32) (bits : Nat → Int64) (stops : Nat → Int32) (num : Int32) (unit : Int32) (strips : Int32) (caps : Int32) (draw : Int32) (oldest : Int32) (known : Int32) (ring : Nat → GS) (im : GS) (iold : Int32) (iknown : Int32) (iring : Nat → GS) (hasIm : Int32) (letters : Nat → Int32) (tbits : Nat → Int64) (tlen : Int32) (tat : Int32) (fig : Int32) (shI : Nat → Nat → Int64) (shH : Nat → Int32) (shL : Nat → Int32) (shS : Nat → Int32) (seaOf : Nat → Int32) (queue : Nat → Int32) (snum : Int32) (cost : Nat → Int32) (heap : Nat → Int64) (wait : Int32) (off : Int32) (les : Int32) (gre : Int32) (abv : Int64) (blw : Int64) (needed : Int32) (ocut : Int32) (opole : Int32)  {post : Int32 → Int32 → Prop} (hw : wX10_seed a1 draw post) : Met l yX10_seed wsX10_seed rmX10_seed (va_Pc [.ref (q 0), .int a1] (cP D K (fl (lX K q bits stops num unit strips caps draw oldest known ring im iold iknown iring hasIm letters tbits tlen tat fig shI shH shL shS seaOf queue snum cost heap wait off les gre abv blw needed ocut opole)) sz)) (va_Qi (fun (r : Int32) (u : Int32) => post r u) (fun u t => cQ D K (fl (lX K q bits stops num unit strips caps u oldest known ring im iold iknown iring hasIm letters tbits tlen tat fig shI shH shL shS seaOf queue snum cost heap wait off les gre abv blw needed ocut opole)) (va_A (fl (lX K q bits stops num unit strips caps draw oldest known ring im iold iknown iring hasIm letters tbits tlen tat fig shI shH shL shS seaOf queue snum cost heap wait off les gre abv blw needed ocut opole)) sz) t) (va_A (fl (lX K q bits stops num unit strips caps draw oldest known ring im iold iknown iring hasIm letters tbits tlen tat fig shI shH shL shS seaOf queue snum cost heap wait off les gre abv blw needed ocut opole)) sz)) 0 0 (va_A (fl (lX K q bits stops num unit strips caps draw oldest known ring im iold iknown iring hasIm letters tbits tlen tat fig shI shH shL shS seaOf queue snum cost heap wait off les gre abv blw needed ocut opole)) sz) := by
  refine x_entry (cc := cX10_seed) (maxL := 3) (ret := (some .int)) (QA := fun A => va_Qi (fun (r : Int32) (u : Int32) => post r u) (fun u t => cQ D K (fl (lX K q bits stops num unit strips caps u oldest known ring im iold iknown iring hasIm letters tbits tlen tat fig shI shH shL shS seaOf queue snum cost heap wait off les gre abv blw needed ocut opole)) A t) A) (plainFor_of_name (by decide)) rfl (Nat.le_of_ble_eq_true rfl) ?_
  intro p e s m args below meth c A ls H Q hQ hC hlk hr hnm hI hl
  obtain ⟨hx, hb, hml, hown, hts, hK, hA, hZ⟩ := id hC
  obtain ⟨locs, hlocs⟩ : ∃ y : List Loc, y = [] := ⟨_, rfl⟩
  rw [← hlocs] at hI ⊢
  clear hlocs
  replace hl : lv_has ls 3 [(0, .ref (q 0)), (1, .int a1)] := hl
  replace hw : ((0 ≤ a1 → post draw a1) ∧ (¬ 0 ≤ a1 → post (-1 : Int32) draw)) := hw
  refine lv_iload_n hx hb dX10_seed_0 rfl (lv_at hl 1 rfl) ?_
  refine lv_if_ge (tgt := 6) hx hb dX10_seed_1 (by decide) (fun c1 => ?_) (fun c1 => ?_)
  · replace hw := hw.1 c1
    refine lv_aload_n hx hb dX10_seed_6 rfl (lv_at hl 0 rfl) ?_
    refine x_get (v := .ref (q 1)) hC hI kX10_seed_cX10 0 rfl rfl 0 (by decide) kX10_seed_0 rfl rfl dX10_seed_7 ?_
    refine x_get (v := .int draw) hC hI kX10_seed_cX0 1 rfl rfl 6 (by decide) kX10_seed_2 rfl rfl dX10_seed_10 ?_
    refine lv_istore_n (lv' := [(2, .int draw), (0, .ref (q 0)), (1, .int a1)]) hx hb dX10_seed_13 rfl hl (by decide) rfl (fun ls hl => ?_)
    refine lv_aload_n hx hb dX10_seed_14 rfl (lv_at hl 1 rfl) ?_
    refine x_get (v := .ref (q 1)) hC hI kX10_seed_cX10 0 rfl rfl 0 (by decide) kX10_seed_0 rfl rfl dX10_seed_15 ?_
    refine lv_iload_n hx hb dX10_seed_18 rfl (lv_at hl 2 rfl) ?_
    refine x_put (v := .int a1) hC hI kX10_seed_cX0 tyX0 tyX0_ok nmX0 1 rfl rfl 6 (by decide) kX10_seed_2 rfl rfl rfl rfl (Nat.le_of_ble_eq_true rfl) dX10_seed_19 (fun H locs hI => ?_)
    have hI : wI s D A (fl (lX K q bits stops num unit strips caps a1 oldest known ring im iold iknown iring hasIm letters tbits tlen tat fig shI shH shL shS seaOf queue snum cost heap wait off les gre abv blw needed ocut opole)) H locs := hI
    refine lv_iload_n hx hb dX10_seed_22 rfl (lv_at hl 0 rfl) ?_
    subst hQ
    exact x_iret (u := a1) hC hI hr hlk hw rfl dX10_seed_23
  · replace hw := hw.2 c1
    refine lv_iconst (v := (-1 : Int32)) hx hb dX10_seed_4 (by decide) ?_
    subst hQ
    exact x_iret (u := draw) hC hI hr hlk hw rfl dX10_seed_5
