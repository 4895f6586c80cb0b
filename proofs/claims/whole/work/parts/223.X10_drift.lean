def wX10_drift (a1 : Int32) (bits : Nat → Int64) (stops : Nat → Int32) (num : Int32) (unit : Int32) (strips : Int32) (caps : Int32) (draw : Int32) (oldest : Int32) (known : Int32) (ring : Nat → GS) (post : Int32 → (Nat → Int64) → Int32 → Int32 → Int32 → (Nat → GS) → Prop) : Prop := wX10_isIn a1 (1 : Int32) (40 : Int32) (fun (r1 : Int32) => ((r1 = 0 → post (-1 : Int32) bits draw oldest known ring) ∧ (¬ r1 = 0 → (∃ (I14 : Int32 → (Nat → Int64) → Int32 → Int32 → Int32 → (Nat → GS) → Prop) (mu14 : Int32 → (Nat → Int64) → Int32 → Int32 → Int32 → (Nat → GS) → Nat), I14 (0 : Int32) bits draw oldest known ring ∧ ∀ (l2_14 : Int32) (bits_14 : Nat → Int64) (draw_14 : Int32) (oldest_14 : Int32) (known_14 : Int32) (ring_14 : Nat → GS), I14 l2_14 bits_14 draw_14 oldest_14 known_14 ring_14 → ((a1 ≤ l2_14 → wX0_landNumber bits_14 (fun (r4 : Int32) => post r4 bits_14 draw_14 oldest_14 known_14 ring_14)) ∧ (¬ a1 ≤ l2_14 → wX4_keep oldest_14 known_14 ring_14 bits_14 stops num unit strips caps draw_14 (fun (oldest_c5 : Int32) (known_c6 : Int32) (ring_c7 : Nat → GS) => wX0_driftOnce bits_14 draw_14 (fun (bits_c8 : Nat → Int64) (draw_c9 : Int32) => ∀ x10 : Int32, x10 = l2_14 + 1 → (I14 x10 bits_c8 draw_c9 oldest_c5 known_c6 ring_c7 ∧ mu14 x10 bits_c8 draw_c9 oldest_c5 known_c6 ring_c7 < mu14 l2_14 bits_14 draw_14 oldest_14 known_14 ring_14)))))))))
def rmX10_drift : Room := { frames := 3, cells := 0, slots := 0, locals := 82 }
theorem kX10_drift_0 : Cond.fieldLink RX10 10 "GoreGlobe" "now" "LGoreGlobe$Globe;" ∈ wsX10_drift := List.mem_cons_of_mem _ (List.mem_append_left _ (List.mem_append_left _ (List.mem_append_left _ (List.mem_append_left _ (List.mem_of_getElem? (i := 1) rfl)))))
theorem kX10_drift_cX10 : ∀ w ∈ wsX100, w ∈ wsX10_drift := fun _ h => List.mem_cons_of_mem _ (List.mem_append_left _ (List.mem_append_left _ (List.mem_append_right _ h)))
theorem kX10_drift_2 : Cond.fieldLink RX10 19 "GoreGlobe" "past" "LGoreGlobe$Past;" ∈ wsX10_drift := List.mem_cons_of_mem _ (List.mem_append_left _ (List.mem_append_left _ (List.mem_append_left _ (List.mem_append_left _ (List.mem_of_getElem? (i := 0) rfl)))))
set_option maxHeartbeats 4000000 in
set_option maxRecDepth 100000 in
theorem mX10_drift (l : Launch) (D : va_G) (K : Nat → ClassId) (q : Nat → Nat) (sz : Nat) (a1 : Int32) (bits : Nat → Int64) (stops : Nat → Int32) (num : Int32) (unit : Int32) (strips : Int32) (caps : Int32) (draw : Int32) (oldest : Int32) (known : Int32) (ring : Nat → GS) (im : GS) (iold : Int32) (iknown : Int32) (iring : Nat → GS) (hasIm : Int32) (letters : Nat → Int32) (tbits : Nat → Int64) (tlen : Int32) (tat : Int32) (fig : Int32) (shI : Nat → Nat → Int64) (shH : Nat → Int32) (shL : Nat → Int32) (shS : Nat → Int32) (seaOf : Nat → Int32) (queue : Nat → Int32) (snum : Int32) (cost : Nat → Int32) (heap : Nat → Int64) (wait : Int32) (off : Int32) (les : Int32) (gre : Int32) (abv : Int64) (blw : Int64) (needed : Int32) (ocut : Int32) (opole : Int32)  {post : Int32 → (Nat → Int64) → Int32 → Int32 → Int32 → (Nat → GS) → Prop} (hw : wX10_drift a1 bits stops num unit strips caps draw oldest known ring post) : Met l yX10_drift wsX10_drift rmX10_drift (va_Pc [.ref (q 0), .int a1] (cP D K (fl (lX K q bits stops num unit strips caps draw oldest known ring im iold iknown iring hasIm letters tbits tlen tat fig shI shH shL shS seaOf queue snum cost heap wait off les gre abv blw needed ocut opole)) sz)) (va_Qi (fun (r : Int32) (u : (Nat → Int64) × Int32 × Int32 × Int32 × (Nat → GS)) => post r u.1 u.2.1 u.2.2.1 u.2.2.2.1 u.2.2.2.2) (fun u t => cQ D K (fl (lX K q u.1 stops num unit strips caps u.2.1 u.2.2.1 u.2.2.2.1 u.2.2.2.2 im iold iknown iring hasIm letters tbits tlen tat fig shI shH shL shS seaOf queue snum cost heap wait off les gre abv blw needed ocut opole)) (va_A (fl (lX K q bits stops num unit strips caps draw oldest known ring im iold iknown iring hasIm letters tbits tlen tat fig shI shH shL shS seaOf queue snum cost heap wait off les gre abv blw needed ocut opole)) sz) t) (va_A (fl (lX K q bits stops num unit strips caps draw oldest known ring im iold iknown iring hasIm letters tbits tlen tat fig shI shH shL shS seaOf queue snum cost heap wait off les gre abv blw needed ocut opole)) sz)) 0 0 (va_A (fl (lX K q bits stops num unit strips caps draw oldest known ring im iold iknown iring hasIm letters tbits tlen tat fig shI shH shL shS seaOf queue snum cost heap wait off les gre abv blw needed ocut opole)) sz) := by
  refine x_entry (cc := cX10_drift) (maxL := 3) (ret := (some .int)) (QA := fun A => va_Qi (fun (r : Int32) (u : (Nat → Int64) × Int32 × Int32 × Int32 × (Nat → GS)) => post r u.1 u.2.1 u.2.2.1 u.2.2.2.1 u.2.2.2.2) (fun u t => cQ D K (fl (lX K q u.1 stops num unit strips caps u.2.1 u.2.2.1 u.2.2.2.1 u.2.2.2.2 im iold iknown iring hasIm letters tbits tlen tat fig shI shH shL shS seaOf queue snum cost heap wait off les gre abv blw needed ocut opole)) A t) A) (plainFor_of_name (by decide)) rfl (Nat.le_of_ble_eq_true rfl) ?_
  intro p e s m args below meth c A ls H Q hQ hC hlk hr hnm hI hl
  obtain ⟨hx, hb, hml, hown, hts, hK, hA, hZ⟩ := id hC
  obtain ⟨locs, hlocs⟩ : ∃ y : List Loc, y = [] := ⟨_, rfl⟩
  rw [← hlocs] at hI ⊢
  clear hlocs
  replace hl : lv_has ls 3 [(0, .ref (q 0)), (1, .int a1)] := hl
  replace hw : wX10_isIn a1 (1 : Int32) (40 : Int32) (fun (r1 : Int32) => ((r1 = 0 → post (-1 : Int32) bits draw oldest known ring) ∧ (¬ r1 = 0 → (∃ (I14 : Int32 → (Nat → Int64) → Int32 → Int32 → Int32 → (Nat → GS) → Prop) (mu14 : Int32 → (Nat → Int64) → Int32 → Int32 → Int32 → (Nat → GS) → Nat), I14 (0 : Int32) bits draw oldest known ring ∧ ∀ (l2_14 : Int32) (bits_14 : Nat → Int64) (draw_14 : Int32) (oldest_14 : Int32) (known_14 : Int32) (ring_14 : Nat → GS), I14 l2_14 bits_14 draw_14 oldest_14 known_14 ring_14 → ((a1 ≤ l2_14 → wX0_landNumber bits_14 (fun (r4 : Int32) => post r4 bits_14 draw_14 oldest_14 known_14 ring_14)) ∧ (¬ a1 ≤ l2_14 → wX4_keep oldest_14 known_14 ring_14 bits_14 stops num unit strips caps draw_14 (fun (oldest_c5 : Int32) (known_c6 : Int32) (ring_c7 : Nat → GS) => wX0_driftOnce bits_14 draw_14 (fun (bits_c8 : Nat → Int64) (draw_c9 : Int32) => ∀ x10 : Int32, x10 = l2_14 + 1 → (I14 x10 bits_c8 draw_c9 oldest_c5 known_c6 ring_c7 ∧ mu14 x10 bits_c8 draw_c9 oldest_c5 known_c6 ring_c7 < mu14 l2_14 bits_14 draw_14 oldest_14 known_14 ring_14))))))))) := hw
  refine lv_iload_n hx hb dX10_drift_0 rfl (lv_at hl 1 rfl) ?_
  refine lv_iconst (v := (1 : Int32)) hx hb dX10_drift_1 (by decide) ?_
  refine lv_bipush (v := (40 : Int32)) hx hb dX10_drift_2 (by decide) ?_
  refine x_callSi (rest := []) hC hI [] (mX10_isIn l D K  _ a1 (1 : Int32) (40 : Int32) hw) (va_cwS 3 hts gX10_drift_X10_isIn rfl rfl rfl (by decide +kernel) ⟨(Nat.le_of_ble_eq_true rfl), (Nat.le_of_ble_eq_true rfl)⟩) (by decide) rfl (fun _ => rfl) rfl hl.1 rfl (Nat.le_of_ble_eq_true rfl) dX10_drift_4 ⟨(Nat.le_of_ble_eq_true rfl), (Nat.le_of_ble_eq_true rfl)⟩ (fun r1 u H locs hw hI => ?_)
  try dsimp only at hw
  have hI : wI s D A (fl (lX K q bits stops num unit strips caps draw oldest known ring im iold iknown iring hasIm letters tbits tlen tat fig shI shH shL shS seaOf queue snum cost heap wait off les gre abv blw needed ocut opole)) H locs := hI
  refine lv_if_ne (tgt := 12) hx hb dX10_drift_7 (by decide) (fun c2 => ?_) (fun c2 => ?_)
  · replace hw := hw.2 c2
    refine lv_iconst (v := (0 : Int32)) hx hb dX10_drift_12 (by decide) ?_
    refine lv_istore_n (lv' := [(2, .int (0 : Int32)), (0, .ref (q 0)), (1, .int a1)]) hx hb dX10_drift_13 rfl hl (by decide) rfl (fun ls hl => ?_)
    obtain ⟨I14, mu14, hw, hb14⟩ := hw
    have lp14 : ∀ (k : Nat) (l2_14 : Int32) (bits_14 : Nat → Int64) (draw_14 : Int32) (oldest_14 : Int32) (known_14 : Int32) (ring_14 : Nat → GS) (ls : Array Slot) (H : Heap) (locs : List Loc), mu14 l2_14 bits_14 draw_14 oldest_14 known_14 ring_14 < k → I14 l2_14 bits_14 draw_14 oldest_14 known_14 ring_14 → wI s D A (fl (lX K q bits_14 stops num unit strips caps draw_14 oldest_14 known_14 ring_14 im iold iknown iring hasIm letters tbits tlen tat fig shI shH shL shS seaOf queue snum cost heap wait off les gre abv blw needed ocut opole)) H locs → lv_has ls 3 [(0, .ref (q 0)), (1, .int a1), (2, .int l2_14)] → W p l e rmX10_drift s m args below meth c H locs 0 0 Q (F0 m 14 ls []) := by
      intro k
      induction k with
      | zero => intro l2_14 bits_14 draw_14 oldest_14 known_14 ring_14 ls H locs hmu; exact absurd hmu (Nat.not_lt_zero _)
      | succ k ih14 =>
        intro l2_14 bits_14 draw_14 oldest_14 known_14 ring_14 ls H locs hmu14 hw hI hl
        replace hw := hb14 l2_14 bits_14 draw_14 oldest_14 known_14 ring_14 hw
        refine lv_iload_n hx hb dX10_drift_14 rfl (lv_at hl 2 rfl) ?_
        refine lv_iload_n hx hb dX10_drift_15 rfl (lv_at hl 1 rfl) ?_
        refine lv_icmp_ge (tgt := 43) hx hb dX10_drift_16 (by decide) (fun c3 => ?_) (fun c3 => ?_)
        · replace hw := hw.1 c3
          refine lv_aload_n hx hb dX10_drift_43 rfl (lv_at hl 0 rfl) ?_
          refine x_get (v := .ref (q 1)) hC hI kX10_drift_cX10 0 rfl rfl 0 (by decide) kX10_drift_0 rfl rfl dX10_drift_44 ?_
          refine x_callVi (rest := []) hC hI [1] (mX0_landNumber l D K (fun i => q (1 + i)) _ bits_14 stops num unit strips caps draw_14 hw) (cwV 0 hts gX10_drift_X0_landNumber rfl rfl rfl (by decide +kernel) ⟨(Nat.le_of_ble_eq_true rfl), (Nat.le_of_ble_eq_true rfl)⟩) (by decide) rfl (fun _ => rfl) 1 0 rfl rfl rfl rfl hl.1 rfl (Nat.le_of_ble_eq_true rfl) dX10_drift_47 ⟨(Nat.le_of_ble_eq_true rfl), (Nat.le_of_ble_eq_true rfl)⟩ (fun r4 u H locs hw hI => ?_)
          try dsimp only at hw
          have hI : wI s D A (fl (lX K q bits_14 stops num unit strips caps draw_14 oldest_14 known_14 ring_14 im iold iknown iring hasIm letters tbits tlen tat fig shI shH shL shS seaOf queue snum cost heap wait off les gre abv blw needed ocut opole)) H locs := hI
          subst hQ
          exact x_iret (u := (bits_14, draw_14, oldest_14, known_14, ring_14)) hC hI hr hlk hw rfl dX10_drift_50
        · replace hw := hw.2 c3
          refine lv_aload_n hx hb dX10_drift_19 rfl (lv_at hl 0 rfl) ?_
          refine x_get (v := .ref (q 4)) hC hI kX10_drift_cX10 0 rfl rfl 1 (by decide) kX10_drift_2 rfl rfl dX10_drift_20 ?_
          refine lv_aload_n hx hb dX10_drift_23 rfl (lv_at hl 0 rfl) ?_
          refine x_get (v := .ref (q 1)) hC hI kX10_drift_cX10 0 rfl rfl 0 (by decide) kX10_drift_0 rfl rfl dX10_drift_24 ?_
          refine x_callVv (rest := []) hC hI [2, 3, 4, 5, 6, 7, 8, 1] (mX4_keep l D K (fun i => q (4 + i)) (fun i => q (1 + i)) _ oldest_14 known_14 ring_14 bits_14 stops num unit strips caps draw_14 hw) (cwV 1 hts gX10_drift_X4_keep rfl rfl rfl (by decide +kernel) ⟨(Nat.le_of_ble_eq_true rfl), (Nat.le_of_ble_eq_true rfl)⟩) (by decide) rfl (fun _ => rfl) 4 2 rfl rfl rfl rfl hl.1 rfl (Nat.le_of_ble_eq_true rfl) dX10_drift_27 ⟨(Nat.le_of_ble_eq_true rfl), (Nat.le_of_ble_eq_true rfl)⟩ (fun u H locs hw hI => ?_)
          obtain ⟨oldest_c5, known_c6, ring_c7⟩ := u
          try dsimp only at hw
          have hI : wI s D A (fl (lX K q bits_14 stops num unit strips caps draw_14 oldest_c5 known_c6 ring_c7 im iold iknown iring hasIm letters tbits tlen tat fig shI shH shL shS seaOf queue snum cost heap wait off les gre abv blw needed ocut opole)) H locs := hI
          refine lv_aload_n hx hb dX10_drift_30 rfl (lv_at hl 0 rfl) ?_
          refine x_get (v := .ref (q 1)) hC hI kX10_drift_cX10 0 rfl rfl 0 (by decide) kX10_drift_0 rfl rfl dX10_drift_31 ?_
          refine x_callVv (rest := []) hC hI [1] (mX0_driftOnce l D K (fun i => q (1 + i)) _ bits_14 stops num unit strips caps draw_14 hw) (cwV 0 hts gX10_drift_X0_driftOnce rfl rfl rfl (by decide +kernel) ⟨(Nat.le_of_ble_eq_true rfl), (Nat.le_of_ble_eq_true rfl)⟩) (by decide) rfl (fun _ => rfl) 1 0 rfl rfl rfl rfl hl.1 rfl (Nat.le_of_ble_eq_true rfl) dX10_drift_34 ⟨(Nat.le_of_ble_eq_true rfl), (Nat.le_of_ble_eq_true rfl)⟩ (fun u H locs hw hI => ?_)
          obtain ⟨bits_c8, draw_c9⟩ := u
          try dsimp only at hw
          have hI : wI s D A (fl (lX K q bits_c8 stops num unit strips caps draw_c9 oldest_c5 known_c6 ring_c7 im iold iknown iring hasIm letters tbits tlen tat fig shI shH shL shS seaOf queue snum cost heap wait off les gre abv blw needed ocut opole)) H locs := hI
          obtain ⟨x10, ex10⟩ : ∃ y : Int32, y = l2_14 + 1 := ⟨_, rfl⟩
          replace hw := hw x10 ex10
          refine lv_iinc (v := x10) (lv' := [(2, .int x10), (0, .ref (q 0)), (1, .int a1)]) hx hb dX10_drift_37 hl (k := 2) rfl (by rw [ex10]; rfl) (by decide) rfl (fun ls hl => ?_)
          refine lv_goto (tgt := 14) hx hb dX10_drift_40 (by decide) ?_
          exact ih14 x10 bits_c8 draw_c9 oldest_c5 known_c6 ring_c7 ls H locs (Nat.lt_of_lt_of_le hw.2 (Nat.le_of_lt_succ hmu14)) hw.1 hI (lv_sub hl [1, 2, 0] rfl)
    exact lp14 (mu14 (0 : Int32) bits draw oldest known ring + 1) (0 : Int32) bits draw oldest known ring ls H locs (Nat.lt_succ_self _) hw hI (lv_sub hl [1, 2, 0] rfl)
  · replace hw := hw.1 c2
    refine lv_iconst (v := (-1 : Int32)) hx hb dX10_drift_10 (by decide) ?_
    subst hQ
    exact x_iret (u := (bits, draw, oldest, known, ring)) hC hI hr hlk hw rfl dX10_drift_11
