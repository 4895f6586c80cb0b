def wX5_fill (a1 : Int32) (a2 : Int32) (seaOf : Nat → Int32) (queue : Nat → Int32) (post : (Nat → Int32) → (Nat → Int32) → Prop) : Prop := vp_in a1 266 ∧ (∃ (I19 : Int32 → Int32 → (Nat → Int32) → (Nat → Int32) → Prop) (mu19 : Int32 → Int32 → (Nat → Int32) → (Nat → Int32) → Nat), I19 (1 : Int32) (0 : Int32) (upd seaOf a1.toNatClampNeg a2) (upd queue 0 a1) ∧ ∀ (l3_19 : Int32) (l4_19 : Int32) (seaOf_19 : Nat → Int32) (queue_19 : Nat → Int32), I19 l3_19 l4_19 seaOf_19 queue_19 → ((l3_19 ≤ l4_19 → post seaOf_19 queue_19) ∧ (¬ l3_19 ≤ l4_19 → (((266 : Int32) ≤ l4_19 → post seaOf_19 queue_19) ∧ (¬ (266 : Int32) ≤ l4_19 → vp_in l4_19 266 ∧ ∀ x5 : Int32, x5 = queue_19 l4_19.toNatClampNeg → (∃ (I45 : Int32 → Int32 → (Nat → Int32) → (Nat → Int32) → Prop) (mu45 : Int32 → Int32 → (Nat → Int32) → (Nat → Int32) → Nat), I45 l3_19 (0 : Int32) seaOf_19 queue_19 ∧ ∀ (l3_45 : Int32) (l6_45 : Int32) (seaOf_45 : Nat → Int32) (queue_45 : Nat → Int32), I45 l3_45 l6_45 seaOf_45 queue_45 → wX1_neighbourNumber x5 (fun (r6 : Int32) => ((r6 ≤ l6_45 → ∀ x8 : Int32, x8 = l4_19 + 1 → (I19 l3_45 x8 seaOf_45 queue_45 ∧ mu19 l3_45 x8 seaOf_45 queue_45 < mu19 l3_19 l4_19 seaOf_19 queue_19)) ∧ (¬ r6 ≤ l6_45 → wX1_neighbour x5 l6_45 (fun (r9 : Int32) => vp_in r9 266 ∧ (((seaOf_45 r9.toNatClampNeg) = (-1 : Int32) → (((266 : Int32) ≤ l3_45 → ∀ x14 : Int32, x14 = l6_45 + 1 → (I45 l3_45 x14 seaOf_45 queue_45 ∧ mu45 l3_45 x14 seaOf_45 queue_45 < mu45 l3_45 l6_45 seaOf_45 queue_45)) ∧ (¬ (266 : Int32) ≤ l3_45 → vp_in r9 266 ∧ vp_in l3_45 266 ∧ ∀ x17 : Int32, x17 = l3_45 + 1 → ∀ x18 : Int32, x18 = l6_45 + 1 → (I45 x17 x18 (upd seaOf_45 r9.toNatClampNeg a2) (upd queue_45 l3_45.toNatClampNeg r9) ∧ mu45 x17 x18 (upd seaOf_45 r9.toNatClampNeg a2) (upd queue_45 l3_45.toNatClampNeg r9) < mu45 l3_45 l6_45 seaOf_45 queue_45)))) ∧ (¬ (seaOf_45 r9.toNatClampNeg) = (-1 : Int32) → ∀ x12 : Int32, x12 = l6_45 + 1 → (I45 l3_45 x12 seaOf_45 queue_45 ∧ mu45 l3_45 x12 seaOf_45 queue_45 < mu45 l3_45 l6_45 seaOf_45 queue_45)))))))))))))
def rmX5_fill : Room := { frames := 3, cells := 0, slots := 0, locals := 62 }
theorem kX5_fill_0 : Cond.fieldLink RX5 17 "GoreGlobe$Seas" "queue" "[I" ∈ wsX5_fill := List.mem_cons_of_mem _ (List.mem_append_left _ (List.mem_of_getElem? (i := 0) rfl))
theorem kX5_fill_cX5 : ∀ w ∈ wsX50, w ∈ wsX5_fill := fun _ h => List.mem_cons_of_mem _ (List.mem_append_right _ h)
theorem kX5_fill_2 : Cond.fieldLink RX5 11 "GoreGlobe$Seas" "seaOf" "[I" ∈ wsX5_fill := List.mem_cons_of_mem _ (List.mem_append_left _ (List.mem_of_getElem? (i := 1) rfl))
set_option maxHeartbeats 4000000 in
set_option maxRecDepth 100000 in
theorem mX5_fill (l : Launch) (D : va_G) (K : Nat → ClassId) (h : Nat → Nat) (sz : Nat) (a1 : Int32) (a2 : Int32) (seaOf : Nat → Int32) (queue : Nat → Int32) (snum : Int32)  {post : (Nat → Int32) → (Nat → Int32) → Prop} (hw : wX5_fill a1 a2 seaOf queue post) : Met l yX5_fill wsX5_fill rmX5_fill (va_Pc [.ref (h 0), .int a1, .int a2] (cP D K (fl [wSe K h seaOf queue snum]) sz)) (va_Qv (fun (u : (Nat → Int32) × (Nat → Int32)) => post u.1 u.2) (fun u t => cQ D K (fl [wSe K h u.1 u.2 snum]) (va_A (fl [wSe K h seaOf queue snum]) sz) t) (va_A (fl [wSe K h seaOf queue snum]) sz)) 0 0 (va_A (fl [wSe K h seaOf queue snum]) sz) := by
  refine x_entry (cc := cX5_fill) (maxL := 8) (ret := none) (QA := fun A => va_Qv (fun (u : (Nat → Int32) × (Nat → Int32)) => post u.1 u.2) (fun u t => cQ D K (fl [wSe K h u.1 u.2 snum]) A t) A) (plainFor_of_name (by decide)) rfl (Nat.le_of_ble_eq_true rfl) ?_
  intro p e s m args below meth c A ls H Q hQ hC hlk hr hnm hI hl
  obtain ⟨hx, hb, hml, hown, hts, hK, hA, hZ⟩ := id hC
  obtain ⟨locs, hlocs⟩ : ∃ y : List Loc, y = [] := ⟨_, rfl⟩
  rw [← hlocs] at hI ⊢
  clear hlocs
  replace hl : lv_has ls 8 [(0, .ref (h 0)), (1, .int a1), (2, .int a2)] := hl
  replace hw : vp_in a1 266 ∧ (∃ (I19 : Int32 → Int32 → (Nat → Int32) → (Nat → Int32) → Prop) (mu19 : Int32 → Int32 → (Nat → Int32) → (Nat → Int32) → Nat), I19 (1 : Int32) (0 : Int32) (upd seaOf a1.toNatClampNeg a2) (upd queue 0 a1) ∧ ∀ (l3_19 : Int32) (l4_19 : Int32) (seaOf_19 : Nat → Int32) (queue_19 : Nat → Int32), I19 l3_19 l4_19 seaOf_19 queue_19 → ((l3_19 ≤ l4_19 → post seaOf_19 queue_19) ∧ (¬ l3_19 ≤ l4_19 → (((266 : Int32) ≤ l4_19 → post seaOf_19 queue_19) ∧ (¬ (266 : Int32) ≤ l4_19 → vp_in l4_19 266 ∧ ∀ x5 : Int32, x5 = queue_19 l4_19.toNatClampNeg → (∃ (I45 : Int32 → Int32 → (Nat → Int32) → (Nat → Int32) → Prop) (mu45 : Int32 → Int32 → (Nat → Int32) → (Nat → Int32) → Nat), I45 l3_19 (0 : Int32) seaOf_19 queue_19 ∧ ∀ (l3_45 : Int32) (l6_45 : Int32) (seaOf_45 : Nat → Int32) (queue_45 : Nat → Int32), I45 l3_45 l6_45 seaOf_45 queue_45 → wX1_neighbourNumber x5 (fun (r6 : Int32) => ((r6 ≤ l6_45 → ∀ x8 : Int32, x8 = l4_19 + 1 → (I19 l3_45 x8 seaOf_45 queue_45 ∧ mu19 l3_45 x8 seaOf_45 queue_45 < mu19 l3_19 l4_19 seaOf_19 queue_19)) ∧ (¬ r6 ≤ l6_45 → wX1_neighbour x5 l6_45 (fun (r9 : Int32) => vp_in r9 266 ∧ (((seaOf_45 r9.toNatClampNeg) = (-1 : Int32) → (((266 : Int32) ≤ l3_45 → ∀ x14 : Int32, x14 = l6_45 + 1 → (I45 l3_45 x14 seaOf_45 queue_45 ∧ mu45 l3_45 x14 seaOf_45 queue_45 < mu45 l3_45 l6_45 seaOf_45 queue_45)) ∧ (¬ (266 : Int32) ≤ l3_45 → vp_in r9 266 ∧ vp_in l3_45 266 ∧ ∀ x17 : Int32, x17 = l3_45 + 1 → ∀ x18 : Int32, x18 = l6_45 + 1 → (I45 x17 x18 (upd seaOf_45 r9.toNatClampNeg a2) (upd queue_45 l3_45.toNatClampNeg r9) ∧ mu45 x17 x18 (upd seaOf_45 r9.toNatClampNeg a2) (upd queue_45 l3_45.toNatClampNeg r9) < mu45 l3_45 l6_45 seaOf_45 queue_45)))) ∧ (¬ (seaOf_45 r9.toNatClampNeg) = (-1 : Int32) → ∀ x12 : Int32, x12 = l6_45 + 1 → (I45 l3_45 x12 seaOf_45 queue_45 ∧ mu45 l3_45 x12 seaOf_45 queue_45 < mu45 l3_45 l6_45 seaOf_45 queue_45))))))))))))) := hw
  refine lv_iconst (v := (1 : Int32)) hx hb dX5_fill_0 (by decide) ?_
  refine lv_istore_n (lv' := [(3, .int (1 : Int32)), (0, .ref (h 0)), (1, .int a1), (2, .int a2)]) hx hb dX5_fill_1 rfl hl (by decide) rfl (fun ls hl => ?_)
  refine lv_aload_n hx hb dX5_fill_2 rfl (lv_at hl 1 rfl) ?_
  refine x_get (v := .ref (h 2)) hC hI kX5_fill_cX5 0 rfl rfl 1 (by decide) kX5_fill_0 rfl rfl dX5_fill_3 ?_
  refine lv_iconst (v := (0 : Int32)) hx hb dX5_fill_6 (by decide) ?_
  refine lv_iload_n hx hb dX5_fill_7 rfl (lv_at hl 2 rfl) ?_
  refine x_iast (f := queue) hC hI 2 rfl (by unfold vp_in; decide) dX5_fill_8 (fun H locs hI => ?_)
  have hI : wI s D A (fl [wSe K h seaOf (upd queue 0 a1) snum]) H locs := hI
  refine lv_aload_n hx hb dX5_fill_9 rfl (lv_at hl 1 rfl) ?_
  refine x_get (v := .ref (h 1)) hC hI kX5_fill_cX5 0 rfl rfl 0 (by decide) kX5_fill_2 rfl rfl dX5_fill_10 ?_
  refine lv_iload_n hx hb dX5_fill_13 rfl (lv_at hl 2 rfl) ?_
  refine lv_iload_n hx hb dX5_fill_14 rfl (lv_at hl 3 rfl) ?_
  obtain ⟨hc1, hw⟩ := hw
  refine x_iast (f := seaOf) hC hI 1 rfl hc1 dX5_fill_15 (fun H locs hI => ?_)
  have hI : wI s D A (fl [wSe K h (upd seaOf a1.toNatClampNeg a2) (upd queue 0 a1) snum]) H locs := hI
  refine lv_iconst (v := (0 : Int32)) hx hb dX5_fill_16 (by decide) ?_
  refine lv_istore (lv' := [(4, .int (0 : Int32)), (3, .int (1 : Int32)), (0, .ref (h 0)), (1, .int a1), (2, .int a2)]) hx hb dX5_fill_17 hl (by decide) rfl (fun ls hl => ?_)
  obtain ⟨I19, mu19, hw, hb19⟩ := hw
  have lp19 : ∀ (k : Nat) (l3_19 : Int32) (l4_19 : Int32) (seaOf_19 : Nat → Int32) (queue_19 : Nat → Int32) (ls : Array Slot) (H : Heap) (locs : List Loc), mu19 l3_19 l4_19 seaOf_19 queue_19 < k → I19 l3_19 l4_19 seaOf_19 queue_19 → wI s D A (fl [wSe K h seaOf_19 queue_19 snum]) H locs → lv_has ls 8 [(0, .ref (h 0)), (2, .int a2), (3, .int l3_19), (4, .int l4_19)] → W p l e rmX5_fill s m args below meth c H locs 0 0 Q (F0 m 19 ls []) := by
    intro k
    induction k with
    | zero => intro l3_19 l4_19 seaOf_19 queue_19 ls H locs hmu; exact absurd hmu (Nat.not_lt_zero _)
    | succ k ih19 =>
      intro l3_19 l4_19 seaOf_19 queue_19 ls H locs hmu19 hw hI hl
      replace hw := hb19 l3_19 l4_19 seaOf_19 queue_19 hw
      refine lv_iload hx hb dX5_fill_19 (lv_at hl 3 rfl) ?_
      refine lv_iload_n hx hb dX5_fill_21 rfl (lv_at hl 2 rfl) ?_
      refine lv_icmp_ge (tgt := 113) hx hb dX5_fill_22 (by decide) (fun c2 => ?_) (fun c2 => ?_)
      · replace hw := hw.1 c2
        subst hQ
        exact x_vret (u := (seaOf_19, queue_19)) hC hI hr hlk hw rfl dX5_fill_113
      · replace hw := hw.2 c2
        refine lv_iload hx hb dX5_fill_25 (lv_at hl 3 rfl) ?_
        refine lv_sipush (v := (266 : Int32)) hx hb dX5_fill_27 (by decide) ?_
        refine lv_icmp_ge (tgt := 113) hx hb dX5_fill_30 (by decide) (fun c3 => ?_) (fun c3 => ?_)
        · replace hw := hw.1 c3
          subst hQ
          exact x_vret (u := (seaOf_19, queue_19)) hC hI hr hlk hw rfl dX5_fill_113
        · replace hw := hw.2 c3
          refine lv_aload_n hx hb dX5_fill_33 rfl (lv_at hl 0 rfl) ?_
          refine x_get (v := .ref (h 2)) hC hI kX5_fill_cX5 0 rfl rfl 1 (by decide) kX5_fill_0 rfl rfl dX5_fill_34 ?_
          refine lv_iload hx hb dX5_fill_37 (lv_at hl 3 rfl) ?_
          obtain ⟨hc4, hw⟩ := hw
          refine x_iald (f := queue_19) hC hI 2 rfl hc4 dX5_fill_39 ?_
          refine lv_topi (fun x5 ex5 => ?_)
          replace hw := hw x5 ex5
          refine lv_istore (lv' := [(5, .int x5), (0, .ref (h 0)), (2, .int a2), (3, .int l3_19), (4, .int l4_19)]) hx hb dX5_fill_40 hl (by decide) rfl (fun ls hl => ?_)
          refine lv_iconst (v := (0 : Int32)) hx hb dX5_fill_42 (by decide) ?_
          refine lv_istore (lv' := [(6, .int (0 : Int32)), (5, .int x5), (0, .ref (h 0)), (2, .int a2), (3, .int l3_19), (4, .int l4_19)]) hx hb dX5_fill_43 hl (by decide) rfl (fun ls hl => ?_)
          obtain ⟨I45, mu45, hw, hb45⟩ := hw
          have lp45 : ∀ (k : Nat) (l3_45 : Int32) (l6_45 : Int32) (seaOf_45 : Nat → Int32) (queue_45 : Nat → Int32) (ls : Array Slot) (H : Heap) (locs : List Loc), mu45 l3_45 l6_45 seaOf_45 queue_45 < k → I45 l3_45 l6_45 seaOf_45 queue_45 → wI s D A (fl [wSe K h seaOf_45 queue_45 snum]) H locs → lv_has ls 8 [(0, .ref (h 0)), (2, .int a2), (3, .int l3_45), (4, .int l4_19), (5, .int x5), (6, .int l6_45)] → W p l e rmX5_fill s m args below meth c H locs 0 0 Q (F0 m 45 ls []) := by
            intro k
            induction k with
            | zero => intro l3_45 l6_45 seaOf_45 queue_45 ls H locs hmu; exact absurd hmu (Nat.not_lt_zero _)
            | succ k ih45 =>
              intro l3_45 l6_45 seaOf_45 queue_45 ls H locs hmu45 hw hI hl
              replace hw := hb45 l3_45 l6_45 seaOf_45 queue_45 hw
              refine lv_iload hx hb dX5_fill_45 (lv_at hl 5 rfl) ?_
              refine lv_iload hx hb dX5_fill_47 (lv_at hl 4 rfl) ?_
              refine x_callSi (rest := [.int l6_45]) hC hI [] (mX1_neighbourNumber l D K  _ x5 hw) (va_cwS 1 hts gX5_fill_X1_neighbourNumber rfl rfl rfl (by decide +kernel) ⟨(Nat.le_of_ble_eq_true rfl), (Nat.le_of_ble_eq_true rfl)⟩) (by decide) rfl (fun _ => rfl) rfl hl.1 rfl (Nat.le_of_ble_eq_true rfl) dX5_fill_49 ⟨(Nat.le_of_ble_eq_true rfl), (Nat.le_of_ble_eq_true rfl)⟩ (fun r6 u H locs hw hI => ?_)
              try dsimp only at hw
              have hI : wI s D A (fl [wSe K h seaOf_45 queue_45 snum]) H locs := hI
              refine lv_icmp_ge (tgt := 107) hx hb dX5_fill_52 (by decide) (fun c7 => ?_) (fun c7 => ?_)
              · replace hw := hw.1 c7
                obtain ⟨x8, ex8⟩ : ∃ y : Int32, y = l4_19 + 1 := ⟨_, rfl⟩
                replace hw := hw x8 ex8
                refine lv_iinc (v := x8) (lv' := [(4, .int x8), (0, .ref (h 0)), (2, .int a2), (3, .int l3_45), (5, .int x5), (6, .int l6_45)]) hx hb dX5_fill_107 hl (k := 3) rfl (by rw [ex8]; rfl) (by decide) rfl (fun ls hl => ?_)
                refine lv_goto (tgt := 19) hx hb dX5_fill_110 (by decide) ?_
                exact ih19 l3_45 x8 seaOf_45 queue_45 ls H locs (Nat.lt_of_lt_of_le hw.2 (Nat.le_of_lt_succ hmu19)) hw.1 hI (lv_sub hl [1, 2, 3, 0] rfl)
              · replace hw := hw.2 c7
                refine lv_iload hx hb dX5_fill_55 (lv_at hl 4 rfl) ?_
                refine lv_iload hx hb dX5_fill_57 (lv_at hl 5 rfl) ?_
                refine x_callSi (rest := []) hC hI [] (mX1_neighbour l D K  _ x5 l6_45 hw) (va_cwS 2 hts gX5_fill_X1_neighbour rfl rfl rfl (by decide +kernel) ⟨(Nat.le_of_ble_eq_true rfl), (Nat.le_of_ble_eq_true rfl)⟩) (by decide) rfl (fun _ => rfl) rfl hl.1 rfl (Nat.le_of_ble_eq_true rfl) dX5_fill_59 ⟨(Nat.le_of_ble_eq_true rfl), (Nat.le_of_ble_eq_true rfl)⟩ (fun r9 u H locs hw hI => ?_)
                try dsimp only at hw
                have hI : wI s D A (fl [wSe K h seaOf_45 queue_45 snum]) H locs := hI
                refine lv_istore (lv' := [(7, .int r9), (0, .ref (h 0)), (2, .int a2), (3, .int l3_45), (4, .int l4_19), (5, .int x5), (6, .int l6_45)]) hx hb dX5_fill_62 hl (by decide) rfl (fun ls hl => ?_)
                refine lv_aload_n hx hb dX5_fill_64 rfl (lv_at hl 1 rfl) ?_
                refine x_get (v := .ref (h 1)) hC hI kX5_fill_cX5 0 rfl rfl 0 (by decide) kX5_fill_2 rfl rfl dX5_fill_65 ?_
                refine lv_iload hx hb dX5_fill_68 (lv_at hl 0 rfl) ?_
                obtain ⟨hc10, hw⟩ := hw
                refine x_iald (f := seaOf_45) hC hI 1 rfl hc10 dX5_fill_70 ?_
                refine lv_iconst (v := (-1 : Int32)) hx hb dX5_fill_71 (by decide) ?_
                refine lv_icmp_ne (tgt := 101) hx hb dX5_fill_72 (by decide) (fun c11 => ?_) (fun c11 => ?_)
                · replace hw := hw.2 c11
                  obtain ⟨x12, ex12⟩ : ∃ y : Int32, y = l6_45 + 1 := ⟨_, rfl⟩
                  replace hw := hw x12 ex12
                  refine lv_iinc (v := x12) (lv' := [(6, .int x12), (7, .int r9), (0, .ref (h 0)), (2, .int a2), (3, .int l3_45), (4, .int l4_19), (5, .int x5)]) hx hb dX5_fill_101 hl (k := 6) rfl (by rw [ex12]; rfl) (by decide) rfl (fun ls hl => ?_)
                  refine lv_goto (tgt := 45) hx hb dX5_fill_104 (by decide) ?_
                  exact ih45 l3_45 x12 seaOf_45 queue_45 ls H locs (Nat.lt_of_lt_of_le hw.2 (Nat.le_of_lt_succ hmu45)) hw.1 hI (lv_sub hl [2, 3, 4, 5, 6, 0] rfl)
                · replace hw := hw.1 c11
                  refine lv_iload_n hx hb dX5_fill_75 rfl (lv_at hl 3 rfl) ?_
                  refine lv_sipush (v := (266 : Int32)) hx hb dX5_fill_76 (by decide) ?_
                  refine lv_icmp_ge (tgt := 101) hx hb dX5_fill_79 (by decide) (fun c13 => ?_) (fun c13 => ?_)
                  · replace hw := hw.1 c13
                    obtain ⟨x14, ex14⟩ : ∃ y : Int32, y = l6_45 + 1 := ⟨_, rfl⟩
                    replace hw := hw x14 ex14
                    refine lv_iinc (v := x14) (lv' := [(6, .int x14), (7, .int r9), (0, .ref (h 0)), (2, .int a2), (3, .int l3_45), (4, .int l4_19), (5, .int x5)]) hx hb dX5_fill_101 hl (k := 6) rfl (by rw [ex14]; rfl) (by decide) rfl (fun ls hl => ?_)
                    refine lv_goto (tgt := 45) hx hb dX5_fill_104 (by decide) ?_
                    exact ih45 l3_45 x14 seaOf_45 queue_45 ls H locs (Nat.lt_of_lt_of_le hw.2 (Nat.le_of_lt_succ hmu45)) hw.1 hI (lv_sub hl [2, 3, 4, 5, 6, 0] rfl)
                  · replace hw := hw.2 c13
                    refine lv_aload_n hx hb dX5_fill_82 rfl (lv_at hl 1 rfl) ?_
                    refine x_get (v := .ref (h 1)) hC hI kX5_fill_cX5 0 rfl rfl 0 (by decide) kX5_fill_2 rfl rfl dX5_fill_83 ?_
                    refine lv_iload hx hb dX5_fill_86 (lv_at hl 0 rfl) ?_
                    refine lv_iload_n hx hb dX5_fill_88 rfl (lv_at hl 2 rfl) ?_
                    obtain ⟨hc15, hw⟩ := hw
                    refine x_iast (f := seaOf_45) hC hI 1 rfl hc15 dX5_fill_89 (fun H locs hI => ?_)
                    have hI : wI s D A (fl [wSe K h (upd seaOf_45 r9.toNatClampNeg a2) queue_45 snum]) H locs := hI
                    refine lv_aload_n hx hb dX5_fill_90 rfl (lv_at hl 1 rfl) ?_
                    refine x_get (v := .ref (h 2)) hC hI kX5_fill_cX5 0 rfl rfl 1 (by decide) kX5_fill_0 rfl rfl dX5_fill_91 ?_
                    refine lv_iload_n hx hb dX5_fill_94 rfl (lv_at hl 3 rfl) ?_
                    refine lv_iload hx hb dX5_fill_95 (lv_at hl 0 rfl) ?_
                    obtain ⟨hc16, hw⟩ := hw
                    refine x_iast (f := queue_45) hC hI 2 rfl hc16 dX5_fill_97 (fun H locs hI => ?_)
                    have hI : wI s D A (fl [wSe K h (upd seaOf_45 r9.toNatClampNeg a2) (upd queue_45 l3_45.toNatClampNeg r9) snum]) H locs := hI
                    obtain ⟨x17, ex17⟩ : ∃ y : Int32, y = l3_45 + 1 := ⟨_, rfl⟩
                    replace hw := hw x17 ex17
                    refine lv_iinc (v := x17) (lv' := [(3, .int x17), (7, .int r9), (0, .ref (h 0)), (2, .int a2), (4, .int l4_19), (5, .int x5), (6, .int l6_45)]) hx hb dX5_fill_98 hl (k := 3) rfl (by rw [ex17]; rfl) (by decide) rfl (fun ls hl => ?_)
                    obtain ⟨x18, ex18⟩ : ∃ y : Int32, y = l6_45 + 1 := ⟨_, rfl⟩
                    replace hw := hw x18 ex18
                    refine lv_iinc (v := x18) (lv' := [(6, .int x18), (3, .int x17), (7, .int r9), (0, .ref (h 0)), (2, .int a2), (4, .int l4_19), (5, .int x5)]) hx hb dX5_fill_101 hl (k := 6) rfl (by rw [ex18]; rfl) (by decide) rfl (fun ls hl => ?_)
                    refine lv_goto (tgt := 45) hx hb dX5_fill_104 (by decide) ?_
                    exact ih45 x17 x18 (upd seaOf_45 r9.toNatClampNeg a2) (upd queue_45 l3_45.toNatClampNeg r9) ls H locs (Nat.lt_of_lt_of_le hw.2 (Nat.le_of_lt_succ hmu45)) hw.1 hI (lv_sub hl [3, 4, 1, 5, 6, 0] rfl)
          exact lp45 (mu45 l3_19 (0 : Int32) seaOf_19 queue_19 + 1) l3_19 (0 : Int32) seaOf_19 queue_19 ls H locs (Nat.lt_succ_self _) hw hI (lv_sub hl [2, 3, 4, 5, 1, 0] rfl)
  exact lp19 (mu19 (1 : Int32) (0 : Int32) (upd seaOf a1.toNatClampNeg a2) (upd queue 0 a1) + 1) (1 : Int32) (0 : Int32) (upd seaOf a1.toNatClampNeg a2) (upd queue 0 a1) ls H locs (Nat.lt_succ_self _) hw hI (lv_sub hl [2, 4, 1, 0] rfl)

def wX5_chart  (seaOf : Nat → Int32) (queue : Nat → Int32) (bits : Nat → Int64) (post : (Nat → Int32) → (Nat → Int32) → Int32 → Prop) : Prop := (∃ (I2 : Int32 → (Nat → Int32) → Prop) (mu2 : Int32 → (Nat → Int32) → Nat), I2 (0 : Int32) seaOf ∧ ∀ (l2_2 : Int32) (seaOf_2 : Nat → Int32), I2 l2_2 seaOf_2 → (((266 : Int32) ≤ l2_2 → (∃ (I42 : Int32 → (Nat → Int32) → (Nat → Int32) → Int32 → Prop) (mu42 : Int32 → (Nat → Int32) → (Nat → Int32) → Int32 → Nat), I42 (0 : Int32) seaOf_2 queue (0 : Int32) ∧ ∀ (l2_42 : Int32) (seaOf_42 : Nat → Int32) (queue_42 : Nat → Int32) (snum_42 : Int32), I42 l2_42 seaOf_42 queue_42 snum_42 → (((266 : Int32) ≤ l2_42 → post seaOf_42 queue_42 snum_42) ∧ (¬ (266 : Int32) ≤ l2_42 → vp_in l2_42 266 ∧ (((seaOf_42 l2_42.toNatClampNeg) = (-1 : Int32) → wX5_fill l2_42 snum_42 seaOf_42 queue_42 (fun (seaOf_c6 : Nat → Int32) (queue_c7 : Nat → Int32) => ∀ x8 : Int32, x8 = snum_42 + (1 : Int32) → ∀ x9 : Int32, x9 = l2_42 + 1 → (I42 x9 seaOf_c6 queue_c7 x8 ∧ mu42 x9 seaOf_c6 queue_c7 x8 < mu42 l2_42 seaOf_42 queue_42 snum_42))) ∧ (¬ (seaOf_42 l2_42.toNatClampNeg) = (-1 : Int32) → ∀ x5 : Int32, x5 = l2_42 + 1 → (I42 x5 seaOf_42 queue_42 snum_42 ∧ mu42 x5 seaOf_42 queue_42 snum_42 < mu42 l2_42 seaOf_42 queue_42 snum_42))))))) ∧ (¬ (266 : Int32) ≤ l2_2 → wX0_isLand l2_2 bits (fun (r10 : Int32) => ((r10 = 0 → vp_in l2_2 266 ∧ ∀ x13 : Int32, x13 = l2_2 + 1 → (I2 x13 (upd seaOf_2 l2_2.toNatClampNeg (-1 : Int32)) ∧ mu2 x13 (upd seaOf_2 l2_2.toNatClampNeg (-1 : Int32)) < mu2 l2_2 seaOf_2)) ∧ (¬ r10 = 0 → vp_in l2_2 266 ∧ ∀ x15 : Int32, x15 = l2_2 + 1 → (I2 x15 (upd seaOf_2 l2_2.toNatClampNeg (-4 : Int32)) ∧ mu2 x15 (upd seaOf_2 l2_2.toNatClampNeg (-4 : Int32)) < mu2 l2_2 seaOf_2)))))))
def rmX5_chart : Room := { frames := 4, cells := 0, slots := 0, locals := 89 }
theorem kX5_chart_0 : Cond.fieldLink RX5 26 "GoreGlobe$Seas" "number" "I" ∈ wsX5_chart := List.mem_cons_of_mem _ (List.mem_append_left _ (List.mem_append_left _ (List.mem_append_left _ (List.mem_of_getElem? (i := 1) rfl))))
theorem kX5_chart_cX5 : ∀ w ∈ wsX50, w ∈ wsX5_chart := fun _ h => List.mem_cons_of_mem _ (List.mem_append_left _ (List.mem_append_right _ h))
theorem kX5_chart_2 : Cond.fieldLink RX5 11 "GoreGlobe$Seas" "seaOf" "[I" ∈ wsX5_chart := List.mem_cons_of_mem _ (List.mem_append_left _ (List.mem_append_left _ (List.mem_append_left _ (List.mem_of_getElem? (i := 0) rfl))))
set_option maxHeartbeats 4000000 in
set_option maxRecDepth 100000 in
theorem mX5_chart (l : Launch) (D : va_G) (K : Nat → ClassId) (h0 : Nat → Nat) (h1 : Nat → Nat) (sz : Nat)  (seaOf : Nat → Int32) (queue : Nat → Int32) (snum : Int32) (bits : Nat → Int64) (stops : Nat → Int32) (num : Int32) (unit : Int32) (strips : Int32) (caps : Int32) (draw : Int32)  {post : (Nat → Int32) → (Nat → Int32) → Int32 → Prop} (hw : wX5_chart  seaOf queue bits post) : Met l yX5_chart wsX5_chart rmX5_chart (va_Pc [.ref (h0 0), .ref (h1 0)] (cP D K (fl [wSe K h0 seaOf queue snum, wGl K h1 (bits, stops, num, unit, strips, caps, draw)]) sz)) (va_Qv (fun (u : (Nat → Int32) × (Nat → Int32) × Int32) => post u.1 u.2.1 u.2.2) (fun u t => cQ D K (fl [wSe K h0 u.1 u.2.1 u.2.2, wGl K h1 (bits, stops, num, unit, strips, caps, draw)]) (va_A (fl [wSe K h0 seaOf queue snum, wGl K h1 (bits, stops, num, unit, strips, caps, draw)]) sz) t) (va_A (fl [wSe K h0 seaOf queue snum, wGl K h1 (bits, stops, num, unit, strips, caps, draw)]) sz)) 0 0 (va_A (fl [wSe K h0 seaOf queue snum, wGl K h1 (bits, stops, num, unit, strips, caps, draw)]) sz) := by
  refine x_entry (cc := cX5_chart) (maxL := 3) (ret := none) (QA := fun A => va_Qv (fun (u : (Nat → Int32) × (Nat → Int32) × Int32) => post u.1 u.2.1 u.2.2) (fun u t => cQ D K (fl [wSe K h0 u.1 u.2.1 u.2.2, wGl K h1 (bits, stops, num, unit, strips, caps, draw)]) A t) A) (plainFor_of_name (by decide)) rfl (Nat.le_of_ble_eq_true rfl) ?_
  intro p e s m args below meth c A ls H Q hQ hC hlk hr hnm hI hl
  obtain ⟨hx, hb, hml, hown, hts, hK, hA, hZ⟩ := id hC
  obtain ⟨locs, hlocs⟩ : ∃ y : List Loc, y = [] := ⟨_, rfl⟩
  rw [← hlocs] at hI ⊢
  clear hlocs
  replace hl : lv_has ls 3 [(0, .ref (h0 0)), (1, .ref (h1 0))] := hl
  replace hw : (∃ (I2 : Int32 → (Nat → Int32) → Prop) (mu2 : Int32 → (Nat → Int32) → Nat), I2 (0 : Int32) seaOf ∧ ∀ (l2_2 : Int32) (seaOf_2 : Nat → Int32), I2 l2_2 seaOf_2 → (((266 : Int32) ≤ l2_2 → (∃ (I42 : Int32 → (Nat → Int32) → (Nat → Int32) → Int32 → Prop) (mu42 : Int32 → (Nat → Int32) → (Nat → Int32) → Int32 → Nat), I42 (0 : Int32) seaOf_2 queue (0 : Int32) ∧ ∀ (l2_42 : Int32) (seaOf_42 : Nat → Int32) (queue_42 : Nat → Int32) (snum_42 : Int32), I42 l2_42 seaOf_42 queue_42 snum_42 → (((266 : Int32) ≤ l2_42 → post seaOf_42 queue_42 snum_42) ∧ (¬ (266 : Int32) ≤ l2_42 → vp_in l2_42 266 ∧ (((seaOf_42 l2_42.toNatClampNeg) = (-1 : Int32) → wX5_fill l2_42 snum_42 seaOf_42 queue_42 (fun (seaOf_c6 : Nat → Int32) (queue_c7 : Nat → Int32) => ∀ x8 : Int32, x8 = snum_42 + (1 : Int32) → ∀ x9 : Int32, x9 = l2_42 + 1 → (I42 x9 seaOf_c6 queue_c7 x8 ∧ mu42 x9 seaOf_c6 queue_c7 x8 < mu42 l2_42 seaOf_42 queue_42 snum_42))) ∧ (¬ (seaOf_42 l2_42.toNatClampNeg) = (-1 : Int32) → ∀ x5 : Int32, x5 = l2_42 + 1 → (I42 x5 seaOf_42 queue_42 snum_42 ∧ mu42 x5 seaOf_42 queue_42 snum_42 < mu42 l2_42 seaOf_42 queue_42 snum_42))))))) ∧ (¬ (266 : Int32) ≤ l2_2 → wX0_isLand l2_2 bits (fun (r10 : Int32) => ((r10 = 0 → vp_in l2_2 266 ∧ ∀ x13 : Int32, x13 = l2_2 + 1 → (I2 x13 (upd seaOf_2 l2_2.toNatClampNeg (-1 : Int32)) ∧ mu2 x13 (upd seaOf_2 l2_2.toNatClampNeg (-1 : Int32)) < mu2 l2_2 seaOf_2)) ∧ (¬ r10 = 0 → vp_in l2_2 266 ∧ ∀ x15 : Int32, x15 = l2_2 + 1 → (I2 x15 (upd seaOf_2 l2_2.toNatClampNeg (-4 : Int32)) ∧ mu2 x15 (upd seaOf_2 l2_2.toNatClampNeg (-4 : Int32)) < mu2 l2_2 seaOf_2))))))) := hw
  refine lv_iconst (v := (0 : Int32)) hx hb dX5_chart_0 (by decide) ?_
  refine lv_istore_n (lv' := [(2, .int (0 : Int32)), (0, .ref (h0 0)), (1, .ref (h1 0))]) hx hb dX5_chart_1 rfl hl (by decide) rfl (fun ls hl => ?_)
  obtain ⟨I2, mu2, hw, hb2⟩ := hw
  have lp2 : ∀ (k : Nat) (l2_2 : Int32) (seaOf_2 : Nat → Int32) (ls : Array Slot) (H : Heap) (locs : List Loc), mu2 l2_2 seaOf_2 < k → I2 l2_2 seaOf_2 → wI s D A (fl [wSe K h0 seaOf_2 queue snum, wGl K h1 (bits, stops, num, unit, strips, caps, draw)]) H locs → lv_has ls 3 [(0, .ref (h0 0)), (1, .ref (h1 0)), (2, .int l2_2)] → W p l e rmX5_chart s m args below meth c H locs 0 0 Q (F0 m 2 ls []) := by
    intro k
    induction k with
    | zero => intro l2_2 seaOf_2 ls H locs hmu; exact absurd hmu (Nat.not_lt_zero _)
    | succ k ih2 =>
      intro l2_2 seaOf_2 ls H locs hmu2 hw hI hl
      replace hw := hb2 l2_2 seaOf_2 hw
      refine lv_iload_n hx hb dX5_chart_2 rfl (lv_at hl 2 rfl) ?_
      refine lv_sipush (v := (266 : Int32)) hx hb dX5_chart_3 (by decide) ?_
      refine lv_icmp_ge (tgt := 35) hx hb dX5_chart_6 (by decide) (fun c1 => ?_) (fun c1 => ?_)
      · replace hw := hw.1 c1
        refine lv_aload_n hx hb dX5_chart_35 rfl (lv_at hl 0 rfl) ?_
        refine lv_iconst (v := (0 : Int32)) hx hb dX5_chart_36 (by decide) ?_
        refine x_put (v := .int (0 : Int32)) hC hI kX5_chart_cX5 tyX5 tyX5_ok nmX5 0 rfl rfl 2 (by decide) kX5_chart_0 rfl rfl rfl rfl (Nat.le_of_ble_eq_true rfl) dX5_chart_37 (fun H locs hI => ?_)
        have hI : wI s D A (fl [wSe K h0 seaOf_2 queue (0 : Int32), wGl K h1 (bits, stops, num, unit, strips, caps, draw)]) H locs := hI
        refine lv_iconst (v := (0 : Int32)) hx hb dX5_chart_40 (by decide) ?_
        refine lv_istore_n (lv' := [(2, .int (0 : Int32)), (0, .ref (h0 0)), (1, .ref (h1 0))]) hx hb dX5_chart_41 rfl hl (by decide) rfl (fun ls hl => ?_)
        obtain ⟨I42, mu42, hw, hb42⟩ := hw
        have lp42 : ∀ (k : Nat) (l2_42 : Int32) (seaOf_42 : Nat → Int32) (queue_42 : Nat → Int32) (snum_42 : Int32) (ls : Array Slot) (H : Heap) (locs : List Loc), mu42 l2_42 seaOf_42 queue_42 snum_42 < k → I42 l2_42 seaOf_42 queue_42 snum_42 → wI s D A (fl [wSe K h0 seaOf_42 queue_42 snum_42, wGl K h1 (bits, stops, num, unit, strips, caps, draw)]) H locs → lv_has ls 3 [(0, .ref (h0 0)), (2, .int l2_42)] → W p l e rmX5_chart s m args below meth c H locs 0 0 Q (F0 m 42 ls []) := by
          intro k
          induction k with
          | zero => intro l2_42 seaOf_42 queue_42 snum_42 ls H locs hmu; exact absurd hmu (Nat.not_lt_zero _)
          | succ k ih42 =>
            intro l2_42 seaOf_42 queue_42 snum_42 ls H locs hmu42 hw hI hl
            replace hw := hb42 l2_42 seaOf_42 queue_42 snum_42 hw
            refine lv_iload_n hx hb dX5_chart_42 rfl (lv_at hl 1 rfl) ?_
            refine lv_sipush (v := (266 : Int32)) hx hb dX5_chart_43 (by decide) ?_
            refine lv_icmp_ge (tgt := 84) hx hb dX5_chart_46 (by decide) (fun c2 => ?_) (fun c2 => ?_)
            · replace hw := hw.1 c2
              subst hQ
              exact x_vret (u := (seaOf_42, queue_42, snum_42)) hC hI hr hlk hw rfl dX5_chart_84
            · replace hw := hw.2 c2
              refine lv_aload_n hx hb dX5_chart_49 rfl (lv_at hl 0 rfl) ?_
              refine x_get (v := .ref (h0 1)) hC hI kX5_chart_cX5 0 rfl rfl 0 (by decide) kX5_chart_2 rfl rfl dX5_chart_50 ?_
              refine lv_iload_n hx hb dX5_chart_53 rfl (lv_at hl 1 rfl) ?_
              obtain ⟨hc3, hw⟩ := hw
              refine x_iald (f := seaOf_42) hC hI 1 rfl hc3 dX5_chart_54 ?_
              refine lv_iconst (v := (-1 : Int32)) hx hb dX5_chart_55 (by decide) ?_
              refine lv_icmp_ne (tgt := 78) hx hb dX5_chart_56 (by decide) (fun c4 => ?_) (fun c4 => ?_)
              · replace hw := hw.2 c4
                obtain ⟨x5, ex5⟩ : ∃ y : Int32, y = l2_42 + 1 := ⟨_, rfl⟩
                replace hw := hw x5 ex5
                refine lv_iinc (v := x5) (lv' := [(2, .int x5), (0, .ref (h0 0))]) hx hb dX5_chart_78 hl (k := 1) rfl (by rw [ex5]; rfl) (by decide) rfl (fun ls hl => ?_)
                refine lv_goto (tgt := 42) hx hb dX5_chart_81 (by decide) ?_
                exact ih42 x5 seaOf_42 queue_42 snum_42 ls H locs (Nat.lt_of_lt_of_le hw.2 (Nat.le_of_lt_succ hmu42)) hw.1 hI (lv_sub hl [1, 0] rfl)
              · replace hw := hw.1 c4
                refine lv_aload_n hx hb dX5_chart_59 rfl (lv_at hl 0 rfl) ?_
                refine lv_iload_n hx hb dX5_chart_60 rfl (lv_at hl 1 rfl) ?_
                refine lv_aload_n hx hb dX5_chart_61 rfl (lv_at hl 0 rfl) ?_
                refine x_get (v := .int snum_42) hC hI kX5_chart_cX5 0 rfl rfl 2 (by decide) kX5_chart_0 rfl rfl dX5_chart_62 ?_
                refine x_callVv (rest := []) hC hI [0] (mX5_fill l D K h0 _ l2_42 snum_42 seaOf_42 queue_42 snum_42 hw) (cwV 2 hts gX5_chart_X5_fill rfl rfl rfl (by decide +kernel) ⟨(Nat.le_of_ble_eq_true rfl), (Nat.le_of_ble_eq_true rfl)⟩) (by decide) rfl (fun _ => rfl) 0 3 rfl rfl rfl rfl hl.1 rfl (Nat.le_of_ble_eq_true rfl) dX5_chart_65 ⟨(Nat.le_of_ble_eq_true rfl), (Nat.le_of_ble_eq_true rfl)⟩ (fun u H locs hw hI => ?_)
                obtain ⟨seaOf_c6, queue_c7⟩ := u
                try dsimp only at hw
                have hI : wI s D A (fl [wSe K h0 seaOf_c6 queue_c7 snum_42, wGl K h1 (bits, stops, num, unit, strips, caps, draw)]) H locs := hI
                refine lv_aload_n hx hb dX5_chart_68 rfl (lv_at hl 0 rfl) ?_
                refine lv_dup hx hb dX5_chart_69 rfl ?_
                refine x_get (v := .int snum_42) hC hI kX5_chart_cX5 0 rfl rfl 2 (by decide) kX5_chart_0 rfl rfl dX5_chart_70 ?_
                refine lv_iconst (v := (1 : Int32)) hx hb dX5_chart_73 (by decide) ?_
                refine lv_iadd hx hb dX5_chart_74 ?_
                refine lv_topi (fun x8 ex8 => ?_)
                replace hw := hw x8 ex8
                refine x_put (v := .int x8) hC hI kX5_chart_cX5 tyX5 tyX5_ok nmX5 0 rfl rfl 2 (by decide) kX5_chart_0 rfl rfl rfl rfl (Nat.le_of_ble_eq_true rfl) dX5_chart_75 (fun H locs hI => ?_)
                have hI : wI s D A (fl [wSe K h0 seaOf_c6 queue_c7 x8, wGl K h1 (bits, stops, num, unit, strips, caps, draw)]) H locs := hI
                obtain ⟨x9, ex9⟩ : ∃ y : Int32, y = l2_42 + 1 := ⟨_, rfl⟩
                replace hw := hw x9 ex9
                refine lv_iinc (v := x9) (lv' := [(2, .int x9), (0, .ref (h0 0))]) hx hb dX5_chart_78 hl (k := 1) rfl (by rw [ex9]; rfl) (by decide) rfl (fun ls hl => ?_)
                refine lv_goto (tgt := 42) hx hb dX5_chart_81 (by decide) ?_
                exact ih42 x9 seaOf_c6 queue_c7 x8 ls H locs (Nat.lt_of_lt_of_le hw.2 (Nat.le_of_lt_succ hmu42)) hw.1 hI (lv_sub hl [1, 0] rfl)
        exact lp42 (mu42 (0 : Int32) seaOf_2 queue (0 : Int32) + 1) (0 : Int32) seaOf_2 queue (0 : Int32) ls H locs (Nat.lt_succ_self _) hw hI (lv_sub hl [1, 0] rfl)
      · replace hw := hw.2 c1
        refine lv_aload_n hx hb dX5_chart_9 rfl (lv_at hl 0 rfl) ?_
        refine x_get (v := .ref (h0 1)) hC hI kX5_chart_cX5 0 rfl rfl 0 (by decide) kX5_chart_2 rfl rfl dX5_chart_10 ?_
        refine lv_iload_n hx hb dX5_chart_13 rfl (lv_at hl 2 rfl) ?_
        refine lv_aload_n hx hb dX5_chart_14 rfl (lv_at hl 1 rfl) ?_
        refine lv_iload_n hx hb dX5_chart_15 rfl (lv_at hl 2 rfl) ?_
        refine x_callVi (rest := [.int l2_2, .ref (h0 1)]) hC hI [1] (mX0_isLand l D K h1 _ l2_2 bits stops num unit strips caps draw hw) (cwV 1 hts gX5_chart_X0_isLand rfl rfl rfl (by decide +kernel) ⟨(Nat.le_of_ble_eq_true rfl), (Nat.le_of_ble_eq_true rfl)⟩) (by decide) rfl (fun _ => rfl) 3 0 rfl rfl rfl rfl hl.1 rfl (Nat.le_of_ble_eq_true rfl) dX5_chart_16 ⟨(Nat.le_of_ble_eq_true rfl), (Nat.le_of_ble_eq_true rfl)⟩ (fun r10 u H locs hw hI => ?_)
        try dsimp only at hw
        have hI : wI s D A (fl [wSe K h0 seaOf_2 queue snum, wGl K h1 (bits, stops, num, unit, strips, caps, draw)]) H locs := hI
        refine lv_if_eq (tgt := 27) hx hb dX5_chart_19 (by decide) (fun c11 => ?_) (fun c11 => ?_)
        · replace hw := hw.1 c11
          refine lv_iconst (v := (-1 : Int32)) hx hb dX5_chart_27 (by decide) ?_
          obtain ⟨hc12, hw⟩ := hw
          refine x_iast (f := seaOf_2) hC hI 1 rfl hc12 dX5_chart_28 (fun H locs hI => ?_)
          have hI : wI s D A (fl [wSe K h0 (upd seaOf_2 l2_2.toNatClampNeg (-1 : Int32)) queue snum, wGl K h1 (bits, stops, num, unit, strips, caps, draw)]) H locs := hI
          obtain ⟨x13, ex13⟩ : ∃ y : Int32, y = l2_2 + 1 := ⟨_, rfl⟩
          replace hw := hw x13 ex13
          refine lv_iinc (v := x13) (lv' := [(2, .int x13), (0, .ref (h0 0)), (1, .ref (h1 0))]) hx hb dX5_chart_29 hl (k := 2) rfl (by rw [ex13]; rfl) (by decide) rfl (fun ls hl => ?_)
          refine lv_goto (tgt := 2) hx hb dX5_chart_32 (by decide) ?_
          exact ih2 x13 (upd seaOf_2 l2_2.toNatClampNeg (-1 : Int32)) ls H locs (Nat.lt_of_lt_of_le hw.2 (Nat.le_of_lt_succ hmu2)) hw.1 hI (lv_sub hl [1, 2, 0] rfl)
        · replace hw := hw.2 c11
          refine lv_bipush (v := (-4 : Int32)) hx hb dX5_chart_22 (by decide) ?_
          refine lv_goto (tgt := 28) hx hb dX5_chart_24 (by decide) ?_
          obtain ⟨hc14, hw⟩ := hw
          refine x_iast (f := seaOf_2) hC hI 1 rfl hc14 dX5_chart_28 (fun H locs hI => ?_)
          have hI : wI s D A (fl [wSe K h0 (upd seaOf_2 l2_2.toNatClampNeg (-4 : Int32)) queue snum, wGl K h1 (bits, stops, num, unit, strips, caps, draw)]) H locs := hI
          obtain ⟨x15, ex15⟩ : ∃ y : Int32, y = l2_2 + 1 := ⟨_, rfl⟩
          replace hw := hw x15 ex15
          refine lv_iinc (v := x15) (lv' := [(2, .int x15), (0, .ref (h0 0)), (1, .ref (h1 0))]) hx hb dX5_chart_29 hl (k := 2) rfl (by rw [ex15]; rfl) (by decide) rfl (fun ls hl => ?_)
          refine lv_goto (tgt := 2) hx hb dX5_chart_32 (by decide) ?_
          exact ih2 x15 (upd seaOf_2 l2_2.toNatClampNeg (-4 : Int32)) ls H locs (Nat.lt_of_lt_of_le hw.2 (Nat.le_of_lt_succ hmu2)) hw.1 hI (lv_sub hl [1, 2, 0] rfl)
  exact lp2 (mu2 (0 : Int32) seaOf + 1) (0 : Int32) seaOf ls H locs (Nat.lt_succ_self _) hw hI (lv_sub hl [1, 2, 0] rfl)

def wX5_sizeOf (a1 : Int32) (seaOf : Nat → Int32) (post : Int32 → Prop) : Prop := (∃ (I14 : Int32 → Int32 → Prop) (mu14 : Int32 → Int32 → Nat), I14 (0 : Int32) (0 : Int32) ∧ ∀ (l2_14 : Int32) (l5_14 : Int32), I14 l2_14 l5_14 → (((266 : Int32) ≤ l5_14 → post l2_14) ∧ (¬ (266 : Int32) ≤ l5_14 → vp_in l5_14 266 ∧ ∀ x3 : Int32, x3 = seaOf l5_14.toNatClampNeg → ((x3 = a1 → ∀ x6 : Int32, x6 = l2_14 + 1 → ∀ x7 : Int32, x7 = l5_14 + 1 → (I14 x6 x7 ∧ mu14 x6 x7 < mu14 l2_14 l5_14)) ∧ (¬ x3 = a1 → ∀ x5 : Int32, x5 = l5_14 + 1 → (I14 l2_14 x5 ∧ mu14 l2_14 x5 < mu14 l2_14 l5_14))))))
def rmX5_sizeOf : Room := { frames := 0, cells := 0, slots := 0, locals := 0 }
theorem kX5_sizeOf_0 : Cond.fieldLink RX5 11 "GoreGlobe$Seas" "seaOf" "[I" ∈ wsX5_sizeOf := List.mem_cons_of_mem _ (List.mem_append_left _ (List.mem_of_getElem? (i := 0) rfl))
theorem kX5_sizeOf_cX5 : ∀ w ∈ wsX50, w ∈ wsX5_sizeOf := fun _ h => List.mem_cons_of_mem _ (List.mem_append_right _ h)
set_option maxHeartbeats 4000000 in
set_option maxRecDepth 100000 in
theorem mX5_sizeOf (l : Launch) (D : va_G) (K : Nat → ClassId) (h : Nat → Nat) (sz : Nat) (a1 : Int32) (seaOf : Nat → Int32) (queue : Nat → Int32) (snum : Int32)  {post : Int32 → Prop} (hw : wX5_sizeOf a1 seaOf post) : Met l yX5_sizeOf wsX5_sizeOf rmX5_sizeOf (va_Pc [.ref (h 0), .int a1] (cP D K (fl [wSe K h seaOf queue snum]) sz)) (va_Qi (fun (r : Int32) (u : Unit) => post r) (fun u t => cQ D K (fl [wSe K h seaOf queue snum]) (va_A (fl [wSe K h seaOf queue snum]) sz) t) (va_A (fl [wSe K h seaOf queue snum]) sz)) 0 0 (va_A (fl [wSe K h seaOf queue snum]) sz) := by
  refine x_entry (cc := cX5_sizeOf) (maxL := 7) (ret := (some .int)) (QA := fun A => va_Qi (fun (r : Int32) (u : Unit) => post r) (fun u t => cQ D K (fl [wSe K h seaOf queue snum]) A t) A) (plainFor_of_name (by decide)) rfl (Nat.le_of_ble_eq_true rfl) ?_
  intro p e s m args below meth c A ls H Q hQ hC hlk hr hnm hI hl
  obtain ⟨hx, hb, hml, hown, hts, hK, hA, hZ⟩ := id hC
  obtain ⟨locs, hlocs⟩ : ∃ y : List Loc, y = [] := ⟨_, rfl⟩
  rw [← hlocs] at hI ⊢
  clear hlocs
  replace hl : lv_has ls 7 [(0, .ref (h 0)), (1, .int a1)] := hl
  replace hw : (∃ (I14 : Int32 → Int32 → Prop) (mu14 : Int32 → Int32 → Nat), I14 (0 : Int32) (0 : Int32) ∧ ∀ (l2_14 : Int32) (l5_14 : Int32), I14 l2_14 l5_14 → (((266 : Int32) ≤ l5_14 → post l2_14) ∧ (¬ (266 : Int32) ≤ l5_14 → vp_in l5_14 266 ∧ ∀ x3 : Int32, x3 = seaOf l5_14.toNatClampNeg → ((x3 = a1 → ∀ x6 : Int32, x6 = l2_14 + 1 → ∀ x7 : Int32, x7 = l5_14 + 1 → (I14 x6 x7 ∧ mu14 x6 x7 < mu14 l2_14 l5_14)) ∧ (¬ x3 = a1 → ∀ x5 : Int32, x5 = l5_14 + 1 → (I14 l2_14 x5 ∧ mu14 l2_14 x5 < mu14 l2_14 l5_14)))))) := hw
  refine lv_iconst (v := (0 : Int32)) hx hb dX5_sizeOf_0 (by decide) ?_
  refine lv_istore_n (lv' := [(2, .int (0 : Int32)), (0, .ref (h 0)), (1, .int a1)]) hx hb dX5_sizeOf_1 rfl hl (by decide) rfl (fun ls hl => ?_)
  refine lv_aload_n hx hb dX5_sizeOf_2 rfl (lv_at hl 1 rfl) ?_
  refine x_get (v := .ref (h 1)) hC hI kX5_sizeOf_cX5 0 rfl rfl 0 (by decide) kX5_sizeOf_0 rfl rfl dX5_sizeOf_3 ?_
  refine lv_astore_n (lv' := [(3, .ref (h 1)), (2, .int (0 : Int32)), (0, .ref (h 0)), (1, .int a1)]) hx hb dX5_sizeOf_6 rfl hl (by decide) rfl (fun ls hl => ?_)
  refine lv_aload_n hx hb dX5_sizeOf_7 rfl (lv_at hl 0 rfl) ?_
  refine x_alenI (v := (266 : Int32)) hC hI 1 rfl rfl dX5_sizeOf_8 ?_
  refine lv_istore (lv' := [(4, .int (266 : Int32)), (3, .ref (h 1)), (2, .int (0 : Int32)), (0, .ref (h 0)), (1, .int a1)]) hx hb dX5_sizeOf_9 hl (by decide) rfl (fun ls hl => ?_)
  refine lv_iconst (v := (0 : Int32)) hx hb dX5_sizeOf_11 (by decide) ?_
  refine lv_istore (lv' := [(5, .int (0 : Int32)), (4, .int (266 : Int32)), (3, .ref (h 1)), (2, .int (0 : Int32)), (0, .ref (h 0)), (1, .int a1)]) hx hb dX5_sizeOf_12 hl (by decide) rfl (fun ls hl => ?_)
  obtain ⟨I14, mu14, hw, hb14⟩ := hw
  have lp14 : ∀ (k : Nat) (l2_14 : Int32) (l5_14 : Int32) (ls : Array Slot) (H : Heap) (locs : List Loc), mu14 l2_14 l5_14 < k → I14 l2_14 l5_14 → wI s D A (fl [wSe K h seaOf queue snum]) H locs → lv_has ls 7 [(1, .int a1), (2, .int l2_14), (3, .ref (h 1)), (4, .int (266 : Int32)), (5, .int l5_14)] → W p l e rmX5_sizeOf s m args below meth c H locs 0 0 Q (F0 m 14 ls []) := by
    intro k
    induction k with
    | zero => intro l2_14 l5_14 ls H locs hmu; exact absurd hmu (Nat.not_lt_zero _)
    | succ k ih14 =>
      intro l2_14 l5_14 ls H locs hmu14 hw hI hl
      replace hw := hb14 l2_14 l5_14 hw
      refine lv_iload hx hb dX5_sizeOf_14 (lv_at hl 4 rfl) ?_
      refine lv_iload hx hb dX5_sizeOf_16 (lv_at hl 3 rfl) ?_
      refine lv_icmp_ge (tgt := 42) hx hb dX5_sizeOf_18 (by decide) (fun c1 => ?_) (fun c1 => ?_)
      · replace hw := hw.1 c1
        refine lv_iload_n hx hb dX5_sizeOf_42 rfl (lv_at hl 1 rfl) ?_
        subst hQ
        exact x_iret (u := ()) hC hI hr hlk hw rfl dX5_sizeOf_43
      · replace hw := hw.2 c1
        refine lv_aload_n hx hb dX5_sizeOf_21 rfl (lv_at hl 2 rfl) ?_
        refine lv_iload hx hb dX5_sizeOf_22 (lv_at hl 4 rfl) ?_
        obtain ⟨hc2, hw⟩ := hw
        refine x_iald (f := seaOf) hC hI 1 rfl hc2 dX5_sizeOf_24 ?_
        refine lv_topi (fun x3 ex3 => ?_)
        replace hw := hw x3 ex3
        refine lv_istore (lv' := [(6, .int x3), (1, .int a1), (2, .int l2_14), (3, .ref (h 1)), (4, .int (266 : Int32)), (5, .int l5_14)]) hx hb dX5_sizeOf_25 hl (by decide) rfl (fun ls hl => ?_)
        refine lv_iload hx hb dX5_sizeOf_27 (lv_at hl 0 rfl) ?_
        refine lv_iload_n hx hb dX5_sizeOf_29 rfl (lv_at hl 1 rfl) ?_
        refine lv_icmp_ne (tgt := 36) hx hb dX5_sizeOf_30 (by decide) (fun c4 => ?_) (fun c4 => ?_)
        · replace hw := hw.2 c4
          obtain ⟨x5, ex5⟩ : ∃ y : Int32, y = l5_14 + 1 := ⟨_, rfl⟩
          replace hw := hw x5 ex5
          refine lv_iinc (v := x5) (lv' := [(5, .int x5), (6, .int x3), (1, .int a1), (2, .int l2_14), (3, .ref (h 1)), (4, .int (266 : Int32))]) hx hb dX5_sizeOf_36 hl (k := 5) rfl (by rw [ex5]; rfl) (by decide) rfl (fun ls hl => ?_)
          refine lv_goto (tgt := 14) hx hb dX5_sizeOf_39 (by decide) ?_
          exact ih14 l2_14 x5 ls H locs (Nat.lt_of_lt_of_le hw.2 (Nat.le_of_lt_succ hmu14)) hw.1 hI (lv_sub hl [2, 3, 4, 5, 0] rfl)
        · replace hw := hw.1 c4
          obtain ⟨x6, ex6⟩ : ∃ y : Int32, y = l2_14 + 1 := ⟨_, rfl⟩
          replace hw := hw x6 ex6
          refine lv_iinc (v := x6) (lv' := [(2, .int x6), (6, .int x3), (1, .int a1), (3, .ref (h 1)), (4, .int (266 : Int32)), (5, .int l5_14)]) hx hb dX5_sizeOf_33 hl (k := 2) rfl (by rw [ex6]; rfl) (by decide) rfl (fun ls hl => ?_)
          obtain ⟨x7, ex7⟩ : ∃ y : Int32, y = l5_14 + 1 := ⟨_, rfl⟩
          replace hw := hw x7 ex7
          refine lv_iinc (v := x7) (lv' := [(5, .int x7), (2, .int x6), (6, .int x3), (1, .int a1), (3, .ref (h 1)), (4, .int (266 : Int32))]) hx hb dX5_sizeOf_36 hl (k := 5) rfl (by rw [ex7]; rfl) (by decide) rfl (fun ls hl => ?_)
          refine lv_goto (tgt := 14) hx hb dX5_sizeOf_39 (by decide) ?_
          exact ih14 x6 x7 ls H locs (Nat.lt_of_lt_of_le hw.2 (Nat.le_of_lt_succ hmu14)) hw.1 hI (lv_sub hl [3, 1, 4, 5, 0] rfl)
  exact lp14 (mu14 (0 : Int32) (0 : Int32) + 1) (0 : Int32) (0 : Int32) ls H locs (Nat.lt_succ_self _) hw hI (lv_sub hl [5, 3, 2, 1, 0] rfl)

def wX5_leastOf (a1 : Int32) (seaOf : Nat → Int32) (post : Int32 → Prop) : Prop := (∃ (I2 : Int32 → Prop) (mu2 : Int32 → Nat), I2 (0 : Int32) ∧ ∀ (l2_2 : Int32), I2 l2_2 → (((265 : Int32) ≤ l2_2 → post l2_2) ∧ (¬ (265 : Int32) ≤ l2_2 → vp_in l2_2 266 ∧ (((seaOf l2_2.toNatClampNeg) = a1 → post l2_2) ∧ (¬ (seaOf l2_2.toNatClampNeg) = a1 → ∀ x4 : Int32, x4 = l2_2 + 1 → (I2 x4 ∧ mu2 x4 < mu2 l2_2))))))
def rmX5_leastOf : Room := { frames := 0, cells := 0, slots := 0, locals := 0 }
theorem kX5_leastOf_0 : Cond.fieldLink RX5 11 "GoreGlobe$Seas" "seaOf" "[I" ∈ wsX5_leastOf := List.mem_cons_of_mem _ (List.mem_append_left _ (List.mem_of_getElem? (i := 0) rfl))
theorem kX5_leastOf_cX5 : ∀ w ∈ wsX50, w ∈ wsX5_leastOf := fun _ h => List.mem_cons_of_mem _ (List.mem_append_right _ h)
set_option maxHeartbeats 4000000 in
set_option maxRecDepth 100000 in
theorem mX5_leastOf (l : Launch) (D : va_G) (K : Nat → ClassId) (h : Nat → Nat) (sz : Nat) (a1 : Int32) (seaOf : Nat → Int32) (queue : Nat → Int32) (snum : Int32)  {post : Int32 → Prop} (hw : wX5_leastOf a1 seaOf post) : Met l yX5_leastOf wsX5_leastOf rmX5_leastOf (va_Pc [.ref (h 0), .int a1] (cP D K (fl [wSe K h seaOf queue snum]) sz)) (va_Qi (fun (r : Int32) (u : Unit) => post r) (fun u t => cQ D K (fl [wSe K h seaOf queue snum]) (va_A (fl [wSe K h seaOf queue snum]) sz) t) (va_A (fl [wSe K h seaOf queue snum]) sz)) 0 0 (va_A (fl [wSe K h seaOf queue snum]) sz) := by
  refine x_entry (cc := cX5_leastOf) (maxL := 3) (ret := (some .int)) (QA := fun A => va_Qi (fun (r : Int32) (u : Unit) => post r) (fun u t => cQ D K (fl [wSe K h seaOf queue snum]) A t) A) (plainFor_of_name (by decide)) rfl (Nat.le_of_ble_eq_true rfl) ?_
  intro p e s m args below meth c A ls H Q hQ hC hlk hr hnm hI hl
  obtain ⟨hx, hb, hml, hown, hts, hK, hA, hZ⟩ := id hC
  obtain ⟨locs, hlocs⟩ : ∃ y : List Loc, y = [] := ⟨_, rfl⟩
  rw [← hlocs] at hI ⊢
  clear hlocs
  replace hl : lv_has ls 3 [(0, .ref (h 0)), (1, .int a1)] := hl
  replace hw : (∃ (I2 : Int32 → Prop) (mu2 : Int32 → Nat), I2 (0 : Int32) ∧ ∀ (l2_2 : Int32), I2 l2_2 → (((265 : Int32) ≤ l2_2 → post l2_2) ∧ (¬ (265 : Int32) ≤ l2_2 → vp_in l2_2 266 ∧ (((seaOf l2_2.toNatClampNeg) = a1 → post l2_2) ∧ (¬ (seaOf l2_2.toNatClampNeg) = a1 → ∀ x4 : Int32, x4 = l2_2 + 1 → (I2 x4 ∧ mu2 x4 < mu2 l2_2)))))) := hw
  refine lv_iconst (v := (0 : Int32)) hx hb dX5_leastOf_0 (by decide) ?_
  refine lv_istore_n (lv' := [(2, .int (0 : Int32)), (0, .ref (h 0)), (1, .int a1)]) hx hb dX5_leastOf_1 rfl hl (by decide) rfl (fun ls hl => ?_)
  obtain ⟨I2, mu2, hw, hb2⟩ := hw
  have lp2 : ∀ (k : Nat) (l2_2 : Int32) (ls : Array Slot) (H : Heap) (locs : List Loc), mu2 l2_2 < k → I2 l2_2 → wI s D A (fl [wSe K h seaOf queue snum]) H locs → lv_has ls 3 [(0, .ref (h 0)), (1, .int a1), (2, .int l2_2)] → W p l e rmX5_leastOf s m args below meth c H locs 0 0 Q (F0 m 2 ls []) := by
    intro k
    induction k with
    | zero => intro l2_2 ls H locs hmu; exact absurd hmu (Nat.not_lt_zero _)
    | succ k ih2 =>
      intro l2_2 ls H locs hmu2 hw hI hl
      replace hw := hb2 l2_2 hw
      refine lv_iload_n hx hb dX5_leastOf_2 rfl (lv_at hl 2 rfl) ?_
      refine lv_sipush (v := (265 : Int32)) hx hb dX5_leastOf_3 (by decide) ?_
      refine lv_icmp_ge (tgt := 25) hx hb dX5_leastOf_6 (by decide) (fun c1 => ?_) (fun c1 => ?_)
      · replace hw := hw.1 c1
        refine lv_iload_n hx hb dX5_leastOf_25 rfl (lv_at hl 2 rfl) ?_
        subst hQ
        exact x_iret (u := ()) hC hI hr hlk hw rfl dX5_leastOf_26
      · replace hw := hw.2 c1
        refine lv_aload_n hx hb dX5_leastOf_9 rfl (lv_at hl 0 rfl) ?_
        refine x_get (v := .ref (h 1)) hC hI kX5_leastOf_cX5 0 rfl rfl 0 (by decide) kX5_leastOf_0 rfl rfl dX5_leastOf_10 ?_
        refine lv_iload_n hx hb dX5_leastOf_13 rfl (lv_at hl 2 rfl) ?_
        obtain ⟨hc2, hw⟩ := hw
        refine x_iald (f := seaOf) hC hI 1 rfl hc2 dX5_leastOf_14 ?_
        refine lv_iload_n hx hb dX5_leastOf_15 rfl (lv_at hl 1 rfl) ?_
        refine lv_icmp_eq (tgt := 25) hx hb dX5_leastOf_16 (by decide) (fun c3 => ?_) (fun c3 => ?_)
        · replace hw := hw.1 c3
          refine lv_iload_n hx hb dX5_leastOf_25 rfl (lv_at hl 2 rfl) ?_
          subst hQ
          exact x_iret (u := ()) hC hI hr hlk hw rfl dX5_leastOf_26
        · replace hw := hw.2 c3
          obtain ⟨x4, ex4⟩ : ∃ y : Int32, y = l2_2 + 1 := ⟨_, rfl⟩
          replace hw := hw x4 ex4
          refine lv_iinc (v := x4) (lv' := [(2, .int x4), (0, .ref (h 0)), (1, .int a1)]) hx hb dX5_leastOf_19 hl (k := 2) rfl (by rw [ex4]; rfl) (by decide) rfl (fun ls hl => ?_)
          refine lv_goto (tgt := 2) hx hb dX5_leastOf_22 (by decide) ?_
          exact ih2 x4 ls H locs (Nat.lt_of_lt_of_le hw.2 (Nat.le_of_lt_succ hmu2)) hw.1 hI (lv_sub hl [1, 2, 0] rfl)
  exact lp2 (mu2 (0 : Int32) + 1) (0 : Int32) ls H locs (Nat.lt_succ_self _) hw hI (lv_sub hl [1, 2, 0] rfl)

def wX5_greatestOf (a1 : Int32) (seaOf : Nat → Int32) (post : Int32 → Prop) : Prop := (∃ (I4 : Int32 → Prop) (mu4 : Int32 → Nat), I4 (265 : Int32) ∧ ∀ (l2_4 : Int32), I4 l2_4 → ((l2_4 ≤ 0 → post l2_4) ∧ (¬ l2_4 ≤ 0 → vp_in l2_4 266 ∧ (((seaOf l2_4.toNatClampNeg) = a1 → post l2_4) ∧ (¬ (seaOf l2_4.toNatClampNeg) = a1 → ∀ x4 : Int32, x4 = l2_4 + (-1) → (I4 x4 ∧ mu4 x4 < mu4 l2_4))))))
def rmX5_greatestOf : Room := { frames := 0, cells := 0, slots := 0, locals := 0 }
theorem kX5_greatestOf_0 : Cond.fieldLink RX5 11 "GoreGlobe$Seas" "seaOf" "[I" ∈ wsX5_greatestOf := List.mem_cons_of_mem _ (List.mem_append_left _ (List.mem_of_getElem? (i := 0) rfl))
theorem kX5_greatestOf_cX5 : ∀ w ∈ wsX50, w ∈ wsX5_greatestOf := fun _ h => List.mem_cons_of_mem _ (List.mem_append_right _ h)
set_option maxHeartbeats 4000000 in
set_option maxRecDepth 100000 in
theorem mX5_greatestOf (l : Launch) (D : va_G) (K : Nat → ClassId) (h : Nat → Nat) (sz : Nat) (a1 : Int32) (seaOf : Nat → Int32) (queue : Nat → Int32) (snum : Int32)  {post : Int32 → Prop} (hw : wX5_greatestOf a1 seaOf post) : Met l yX5_greatestOf wsX5_greatestOf rmX5_greatestOf (va_Pc [.ref (h 0), .int a1] (cP D K (fl [wSe K h seaOf queue snum]) sz)) (va_Qi (fun (r : Int32) (u : Unit) => post r) (fun u t => cQ D K (fl [wSe K h seaOf queue snum]) (va_A (fl [wSe K h seaOf queue snum]) sz) t) (va_A (fl [wSe K h seaOf queue snum]) sz)) 0 0 (va_A (fl [wSe K h seaOf queue snum]) sz) := by
  refine x_entry (cc := cX5_greatestOf) (maxL := 3) (ret := (some .int)) (QA := fun A => va_Qi (fun (r : Int32) (u : Unit) => post r) (fun u t => cQ D K (fl [wSe K h seaOf queue snum]) A t) A) (plainFor_of_name (by decide)) rfl (Nat.le_of_ble_eq_true rfl) ?_
  intro p e s m args below meth c A ls H Q hQ hC hlk hr hnm hI hl
  obtain ⟨hx, hb, hml, hown, hts, hK, hA, hZ⟩ := id hC
  obtain ⟨locs, hlocs⟩ : ∃ y : List Loc, y = [] := ⟨_, rfl⟩
  rw [← hlocs] at hI ⊢
  clear hlocs
  replace hl : lv_has ls 3 [(0, .ref (h 0)), (1, .int a1)] := hl
  replace hw : (∃ (I4 : Int32 → Prop) (mu4 : Int32 → Nat), I4 (265 : Int32) ∧ ∀ (l2_4 : Int32), I4 l2_4 → ((l2_4 ≤ 0 → post l2_4) ∧ (¬ l2_4 ≤ 0 → vp_in l2_4 266 ∧ (((seaOf l2_4.toNatClampNeg) = a1 → post l2_4) ∧ (¬ (seaOf l2_4.toNatClampNeg) = a1 → ∀ x4 : Int32, x4 = l2_4 + (-1) → (I4 x4 ∧ mu4 x4 < mu4 l2_4)))))) := hw
  refine lv_sipush (v := (265 : Int32)) hx hb dX5_greatestOf_0 (by decide) ?_
  refine lv_istore_n (lv' := [(2, .int (265 : Int32)), (0, .ref (h 0)), (1, .int a1)]) hx hb dX5_greatestOf_3 rfl hl (by decide) rfl (fun ls hl => ?_)
  obtain ⟨I4, mu4, hw, hb4⟩ := hw
  have lp4 : ∀ (k : Nat) (l2_4 : Int32) (ls : Array Slot) (H : Heap) (locs : List Loc), mu4 l2_4 < k → I4 l2_4 → wI s D A (fl [wSe K h seaOf queue snum]) H locs → lv_has ls 3 [(0, .ref (h 0)), (1, .int a1), (2, .int l2_4)] → W p l e rmX5_greatestOf s m args below meth c H locs 0 0 Q (F0 m 4 ls []) := by
    intro k
    induction k with
    | zero => intro l2_4 ls H locs hmu; exact absurd hmu (Nat.not_lt_zero _)
    | succ k ih4 =>
      intro l2_4 ls H locs hmu4 hw hI hl
      replace hw := hb4 l2_4 hw
      refine lv_iload_n hx hb dX5_greatestOf_4 rfl (lv_at hl 2 rfl) ?_
      refine lv_if_le (tgt := 24) hx hb dX5_greatestOf_5 (by decide) (fun c1 => ?_) (fun c1 => ?_)
      · replace hw := hw.1 c1
        refine lv_iload_n hx hb dX5_greatestOf_24 rfl (lv_at hl 2 rfl) ?_
        subst hQ
        exact x_iret (u := ()) hC hI hr hlk hw rfl dX5_greatestOf_25
      · replace hw := hw.2 c1
        refine lv_aload_n hx hb dX5_greatestOf_8 rfl (lv_at hl 0 rfl) ?_
        refine x_get (v := .ref (h 1)) hC hI kX5_greatestOf_cX5 0 rfl rfl 0 (by decide) kX5_greatestOf_0 rfl rfl dX5_greatestOf_9 ?_
        refine lv_iload_n hx hb dX5_greatestOf_12 rfl (lv_at hl 2 rfl) ?_
        obtain ⟨hc2, hw⟩ := hw
        refine x_iald (f := seaOf) hC hI 1 rfl hc2 dX5_greatestOf_13 ?_
        refine lv_iload_n hx hb dX5_greatestOf_14 rfl (lv_at hl 1 rfl) ?_
        refine lv_icmp_eq (tgt := 24) hx hb dX5_greatestOf_15 (by decide) (fun c3 => ?_) (fun c3 => ?_)
        · replace hw := hw.1 c3
          refine lv_iload_n hx hb dX5_greatestOf_24 rfl (lv_at hl 2 rfl) ?_
          subst hQ
          exact x_iret (u := ()) hC hI hr hlk hw rfl dX5_greatestOf_25
        · replace hw := hw.2 c3
          obtain ⟨x4, ex4⟩ : ∃ y : Int32, y = l2_4 + (-1) := ⟨_, rfl⟩
          replace hw := hw x4 ex4
          refine lv_iinc (v := x4) (lv' := [(2, .int x4), (0, .ref (h 0)), (1, .int a1)]) hx hb dX5_greatestOf_18 hl (k := 2) rfl (by rw [ex4]; rfl) (by decide) rfl (fun ls hl => ?_)
          refine lv_goto (tgt := 4) hx hb dX5_greatestOf_21 (by decide) ?_
          exact ih4 x4 ls H locs (Nat.lt_of_lt_of_le hw.2 (Nat.le_of_lt_succ hmu4)) hw.1 hI (lv_sub hl [1, 2, 0] rfl)
  exact lp4 (mu4 (265 : Int32) + 1) (265 : Int32) ls H locs (Nat.lt_succ_self _) hw hI (lv_sub hl [1, 2, 0] rfl)

def wX8_farOf (a0 : Int32)  (post : Int32 → Prop) : Prop := post (a0 >>> ((9 : Int32) &&& 31))
def rmX8_farOf : Room := { frames := 0, cells := 0, slots := 0, locals := 0 }
set_option maxHeartbeats 4000000 in
set_option maxRecDepth 100000 in
theorem mX8_farOf (l : Launch) (D : va_G) (K : Nat → ClassId)  (sz : Nat) (a0 : Int32)   {post : Int32 → Prop} (hw : wX8_farOf a0  post) : Met l yX8_farOf wsX8_farOf rmX8_farOf (va_Pc [.int a0] (cP D K (fl []) sz)) (va_Qi (fun (r : Int32) (u : Unit) => post r) (fun u t => cQ D K (fl []) (va_A (fl []) sz) t) (va_A (fl []) sz)) 0 0 (va_A (fl []) sz) := by
  refine x_entry (cc := cX8_farOf) (maxL := 1) (ret := (some .int)) (QA := fun A => va_Qi (fun (r : Int32) (u : Unit) => post r) (fun u t => cQ D K (fl []) A t) A) (plainFor_of_name (by decide)) rfl (Nat.le_of_ble_eq_true rfl) ?_
  intro p e s m args below meth c A ls H Q hQ hC hlk hr hnm hI hl
  obtain ⟨hx, hb, hml, hown, hts, hK, hA, hZ⟩ := id hC
  obtain ⟨locs, hlocs⟩ : ∃ y : List Loc, y = [] := ⟨_, rfl⟩
  rw [← hlocs] at hI ⊢
  clear hlocs
  replace hl : lv_has ls 1 [(0, .int a0)] := hl
  replace hw : post (a0 >>> ((9 : Int32) &&& 31)) := hw
  refine lv_iload_n hx hb dX8_farOf_0 rfl (lv_at hl 0 rfl) ?_
  refine lv_bipush (v := (9 : Int32)) hx hb dX8_farOf_1 (by decide) ?_
  refine lv_ishr hx hb dX8_farOf_3 ?_
  subst hQ
  exact x_iret (u := ()) hC hI hr hlk hw rfl dX8_farOf_4

def wX8_stepsOf (a0 : Int32)  (post : Int32 → Prop) : Prop := post (a0 &&& (511 : Int32))
def rmX8_stepsOf : Room := { frames := 0, cells := 0, slots := 0, locals := 0 }
set_option maxHeartbeats 4000000 in
set_option maxRecDepth 100000 in
theorem mX8_stepsOf (l : Launch) (D : va_G) (K : Nat → ClassId)  (sz : Nat) (a0 : Int32)   {post : Int32 → Prop} (hw : wX8_stepsOf a0  post) : Met l yX8_stepsOf wsX8_stepsOf rmX8_stepsOf (va_Pc [.int a0] (cP D K (fl []) sz)) (va_Qi (fun (r : Int32) (u : Unit) => post r) (fun u t => cQ D K (fl []) (va_A (fl []) sz) t) (va_A (fl []) sz)) 0 0 (va_A (fl []) sz) := by
  refine x_entry (cc := cX8_stepsOf) (maxL := 1) (ret := (some .int)) (QA := fun A => va_Qi (fun (r : Int32) (u : Unit) => post r) (fun u t => cQ D K (fl []) A t) A) (plainFor_of_name (by decide)) rfl (Nat.le_of_ble_eq_true rfl) ?_
  intro p e s m args below meth c A ls H Q hQ hC hlk hr hnm hI hl
  obtain ⟨hx, hb, hml, hown, hts, hK, hA, hZ⟩ := id hC
  obtain ⟨locs, hlocs⟩ : ∃ y : List Loc, y = [] := ⟨_, rfl⟩
  rw [← hlocs] at hI ⊢
  clear hlocs
  replace hl : lv_has ls 1 [(0, .int a0)] := hl
  replace hw : post (a0 &&& (511 : Int32)) := hw
  refine lv_iload_n hx hb dX8_stepsOf_0 rfl (lv_at hl 0 rfl) ?_
  refine lv_sipush (v := (511 : Int32)) hx hb dX8_stepsOf_1 (by decide) ?_
  refine lv_iand hx hb dX8_stepsOf_4 ?_
  subst hQ
  exact x_iret (u := ()) hC hI hr hlk hw rfl dX8_stepsOf_5

def wX8_reach (a1 : Int32) (a2 : Int32) (cost : Nat → Int32) (heap : Nat → Int64) (wait : Int32) (post : (Nat → Int32) → (Nat → Int64) → Int32 → Prop) : Prop := vp_in a1 266 ∧ ((wait < (1105 : Int32) → ∀ x3 : Int64, x3 = (a2.toInt64 <<< ((9 : Int32).toInt64 &&& 63)) + a1.toInt64 → ∀ x4 : Int32, x4 = wait + (1 : Int32) → (∃ (I43 : Int32 → (Nat → Int64) → Prop) (mu43 : Int32 → (Nat → Int64) → Nat), I43 wait heap ∧ ∀ (l5_43 : Int32) (heap_43 : Nat → Int64), I43 l5_43 heap_43 → ((l5_43 ≤ 0 → vp_in l5_43 1105 ∧ post (upd cost a1.toNatClampNeg a2) (vp_updL heap_43 l5_43.toNatClampNeg x3) x4) ∧ (¬ l5_43 ≤ 0 → vp_in ((l5_43 - (1 : Int32)) / (2 : Int32)) 1105 ∧ (((lg_cmp (heap_43 ((l5_43 - (1 : Int32)) / (2 : Int32)).toNatClampNeg) x3) ≤ 0 → vp_in l5_43 1105 ∧ post (upd cost a1.toNatClampNeg a2) (vp_updL heap_43 l5_43.toNatClampNeg x3) x4) ∧ (¬ (lg_cmp (heap_43 ((l5_43 - (1 : Int32)) / (2 : Int32)).toNatClampNeg) x3) ≤ 0 → vp_in ((l5_43 - (1 : Int32)) / (2 : Int32)) 1105 ∧ vp_in l5_43 1105 ∧ ∀ x12 : Int32, x12 = (l5_43 - (1 : Int32)) / (2 : Int32) → (I43 x12 (vp_updL heap_43 l5_43.toNatClampNeg (heap_43 ((l5_43 - (1 : Int32)) / (2 : Int32)).toNatClampNeg)) ∧ mu43 x12 (vp_updL heap_43 l5_43.toNatClampNeg (heap_43 ((l5_43 - (1 : Int32)) / (2 : Int32)).toNatClampNeg)) < mu43 l5_43 heap_43))))))) ∧ (¬ wait < (1105 : Int32) → post (upd cost a1.toNatClampNeg a2) heap wait))
def rmX8_reach : Room := { frames := 0, cells := 0, slots := 0, locals := 0 }
theorem kX8_reach_0 : Cond.fieldLink RX8 13 "GoreGlobe$Ways" "cost" "[I" ∈ wsX8_reach := List.mem_cons_of_mem _ (List.mem_append_left _ (List.mem_of_getElem? (i := 0) rfl))
theorem kX8_reach_cX8 : ∀ w ∈ wsX80, w ∈ wsX8_reach := fun _ h => List.mem_cons_of_mem _ (List.mem_append_right _ h)
theorem kX8_reach_2 : Cond.fieldLink RX8 28 "GoreGlobe$Ways" "waiting" "I" ∈ wsX8_reach := List.mem_cons_of_mem _ (List.mem_append_left _ (List.mem_of_getElem? (i := 1) rfl))
theorem kX8_reach_3 : Cond.fieldLink RX8 17 "GoreGlobe$Ways" "heap" "[J" ∈ wsX8_reach := List.mem_cons_of_mem _ (List.mem_append_left _ (List.mem_of_getElem? (i := 2) rfl))
set_option maxHeartbeats 4000000 in
set_option maxRecDepth 100000 in
theorem mX8_reach (l : Launch) (D : va_G) (K : Nat → ClassId) (h : Nat → Nat) (sz : Nat) (a1 : Int32) (a2 : Int32) (cost : Nat → Int32) (heap : Nat → Int64) (wait : Int32)  {post : (Nat → Int32) → (Nat → Int64) → Int32 → Prop} (hw : wX8_reach a1 a2 cost heap wait post) : Met l yX8_reach wsX8_reach rmX8_reach (va_Pc [.ref (h 0), .int a1, .int a2] (cP D K (fl [wWa K h cost heap wait]) sz)) (va_Qv (fun (u : (Nat → Int32) × (Nat → Int64) × Int32) => post u.1 u.2.1 u.2.2) (fun u t => cQ D K (fl [wWa K h u.1 u.2.1 u.2.2]) (va_A (fl [wWa K h cost heap wait]) sz) t) (va_A (fl [wWa K h cost heap wait]) sz)) 0 0 (va_A (fl [wWa K h cost heap wait]) sz) := by
  refine x_entry (cc := cX8_reach) (maxL := 6) (ret := none) (QA := fun A => va_Qv (fun (u : (Nat → Int32) × (Nat → Int64) × Int32) => post u.1 u.2.1 u.2.2) (fun u t => cQ D K (fl [wWa K h u.1 u.2.1 u.2.2]) A t) A) (plainFor_of_name (by decide)) rfl (Nat.le_of_ble_eq_true rfl) ?_
  intro p e s m args below meth c A ls H Q hQ hC hlk hr hnm hI hl
  obtain ⟨hx, hb, hml, hown, hts, hK, hA, hZ⟩ := id hC
  obtain ⟨locs, hlocs⟩ : ∃ y : List Loc, y = [] := ⟨_, rfl⟩
  rw [← hlocs] at hI ⊢
  clear hlocs
  replace hl : lv_has ls 6 [(0, .ref (h 0)), (1, .int a1), (2, .int a2)] := hl
  replace hw : vp_in a1 266 ∧ ((wait < (1105 : Int32) → ∀ x3 : Int64, x3 = (a2.toInt64 <<< ((9 : Int32).toInt64 &&& 63)) + a1.toInt64 → ∀ x4 : Int32, x4 = wait + (1 : Int32) → (∃ (I43 : Int32 → (Nat → Int64) → Prop) (mu43 : Int32 → (Nat → Int64) → Nat), I43 wait heap ∧ ∀ (l5_43 : Int32) (heap_43 : Nat → Int64), I43 l5_43 heap_43 → ((l5_43 ≤ 0 → vp_in l5_43 1105 ∧ post (upd cost a1.toNatClampNeg a2) (vp_updL heap_43 l5_43.toNatClampNeg x3) x4) ∧ (¬ l5_43 ≤ 0 → vp_in ((l5_43 - (1 : Int32)) / (2 : Int32)) 1105 ∧ (((lg_cmp (heap_43 ((l5_43 - (1 : Int32)) / (2 : Int32)).toNatClampNeg) x3) ≤ 0 → vp_in l5_43 1105 ∧ post (upd cost a1.toNatClampNeg a2) (vp_updL heap_43 l5_43.toNatClampNeg x3) x4) ∧ (¬ (lg_cmp (heap_43 ((l5_43 - (1 : Int32)) / (2 : Int32)).toNatClampNeg) x3) ≤ 0 → vp_in ((l5_43 - (1 : Int32)) / (2 : Int32)) 1105 ∧ vp_in l5_43 1105 ∧ ∀ x12 : Int32, x12 = (l5_43 - (1 : Int32)) / (2 : Int32) → (I43 x12 (vp_updL heap_43 l5_43.toNatClampNeg (heap_43 ((l5_43 - (1 : Int32)) / (2 : Int32)).toNatClampNeg)) ∧ mu43 x12 (vp_updL heap_43 l5_43.toNatClampNeg (heap_43 ((l5_43 - (1 : Int32)) / (2 : Int32)).toNatClampNeg)) < mu43 l5_43 heap_43))))))) ∧ (¬ wait < (1105 : Int32) → post (upd cost a1.toNatClampNeg a2) heap wait)) := hw
  refine lv_aload_n hx hb dX8_reach_0 rfl (lv_at hl 0 rfl) ?_
  refine x_get (v := .ref (h 1)) hC hI kX8_reach_cX8 0 rfl rfl 0 (by decide) kX8_reach_0 rfl rfl dX8_reach_1 ?_
  refine lv_iload_n hx hb dX8_reach_4 rfl (lv_at hl 1 rfl) ?_
  refine lv_iload_n hx hb dX8_reach_5 rfl (lv_at hl 2 rfl) ?_
  obtain ⟨hc1, hw⟩ := hw
  refine x_iast (f := cost) hC hI 1 rfl hc1 dX8_reach_6 (fun H locs hI => ?_)
  have hI : wI s D A (fl [wWa K h (upd cost a1.toNatClampNeg a2) heap wait]) H locs := hI
  refine lv_aload_n hx hb dX8_reach_7 rfl (lv_at hl 0 rfl) ?_
  refine x_get (v := .int wait) hC hI kX8_reach_cX8 0 rfl rfl 2 (by decide) kX8_reach_2 rfl rfl dX8_reach_8 ?_
  refine lv_sipush (v := (1105 : Int32)) hx hb dX8_reach_11 (by decide) ?_
  refine lv_icmp_lt (tgt := 18) hx hb dX8_reach_14 (by decide) (fun c2 => ?_) (fun c2 => ?_)
  · replace hw := hw.1 c2
    refine lv_iload_n hx hb dX8_reach_18 rfl (lv_at hl 2 rfl) ?_
    refine lv_i2l (v := a2.toInt64) hx hb dX8_reach_19 rfl ?_
    refine lv_bipush (v := (9 : Int32)) hx hb dX8_reach_20 (by decide) ?_
    refine lv_lshl (v := (a2.toInt64 <<< ((9 : Int32).toInt64 &&& 63))) hx hb dX8_reach_22 rfl ?_
    refine lv_iload_n hx hb dX8_reach_23 rfl (lv_at hl 1 rfl) ?_
    refine lv_i2l (v := a1.toInt64) hx hb dX8_reach_24 rfl ?_
    refine lv_ladd hx hb dX8_reach_25 ?_
    refine lv_topl (fun x3 ex3 => ?_)
    replace hw := hw x3 ex3
    refine lv_lstore_n (lv' := [(3, .long x3), (0, .ref (h 0)), (1, .int a1), (2, .int a2)]) hx hb dX8_reach_26 rfl hl (by decide) rfl (fun ls hl => ?_)
    refine lv_aload_n hx hb dX8_reach_27 rfl (lv_at hl 1 rfl) ?_
    refine x_get (v := .int wait) hC hI kX8_reach_cX8 0 rfl rfl 2 (by decide) kX8_reach_2 rfl rfl dX8_reach_28 ?_
    refine lv_istore (lv' := [(5, .int wait), (3, .long x3), (0, .ref (h 0)), (1, .int a1), (2, .int a2)]) hx hb dX8_reach_31 hl (by decide) rfl (fun ls hl => ?_)
    refine lv_aload_n hx hb dX8_reach_33 rfl (lv_at hl 2 rfl) ?_
    refine lv_dup hx hb dX8_reach_34 rfl ?_
    refine x_get (v := .int wait) hC hI kX8_reach_cX8 0 rfl rfl 2 (by decide) kX8_reach_2 rfl rfl dX8_reach_35 ?_
    refine lv_iconst (v := (1 : Int32)) hx hb dX8_reach_38 (by decide) ?_
    refine lv_iadd hx hb dX8_reach_39 ?_
    refine lv_topi (fun x4 ex4 => ?_)
    replace hw := hw x4 ex4
    refine x_put (v := .int x4) hC hI kX8_reach_cX8 tyX8 tyX8_ok nmX8 0 rfl rfl 2 (by decide) kX8_reach_2 rfl rfl rfl rfl (Nat.le_of_ble_eq_true rfl) dX8_reach_40 (fun H locs hI => ?_)
    have hI : wI s D A (fl [wWa K h (upd cost a1.toNatClampNeg a2) heap x4]) H locs := hI
    obtain ⟨I43, mu43, hw, hb43⟩ := hw
    have lp43 : ∀ (k : Nat) (l5_43 : Int32) (heap_43 : Nat → Int64) (ls : Array Slot) (H : Heap) (locs : List Loc), mu43 l5_43 heap_43 < k → I43 l5_43 heap_43 → wI s D A (fl [wWa K h (upd cost a1.toNatClampNeg a2) heap_43 x4]) H locs → lv_has ls 6 [(0, .ref (h 0)), (3, .long x3), (5, .int l5_43)] → W p l e rmX8_reach s m args below meth c H locs 0 0 Q (F0 m 43 ls []) := by
      intro k
      induction k with
      | zero => intro l5_43 heap_43 ls H locs hmu; exact absurd hmu (Nat.not_lt_zero _)
      | succ k ih43 =>
        intro l5_43 heap_43 ls H locs hmu43 hw hI hl
        replace hw := hb43 l5_43 heap_43 hw
        refine lv_iload hx hb dX8_reach_43 (lv_at hl 2 rfl) ?_
        refine lv_if_le (tgt := 93) hx hb dX8_reach_45 (by decide) (fun c5 => ?_) (fun c5 => ?_)
        · replace hw := hw.1 c5
          refine lv_aload_n hx hb dX8_reach_93 rfl (lv_at hl 0 rfl) ?_
          refine x_get (v := .ref (h 2)) hC hI kX8_reach_cX8 0 rfl rfl 1 (by decide) kX8_reach_3 rfl rfl dX8_reach_94 ?_
          refine lv_iload hx hb dX8_reach_97 (lv_at hl 2 rfl) ?_
          refine lv_lload_n hx hb dX8_reach_99 rfl (lv_at hl 1 rfl) ?_
          obtain ⟨hc6, hw⟩ := hw
          refine x_last (f := heap_43) hC hI 2 rfl hc6 dX8_reach_100 (fun H locs hI => ?_)
          have hI : wI s D A (fl [wWa K h (upd cost a1.toNatClampNeg a2) (vp_updL heap_43 l5_43.toNatClampNeg x3) x4]) H locs := hI
          subst hQ
          exact x_vret (u := ((upd cost a1.toNatClampNeg a2), (vp_updL heap_43 l5_43.toNatClampNeg x3), x4)) hC hI hr hlk hw rfl dX8_reach_101
        · replace hw := hw.2 c5
          refine lv_aload_n hx hb dX8_reach_48 rfl (lv_at hl 0 rfl) ?_
          refine x_get (v := .ref (h 2)) hC hI kX8_reach_cX8 0 rfl rfl 1 (by decide) kX8_reach_3 rfl rfl dX8_reach_49 ?_
          refine lv_iload hx hb dX8_reach_52 (lv_at hl 2 rfl) ?_
          refine lv_iconst (v := (1 : Int32)) hx hb dX8_reach_54 (by decide) ?_
          refine lv_isub hx hb dX8_reach_55 ?_
          refine lv_iconst (v := (2 : Int32)) hx hb dX8_reach_56 (by decide) ?_
          refine lv_idiv hx hb dX8_reach_57 (by decide) ?_
          obtain ⟨hc7, hw⟩ := hw
          refine x_lald (f := heap_43) hC hI 2 rfl hc7 dX8_reach_58 ?_
          refine lv_lload_n hx hb dX8_reach_59 rfl (lv_at hl 1 rfl) ?_
          refine W.lcmp hx hb dX8_reach_60 ?_
          refine lv_if_le (tgt := 93) hx hb dX8_reach_61 (by decide) (fun c8 => ?_) (fun c8 => ?_)
          · replace hw := hw.1 c8
            refine lv_aload_n hx hb dX8_reach_93 rfl (lv_at hl 0 rfl) ?_
            refine x_get (v := .ref (h 2)) hC hI kX8_reach_cX8 0 rfl rfl 1 (by decide) kX8_reach_3 rfl rfl dX8_reach_94 ?_
            refine lv_iload hx hb dX8_reach_97 (lv_at hl 2 rfl) ?_
            refine lv_lload_n hx hb dX8_reach_99 rfl (lv_at hl 1 rfl) ?_
            obtain ⟨hc9, hw⟩ := hw
            refine x_last (f := heap_43) hC hI 2 rfl hc9 dX8_reach_100 (fun H locs hI => ?_)
            have hI : wI s D A (fl [wWa K h (upd cost a1.toNatClampNeg a2) (vp_updL heap_43 l5_43.toNatClampNeg x3) x4]) H locs := hI
            subst hQ
            exact x_vret (u := ((upd cost a1.toNatClampNeg a2), (vp_updL heap_43 l5_43.toNatClampNeg x3), x4)) hC hI hr hlk hw rfl dX8_reach_101
          · replace hw := hw.2 c8
            refine lv_aload_n hx hb dX8_reach_64 rfl (lv_at hl 0 rfl) ?_
            refine x_get (v := .ref (h 2)) hC hI kX8_reach_cX8 0 rfl rfl 1 (by decide) kX8_reach_3 rfl rfl dX8_reach_65 ?_
            refine lv_iload hx hb dX8_reach_68 (lv_at hl 2 rfl) ?_
            refine lv_aload_n hx hb dX8_reach_70 rfl (lv_at hl 0 rfl) ?_
            refine x_get (v := .ref (h 2)) hC hI kX8_reach_cX8 0 rfl rfl 1 (by decide) kX8_reach_3 rfl rfl dX8_reach_71 ?_
            refine lv_iload hx hb dX8_reach_74 (lv_at hl 2 rfl) ?_
            refine lv_iconst (v := (1 : Int32)) hx hb dX8_reach_76 (by decide) ?_
            refine lv_isub hx hb dX8_reach_77 ?_
            refine lv_iconst (v := (2 : Int32)) hx hb dX8_reach_78 (by decide) ?_
            refine lv_idiv hx hb dX8_reach_79 (by decide) ?_
            obtain ⟨hc10, hw⟩ := hw
            refine x_lald (f := heap_43) hC hI 2 rfl hc10 dX8_reach_80 ?_
            obtain ⟨hc11, hw⟩ := hw
            refine x_last (f := heap_43) hC hI 2 rfl hc11 dX8_reach_81 (fun H locs hI => ?_)
            have hI : wI s D A (fl [wWa K h (upd cost a1.toNatClampNeg a2) (vp_updL heap_43 l5_43.toNatClampNeg (heap_43 ((l5_43 - (1 : Int32)) / (2 : Int32)).toNatClampNeg)) x4]) H locs := hI
            refine lv_iload hx hb dX8_reach_82 (lv_at hl 2 rfl) ?_
            refine lv_iconst (v := (1 : Int32)) hx hb dX8_reach_84 (by decide) ?_
            refine lv_isub hx hb dX8_reach_85 ?_
            refine lv_iconst (v := (2 : Int32)) hx hb dX8_reach_86 (by decide) ?_
            refine lv_idiv hx hb dX8_reach_87 (by decide) ?_
            refine lv_topi (fun x12 ex12 => ?_)
            replace hw := hw x12 ex12
            refine lv_istore (lv' := [(5, .int x12), (0, .ref (h 0)), (3, .long x3)]) hx hb dX8_reach_88 hl (by decide) rfl (fun ls hl => ?_)
            refine lv_goto (tgt := 43) hx hb dX8_reach_90 (by decide) ?_
            exact ih43 x12 (vp_updL heap_43 l5_43.toNatClampNeg (heap_43 ((l5_43 - (1 : Int32)) / (2 : Int32)).toNatClampNeg)) ls H locs (Nat.lt_of_lt_of_le hw.2 (Nat.le_of_lt_succ hmu43)) hw.1 hI (lv_sub hl [1, 2, 0] rfl)
    exact lp43 (mu43 wait heap + 1) wait heap ls H locs (Nat.lt_succ_self _) hw hI (lv_sub hl [2, 1, 0] rfl)
  · replace hw := hw.2 c2
    subst hQ
    exact x_vret (u := ((upd cost a1.toNatClampNeg a2), heap, wait)) hC hI hr hlk hw rfl dX8_reach_17

def wX8_takeLeast  (heap : Nat → Int64) (wait : Int32) (post : Int64 → (Nat → Int64) → Int32 → Prop) : Prop := ∀ x1 : Int64, x1 = heap 0 → ∀ x2 : Int32, x2 = wait - (1 : Int32) → vp_in x2 1105 ∧ ∀ x4 : Int64, x4 = heap x2.toNatClampNeg → (∃ (I33 : Int32 → Int32 → (Nat → Int64) → Prop) (mu33 : Int32 → Int32 → (Nat → Int64) → Nat), I33 (0 : Int32) (1 : Int32) heap ∧ ∀ (l5_33 : Int32) (l6_33 : Int32) (heap_33 : Nat → Int64), I33 l5_33 l6_33 heap_33 → ∃ J120 : Prop, (J120 → vp_in l5_33 1105 ∧ post x1 (vp_updL heap_33 l5_33.toNatClampNeg x4) x2) ∧ ((x2 ≤ l6_33 → J120) ∧ (¬ x2 ≤ l6_33 → ∃ J76 : Int32 → Prop, (∀ (j6_76 : Int32), J76 j6_76 → vp_in j6_76 1105 ∧ (((lg_cmp (heap_33 j6_76.toNatClampNeg) x4) < 0 → vp_in j6_76 1105 ∧ vp_in l5_33 1105 ∧ ∀ x11 : Int32, x11 = ((2 : Int32) * j6_76) + (1 : Int32) → (I33 j6_76 x11 (vp_updL heap_33 l5_33.toNatClampNeg (heap_33 j6_76.toNatClampNeg)) ∧ mu33 j6_76 x11 (vp_updL heap_33 l5_33.toNatClampNeg (heap_33 j6_76.toNatClampNeg)) < mu33 l5_33 l6_33 heap_33)) ∧ (¬ (lg_cmp (heap_33 j6_76.toNatClampNeg) x4) < 0 → J120))) ∧ ((x2 ≤ (l6_33 + (1 : Int32)) → J76 l6_33) ∧ (¬ x2 ≤ (l6_33 + (1 : Int32)) → vp_in (l6_33 + (1 : Int32)) 1105 ∧ vp_in l6_33 1105 ∧ ((0 ≤ (lg_cmp (heap_33 (l6_33 + (1 : Int32)).toNatClampNeg) (heap_33 l6_33.toNatClampNeg)) → J76 l6_33) ∧ (¬ 0 ≤ (lg_cmp (heap_33 (l6_33 + (1 : Int32)).toNatClampNeg) (heap_33 l6_33.toNatClampNeg)) → ∀ x16 : Int32, x16 = l6_33 + 1 → J76 x16)))))))
def rmX8_takeLeast : Room := { frames := 0, cells := 0, slots := 0, locals := 0 }
theorem kX8_takeLeast_0 : Cond.fieldLink RX8 17 "GoreGlobe$Ways" "heap" "[J" ∈ wsX8_takeLeast := List.mem_cons_of_mem _ (List.mem_append_left _ (List.mem_of_getElem? (i := 0) rfl))
theorem kX8_takeLeast_cX8 : ∀ w ∈ wsX80, w ∈ wsX8_takeLeast := fun _ h => List.mem_cons_of_mem _ (List.mem_append_right _ h)
theorem kX8_takeLeast_2 : Cond.fieldLink RX8 28 "GoreGlobe$Ways" "waiting" "I" ∈ wsX8_takeLeast := List.mem_cons_of_mem _ (List.mem_append_left _ (List.mem_of_getElem? (i := 1) rfl))
set_option maxHeartbeats 4000000 in
set_option maxRecDepth 100000 in
theorem mX8_takeLeast (l : Launch) (D : va_G) (K : Nat → ClassId) (h : Nat → Nat) (sz : Nat)  (cost : Nat → Int32) (heap : Nat → Int64) (wait : Int32)  {post : Int64 → (Nat → Int64) → Int32 → Prop} (hw : wX8_takeLeast  heap wait post) : Met l yX8_takeLeast wsX8_takeLeast rmX8_takeLeast (va_Pc [.ref (h 0)] (cP D K (fl [wWa K h cost heap wait]) sz)) (va_Ql (fun (r : Int64) (u : (Nat → Int64) × Int32) => post r u.1 u.2) (fun u t => cQ D K (fl [wWa K h cost u.1 u.2]) (va_A (fl [wWa K h cost heap wait]) sz) t) (va_A (fl [wWa K h cost heap wait]) sz)) 0 0 (va_A (fl [wWa K h cost heap wait]) sz) := by
  refine x_entry (cc := cX8_takeLeast) (maxL := 7) (ret := (some .long)) (QA := fun A => va_Ql (fun (r : Int64) (u : (Nat → Int64) × Int32) => post r u.1 u.2) (fun u t => cQ D K (fl [wWa K h cost u.1 u.2]) A t) A) (plainFor_of_name (by decide)) rfl (Nat.le_of_ble_eq_true rfl) ?_
  intro p e s m args below meth c A ls H Q hQ hC hlk hr hnm hI hl
  obtain ⟨hx, hb, hml, hown, hts, hK, hA, hZ⟩ := id hC
  obtain ⟨locs, hlocs⟩ : ∃ y : List Loc, y = [] := ⟨_, rfl⟩
  rw [← hlocs] at hI ⊢
  clear hlocs
  replace hl : lv_has ls 7 [(0, .ref (h 0))] := hl
  replace hw : ∀ x1 : Int64, x1 = heap 0 → ∀ x2 : Int32, x2 = wait - (1 : Int32) → vp_in x2 1105 ∧ ∀ x4 : Int64, x4 = heap x2.toNatClampNeg → (∃ (I33 : Int32 → Int32 → (Nat → Int64) → Prop) (mu33 : Int32 → Int32 → (Nat → Int64) → Nat), I33 (0 : Int32) (1 : Int32) heap ∧ ∀ (l5_33 : Int32) (l6_33 : Int32) (heap_33 : Nat → Int64), I33 l5_33 l6_33 heap_33 → ∃ J120 : Prop, (J120 → vp_in l5_33 1105 ∧ post x1 (vp_updL heap_33 l5_33.toNatClampNeg x4) x2) ∧ ((x2 ≤ l6_33 → J120) ∧ (¬ x2 ≤ l6_33 → ∃ J76 : Int32 → Prop, (∀ (j6_76 : Int32), J76 j6_76 → vp_in j6_76 1105 ∧ (((lg_cmp (heap_33 j6_76.toNatClampNeg) x4) < 0 → vp_in j6_76 1105 ∧ vp_in l5_33 1105 ∧ ∀ x11 : Int32, x11 = ((2 : Int32) * j6_76) + (1 : Int32) → (I33 j6_76 x11 (vp_updL heap_33 l5_33.toNatClampNeg (heap_33 j6_76.toNatClampNeg)) ∧ mu33 j6_76 x11 (vp_updL heap_33 l5_33.toNatClampNeg (heap_33 j6_76.toNatClampNeg)) < mu33 l5_33 l6_33 heap_33)) ∧ (¬ (lg_cmp (heap_33 j6_76.toNatClampNeg) x4) < 0 → J120))) ∧ ((x2 ≤ (l6_33 + (1 : Int32)) → J76 l6_33) ∧ (¬ x2 ≤ (l6_33 + (1 : Int32)) → vp_in (l6_33 + (1 : Int32)) 1105 ∧ vp_in l6_33 1105 ∧ ((0 ≤ (lg_cmp (heap_33 (l6_33 + (1 : Int32)).toNatClampNeg) (heap_33 l6_33.toNatClampNeg)) → J76 l6_33) ∧ (¬ 0 ≤ (lg_cmp (heap_33 (l6_33 + (1 : Int32)).toNatClampNeg) (heap_33 l6_33.toNatClampNeg)) → ∀ x16 : Int32, x16 = l6_33 + 1 → J76 x16))))))) := hw
  refine lv_aload_n hx hb dX8_takeLeast_0 rfl (lv_at hl 0 rfl) ?_
  refine x_get (v := .ref (h 2)) hC hI kX8_takeLeast_cX8 0 rfl rfl 1 (by decide) kX8_takeLeast_0 rfl rfl dX8_takeLeast_1 ?_
  refine lv_iconst (v := (0 : Int32)) hx hb dX8_takeLeast_4 (by decide) ?_
  refine x_lald (f := heap) hC hI 2 rfl (by unfold vp_in; decide) dX8_takeLeast_5 ?_
  refine lv_topl (fun x1 ex1 => ?_)
  replace hw := hw x1 ex1
  refine lv_lstore_n (lv' := [(1, .long x1), (0, .ref (h 0))]) hx hb dX8_takeLeast_6 rfl hl (by decide) rfl (fun ls hl => ?_)
  refine lv_aload_n hx hb dX8_takeLeast_7 rfl (lv_at hl 1 rfl) ?_
  refine lv_dup hx hb dX8_takeLeast_8 rfl ?_
  refine x_get (v := .int wait) hC hI kX8_takeLeast_cX8 0 rfl rfl 2 (by decide) kX8_takeLeast_2 rfl rfl dX8_takeLeast_9 ?_
  refine lv_iconst (v := (1 : Int32)) hx hb dX8_takeLeast_12 (by decide) ?_
  refine lv_isub hx hb dX8_takeLeast_13 ?_
  refine lv_topi (fun x2 ex2 => ?_)
  replace hw := hw x2 ex2
  refine x_put (v := .int x2) hC hI kX8_takeLeast_cX8 tyX8 tyX8_ok nmX8 0 rfl rfl 2 (by decide) kX8_takeLeast_2 rfl rfl rfl rfl (Nat.le_of_ble_eq_true rfl) dX8_takeLeast_14 (fun H locs hI => ?_)
  have hI : wI s D A (fl [wWa K h cost heap x2]) H locs := hI
  refine lv_aload_n hx hb dX8_takeLeast_17 rfl (lv_at hl 1 rfl) ?_
  refine x_get (v := .ref (h 2)) hC hI kX8_takeLeast_cX8 0 rfl rfl 1 (by decide) kX8_takeLeast_0 rfl rfl dX8_takeLeast_18 ?_
  refine lv_aload_n hx hb dX8_takeLeast_21 rfl (lv_at hl 1 rfl) ?_
  refine x_get (v := .int x2) hC hI kX8_takeLeast_cX8 0 rfl rfl 2 (by decide) kX8_takeLeast_2 rfl rfl dX8_takeLeast_22 ?_
  obtain ⟨hc3, hw⟩ := hw
  refine x_lald (f := heap) hC hI 2 rfl hc3 dX8_takeLeast_25 ?_
  refine lv_topl (fun x4 ex4 => ?_)
  replace hw := hw x4 ex4
  refine lv_lstore_n (lv' := [(3, .long x4), (1, .long x1), (0, .ref (h 0))]) hx hb dX8_takeLeast_26 rfl hl (by decide) rfl (fun ls hl => ?_)
  refine lv_iconst (v := (0 : Int32)) hx hb dX8_takeLeast_27 (by decide) ?_
  refine lv_istore (lv' := [(5, .int (0 : Int32)), (3, .long x4), (1, .long x1), (0, .ref (h 0))]) hx hb dX8_takeLeast_28 hl (by decide) rfl (fun ls hl => ?_)
  refine lv_iconst (v := (1 : Int32)) hx hb dX8_takeLeast_30 (by decide) ?_
  refine lv_istore (lv' := [(6, .int (1 : Int32)), (5, .int (0 : Int32)), (3, .long x4), (1, .long x1), (0, .ref (h 0))]) hx hb dX8_takeLeast_31 hl (by decide) rfl (fun ls hl => ?_)
  obtain ⟨I33, mu33, hw, hb33⟩ := hw
  have lp33 : ∀ (k : Nat) (l5_33 : Int32) (l6_33 : Int32) (heap_33 : Nat → Int64) (ls : Array Slot) (H : Heap) (locs : List Loc), mu33 l5_33 l6_33 heap_33 < k → I33 l5_33 l6_33 heap_33 → wI s D A (fl [wWa K h cost heap_33 x2]) H locs → lv_has ls 7 [(0, .ref (h 0)), (1, .long x1), (3, .long x4), (5, .int l5_33), (6, .int l6_33)] → W p l e rmX8_takeLeast s m args below meth c H locs 0 0 Q (F0 m 33 ls []) := by
    intro k
    induction k with
    | zero => intro l5_33 l6_33 heap_33 ls H locs hmu; exact absurd hmu (Nat.not_lt_zero _)
    | succ k ih33 =>
      intro l5_33 l6_33 heap_33 ls H locs hmu33 hw hI hl
      replace hw := hb33 l5_33 l6_33 heap_33 hw
      refine lv_iload hx hb dX8_takeLeast_33 (lv_at hl 4 rfl) ?_
      refine lv_aload_n hx hb dX8_takeLeast_35 rfl (lv_at hl 0 rfl) ?_
      refine x_get (v := .int x2) hC hI kX8_takeLeast_cX8 0 rfl rfl 2 (by decide) kX8_takeLeast_2 rfl rfl dX8_takeLeast_36 ?_
      obtain ⟨J120, hJ120, hw⟩ := hw
      have jn120 : ∀  (ls : Array Slot) (H : Heap) (locs : List Loc), J120  → wI s D A (fl [wWa K h cost heap_33 x2]) H locs → lv_has ls 7 [(0, .ref (h 0)), (1, .long x1), (3, .long x4), (5, .int l5_33)] → W p l e rmX8_takeLeast s m args below meth c H locs 0 0 Q (F0 m 120 ls []) := by
        intro  ls H locs hw hI hl
        replace hw := hJ120 hw
        refine lv_aload_n hx hb dX8_takeLeast_120 rfl (lv_at hl 0 rfl) ?_
        refine x_get (v := .ref (h 2)) hC hI kX8_takeLeast_cX8 0 rfl rfl 1 (by decide) kX8_takeLeast_0 rfl rfl dX8_takeLeast_121 ?_
        refine lv_iload hx hb dX8_takeLeast_124 (lv_at hl 3 rfl) ?_
        refine lv_lload_n hx hb dX8_takeLeast_126 rfl (lv_at hl 2 rfl) ?_
        obtain ⟨hc5, hw⟩ := hw
        refine x_last (f := heap_33) hC hI 2 rfl hc5 dX8_takeLeast_127 (fun H locs hI => ?_)
        have hI : wI s D A (fl [wWa K h cost (vp_updL heap_33 l5_33.toNatClampNeg x4) x2]) H locs := hI
        refine lv_lload_n hx hb dX8_takeLeast_128 rfl (lv_at hl 1 rfl) ?_
        subst hQ
        exact x_lret (u := ((vp_updL heap_33 l5_33.toNatClampNeg x4), x2)) hC hI hr hlk hw rfl dX8_takeLeast_129
      refine lv_icmp_ge (tgt := 120) hx hb dX8_takeLeast_39 (by decide) (fun c6 => ?_) (fun c6 => ?_)
      · replace hw := hw.1 c6
        exact jn120 ls H locs hw hI (lv_sub hl [0, 1, 2, 3] rfl)
      · replace hw := hw.2 c6
        refine lv_iload hx hb dX8_takeLeast_42 (lv_at hl 4 rfl) ?_
        refine lv_iconst (v := (1 : Int32)) hx hb dX8_takeLeast_44 (by decide) ?_
        refine lv_iadd hx hb dX8_takeLeast_45 ?_
        refine lv_aload_n hx hb dX8_takeLeast_46 rfl (lv_at hl 0 rfl) ?_
        refine x_get (v := .int x2) hC hI kX8_takeLeast_cX8 0 rfl rfl 2 (by decide) kX8_takeLeast_2 rfl rfl dX8_takeLeast_47 ?_
        obtain ⟨J76, hJ76, hw⟩ := hw
        have jn76 : ∀ (j6_76 : Int32) (ls : Array Slot) (H : Heap) (locs : List Loc), J76 j6_76 → wI s D A (fl [wWa K h cost heap_33 x2]) H locs → lv_has ls 7 [(0, .ref (h 0)), (1, .long x1), (3, .long x4), (5, .int l5_33), (6, .int j6_76)] → W p l e rmX8_takeLeast s m args below meth c H locs 0 0 Q (F0 m 76 ls []) := by
          intro j6_76 ls H locs hw hI hl
          replace hw := hJ76 j6_76 hw
          refine lv_aload_n hx hb dX8_takeLeast_76 rfl (lv_at hl 0 rfl) ?_
          refine x_get (v := .ref (h 2)) hC hI kX8_takeLeast_cX8 0 rfl rfl 1 (by decide) kX8_takeLeast_0 rfl rfl dX8_takeLeast_77 ?_
          refine lv_iload hx hb dX8_takeLeast_80 (lv_at hl 4 rfl) ?_
          obtain ⟨hc7, hw⟩ := hw
          refine x_lald (f := heap_33) hC hI 2 rfl hc7 dX8_takeLeast_82 ?_
          refine lv_lload_n hx hb dX8_takeLeast_83 rfl (lv_at hl 2 rfl) ?_
          refine W.lcmp hx hb dX8_takeLeast_84 ?_
          refine lv_if_lt (tgt := 91) hx hb dX8_takeLeast_85 (by decide) (fun c8 => ?_) (fun c8 => ?_)
          · replace hw := hw.1 c8
            refine lv_aload_n hx hb dX8_takeLeast_91 rfl (lv_at hl 0 rfl) ?_
            refine x_get (v := .ref (h 2)) hC hI kX8_takeLeast_cX8 0 rfl rfl 1 (by decide) kX8_takeLeast_0 rfl rfl dX8_takeLeast_92 ?_
            refine lv_iload hx hb dX8_takeLeast_95 (lv_at hl 3 rfl) ?_
            refine lv_aload_n hx hb dX8_takeLeast_97 rfl (lv_at hl 0 rfl) ?_
            refine x_get (v := .ref (h 2)) hC hI kX8_takeLeast_cX8 0 rfl rfl 1 (by decide) kX8_takeLeast_0 rfl rfl dX8_takeLeast_98 ?_
            refine lv_iload hx hb dX8_takeLeast_101 (lv_at hl 4 rfl) ?_
            obtain ⟨hc9, hw⟩ := hw
            refine x_lald (f := heap_33) hC hI 2 rfl hc9 dX8_takeLeast_103 ?_
            obtain ⟨hc10, hw⟩ := hw
            refine x_last (f := heap_33) hC hI 2 rfl hc10 dX8_takeLeast_104 (fun H locs hI => ?_)
            have hI : wI s D A (fl [wWa K h cost (vp_updL heap_33 l5_33.toNatClampNeg (heap_33 j6_76.toNatClampNeg)) x2]) H locs := hI
            refine lv_iload hx hb dX8_takeLeast_105 (lv_at hl 4 rfl) ?_
            refine lv_istore (lv' := [(5, .int j6_76), (0, .ref (h 0)), (1, .long x1), (3, .long x4), (6, .int j6_76)]) hx hb dX8_takeLeast_107 hl (by decide) rfl (fun ls hl => ?_)
            refine lv_iconst (v := (2 : Int32)) hx hb dX8_takeLeast_109 (by decide) ?_
            refine lv_iload hx hb dX8_takeLeast_110 (lv_at hl 0 rfl) ?_
            refine lv_imul hx hb dX8_takeLeast_112 ?_
            refine lv_iconst (v := (1 : Int32)) hx hb dX8_takeLeast_113 (by decide) ?_
            refine lv_iadd hx hb dX8_takeLeast_114 ?_
            refine lv_topi (fun x11 ex11 => ?_)
            replace hw := hw x11 ex11
            refine lv_istore (lv' := [(6, .int x11), (5, .int j6_76), (0, .ref (h 0)), (1, .long x1), (3, .long x4)]) hx hb dX8_takeLeast_115 hl (by decide) rfl (fun ls hl => ?_)
            refine lv_goto (tgt := 33) hx hb dX8_takeLeast_117 (by decide) ?_
            exact ih33 j6_76 x11 (vp_updL heap_33 l5_33.toNatClampNeg (heap_33 j6_76.toNatClampNeg)) ls H locs (Nat.lt_of_lt_of_le hw.2 (Nat.le_of_lt_succ hmu33)) hw.1 hI (lv_sub hl [2, 3, 4, 1, 0] rfl)
          · replace hw := hw.2 c8
            refine lv_goto (tgt := 120) hx hb dX8_takeLeast_88 (by decide) ?_
            exact jn120 ls H locs hw hI (lv_sub hl [0, 1, 2, 3] rfl)
        refine lv_icmp_ge (tgt := 76) hx hb dX8_takeLeast_50 (by decide) (fun c12 => ?_) (fun c12 => ?_)
        · replace hw := hw.1 c12
          exact jn76 l6_33 ls H locs hw hI (lv_sub hl [0, 1, 2, 3, 4] rfl)
        · replace hw := hw.2 c12
          refine lv_aload_n hx hb dX8_takeLeast_53 rfl (lv_at hl 0 rfl) ?_
          refine x_get (v := .ref (h 2)) hC hI kX8_takeLeast_cX8 0 rfl rfl 1 (by decide) kX8_takeLeast_0 rfl rfl dX8_takeLeast_54 ?_
          refine lv_iload hx hb dX8_takeLeast_57 (lv_at hl 4 rfl) ?_
          refine lv_iconst (v := (1 : Int32)) hx hb dX8_takeLeast_59 (by decide) ?_
          refine lv_iadd hx hb dX8_takeLeast_60 ?_
          obtain ⟨hc13, hw⟩ := hw
          refine x_lald (f := heap_33) hC hI 2 rfl hc13 dX8_takeLeast_61 ?_
          refine lv_aload_n hx hb dX8_takeLeast_62 rfl (lv_at hl 0 rfl) ?_
          refine x_get (v := .ref (h 2)) hC hI kX8_takeLeast_cX8 0 rfl rfl 1 (by decide) kX8_takeLeast_0 rfl rfl dX8_takeLeast_63 ?_
          refine lv_iload hx hb dX8_takeLeast_66 (lv_at hl 4 rfl) ?_
          obtain ⟨hc14, hw⟩ := hw
          refine x_lald (f := heap_33) hC hI 2 rfl hc14 dX8_takeLeast_68 ?_
          refine W.lcmp hx hb dX8_takeLeast_69 ?_
          refine lv_if_ge (tgt := 76) hx hb dX8_takeLeast_70 (by decide) (fun c15 => ?_) (fun c15 => ?_)
          · replace hw := hw.1 c15
            exact jn76 l6_33 ls H locs hw hI (lv_sub hl [0, 1, 2, 3, 4] rfl)
          · replace hw := hw.2 c15
            obtain ⟨x16, ex16⟩ : ∃ y : Int32, y = l6_33 + 1 := ⟨_, rfl⟩
            replace hw := hw x16 ex16
            refine lv_iinc (v := x16) (lv' := [(6, .int x16), (0, .ref (h 0)), (1, .long x1), (3, .long x4), (5, .int l5_33)]) hx hb dX8_takeLeast_73 hl (k := 4) rfl (by rw [ex16]; rfl) (by decide) rfl (fun ls hl => ?_)
            exact jn76 x16 ls H locs hw hI (lv_sub hl [1, 2, 3, 4, 0] rfl)
  exact lp33 (mu33 (0 : Int32) (1 : Int32) heap + 1) (0 : Int32) (1 : Int32) heap ls H locs (Nat.lt_succ_self _) hw hI (lv_sub hl [4, 3, 2, 1, 0] rfl)

def wX8_stepCost (a1 : Int32) (a2 : Int32) (unit : Int32) (post : Int32 → Prop) : Prop := wX1_rowOf a1 (fun (r1 : Int32) => wX1_rowOf a2 (fun (r2 : Int32) => wX0_far r1 r2 unit (fun (r3 : Int32) => post ((r3 <<< ((9 : Int32) &&& 31)) + (1 : Int32)))))
def rmX8_stepCost : Room := { frames := 2, cells := 0, slots := 0, locals := 42 }
set_option maxHeartbeats 4000000 in
set_option maxRecDepth 100000 in
theorem mX8_stepCost (l : Launch) (D : va_G) (K : Nat → ClassId) (h : Nat → Nat) (sz : Nat) (a1 : Int32) (a2 : Int32) (bits : Nat → Int64) (stops : Nat → Int32) (num : Int32) (unit : Int32) (strips : Int32) (caps : Int32) (draw : Int32)  {post : Int32 → Prop} (hw : wX8_stepCost a1 a2 unit post) : Met l yX8_stepCost wsX8_stepCost rmX8_stepCost (va_Pc [.ref (h 0), .int a1, .int a2] (cP D K (fl [wGl K h (bits, stops, num, unit, strips, caps, draw)]) sz)) (va_Qi (fun (r : Int32) (u : Unit) => post r) (fun u t => cQ D K (fl [wGl K h (bits, stops, num, unit, strips, caps, draw)]) (va_A (fl [wGl K h (bits, stops, num, unit, strips, caps, draw)]) sz) t) (va_A (fl [wGl K h (bits, stops, num, unit, strips, caps, draw)]) sz)) 0 0 (va_A (fl [wGl K h (bits, stops, num, unit, strips, caps, draw)]) sz) := by
  refine x_entry (cc := cX8_stepCost) (maxL := 3) (ret := (some .int)) (QA := fun A => va_Qi (fun (r : Int32) (u : Unit) => post r) (fun u t => cQ D K (fl [wGl K h (bits, stops, num, unit, strips, caps, draw)]) A t) A) (plainFor_of_name (by decide)) rfl (Nat.le_of_ble_eq_true rfl) ?_
  intro p e s m args below meth c A ls H Q hQ hC hlk hr hnm hI hl
  obtain ⟨hx, hb, hml, hown, hts, hK, hA, hZ⟩ := id hC
  obtain ⟨locs, hlocs⟩ : ∃ y : List Loc, y = [] := ⟨_, rfl⟩
  rw [← hlocs] at hI ⊢
  clear hlocs
  replace hl : lv_has ls 3 [(0, .ref (h 0)), (1, .int a1), (2, .int a2)] := hl
  replace hw : wX1_rowOf a1 (fun (r1 : Int32) => wX1_rowOf a2 (fun (r2 : Int32) => wX0_far r1 r2 unit (fun (r3 : Int32) => post ((r3 <<< ((9 : Int32) &&& 31)) + (1 : Int32))))) := hw
  refine lv_aload_n hx hb dX8_stepCost_0 rfl (lv_at hl 0 rfl) ?_
  refine lv_iload_n hx hb dX8_stepCost_1 rfl (lv_at hl 1 rfl) ?_
  refine x_callSi (rest := [.ref (h 0)]) hC hI [] (mX1_rowOf l D K  _ a1 hw) (va_cwS 1 hts gX8_stepCost_X1_rowOf rfl rfl rfl (by decide +kernel) ⟨(Nat.le_of_ble_eq_true rfl), (Nat.le_of_ble_eq_true rfl)⟩) (by decide) rfl (fun _ => rfl) rfl hl.1 rfl (Nat.le_of_ble_eq_true rfl) dX8_stepCost_2 ⟨(Nat.le_of_ble_eq_true rfl), (Nat.le_of_ble_eq_true rfl)⟩ (fun r1 u H locs hw hI => ?_)
  try dsimp only at hw
  have hI : wI s D A (fl [wGl K h (bits, stops, num, unit, strips, caps, draw)]) H locs := hI
  refine lv_iload_n hx hb dX8_stepCost_5 rfl (lv_at hl 2 rfl) ?_
  refine x_callSi (rest := [.int r1, .ref (h 0)]) hC hI [] (mX1_rowOf l D K  _ a2 hw) (va_cwS 1 hts gX8_stepCost_X1_rowOf rfl rfl rfl (by decide +kernel) ⟨(Nat.le_of_ble_eq_true rfl), (Nat.le_of_ble_eq_true rfl)⟩) (by decide) rfl (fun _ => rfl) rfl hl.1 rfl (Nat.le_of_ble_eq_true rfl) dX8_stepCost_6 ⟨(Nat.le_of_ble_eq_true rfl), (Nat.le_of_ble_eq_true rfl)⟩ (fun r2 u H locs hw hI => ?_)
  try dsimp only at hw
  have hI : wI s D A (fl [wGl K h (bits, stops, num, unit, strips, caps, draw)]) H locs := hI
  refine x_callVi (rest := []) hC hI [0] (mX0_far l D K h _ r1 r2 bits stops num unit strips caps draw hw) (cwV 2 hts gX8_stepCost_X0_far rfl rfl rfl (by decide +kernel) ⟨(Nat.le_of_ble_eq_true rfl), (Nat.le_of_ble_eq_true rfl)⟩) (by decide) rfl (fun _ => rfl) 0 0 rfl rfl rfl rfl hl.1 rfl (Nat.le_of_ble_eq_true rfl) dX8_stepCost_9 ⟨(Nat.le_of_ble_eq_true rfl), (Nat.le_of_ble_eq_true rfl)⟩ (fun r3 u H locs hw hI => ?_)
  try dsimp only at hw
  have hI : wI s D A (fl [wGl K h (bits, stops, num, unit, strips, caps, draw)]) H locs := hI
  refine lv_bipush (v := (9 : Int32)) hx hb dX8_stepCost_12 (by decide) ?_
  refine lv_ishl hx hb dX8_stepCost_14 ?_
  refine lv_iconst (v := (1 : Int32)) hx hb dX8_stepCost_15 (by decide) ?_
  refine lv_iadd hx hb dX8_stepCost_16 ?_
  subst hQ
  exact x_iret (u := ()) hC hI hr hlk hw rfl dX8_stepCost_17

def wX8_goOn (a2 : Int32) (cost : Nat → Int32) (heap : Nat → Int64) (wait : Int32) (bits : Nat → Int64) (unit : Int32) (post : (Nat → Int32) → (Nat → Int64) → Int32 → Prop) : Prop := (∃ (I2 : Int32 → (Nat → Int32) → (Nat → Int64) → Int32 → Prop) (mu2 : Int32 → (Nat → Int32) → (Nat → Int64) → Int32 → Nat), I2 (0 : Int32) cost heap wait ∧ ∀ (l3_2 : Int32) (cost_2 : Nat → Int32) (heap_2 : Nat → Int64) (wait_2 : Int32), I2 l3_2 cost_2 heap_2 wait_2 → wX1_neighbourNumber a2 (fun (r1 : Int32) => ((r1 ≤ l3_2 → post cost_2 heap_2 wait_2) ∧ (¬ r1 ≤ l3_2 → wX1_neighbour a2 l3_2 (fun (r3 : Int32) => vp_in a2 266 ∧ wX8_stepCost a2 r3 unit (fun (r5 : Int32) => ∀ x6 : Int32, x6 = (cost_2 a2.toNatClampNeg) + r5 → wX0_isLand r3 bits (fun (r7 : Int32) => ((r7 = 0 → vp_in r3 266 ∧ (((cost_2 r3.toNatClampNeg) ≤ x6 → ∀ x12 : Int32, x12 = l3_2 + 1 → (I2 x12 cost_2 heap_2 wait_2 ∧ mu2 x12 cost_2 heap_2 wait_2 < mu2 l3_2 cost_2 heap_2 wait_2)) ∧ (¬ (cost_2 r3.toNatClampNeg) ≤ x6 → wX8_reach r3 x6 cost_2 heap_2 wait_2 (fun (cost_c13 : Nat → Int32) (heap_c14 : Nat → Int64) (wait_c15 : Int32) => ∀ x16 : Int32, x16 = l3_2 + 1 → (I2 x16 cost_c13 heap_c14 wait_c15 ∧ mu2 x16 cost_c13 heap_c14 wait_c15 < mu2 l3_2 cost_2 heap_2 wait_2))))) ∧ (¬ r7 = 0 → ∀ x9 : Int32, x9 = l3_2 + 1 → (I2 x9 cost_2 heap_2 wait_2 ∧ mu2 x9 cost_2 heap_2 wait_2 < mu2 l3_2 cost_2 heap_2 wait_2))))))))))
def rmX8_goOn : Room := { frames := 3, cells := 0, slots := 0, locals := 64 }
theorem kX8_goOn_0 : Cond.fieldLink RX8 13 "GoreGlobe$Ways" "cost" "[I" ∈ wsX8_goOn := List.mem_cons_of_mem _ (List.mem_append_left _ (List.mem_append_left _ (List.mem_append_left _ (List.mem_of_getElem? (i := 0) rfl))))
theorem kX8_goOn_cX8 : ∀ w ∈ wsX80, w ∈ wsX8_goOn := fun _ h => List.mem_cons_of_mem _ (List.mem_append_left _ (List.mem_append_right _ h))
set_option maxHeartbeats 4000000 in
set_option maxRecDepth 100000 in
theorem mX8_goOn (l : Launch) (D : va_G) (K : Nat → ClassId) (h0 : Nat → Nat) (h1 : Nat → Nat) (sz : Nat) (a2 : Int32) (cost : Nat → Int32) (heap : Nat → Int64) (wait : Int32) (bits : Nat → Int64) (stops : Nat → Int32) (num : Int32) (unit : Int32) (strips : Int32) (caps : Int32) (draw : Int32)  {post : (Nat → Int32) → (Nat → Int64) → Int32 → Prop} (hw : wX8_goOn a2 cost heap wait bits unit post) : Met l yX8_goOn wsX8_goOn rmX8_goOn (va_Pc [.ref (h0 0), .ref (h1 0), .int a2] (cP D K (fl [wWa K h0 cost heap wait, wGl K h1 (bits, stops, num, unit, strips, caps, draw)]) sz)) (va_Qv (fun (u : (Nat → Int32) × (Nat → Int64) × Int32) => post u.1 u.2.1 u.2.2) (fun u t => cQ D K (fl [wWa K h0 u.1 u.2.1 u.2.2, wGl K h1 (bits, stops, num, unit, strips, caps, draw)]) (va_A (fl [wWa K h0 cost heap wait, wGl K h1 (bits, stops, num, unit, strips, caps, draw)]) sz) t) (va_A (fl [wWa K h0 cost heap wait, wGl K h1 (bits, stops, num, unit, strips, caps, draw)]) sz)) 0 0 (va_A (fl [wWa K h0 cost heap wait, wGl K h1 (bits, stops, num, unit, strips, caps, draw)]) sz) := by
  refine x_entry (cc := cX8_goOn) (maxL := 6) (ret := none) (QA := fun A => va_Qv (fun (u : (Nat → Int32) × (Nat → Int64) × Int32) => post u.1 u.2.1 u.2.2) (fun u t => cQ D K (fl [wWa K h0 u.1 u.2.1 u.2.2, wGl K h1 (bits, stops, num, unit, strips, caps, draw)]) A t) A) (plainFor_of_name (by decide)) rfl (Nat.le_of_ble_eq_true rfl) ?_
  intro p e s m args below meth c A ls H Q hQ hC hlk hr hnm hI hl
  obtain ⟨hx, hb, hml, hown, hts, hK, hA, hZ⟩ := id hC
  obtain ⟨locs, hlocs⟩ : ∃ y : List Loc, y = [] := ⟨_, rfl⟩
  rw [← hlocs] at hI ⊢
  clear hlocs
  replace hl : lv_has ls 6 [(0, .ref (h0 0)), (1, .ref (h1 0)), (2, .int a2)] := hl
  replace hw : (∃ (I2 : Int32 → (Nat → Int32) → (Nat → Int64) → Int32 → Prop) (mu2 : Int32 → (Nat → Int32) → (Nat → Int64) → Int32 → Nat), I2 (0 : Int32) cost heap wait ∧ ∀ (l3_2 : Int32) (cost_2 : Nat → Int32) (heap_2 : Nat → Int64) (wait_2 : Int32), I2 l3_2 cost_2 heap_2 wait_2 → wX1_neighbourNumber a2 (fun (r1 : Int32) => ((r1 ≤ l3_2 → post cost_2 heap_2 wait_2) ∧ (¬ r1 ≤ l3_2 → wX1_neighbour a2 l3_2 (fun (r3 : Int32) => vp_in a2 266 ∧ wX8_stepCost a2 r3 unit (fun (r5 : Int32) => ∀ x6 : Int32, x6 = (cost_2 a2.toNatClampNeg) + r5 → wX0_isLand r3 bits (fun (r7 : Int32) => ((r7 = 0 → vp_in r3 266 ∧ (((cost_2 r3.toNatClampNeg) ≤ x6 → ∀ x12 : Int32, x12 = l3_2 + 1 → (I2 x12 cost_2 heap_2 wait_2 ∧ mu2 x12 cost_2 heap_2 wait_2 < mu2 l3_2 cost_2 heap_2 wait_2)) ∧ (¬ (cost_2 r3.toNatClampNeg) ≤ x6 → wX8_reach r3 x6 cost_2 heap_2 wait_2 (fun (cost_c13 : Nat → Int32) (heap_c14 : Nat → Int64) (wait_c15 : Int32) => ∀ x16 : Int32, x16 = l3_2 + 1 → (I2 x16 cost_c13 heap_c14 wait_c15 ∧ mu2 x16 cost_c13 heap_c14 wait_c15 < mu2 l3_2 cost_2 heap_2 wait_2))))) ∧ (¬ r7 = 0 → ∀ x9 : Int32, x9 = l3_2 + 1 → (I2 x9 cost_2 heap_2 wait_2 ∧ mu2 x9 cost_2 heap_2 wait_2 < mu2 l3_2 cost_2 heap_2 wait_2)))))))))) := hw
  refine lv_iconst (v := (0 : Int32)) hx hb dX8_goOn_0 (by decide) ?_
  refine lv_istore_n (lv' := [(3, .int (0 : Int32)), (0, .ref (h0 0)), (1, .ref (h1 0)), (2, .int a2)]) hx hb dX8_goOn_1 rfl hl (by decide) rfl (fun ls hl => ?_)
  obtain ⟨I2, mu2, hw, hb2⟩ := hw
  have lp2 : ∀ (k : Nat) (l3_2 : Int32) (cost_2 : Nat → Int32) (heap_2 : Nat → Int64) (wait_2 : Int32) (ls : Array Slot) (H : Heap) (locs : List Loc), mu2 l3_2 cost_2 heap_2 wait_2 < k → I2 l3_2 cost_2 heap_2 wait_2 → wI s D A (fl [wWa K h0 cost_2 heap_2 wait_2, wGl K h1 (bits, stops, num, unit, strips, caps, draw)]) H locs → lv_has ls 6 [(0, .ref (h0 0)), (1, .ref (h1 0)), (2, .int a2), (3, .int l3_2)] → W p l e rmX8_goOn s m args below meth c H locs 0 0 Q (F0 m 2 ls []) := by
    intro k
    induction k with
    | zero => intro l3_2 cost_2 heap_2 wait_2 ls H locs hmu; exact absurd hmu (Nat.not_lt_zero _)
    | succ k ih2 =>
      intro l3_2 cost_2 heap_2 wait_2 ls H locs hmu2 hw hI hl
      replace hw := hb2 l3_2 cost_2 heap_2 wait_2 hw
      refine lv_iload_n hx hb dX8_goOn_2 rfl (lv_at hl 3 rfl) ?_
      refine lv_iload_n hx hb dX8_goOn_3 rfl (lv_at hl 2 rfl) ?_
      refine x_callSi (rest := [.int l3_2]) hC hI [] (mX1_neighbourNumber l D K  _ a2 hw) (va_cwS 1 hts gX8_goOn_X1_neighbourNumber rfl rfl rfl (by decide +kernel) ⟨(Nat.le_of_ble_eq_true rfl), (Nat.le_of_ble_eq_true rfl)⟩) (by decide) rfl (fun _ => rfl) rfl hl.1 rfl (Nat.le_of_ble_eq_true rfl) dX8_goOn_4 ⟨(Nat.le_of_ble_eq_true rfl), (Nat.le_of_ble_eq_true rfl)⟩ (fun r1 u H locs hw hI => ?_)
      try dsimp only at hw
      have hI : wI s D A (fl [wWa K h0 cost_2 heap_2 wait_2, wGl K h1 (bits, stops, num, unit, strips, caps, draw)]) H locs := hI
      refine lv_icmp_ge (tgt := 68) hx hb dX8_goOn_7 (by decide) (fun c2 => ?_) (fun c2 => ?_)
      · replace hw := hw.1 c2
        subst hQ
        exact x_vret (u := (cost_2, heap_2, wait_2)) hC hI hr hlk hw rfl dX8_goOn_68
      · replace hw := hw.2 c2
        refine lv_iload_n hx hb dX8_goOn_10 rfl (lv_at hl 2 rfl) ?_
        refine lv_iload_n hx hb dX8_goOn_11 rfl (lv_at hl 3 rfl) ?_
        refine x_callSi (rest := []) hC hI [] (mX1_neighbour l D K  _ a2 l3_2 hw) (va_cwS 2 hts gX8_goOn_X1_neighbour rfl rfl rfl (by decide +kernel) ⟨(Nat.le_of_ble_eq_true rfl), (Nat.le_of_ble_eq_true rfl)⟩) (by decide) rfl (fun _ => rfl) rfl hl.1 rfl (Nat.le_of_ble_eq_true rfl) dX8_goOn_12 ⟨(Nat.le_of_ble_eq_true rfl), (Nat.le_of_ble_eq_true rfl)⟩ (fun r3 u H locs hw hI => ?_)
        try dsimp only at hw
        have hI : wI s D A (fl [wWa K h0 cost_2 heap_2 wait_2, wGl K h1 (bits, stops, num, unit, strips, caps, draw)]) H locs := hI
        refine lv_istore (lv' := [(4, .int r3), (0, .ref (h0 0)), (1, .ref (h1 0)), (2, .int a2), (3, .int l3_2)]) hx hb dX8_goOn_15 hl (by decide) rfl (fun ls hl => ?_)
        refine lv_aload_n hx hb dX8_goOn_17 rfl (lv_at hl 1 rfl) ?_
        refine x_get (v := .ref (h0 1)) hC hI kX8_goOn_cX8 0 rfl rfl 0 (by decide) kX8_goOn_0 rfl rfl dX8_goOn_18 ?_
        refine lv_iload_n hx hb dX8_goOn_21 rfl (lv_at hl 3 rfl) ?_
        obtain ⟨hc4, hw⟩ := hw
        refine x_iald (f := cost_2) hC hI 1 rfl hc4 dX8_goOn_22 ?_
        refine lv_aload_n hx hb dX8_goOn_23 rfl (lv_at hl 2 rfl) ?_
        refine lv_iload_n hx hb dX8_goOn_24 rfl (lv_at hl 3 rfl) ?_
        refine lv_iload hx hb dX8_goOn_25 (lv_at hl 0 rfl) ?_
        refine x_callSi (rest := [.int (cost_2 a2.toNatClampNeg)]) hC hI [1] (mX8_stepCost l D K h1 _ a2 r3 bits stops num unit strips caps draw hw) (va_cwS 3 hts gX8_goOn_X8_stepCost rfl rfl rfl (by decide +kernel) ⟨(Nat.le_of_ble_eq_true rfl), (Nat.le_of_ble_eq_true rfl)⟩) (by decide) rfl (fun _ => rfl) rfl hl.1 rfl (Nat.le_of_ble_eq_true rfl) dX8_goOn_27 ⟨(Nat.le_of_ble_eq_true rfl), (Nat.le_of_ble_eq_true rfl)⟩ (fun r5 u H locs hw hI => ?_)
        try dsimp only at hw
        have hI : wI s D A (fl [wWa K h0 cost_2 heap_2 wait_2, wGl K h1 (bits, stops, num, unit, strips, caps, draw)]) H locs := hI
        refine lv_iadd hx hb dX8_goOn_30 ?_
        refine lv_topi (fun x6 ex6 => ?_)
        replace hw := hw x6 ex6
        refine lv_istore (lv' := [(5, .int x6), (4, .int r3), (0, .ref (h0 0)), (1, .ref (h1 0)), (2, .int a2), (3, .int l3_2)]) hx hb dX8_goOn_31 hl (by decide) rfl (fun ls hl => ?_)
        refine lv_aload_n hx hb dX8_goOn_33 rfl (lv_at hl 3 rfl) ?_
        refine lv_iload hx hb dX8_goOn_34 (lv_at hl 1 rfl) ?_
        refine x_callVi (rest := []) hC hI [1] (mX0_isLand l D K h1 _ r3 bits stops num unit strips caps draw hw) (cwV 1 hts gX8_goOn_X0_isLand rfl rfl rfl (by decide +kernel) ⟨(Nat.le_of_ble_eq_true rfl), (Nat.le_of_ble_eq_true rfl)⟩) (by decide) rfl (fun _ => rfl) 3 0 rfl rfl rfl rfl hl.1 rfl (Nat.le_of_ble_eq_true rfl) dX8_goOn_36 ⟨(Nat.le_of_ble_eq_true rfl), (Nat.le_of_ble_eq_true rfl)⟩ (fun r7 u H locs hw hI => ?_)
        try dsimp only at hw
        have hI : wI s D A (fl [wWa K h0 cost_2 heap_2 wait_2, wGl K h1 (bits, stops, num, unit, strips, caps, draw)]) H locs := hI
        refine lv_if_ne (tgt := 62) hx hb dX8_goOn_39 (by decide) (fun c8 => ?_) (fun c8 => ?_)
        · replace hw := hw.2 c8
          obtain ⟨x9, ex9⟩ : ∃ y : Int32, y = l3_2 + 1 := ⟨_, rfl⟩
          replace hw := hw x9 ex9
          refine lv_iinc (v := x9) (lv' := [(3, .int x9), (5, .int x6), (4, .int r3), (0, .ref (h0 0)), (1, .ref (h1 0)), (2, .int a2)]) hx hb dX8_goOn_62 hl (k := 5) rfl (by rw [ex9]; rfl) (by decide) rfl (fun ls hl => ?_)
          refine lv_goto (tgt := 2) hx hb dX8_goOn_65 (by decide) ?_
          exact ih2 x9 cost_2 heap_2 wait_2 ls H locs (Nat.lt_of_lt_of_le hw.2 (Nat.le_of_lt_succ hmu2)) hw.1 hI (lv_sub hl [3, 4, 5, 0] rfl)
        · replace hw := hw.1 c8
          refine lv_iload hx hb dX8_goOn_42 (lv_at hl 0 rfl) ?_
          refine lv_aload_n hx hb dX8_goOn_44 rfl (lv_at hl 2 rfl) ?_
          refine x_get (v := .ref (h0 1)) hC hI kX8_goOn_cX8 0 rfl rfl 0 (by decide) kX8_goOn_0 rfl rfl dX8_goOn_45 ?_
          refine lv_iload hx hb dX8_goOn_48 (lv_at hl 1 rfl) ?_
          obtain ⟨hc10, hw⟩ := hw
          refine x_iald (f := cost_2) hC hI 1 rfl hc10 dX8_goOn_50 ?_
          refine lv_icmp_ge (tgt := 62) hx hb dX8_goOn_51 (by decide) (fun c11 => ?_) (fun c11 => ?_)
          · replace hw := hw.1 c11
            obtain ⟨x12, ex12⟩ : ∃ y : Int32, y = l3_2 + 1 := ⟨_, rfl⟩
            replace hw := hw x12 ex12
            refine lv_iinc (v := x12) (lv' := [(3, .int x12), (5, .int x6), (4, .int r3), (0, .ref (h0 0)), (1, .ref (h1 0)), (2, .int a2)]) hx hb dX8_goOn_62 hl (k := 5) rfl (by rw [ex12]; rfl) (by decide) rfl (fun ls hl => ?_)
            refine lv_goto (tgt := 2) hx hb dX8_goOn_65 (by decide) ?_
            exact ih2 x12 cost_2 heap_2 wait_2 ls H locs (Nat.lt_of_lt_of_le hw.2 (Nat.le_of_lt_succ hmu2)) hw.1 hI (lv_sub hl [3, 4, 5, 0] rfl)
          · replace hw := hw.2 c11
            refine lv_aload_n hx hb dX8_goOn_54 rfl (lv_at hl 2 rfl) ?_
            refine lv_iload hx hb dX8_goOn_55 (lv_at hl 1 rfl) ?_
            refine lv_iload hx hb dX8_goOn_57 (lv_at hl 0 rfl) ?_
            refine x_callVv (rest := []) hC hI [0] (mX8_reach l D K h0 _ r3 x6 cost_2 heap_2 wait_2 hw) (cwV 2 hts gX8_goOn_X8_reach rfl rfl rfl (by decide +kernel) ⟨(Nat.le_of_ble_eq_true rfl), (Nat.le_of_ble_eq_true rfl)⟩) (by decide) rfl (fun _ => rfl) 0 6 rfl rfl rfl rfl hl.1 rfl (Nat.le_of_ble_eq_true rfl) dX8_goOn_59 ⟨(Nat.le_of_ble_eq_true rfl), (Nat.le_of_ble_eq_true rfl)⟩ (fun u H locs hw hI => ?_)
            obtain ⟨cost_c13, heap_c14, wait_c15⟩ := u
            try dsimp only at hw
            have hI : wI s D A (fl [wWa K h0 cost_c13 heap_c14 wait_c15, wGl K h1 (bits, stops, num, unit, strips, caps, draw)]) H locs := hI
            obtain ⟨x16, ex16⟩ : ∃ y : Int32, y = l3_2 + 1 := ⟨_, rfl⟩
            replace hw := hw x16 ex16
            refine lv_iinc (v := x16) (lv' := [(3, .int x16), (5, .int x6), (4, .int r3), (0, .ref (h0 0)), (1, .ref (h1 0)), (2, .int a2)]) hx hb dX8_goOn_62 hl (k := 5) rfl (by rw [ex16]; rfl) (by decide) rfl (fun ls hl => ?_)
            refine lv_goto (tgt := 2) hx hb dX8_goOn_65 (by decide) ?_
            exact ih2 x16 cost_c13 heap_c14 wait_c15 ls H locs (Nat.lt_of_lt_of_le hw.2 (Nat.le_of_lt_succ hmu2)) hw.1 hI (lv_sub hl [3, 4, 5, 0] rfl)
  exact lp2 (mu2 (0 : Int32) cost heap wait + 1) (0 : Int32) cost heap wait ls H locs (Nat.lt_succ_self _) hw hI (lv_sub hl [1, 2, 3, 0] rfl)

def wX8_spread (a2 : Int32) (a3 : Int32) (cost : Nat → Int32) (heap : Nat → Int64) (bits : Nat → Int64) (unit : Int32) (post : (Nat → Int32) → (Nat → Int64) → Int32 → Prop) : Prop := wJ7_fill_53178 (2147483647 : Int32) cost 266 (fun (arr_c1 : Nat → Int32) => wX0_isLand a2 bits (fun (r2 : Int32) => ((r2 = 0 → wX0_isLand a3 bits (fun (r4 : Int32) => ((r4 = 0 → wX8_reach a2 (0 : Int32) arr_c1 heap (0 : Int32) (fun (cost_c6 : Nat → Int32) (heap_c7 : Nat → Int64) (wait_c8 : Int32) => (∃ (I40 : Int32 → (Nat → Int32) → (Nat → Int64) → Int32 → Prop) (mu40 : Int32 → (Nat → Int32) → (Nat → Int64) → Int32 → Nat), I40 (0 : Int32) cost_c6 heap_c7 wait_c8 ∧ ∀ (l4_40 : Int32) (cost_40 : Nat → Int32) (heap_40 : Nat → Int64) (wait_40 : Int32), I40 l4_40 cost_40 heap_40 wait_40 → (((1105 : Int32) ≤ l4_40 → post cost_40 heap_40 wait_40) ∧ (¬ (1105 : Int32) ≤ l4_40 → ((wait_40 ≤ 0 → post cost_40 heap_40 wait_40) ∧ (¬ wait_40 ≤ 0 → wX8_takeLeast heap_40 wait_40 (fun (r13 : Int64) (heap_c11 : Nat → Int64) (wait_c12 : Int32) => ∀ x14 : Int32, x14 = (r13 &&& (511 : Int64)).toInt32 → ((x14 = a3 → post cost_40 heap_c11 wait_c12) ∧ (¬ x14 = a3 → vp_in x14 266 ∧ (((cost_40 x14.toNatClampNeg) = ((r13 >>> ((9 : Int32).toInt64 &&& 63)).toInt32) → wX8_goOn x14 cost_40 heap_c11 wait_c12 bits unit (fun (cost_c19 : Nat → Int32) (heap_c20 : Nat → Int64) (wait_c21 : Int32) => ∀ x22 : Int32, x22 = l4_40 + 1 → (I40 x22 cost_c19 heap_c20 wait_c21 ∧ mu40 x22 cost_c19 heap_c20 wait_c21 < mu40 l4_40 cost_40 heap_40 wait_40))) ∧ (¬ (cost_40 x14.toNatClampNeg) = ((r13 >>> ((9 : Int32).toInt64 &&& 63)).toInt32) → ∀ x18 : Int32, x18 = l4_40 + 1 → (I40 x18 cost_40 heap_c11 wait_c12 ∧ mu40 x18 cost_40 heap_c11 wait_c12 < mu40 l4_40 cost_40 heap_40 wait_40))))))))))))) ∧ (¬ r4 = 0 → post arr_c1 heap (0 : Int32))))) ∧ (¬ r2 = 0 → post arr_c1 heap (0 : Int32)))))
def rmX8_spread : Room := { frames := 4, cells := 0, slots := 0, locals := 89 }
theorem kX8_spread_0 : Cond.fieldLink RX8 13 "GoreGlobe$Ways" "cost" "[I" ∈ wsX8_spread := List.mem_cons_of_mem _ (List.mem_append_left _ (List.mem_append_left _ (List.mem_append_left _ (List.mem_of_getElem? (i := 0) rfl))))
theorem kX8_spread_cX8 : ∀ w ∈ wsX80, w ∈ wsX8_spread := fun _ h => List.mem_cons_of_mem _ (List.mem_append_left _ (List.mem_append_right _ h))
theorem kX8_spread_2 : Cond.constant RX8 21 (2147483647) ∈ wsX8_spread := List.mem_cons_of_mem _ (List.mem_append_left _ (List.mem_append_left _ (List.mem_append_left _ (List.mem_of_getElem? (i := 1) rfl))))
theorem kX8_spread_3 : Cond.fieldLink RX8 28 "GoreGlobe$Ways" "waiting" "I" ∈ wsX8_spread := List.mem_cons_of_mem _ (List.mem_append_left _ (List.mem_append_left _ (List.mem_append_left _ (List.mem_of_getElem? (i := 2) rfl))))
theorem kX8_spread_4 : Cond.constantLong RX8 46 (511) ∈ wsX8_spread := List.mem_cons_of_mem _ (List.mem_append_left _ (List.mem_append_left _ (List.mem_append_left _ (List.mem_of_getElem? (i := 3) rfl))))
set_option maxHeartbeats 4000000 in
set_option maxRecDepth 100000 in
theorem mX8_spread (l : Launch) (D : va_G) (K : Nat → ClassId) (h0 : Nat → Nat) (h1 : Nat → Nat) (sz : Nat) (a2 : Int32) (a3 : Int32) (cost : Nat → Int32) (heap : Nat → Int64) (wait : Int32) (bits : Nat → Int64) (stops : Nat → Int32) (num : Int32) (unit : Int32) (strips : Int32) (caps : Int32) (draw : Int32)  {post : (Nat → Int32) → (Nat → Int64) → Int32 → Prop} (hw : wX8_spread a2 a3 cost heap bits unit post) : Met l yX8_spread wsX8_spread rmX8_spread (va_Pc [.ref (h0 0), .ref (h1 0), .int a2, .int a3] (cP D K (fl [wWa K h0 cost heap wait, wGl K h1 (bits, stops, num, unit, strips, caps, draw)]) sz)) (va_Qv (fun (u : (Nat → Int32) × (Nat → Int64) × Int32) => post u.1 u.2.1 u.2.2) (fun u t => cQ D K (fl [wWa K h0 u.1 u.2.1 u.2.2, wGl K h1 (bits, stops, num, unit, strips, caps, draw)]) (va_A (fl [wWa K h0 cost heap wait, wGl K h1 (bits, stops, num, unit, strips, caps, draw)]) sz) t) (va_A (fl [wWa K h0 cost heap wait, wGl K h1 (bits, stops, num, unit, strips, caps, draw)]) sz)) 0 0 (va_A (fl [wWa K h0 cost heap wait, wGl K h1 (bits, stops, num, unit, strips, caps, draw)]) sz) := by
  refine x_entry (cc := cX8_spread) (maxL := 8) (ret := none) (QA := fun A => va_Qv (fun (u : (Nat → Int32) × (Nat → Int64) × Int32) => post u.1 u.2.1 u.2.2) (fun u t => cQ D K (fl [wWa K h0 u.1 u.2.1 u.2.2, wGl K h1 (bits, stops, num, unit, strips, caps, draw)]) A t) A) (plainFor_of_name (by decide)) rfl (Nat.le_of_ble_eq_true rfl) ?_
  intro p e s m args below meth c A ls H Q hQ hC hlk hr hnm hI hl
  obtain ⟨hx, hb, hml, hown, hts, hK, hA, hZ⟩ := id hC
  obtain ⟨locs, hlocs⟩ : ∃ y : List Loc, y = [] := ⟨_, rfl⟩
  rw [← hlocs] at hI ⊢
  clear hlocs
  replace hl : lv_has ls 8 [(0, .ref (h0 0)), (1, .ref (h1 0)), (2, .int a2), (3, .int a3)] := hl
  replace hw : wJ7_fill_53178 (2147483647 : Int32) cost 266 (fun (arr_c1 : Nat → Int32) => wX0_isLand a2 bits (fun (r2 : Int32) => ((r2 = 0 → wX0_isLand a3 bits (fun (r4 : Int32) => ((r4 = 0 → wX8_reach a2 (0 : Int32) arr_c1 heap (0 : Int32) (fun (cost_c6 : Nat → Int32) (heap_c7 : Nat → Int64) (wait_c8 : Int32) => (∃ (I40 : Int32 → (Nat → Int32) → (Nat → Int64) → Int32 → Prop) (mu40 : Int32 → (Nat → Int32) → (Nat → Int64) → Int32 → Nat), I40 (0 : Int32) cost_c6 heap_c7 wait_c8 ∧ ∀ (l4_40 : Int32) (cost_40 : Nat → Int32) (heap_40 : Nat → Int64) (wait_40 : Int32), I40 l4_40 cost_40 heap_40 wait_40 → (((1105 : Int32) ≤ l4_40 → post cost_40 heap_40 wait_40) ∧ (¬ (1105 : Int32) ≤ l4_40 → ((wait_40 ≤ 0 → post cost_40 heap_40 wait_40) ∧ (¬ wait_40 ≤ 0 → wX8_takeLeast heap_40 wait_40 (fun (r13 : Int64) (heap_c11 : Nat → Int64) (wait_c12 : Int32) => ∀ x14 : Int32, x14 = (r13 &&& (511 : Int64)).toInt32 → ((x14 = a3 → post cost_40 heap_c11 wait_c12) ∧ (¬ x14 = a3 → vp_in x14 266 ∧ (((cost_40 x14.toNatClampNeg) = ((r13 >>> ((9 : Int32).toInt64 &&& 63)).toInt32) → wX8_goOn x14 cost_40 heap_c11 wait_c12 bits unit (fun (cost_c19 : Nat → Int32) (heap_c20 : Nat → Int64) (wait_c21 : Int32) => ∀ x22 : Int32, x22 = l4_40 + 1 → (I40 x22 cost_c19 heap_c20 wait_c21 ∧ mu40 x22 cost_c19 heap_c20 wait_c21 < mu40 l4_40 cost_40 heap_40 wait_40))) ∧ (¬ (cost_40 x14.toNatClampNeg) = ((r13 >>> ((9 : Int32).toInt64 &&& 63)).toInt32) → ∀ x18 : Int32, x18 = l4_40 + 1 → (I40 x18 cost_40 heap_c11 wait_c12 ∧ mu40 x18 cost_40 heap_c11 wait_c12 < mu40 l4_40 cost_40 heap_40 wait_40))))))))))))) ∧ (¬ r4 = 0 → post arr_c1 heap (0 : Int32))))) ∧ (¬ r2 = 0 → post arr_c1 heap (0 : Int32))))) := hw
  refine lv_aload_n hx hb dX8_spread_0 rfl (lv_at hl 0 rfl) ?_
  refine x_get (v := .ref (h0 1)) hC hI kX8_spread_cX8 0 rfl rfl 0 (by decide) kX8_spread_0 rfl rfl dX8_spread_1 ?_
  refine lv_ldc (v := (2147483647 : Int32)) hx hb hown (hts _ kX8_spread_2) dX8_spread_4 ?_
  refine x_callSv (L := List.map (fun c => [c]) (fl [wWa K h0 cost heap wait, wGl K h1 (bits, stops, num, unit, strips, caps, draw)])) (rest := []) hC (by rw [fl_single]; exact hI) [1] (mJ7_fill_53178 l D K (fun _ => (h0 1)) _ (2147483647 : Int32) cost 266 hw) (va_cwS 2 hts gX8_spread_J7_fill_53178 rfl rfl rfl (by decide +kernel) ⟨(Nat.le_of_ble_eq_true rfl), (Nat.le_of_ble_eq_true rfl)⟩) (by decide) rfl (fun _ => rfl) rfl hl.1 rfl (Nat.le_of_ble_eq_true rfl) dX8_spread_6 ⟨(Nat.le_of_ble_eq_true rfl), (Nat.le_of_ble_eq_true rfl)⟩ (fun arr_c1 H locs hw hI => ?_)
  have hI : wI s D A (fl [wWa K h0 arr_c1 heap wait, wGl K h1 (bits, stops, num, unit, strips, caps, draw)]) H locs := hI
  refine lv_aload_n hx hb dX8_spread_9 rfl (lv_at hl 0 rfl) ?_
  refine lv_iconst (v := (0 : Int32)) hx hb dX8_spread_10 (by decide) ?_
  refine x_put (v := .int (0 : Int32)) hC hI kX8_spread_cX8 tyX8 tyX8_ok nmX8 0 rfl rfl 2 (by decide) kX8_spread_3 rfl rfl rfl rfl (Nat.le_of_ble_eq_true rfl) dX8_spread_11 (fun H locs hI => ?_)
  have hI : wI s D A (fl [wWa K h0 arr_c1 heap (0 : Int32), wGl K h1 (bits, stops, num, unit, strips, caps, draw)]) H locs := hI
  refine lv_aload_n hx hb dX8_spread_14 rfl (lv_at hl 1 rfl) ?_
  refine lv_iload_n hx hb dX8_spread_15 rfl (lv_at hl 2 rfl) ?_
  refine x_callVi (rest := []) hC hI [1] (mX0_isLand l D K h1 _ a2 bits stops num unit strips caps draw hw) (cwV 1 hts gX8_spread_X0_isLand rfl rfl rfl (by decide +kernel) ⟨(Nat.le_of_ble_eq_true rfl), (Nat.le_of_ble_eq_true rfl)⟩) (by decide) rfl (fun _ => rfl) 3 0 rfl rfl rfl rfl hl.1 rfl (Nat.le_of_ble_eq_true rfl) dX8_spread_16 ⟨(Nat.le_of_ble_eq_true rfl), (Nat.le_of_ble_eq_true rfl)⟩ (fun r2 u H locs hw hI => ?_)
  try dsimp only at hw
  have hI : wI s D A (fl [wWa K h0 arr_c1 heap (0 : Int32), wGl K h1 (bits, stops, num, unit, strips, caps, draw)]) H locs := hI
  refine lv_if_ne (tgt := 30) hx hb dX8_spread_19 (by decide) (fun c3 => ?_) (fun c3 => ?_)
  · replace hw := hw.2 c3
    subst hQ
    exact x_vret (u := (arr_c1, heap, (0 : Int32))) hC hI hr hlk hw rfl dX8_spread_30
  · replace hw := hw.1 c3
    refine lv_aload_n hx hb dX8_spread_22 rfl (lv_at hl 1 rfl) ?_
    refine lv_iload_n hx hb dX8_spread_23 rfl (lv_at hl 3 rfl) ?_
    refine x_callVi (rest := []) hC hI [1] (mX0_isLand l D K h1 _ a3 bits stops num unit strips caps draw hw) (cwV 1 hts gX8_spread_X0_isLand rfl rfl rfl (by decide +kernel) ⟨(Nat.le_of_ble_eq_true rfl), (Nat.le_of_ble_eq_true rfl)⟩) (by decide) rfl (fun _ => rfl) 3 0 rfl rfl rfl rfl hl.1 rfl (Nat.le_of_ble_eq_true rfl) dX8_spread_24 ⟨(Nat.le_of_ble_eq_true rfl), (Nat.le_of_ble_eq_true rfl)⟩ (fun r4 u H locs hw hI => ?_)
    try dsimp only at hw
    have hI : wI s D A (fl [wWa K h0 arr_c1 heap (0 : Int32), wGl K h1 (bits, stops, num, unit, strips, caps, draw)]) H locs := hI
    refine lv_if_eq (tgt := 31) hx hb dX8_spread_27 (by decide) (fun c5 => ?_) (fun c5 => ?_)
    · replace hw := hw.1 c5
      refine lv_aload_n hx hb dX8_spread_31 rfl (lv_at hl 0 rfl) ?_
      refine lv_iload_n hx hb dX8_spread_32 rfl (lv_at hl 2 rfl) ?_
      refine lv_iconst (v := (0 : Int32)) hx hb dX8_spread_33 (by decide) ?_
      refine x_callVv (rest := []) hC hI [0] (mX8_reach l D K h0 _ a2 (0 : Int32) arr_c1 heap (0 : Int32) hw) (cwV 2 hts gX8_spread_X8_reach rfl rfl rfl (by decide +kernel) ⟨(Nat.le_of_ble_eq_true rfl), (Nat.le_of_ble_eq_true rfl)⟩) (by decide) rfl (fun _ => rfl) 0 6 rfl rfl rfl rfl hl.1 rfl (Nat.le_of_ble_eq_true rfl) dX8_spread_34 ⟨(Nat.le_of_ble_eq_true rfl), (Nat.le_of_ble_eq_true rfl)⟩ (fun u H locs hw hI => ?_)
      obtain ⟨cost_c6, heap_c7, wait_c8⟩ := u
      try dsimp only at hw
      have hI : wI s D A (fl [wWa K h0 cost_c6 heap_c7 wait_c8, wGl K h1 (bits, stops, num, unit, strips, caps, draw)]) H locs := hI
      refine lv_iconst (v := (0 : Int32)) hx hb dX8_spread_37 (by decide) ?_
      refine lv_istore (lv' := [(4, .int (0 : Int32)), (0, .ref (h0 0)), (1, .ref (h1 0)), (2, .int a2), (3, .int a3)]) hx hb dX8_spread_38 hl (by decide) rfl (fun ls hl => ?_)
      obtain ⟨I40, mu40, hw, hb40⟩ := hw
      have lp40 : ∀ (k : Nat) (l4_40 : Int32) (cost_40 : Nat → Int32) (heap_40 : Nat → Int64) (wait_40 : Int32) (ls : Array Slot) (H : Heap) (locs : List Loc), mu40 l4_40 cost_40 heap_40 wait_40 < k → I40 l4_40 cost_40 heap_40 wait_40 → wI s D A (fl [wWa K h0 cost_40 heap_40 wait_40, wGl K h1 (bits, stops, num, unit, strips, caps, draw)]) H locs → lv_has ls 8 [(0, .ref (h0 0)), (1, .ref (h1 0)), (3, .int a3), (4, .int l4_40)] → W p l e rmX8_spread s m args below meth c H locs 0 0 Q (F0 m 40 ls []) := by
        intro k
        induction k with
        | zero => intro l4_40 cost_40 heap_40 wait_40 ls H locs hmu; exact absurd hmu (Nat.not_lt_zero _)
        | succ k ih40 =>
          intro l4_40 cost_40 heap_40 wait_40 ls H locs hmu40 hw hI hl
          replace hw := hb40 l4_40 cost_40 heap_40 wait_40 hw
          refine lv_iload hx hb dX8_spread_40 (lv_at hl 3 rfl) ?_
          refine lv_sipush (v := (1105 : Int32)) hx hb dX8_spread_42 (by decide) ?_
          refine lv_icmp_ge (tgt := 106) hx hb dX8_spread_45 (by decide) (fun c9 => ?_) (fun c9 => ?_)
          · replace hw := hw.1 c9
            subst hQ
            exact x_vret (u := (cost_40, heap_40, wait_40)) hC hI hr hlk hw rfl dX8_spread_106
          · replace hw := hw.2 c9
            refine lv_aload_n hx hb dX8_spread_48 rfl (lv_at hl 0 rfl) ?_
            refine x_get (v := .int wait_40) hC hI kX8_spread_cX8 0 rfl rfl 2 (by decide) kX8_spread_3 rfl rfl dX8_spread_49 ?_
            refine lv_if_le (tgt := 106) hx hb dX8_spread_52 (by decide) (fun c10 => ?_) (fun c10 => ?_)
            · replace hw := hw.1 c10
              subst hQ
              exact x_vret (u := (cost_40, heap_40, wait_40)) hC hI hr hlk hw rfl dX8_spread_106
            · replace hw := hw.2 c10
              refine lv_aload_n hx hb dX8_spread_55 rfl (lv_at hl 0 rfl) ?_
              refine x_callVl (rest := []) hC hI [0] (mX8_takeLeast l D K h0 _ cost_40 heap_40 wait_40 hw) (cwV 0 hts gX8_spread_X8_takeLeast rfl rfl rfl (by decide +kernel) ⟨(Nat.le_of_ble_eq_true rfl), (Nat.le_of_ble_eq_true rfl)⟩) (by decide) rfl (fun _ => rfl) 0 6 rfl rfl rfl rfl hl.1 rfl (Nat.le_of_ble_eq_true rfl) dX8_spread_56 ⟨(Nat.le_of_ble_eq_true rfl), (Nat.le_of_ble_eq_true rfl)⟩ (fun r13 u H locs hw hI => ?_)
              obtain ⟨heap_c11, wait_c12⟩ := u
              try dsimp only at hw
              have hI : wI s D A (fl [wWa K h0 cost_40 heap_c11 wait_c12, wGl K h1 (bits, stops, num, unit, strips, caps, draw)]) H locs := hI
              refine lv_lstore (lv' := [(5, .long r13), (0, .ref (h0 0)), (1, .ref (h1 0)), (3, .int a3), (4, .int l4_40)]) hx hb dX8_spread_59 hl (by decide) rfl (fun ls hl => ?_)
              refine lv_lload hx hb dX8_spread_61 (lv_at hl 0 rfl) ?_
              refine lv_ldc2 (v := (511 : Int64)) hx hb hown (hts _ kX8_spread_4) dX8_spread_63 ?_
              refine lv_land hx hb dX8_spread_66 ?_
              refine lv_l2i (v := (r13 &&& (511 : Int64)).toInt32) hx hb dX8_spread_67 rfl ?_
              refine lv_topi (fun x14 ex14 => ?_)
              replace hw := hw x14 ex14
              refine lv_istore (lv' := [(7, .int x14), (5, .long r13), (0, .ref (h0 0)), (1, .ref (h1 0)), (3, .int a3), (4, .int l4_40)]) hx hb dX8_spread_68 hl (by decide) rfl (fun ls hl => ?_)
              refine lv_iload hx hb dX8_spread_70 (lv_at hl 0 rfl) ?_
              refine lv_iload_n hx hb dX8_spread_72 rfl (lv_at hl 4 rfl) ?_
              refine lv_icmp_ne (tgt := 77) hx hb dX8_spread_73 (by decide) (fun c15 => ?_) (fun c15 => ?_)
              · replace hw := hw.2 c15
                refine lv_aload_n hx hb dX8_spread_77 rfl (lv_at hl 2 rfl) ?_
                refine x_get (v := .ref (h0 1)) hC hI kX8_spread_cX8 0 rfl rfl 0 (by decide) kX8_spread_0 rfl rfl dX8_spread_78 ?_
                refine lv_iload hx hb dX8_spread_81 (lv_at hl 0 rfl) ?_
                obtain ⟨hc16, hw⟩ := hw
                refine x_iald (f := cost_40) hC hI 1 rfl hc16 dX8_spread_83 ?_
                refine lv_lload hx hb dX8_spread_84 (lv_at hl 1 rfl) ?_
                refine lv_bipush (v := (9 : Int32)) hx hb dX8_spread_86 (by decide) ?_
                refine lv_lshr (v := (r13 >>> ((9 : Int32).toInt64 &&& 63))) hx hb dX8_spread_88 rfl ?_
                refine lv_l2i (v := (r13 >>> ((9 : Int32).toInt64 &&& 63)).toInt32) hx hb dX8_spread_89 rfl ?_
                refine lv_icmp_ne (tgt := 100) hx hb dX8_spread_90 (by decide) (fun c17 => ?_) (fun c17 => ?_)
                · replace hw := hw.2 c17
                  obtain ⟨x18, ex18⟩ : ∃ y : Int32, y = l4_40 + 1 := ⟨_, rfl⟩
                  replace hw := hw x18 ex18
                  refine lv_iinc (v := x18) (lv' := [(4, .int x18), (7, .int x14), (5, .long r13), (0, .ref (h0 0)), (1, .ref (h1 0)), (3, .int a3)]) hx hb dX8_spread_100 hl (k := 5) rfl (by rw [ex18]; rfl) (by decide) rfl (fun ls hl => ?_)
                  refine lv_goto (tgt := 40) hx hb dX8_spread_103 (by decide) ?_
                  exact ih40 x18 cost_40 heap_c11 wait_c12 ls H locs (Nat.lt_of_lt_of_le hw.2 (Nat.le_of_lt_succ hmu40)) hw.1 hI (lv_sub hl [3, 4, 5, 0] rfl)
                · replace hw := hw.1 c17
                  refine lv_aload_n hx hb dX8_spread_93 rfl (lv_at hl 2 rfl) ?_
                  refine lv_aload_n hx hb dX8_spread_94 rfl (lv_at hl 3 rfl) ?_
                  refine lv_iload hx hb dX8_spread_95 (lv_at hl 0 rfl) ?_
                  refine x_callVv (rest := []) hC hI [0, 1] (mX8_goOn l D K h0 h1 _ x14 cost_40 heap_c11 wait_c12 bits stops num unit strips caps draw hw) (cwV 2 hts gX8_spread_X8_goOn rfl rfl rfl (by decide +kernel) ⟨(Nat.le_of_ble_eq_true rfl), (Nat.le_of_ble_eq_true rfl)⟩) (by decide) rfl (fun _ => rfl) 0 6 rfl rfl rfl rfl hl.1 rfl (Nat.le_of_ble_eq_true rfl) dX8_spread_97 ⟨(Nat.le_of_ble_eq_true rfl), (Nat.le_of_ble_eq_true rfl)⟩ (fun u H locs hw hI => ?_)
                  obtain ⟨cost_c19, heap_c20, wait_c21⟩ := u
                  try dsimp only at hw
                  have hI : wI s D A (fl [wWa K h0 cost_c19 heap_c20 wait_c21, wGl K h1 (bits, stops, num, unit, strips, caps, draw)]) H locs := hI
                  obtain ⟨x22, ex22⟩ : ∃ y : Int32, y = l4_40 + 1 := ⟨_, rfl⟩
                  replace hw := hw x22 ex22
                  refine lv_iinc (v := x22) (lv' := [(4, .int x22), (7, .int x14), (5, .long r13), (0, .ref (h0 0)), (1, .ref (h1 0)), (3, .int a3)]) hx hb dX8_spread_100 hl (k := 5) rfl (by rw [ex22]; rfl) (by decide) rfl (fun ls hl => ?_)
                  refine lv_goto (tgt := 40) hx hb dX8_spread_103 (by decide) ?_
                  exact ih40 x22 cost_c19 heap_c20 wait_c21 ls H locs (Nat.lt_of_lt_of_le hw.2 (Nat.le_of_lt_succ hmu40)) hw.1 hI (lv_sub hl [3, 4, 5, 0] rfl)
              · replace hw := hw.1 c15
                subst hQ
                exact x_vret (u := (cost_40, heap_c11, wait_c12)) hC hI hr hlk hw rfl dX8_spread_76
      exact lp40 (mu40 (0 : Int32) cost_c6 heap_c7 wait_c8 + 1) (0 : Int32) cost_c6 heap_c7 wait_c8 ls H locs (Nat.lt_succ_self _) hw hI (lv_sub hl [1, 2, 4, 0] rfl)
    · replace hw := hw.2 c5
      subst hQ
      exact x_vret (u := (arr_c1, heap, (0 : Int32))) hC hI hr hlk hw rfl dX8_spread_30

def wX8_leastFirstStep (a2 : Int32) (cost : Nat → Int32) (unit : Int32) (post : Int32 → Prop) : Prop := (∃ (I6 : Int32 → Int32 → Prop) (mu6 : Int32 → Int32 → Nat), I6 (-4 : Int32) (0 : Int32) ∧ ∀ (l3_6 : Int32) (l4_6 : Int32), I6 l3_6 l4_6 → wX1_neighbourNumber a2 (fun (r1 : Int32) => ((r1 ≤ l4_6 → post l3_6) ∧ (¬ r1 ≤ l4_6 → wX1_neighbour a2 l4_6 (fun (r3 : Int32) => vp_in r3 266 ∧ ∃ J64 : Int32 → Prop, (∀ (t_64 : Int32), J64 t_64 → ((t_64 = 0 → ∀ x6 : Int32, x6 = l4_6 + 1 → (I6 l3_6 x6 ∧ mu6 l3_6 x6 < mu6 l3_6 l4_6)) ∧ (¬ t_64 = 0 → ((l3_6 = (-4 : Int32) → ∀ x8 : Int32, x8 = l4_6 + 1 → (I6 r3 x8 ∧ mu6 r3 x8 < mu6 l3_6 l4_6)) ∧ (¬ l3_6 = (-4 : Int32) → ((l3_6 ≤ r3 → ∀ x10 : Int32, x10 = l4_6 + 1 → (I6 l3_6 x10 ∧ mu6 l3_6 x10 < mu6 l3_6 l4_6)) ∧ (¬ l3_6 ≤ r3 → ∀ x11 : Int32, x11 = l4_6 + 1 → (I6 r3 x11 ∧ mu6 r3 x11 < mu6 l3_6 l4_6)))))))) ∧ ∃ J63 : Prop, (J63 → J64 (0 : Int32)) ∧ (((cost r3.toNatClampNeg) = (2147483647 : Int32) → J63) ∧ (¬ (cost r3.toNatClampNeg) = (2147483647 : Int32) → vp_in r3 266 ∧ wX8_stepCost a2 r3 unit (fun (r14 : Int32) => vp_in a2 266 ∧ ((((cost r3.toNatClampNeg) + r14) = (cost a2.toNatClampNeg) → J64 (1 : Int32)) ∧ (¬ ((cost r3.toNatClampNeg) + r14) = (cost a2.toNatClampNeg) → J63))))))))))
def rmX8_leastFirstStep : Room := { frames := 3, cells := 0, slots := 0, locals := 64 }
theorem kX8_leastFirstStep_0 : Cond.fieldLink RX8 13 "GoreGlobe$Ways" "cost" "[I" ∈ wsX8_leastFirstStep := List.mem_cons_of_mem _ (List.mem_append_left _ (List.mem_append_left _ (List.mem_append_left _ (List.mem_of_getElem? (i := 0) rfl))))
theorem kX8_leastFirstStep_cX8 : ∀ w ∈ wsX80, w ∈ wsX8_leastFirstStep := fun _ h => List.mem_cons_of_mem _ (List.mem_append_left _ (List.mem_append_right _ h))
theorem kX8_leastFirstStep_2 : Cond.constant RX8 21 (2147483647) ∈ wsX8_leastFirstStep := List.mem_cons_of_mem _ (List.mem_append_left _ (List.mem_append_left _ (List.mem_append_left _ (List.mem_of_getElem? (i := 1) rfl))))
set_option maxHeartbeats 4000000 in
set_option maxRecDepth 100000 in
theorem mX8_leastFirstStep (l : Launch) (D : va_G) (K : Nat → ClassId) (h0 : Nat → Nat) (h1 : Nat → Nat) (sz : Nat) (a2 : Int32) (cost : Nat → Int32) (heap : Nat → Int64) (wait : Int32) (bits : Nat → Int64) (stops : Nat → Int32) (num : Int32) (unit : Int32) (strips : Int32) (caps : Int32) (draw : Int32)  {post : Int32 → Prop} (hw : wX8_leastFirstStep a2 cost unit post) : Met l yX8_leastFirstStep wsX8_leastFirstStep rmX8_leastFirstStep (va_Pc [.ref (h0 0), .ref (h1 0), .int a2] (cP D K (fl [wWa K h0 cost heap wait, wGl K h1 (bits, stops, num, unit, strips, caps, draw)]) sz)) (va_Qi (fun (r : Int32) (u : Unit) => post r) (fun u t => cQ D K (fl [wWa K h0 cost heap wait, wGl K h1 (bits, stops, num, unit, strips, caps, draw)]) (va_A (fl [wWa K h0 cost heap wait, wGl K h1 (bits, stops, num, unit, strips, caps, draw)]) sz) t) (va_A (fl [wWa K h0 cost heap wait, wGl K h1 (bits, stops, num, unit, strips, caps, draw)]) sz)) 0 0 (va_A (fl [wWa K h0 cost heap wait, wGl K h1 (bits, stops, num, unit, strips, caps, draw)]) sz) := by
  refine x_entry (cc := cX8_leastFirstStep) (maxL := 7) (ret := (some .int)) (QA := fun A => va_Qi (fun (r : Int32) (u : Unit) => post r) (fun u t => cQ D K (fl [wWa K h0 cost heap wait, wGl K h1 (bits, stops, num, unit, strips, caps, draw)]) A t) A) (plainFor_of_name (by decide)) rfl (Nat.le_of_ble_eq_true rfl) ?_
  intro p e s m args below meth c A ls H Q hQ hC hlk hr hnm hI hl
  obtain ⟨hx, hb, hml, hown, hts, hK, hA, hZ⟩ := id hC
  obtain ⟨locs, hlocs⟩ : ∃ y : List Loc, y = [] := ⟨_, rfl⟩
  rw [← hlocs] at hI ⊢
  clear hlocs
  replace hl : lv_has ls 7 [(0, .ref (h0 0)), (1, .ref (h1 0)), (2, .int a2)] := hl
  replace hw : (∃ (I6 : Int32 → Int32 → Prop) (mu6 : Int32 → Int32 → Nat), I6 (-4 : Int32) (0 : Int32) ∧ ∀ (l3_6 : Int32) (l4_6 : Int32), I6 l3_6 l4_6 → wX1_neighbourNumber a2 (fun (r1 : Int32) => ((r1 ≤ l4_6 → post l3_6) ∧ (¬ r1 ≤ l4_6 → wX1_neighbour a2 l4_6 (fun (r3 : Int32) => vp_in r3 266 ∧ ∃ J64 : Int32 → Prop, (∀ (t_64 : Int32), J64 t_64 → ((t_64 = 0 → ∀ x6 : Int32, x6 = l4_6 + 1 → (I6 l3_6 x6 ∧ mu6 l3_6 x6 < mu6 l3_6 l4_6)) ∧ (¬ t_64 = 0 → ((l3_6 = (-4 : Int32) → ∀ x8 : Int32, x8 = l4_6 + 1 → (I6 r3 x8 ∧ mu6 r3 x8 < mu6 l3_6 l4_6)) ∧ (¬ l3_6 = (-4 : Int32) → ((l3_6 ≤ r3 → ∀ x10 : Int32, x10 = l4_6 + 1 → (I6 l3_6 x10 ∧ mu6 l3_6 x10 < mu6 l3_6 l4_6)) ∧ (¬ l3_6 ≤ r3 → ∀ x11 : Int32, x11 = l4_6 + 1 → (I6 r3 x11 ∧ mu6 r3 x11 < mu6 l3_6 l4_6)))))))) ∧ ∃ J63 : Prop, (J63 → J64 (0 : Int32)) ∧ (((cost r3.toNatClampNeg) = (2147483647 : Int32) → J63) ∧ (¬ (cost r3.toNatClampNeg) = (2147483647 : Int32) → vp_in r3 266 ∧ wX8_stepCost a2 r3 unit (fun (r14 : Int32) => vp_in a2 266 ∧ ((((cost r3.toNatClampNeg) + r14) = (cost a2.toNatClampNeg) → J64 (1 : Int32)) ∧ (¬ ((cost r3.toNatClampNeg) + r14) = (cost a2.toNatClampNeg) → J63)))))))))) := hw
  refine lv_bipush (v := (-4 : Int32)) hx hb dX8_leastFirstStep_0 (by decide) ?_
  refine lv_istore_n (lv' := [(3, .int (-4 : Int32)), (0, .ref (h0 0)), (1, .ref (h1 0)), (2, .int a2)]) hx hb dX8_leastFirstStep_2 rfl hl (by decide) rfl (fun ls hl => ?_)
  refine lv_iconst (v := (0 : Int32)) hx hb dX8_leastFirstStep_3 (by decide) ?_
  refine lv_istore (lv' := [(4, .int (0 : Int32)), (3, .int (-4 : Int32)), (0, .ref (h0 0)), (1, .ref (h1 0)), (2, .int a2)]) hx hb dX8_leastFirstStep_4 hl (by decide) rfl (fun ls hl => ?_)
  obtain ⟨I6, mu6, hw, hb6⟩ := hw
  have lp6 : ∀ (k : Nat) (l3_6 : Int32) (l4_6 : Int32) (ls : Array Slot) (H : Heap) (locs : List Loc), mu6 l3_6 l4_6 < k → I6 l3_6 l4_6 → wI s D A (fl [wWa K h0 cost heap wait, wGl K h1 (bits, stops, num, unit, strips, caps, draw)]) H locs → lv_has ls 7 [(0, .ref (h0 0)), (1, .ref (h1 0)), (2, .int a2), (3, .int l3_6), (4, .int l4_6)] → W p l e rmX8_leastFirstStep s m args below meth c H locs 0 0 Q (F0 m 6 ls []) := by
    intro k
    induction k with
    | zero => intro l3_6 l4_6 ls H locs hmu; exact absurd hmu (Nat.not_lt_zero _)
    | succ k ih6 =>
      intro l3_6 l4_6 ls H locs hmu6 hw hI hl
      replace hw := hb6 l3_6 l4_6 hw
      refine lv_iload hx hb dX8_leastFirstStep_6 (lv_at hl 4 rfl) ?_
      refine lv_iload_n hx hb dX8_leastFirstStep_8 rfl (lv_at hl 2 rfl) ?_
      refine x_callSi (rest := [.int l4_6]) hC hI [] (mX1_neighbourNumber l D K  _ a2 hw) (va_cwS 1 hts gX8_leastFirstStep_X1_neighbourNumber rfl rfl rfl (by decide +kernel) ⟨(Nat.le_of_ble_eq_true rfl), (Nat.le_of_ble_eq_true rfl)⟩) (by decide) rfl (fun _ => rfl) rfl hl.1 rfl (Nat.le_of_ble_eq_true rfl) dX8_leastFirstStep_9 ⟨(Nat.le_of_ble_eq_true rfl), (Nat.le_of_ble_eq_true rfl)⟩ (fun r1 u H locs hw hI => ?_)
      try dsimp only at hw
      have hI : wI s D A (fl [wWa K h0 cost heap wait, wGl K h1 (bits, stops, num, unit, strips, caps, draw)]) H locs := hI
      refine lv_icmp_ge (tgt := 92) hx hb dX8_leastFirstStep_12 (by decide) (fun c2 => ?_) (fun c2 => ?_)
      · replace hw := hw.1 c2
        refine lv_iload_n hx hb dX8_leastFirstStep_92 rfl (lv_at hl 3 rfl) ?_
        subst hQ
        exact x_iret (u := ()) hC hI hr hlk hw rfl dX8_leastFirstStep_93
      · replace hw := hw.2 c2
        refine lv_iload_n hx hb dX8_leastFirstStep_15 rfl (lv_at hl 2 rfl) ?_
        refine lv_iload hx hb dX8_leastFirstStep_16 (lv_at hl 4 rfl) ?_
        refine x_callSi (rest := []) hC hI [] (mX1_neighbour l D K  _ a2 l4_6 hw) (va_cwS 2 hts gX8_leastFirstStep_X1_neighbour rfl rfl rfl (by decide +kernel) ⟨(Nat.le_of_ble_eq_true rfl), (Nat.le_of_ble_eq_true rfl)⟩) (by decide) rfl (fun _ => rfl) rfl hl.1 rfl (Nat.le_of_ble_eq_true rfl) dX8_leastFirstStep_18 ⟨(Nat.le_of_ble_eq_true rfl), (Nat.le_of_ble_eq_true rfl)⟩ (fun r3 u H locs hw hI => ?_)
        try dsimp only at hw
        have hI : wI s D A (fl [wWa K h0 cost heap wait, wGl K h1 (bits, stops, num, unit, strips, caps, draw)]) H locs := hI
        refine lv_istore (lv' := [(5, .int r3), (0, .ref (h0 0)), (1, .ref (h1 0)), (2, .int a2), (3, .int l3_6), (4, .int l4_6)]) hx hb dX8_leastFirstStep_21 hl (by decide) rfl (fun ls hl => ?_)
        refine lv_aload_n hx hb dX8_leastFirstStep_23 rfl (lv_at hl 1 rfl) ?_
        refine x_get (v := .ref (h0 1)) hC hI kX8_leastFirstStep_cX8 0 rfl rfl 0 (by decide) kX8_leastFirstStep_0 rfl rfl dX8_leastFirstStep_24 ?_
        refine lv_iload hx hb dX8_leastFirstStep_27 (lv_at hl 0 rfl) ?_
        obtain ⟨hc4, hw⟩ := hw
        refine x_iald (f := cost) hC hI 1 rfl hc4 dX8_leastFirstStep_29 ?_
        refine lv_ldc (v := (2147483647 : Int32)) hx hb hown (hts _ kX8_leastFirstStep_2) dX8_leastFirstStep_30 ?_
        obtain ⟨J64, hJ64, hw⟩ := hw
        have jn64 : ∀ (t_64 : Int32) (ls : Array Slot) (H : Heap) (locs : List Loc), J64 t_64 → wI s D A (fl [wWa K h0 cost heap wait, wGl K h1 (bits, stops, num, unit, strips, caps, draw)]) H locs → lv_has ls 7 [(0, .ref (h0 0)), (1, .ref (h1 0)), (2, .int a2), (3, .int l3_6), (4, .int l4_6), (5, .int r3)] → W p l e rmX8_leastFirstStep s m args below meth c H locs 0 0 Q (F0 m 64 ls [.int t_64]) := by
          intro t_64 ls H locs hw hI hl
          replace hw := hJ64 t_64 hw
          refine lv_istore (lv' := [(6, .int t_64), (0, .ref (h0 0)), (1, .ref (h1 0)), (2, .int a2), (3, .int l3_6), (4, .int l4_6), (5, .int r3)]) hx hb dX8_leastFirstStep_64 hl (by decide) rfl (fun ls hl => ?_)
          refine lv_iload hx hb dX8_leastFirstStep_66 (lv_at hl 0 rfl) ?_
          refine lv_if_eq (tgt := 86) hx hb dX8_leastFirstStep_68 (by decide) (fun c5 => ?_) (fun c5 => ?_)
          · replace hw := hw.1 c5
            obtain ⟨x6, ex6⟩ : ∃ y : Int32, y = l4_6 + 1 := ⟨_, rfl⟩
            replace hw := hw x6 ex6
            refine lv_iinc (v := x6) (lv' := [(4, .int x6), (6, .int t_64), (0, .ref (h0 0)), (1, .ref (h1 0)), (2, .int a2), (3, .int l3_6), (5, .int r3)]) hx hb dX8_leastFirstStep_86 hl (k := 5) rfl (by rw [ex6]; rfl) (by decide) rfl (fun ls hl => ?_)
            refine lv_goto (tgt := 6) hx hb dX8_leastFirstStep_89 (by decide) ?_
            exact ih6 l3_6 x6 ls H locs (Nat.lt_of_lt_of_le hw.2 (Nat.le_of_lt_succ hmu6)) hw.1 hI (lv_sub hl [2, 3, 4, 5, 0] rfl)
          · replace hw := hw.2 c5
            refine lv_iload_n hx hb dX8_leastFirstStep_71 rfl (lv_at hl 4 rfl) ?_
            refine lv_bipush (v := (-4 : Int32)) hx hb dX8_leastFirstStep_72 (by decide) ?_
            refine lv_icmp_eq (tgt := 83) hx hb dX8_leastFirstStep_74 (by decide) (fun c7 => ?_) (fun c7 => ?_)
            · replace hw := hw.1 c7
              refine lv_iload hx hb dX8_leastFirstStep_83 (lv_at hl 6 rfl) ?_
              refine lv_istore_n (lv' := [(3, .int r3), (6, .int t_64), (0, .ref (h0 0)), (1, .ref (h1 0)), (2, .int a2), (4, .int l4_6), (5, .int r3)]) hx hb dX8_leastFirstStep_85 rfl hl (by decide) rfl (fun ls hl => ?_)
              obtain ⟨x8, ex8⟩ : ∃ y : Int32, y = l4_6 + 1 := ⟨_, rfl⟩
              replace hw := hw x8 ex8
              refine lv_iinc (v := x8) (lv' := [(4, .int x8), (3, .int r3), (6, .int t_64), (0, .ref (h0 0)), (1, .ref (h1 0)), (2, .int a2), (5, .int r3)]) hx hb dX8_leastFirstStep_86 hl (k := 5) rfl (by rw [ex8]; rfl) (by decide) rfl (fun ls hl => ?_)
              refine lv_goto (tgt := 6) hx hb dX8_leastFirstStep_89 (by decide) ?_
              exact ih6 r3 x8 ls H locs (Nat.lt_of_lt_of_le hw.2 (Nat.le_of_lt_succ hmu6)) hw.1 hI (lv_sub hl [3, 4, 5, 1, 0] rfl)
            · replace hw := hw.2 c7
              refine lv_iload hx hb dX8_leastFirstStep_77 (lv_at hl 6 rfl) ?_
              refine lv_iload_n hx hb dX8_leastFirstStep_79 rfl (lv_at hl 4 rfl) ?_
              refine lv_icmp_ge (tgt := 86) hx hb dX8_leastFirstStep_80 (by decide) (fun c9 => ?_) (fun c9 => ?_)
              · replace hw := hw.1 c9
                obtain ⟨x10, ex10⟩ : ∃ y : Int32, y = l4_6 + 1 := ⟨_, rfl⟩
                replace hw := hw x10 ex10
                refine lv_iinc (v := x10) (lv' := [(4, .int x10), (6, .int t_64), (0, .ref (h0 0)), (1, .ref (h1 0)), (2, .int a2), (3, .int l3_6), (5, .int r3)]) hx hb dX8_leastFirstStep_86 hl (k := 5) rfl (by rw [ex10]; rfl) (by decide) rfl (fun ls hl => ?_)
                refine lv_goto (tgt := 6) hx hb dX8_leastFirstStep_89 (by decide) ?_
                exact ih6 l3_6 x10 ls H locs (Nat.lt_of_lt_of_le hw.2 (Nat.le_of_lt_succ hmu6)) hw.1 hI (lv_sub hl [2, 3, 4, 5, 0] rfl)
              · replace hw := hw.2 c9
                refine lv_iload hx hb dX8_leastFirstStep_83 (lv_at hl 6 rfl) ?_
                refine lv_istore_n (lv' := [(3, .int r3), (6, .int t_64), (0, .ref (h0 0)), (1, .ref (h1 0)), (2, .int a2), (4, .int l4_6), (5, .int r3)]) hx hb dX8_leastFirstStep_85 rfl hl (by decide) rfl (fun ls hl => ?_)
                obtain ⟨x11, ex11⟩ : ∃ y : Int32, y = l4_6 + 1 := ⟨_, rfl⟩
                replace hw := hw x11 ex11
                refine lv_iinc (v := x11) (lv' := [(4, .int x11), (3, .int r3), (6, .int t_64), (0, .ref (h0 0)), (1, .ref (h1 0)), (2, .int a2), (5, .int r3)]) hx hb dX8_leastFirstStep_86 hl (k := 5) rfl (by rw [ex11]; rfl) (by decide) rfl (fun ls hl => ?_)
                refine lv_goto (tgt := 6) hx hb dX8_leastFirstStep_89 (by decide) ?_
                exact ih6 r3 x11 ls H locs (Nat.lt_of_lt_of_le hw.2 (Nat.le_of_lt_succ hmu6)) hw.1 hI (lv_sub hl [3, 4, 5, 1, 0] rfl)
        obtain ⟨J63, hJ63, hw⟩ := hw
        have jn63 : ∀  (ls : Array Slot) (H : Heap) (locs : List Loc), J63  → wI s D A (fl [wWa K h0 cost heap wait, wGl K h1 (bits, stops, num, unit, strips, caps, draw)]) H locs → lv_has ls 7 [(0, .ref (h0 0)), (1, .ref (h1 0)), (2, .int a2), (3, .int l3_6), (4, .int l4_6), (5, .int r3)] → W p l e rmX8_leastFirstStep s m args below meth c H locs 0 0 Q (F0 m 63 ls []) := by
          intro  ls H locs hw hI hl
          replace hw := hJ63 hw
          refine lv_iconst (v := (0 : Int32)) hx hb dX8_leastFirstStep_63 (by decide) ?_
          exact jn64 (0 : Int32) ls H locs hw hI (lv_sub hl [0, 1, 2, 3, 4, 5] rfl)
        refine lv_icmp_eq (tgt := 63) hx hb dX8_leastFirstStep_32 (by decide) (fun c12 => ?_) (fun c12 => ?_)
        · replace hw := hw.1 c12
          exact jn63 ls H locs hw hI (lv_sub hl [1, 2, 3, 4, 5, 0] rfl)
        · replace hw := hw.2 c12
          refine lv_aload_n hx hb dX8_leastFirstStep_35 rfl (lv_at hl 1 rfl) ?_
          refine x_get (v := .ref (h0 1)) hC hI kX8_leastFirstStep_cX8 0 rfl rfl 0 (by decide) kX8_leastFirstStep_0 rfl rfl dX8_leastFirstStep_36 ?_
          refine lv_iload hx hb dX8_leastFirstStep_39 (lv_at hl 0 rfl) ?_
          obtain ⟨hc13, hw⟩ := hw
          refine x_iald (f := cost) hC hI 1 rfl hc13 dX8_leastFirstStep_41 ?_
          refine lv_aload_n hx hb dX8_leastFirstStep_42 rfl (lv_at hl 2 rfl) ?_
          refine lv_iload_n hx hb dX8_leastFirstStep_43 rfl (lv_at hl 3 rfl) ?_
          refine lv_iload hx hb dX8_leastFirstStep_44 (lv_at hl 0 rfl) ?_
          refine x_callSi (rest := [.int (cost r3.toNatClampNeg)]) hC hI [1] (mX8_stepCost l D K h1 _ a2 r3 bits stops num unit strips caps draw hw) (va_cwS 3 hts gX8_leastFirstStep_X8_stepCost rfl rfl rfl (by decide +kernel) ⟨(Nat.le_of_ble_eq_true rfl), (Nat.le_of_ble_eq_true rfl)⟩) (by decide) rfl (fun _ => rfl) rfl hl.1 rfl (Nat.le_of_ble_eq_true rfl) dX8_leastFirstStep_46 ⟨(Nat.le_of_ble_eq_true rfl), (Nat.le_of_ble_eq_true rfl)⟩ (fun r14 u H locs hw hI => ?_)
          try dsimp only at hw
          have hI : wI s D A (fl [wWa K h0 cost heap wait, wGl K h1 (bits, stops, num, unit, strips, caps, draw)]) H locs := hI
          refine lv_iadd hx hb dX8_leastFirstStep_49 ?_
          refine lv_aload_n hx hb dX8_leastFirstStep_50 rfl (lv_at hl 1 rfl) ?_
          refine x_get (v := .ref (h0 1)) hC hI kX8_leastFirstStep_cX8 0 rfl rfl 0 (by decide) kX8_leastFirstStep_0 rfl rfl dX8_leastFirstStep_51 ?_
          refine lv_iload_n hx hb dX8_leastFirstStep_54 rfl (lv_at hl 3 rfl) ?_
          obtain ⟨hc15, hw⟩ := hw
          refine x_iald (f := cost) hC hI 1 rfl hc15 dX8_leastFirstStep_55 ?_
          refine lv_icmp_ne (tgt := 63) hx hb dX8_leastFirstStep_56 (by decide) (fun c16 => ?_) (fun c16 => ?_)
          · replace hw := hw.2 c16
            exact jn63 ls H locs hw hI (lv_sub hl [1, 2, 3, 4, 5, 0] rfl)
          · replace hw := hw.1 c16
            refine lv_iconst (v := (1 : Int32)) hx hb dX8_leastFirstStep_59 (by decide) ?_
            refine lv_goto (tgt := 64) hx hb dX8_leastFirstStep_60 (by decide) ?_
            exact jn64 (1 : Int32) ls H locs hw hI (lv_sub hl [1, 2, 3, 4, 5, 0] rfl)
  exact lp6 (mu6 (-4 : Int32) (0 : Int32) + 1) (-4 : Int32) (0 : Int32) ls H locs (Nat.lt_succ_self _) hw hI (lv_sub hl [2, 3, 4, 1, 0] rfl)
