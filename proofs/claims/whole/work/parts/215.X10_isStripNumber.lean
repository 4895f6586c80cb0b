def wX10_isStripNumber (a0 : Int32)  (post : Int32 → Prop) : Prop := (∃ (I9 : Int32 → Prop) (mu9 : Int32 → Nat), I9 (0 : Int32) ∧ ∀ (l3_9 : Int32), I9 l3_9 → (((6 : Int32) ≤ l3_9 → post (0 : Int32)) ∧ (¬ (6 : Int32) ≤ l3_9 → vp_in l3_9 6 ∧ ∀ x4 : Int32, x4 = stripsF l3_9.toNatClampNeg → ((x4 = a0 → post (1 : Int32)) ∧ (¬ x4 = a0 → ∀ x6 : Int32, x6 = l3_9 + 1 → (I9 x6 ∧ mu9 x6 < mu9 l3_9))))))
def rmX10_isStripNumber : Room := { frames := 0, cells := 0, slots := 0, locals := 0 }
theorem kX10_isStripNumber_0 : Cond.fieldLink RX10 306 "GoreGlobe" "STRIP_NUMBERS" "[I" ∈ wsX10_isStripNumber := List.mem_cons_of_mem _ (List.mem_of_getElem? (i := 0) rfl)
set_option maxHeartbeats 4000000 in
set_option maxRecDepth 100000 in
theorem mX10_isStripNumber (l : Launch) (D : va_G) (K : Nat → ClassId)  (sz : Nat) (a0 : Int32)   {post : Int32 → Prop} (hw : wX10_isStripNumber a0  post) : Met l yX10_isStripNumber wsX10_isStripNumber rmX10_isStripNumber (va_Pc [.int a0] (cP D K (fl []) sz)) (va_Qi (fun (r : Int32) (u : Unit) => post r) (fun u t => cQ D K (fl []) (va_A (fl []) sz) t) (va_A (fl []) sz)) 0 0 (va_A (fl []) sz) := by
  refine x_entry (cc := cX10_isStripNumber) (maxL := 5) (ret := (some .boolean)) (QA := fun A => va_Qi (fun (r : Int32) (u : Unit) => post r) (fun u t => cQ D K (fl []) A t) A) (plainFor_of_name (by decide)) rfl (Nat.le_of_ble_eq_true rfl) ?_
  intro p e s m args below meth c A ls H Q hQ hC hlk hr hnm hI hl
  obtain ⟨hx, hb, hml, hown, hts, hK, hA, hZ⟩ := id hC
  obtain ⟨locs, hlocs⟩ : ∃ y : List Loc, y = [] := ⟨_, rfl⟩
  rw [← hlocs] at hI ⊢
  clear hlocs
  replace hl : lv_has ls 5 [(0, .int a0)] := hl
  replace hw : (∃ (I9 : Int32 → Prop) (mu9 : Int32 → Nat), I9 (0 : Int32) ∧ ∀ (l3_9 : Int32), I9 l3_9 → (((6 : Int32) ≤ l3_9 → post (0 : Int32)) ∧ (¬ (6 : Int32) ≤ l3_9 → vp_in l3_9 6 ∧ ∀ x4 : Int32, x4 = stripsF l3_9.toNatClampNeg → ((x4 = a0 → post (1 : Int32)) ∧ (¬ x4 = a0 → ∀ x6 : Int32, x6 = l3_9 + 1 → (I9 x6 ∧ mu9 x6 < mu9 l3_9)))))) := hw
  refine x_gets hC hI hZ.2 kX10_isStripNumber_0 dX10_isStripNumber_0 (fun t1 ht1 => ?_)
  refine lv_astore_n (lv' := [(1, .ref t1), (0, .int a0)]) hx hb dX10_isStripNumber_3 rfl hl (by decide) rfl (fun ls hl => ?_)
  refine lv_aload_n hx hb dX10_isStripNumber_4 rfl (lv_at hl 0 rfl) ?_
  refine x_tlen (v := (6 : Int32)) hC hI ht1 rfl dX10_isStripNumber_5 ?_
  refine lv_istore_n (lv' := [(2, .int (6 : Int32)), (1, .ref t1), (0, .int a0)]) hx hb dX10_isStripNumber_6 rfl hl (by decide) rfl (fun ls hl => ?_)
  refine lv_iconst (v := (0 : Int32)) hx hb dX10_isStripNumber_7 (by decide) ?_
  refine lv_istore_n (lv' := [(3, .int (0 : Int32)), (2, .int (6 : Int32)), (1, .ref t1), (0, .int a0)]) hx hb dX10_isStripNumber_8 rfl hl (by decide) rfl (fun ls hl => ?_)
  obtain ⟨I9, mu9, hw, hb9⟩ := hw
  have lp9 : ∀ (k : Nat) (l3_9 : Int32) (ls : Array Slot) (H : Heap) (locs : List Loc), mu9 l3_9 < k → I9 l3_9 → wI s D A (fl []) H locs → lv_has ls 5 [(0, .int a0), (1, .ref t1), (2, .int (6 : Int32)), (3, .int l3_9)] → W p l e rmX10_isStripNumber s m args below meth c H locs 0 0 Q (F0 m 9 ls []) := by
    intro k
    induction k with
    | zero => intro l3_9 ls H locs hmu; exact absurd hmu (Nat.not_lt_zero _)
    | succ k ih9 =>
      intro l3_9 ls H locs hmu9 hw hI hl
      replace hw := hb9 l3_9 hw
      refine lv_iload_n hx hb dX10_isStripNumber_9 rfl (lv_at hl 3 rfl) ?_
      refine lv_iload_n hx hb dX10_isStripNumber_10 rfl (lv_at hl 2 rfl) ?_
      refine lv_icmp_ge (tgt := 33) hx hb dX10_isStripNumber_11 (by decide) (fun c2 => ?_) (fun c2 => ?_)
      · replace hw := hw.1 c2
        refine lv_iconst (v := (0 : Int32)) hx hb dX10_isStripNumber_33 (by decide) ?_
        subst hQ
        exact x_zret (u := ()) hC hI hr hlk hw rfl (Or.inl rfl) dX10_isStripNumber_34
      · replace hw := hw.2 c2
        refine lv_aload_n hx hb dX10_isStripNumber_14 rfl (lv_at hl 1 rfl) ?_
        refine lv_iload_n hx hb dX10_isStripNumber_15 rfl (lv_at hl 3 rfl) ?_
        obtain ⟨hc3, hw⟩ := hw
        refine x_ti hC hI ht1 hc3 dX10_isStripNumber_16 ?_
        refine lv_topi (fun x4 ex4 => ?_)
        replace hw := hw x4 ex4
        refine lv_istore (lv' := [(4, .int x4), (0, .int a0), (1, .ref t1), (2, .int (6 : Int32)), (3, .int l3_9)]) hx hb dX10_isStripNumber_17 hl (by decide) rfl (fun ls hl => ?_)
        refine lv_iload hx hb dX10_isStripNumber_19 (lv_at hl 0 rfl) ?_
        refine lv_iload_n hx hb dX10_isStripNumber_21 rfl (lv_at hl 1 rfl) ?_
        refine lv_icmp_ne (tgt := 27) hx hb dX10_isStripNumber_22 (by decide) (fun c5 => ?_) (fun c5 => ?_)
        · replace hw := hw.2 c5
          obtain ⟨x6, ex6⟩ : ∃ y : Int32, y = l3_9 + 1 := ⟨_, rfl⟩
          replace hw := hw x6 ex6
          refine lv_iinc (v := x6) (lv' := [(3, .int x6), (4, .int x4), (0, .int a0), (1, .ref t1), (2, .int (6 : Int32))]) hx hb dX10_isStripNumber_27 hl (k := 4) rfl (by rw [ex6]; rfl) (by decide) rfl (fun ls hl => ?_)
          refine lv_goto (tgt := 9) hx hb dX10_isStripNumber_30 (by decide) ?_
          exact ih9 x6 ls H locs (Nat.lt_of_lt_of_le hw.2 (Nat.le_of_lt_succ hmu9)) hw.1 hI (lv_sub hl [2, 3, 4, 0] rfl)
        · replace hw := hw.1 c5
          refine lv_iconst (v := (1 : Int32)) hx hb dX10_isStripNumber_25 (by decide) ?_
          subst hQ
          exact x_zret (u := ()) hC hI hr hlk hw rfl (Or.inr rfl) dX10_isStripNumber_26
  exact lp9 (mu9 (0 : Int32) + 1) (0 : Int32) ls H locs (Nat.lt_succ_self _) hw hI (lv_sub hl [3, 2, 1, 0] rfl)
