def wX11_in (a0 : Int32) (a1 : Int32) (a2 : Int32)  (post : Int32 → Prop) : Prop := ((a0 < a1 → post (0 : Int32)) ∧ (¬ a0 < a1 → ((a2 < a0 → post (0 : Int32)) ∧ (¬ a2 < a0 → post (1 : Int32)))))
def rmX11_in : Room := { frames := 0, cells := 0, slots := 0, locals := 0 }
set_option maxHeartbeats 4000000 in
set_option maxRecDepth 100000 in
theorem mX11_in (l : Launch) (D : va_G) (K : Nat → ClassId)  (sz : Nat) (a0 : Int32) (a1 : Int32) (a2 : Int32)   {post : Int32 → Prop} (hw : wX11_in a0 a1 a2  post) : Met l yX11_in wsX11_in rmX11_in (va_Pc [.int a0, .int a1, .int a2] (cP D K (fl []) sz)) (va_Qi (fun (r : Int32) (u : Unit) => post r) (fun u t => cQ D K (fl []) (va_A (fl []) sz) t) (va_A (fl []) sz)) 0 0 (va_A (fl []) sz) := by
  refine x_entry (cc := cX11_in) (maxL := 3) (ret := (some .boolean)) (QA := fun A => va_Qi (fun (r : Int32) (u : Unit) => post r) (fun u t => cQ D K (fl []) A t) A) (plainFor_of_name (by decide)) rfl (Nat.le_of_ble_eq_true rfl) ?_
  intro p e s m args below meth c A ls H Q hQ hC hlk hr hnm hI hl
  obtain ⟨hx, hb, hml, hown, hts, hK, hA, hZ⟩ := id hC
  obtain ⟨locs, hlocs⟩ : ∃ y : List Loc, y = [] := ⟨_, rfl⟩
  rw [← hlocs] at hI ⊢
  clear hlocs
  replace hl : lv_has ls 3 [(0, .int a0), (1, .int a1), (2, .int a2)] := hl
  replace hw : ((a0 < a1 → post (0 : Int32)) ∧ (¬ a0 < a1 → ((a2 < a0 → post (0 : Int32)) ∧ (¬ a2 < a0 → post (1 : Int32))))) := hw
  refine lv_iload_n hx hb dX11_in_0 rfl (lv_at hl 0 rfl) ?_
  refine lv_iload_n hx hb dX11_in_1 rfl (lv_at hl 1 rfl) ?_
  refine lv_icmp_lt (tgt := 14) hx hb dX11_in_2 (by decide) (fun c1 => ?_) (fun c1 => ?_)
  · replace hw := hw.1 c1
    refine lv_iconst (v := (0 : Int32)) hx hb dX11_in_14 (by decide) ?_
    subst hQ
    exact x_zret (u := ()) hC hI hr hlk hw rfl (Or.inl rfl) dX11_in_15
  · replace hw := hw.2 c1
    refine lv_iload_n hx hb dX11_in_5 rfl (lv_at hl 0 rfl) ?_
    refine lv_iload_n hx hb dX11_in_6 rfl (lv_at hl 2 rfl) ?_
    refine lv_icmp_gt (tgt := 14) hx hb dX11_in_7 (by decide) (fun c2 => ?_) (fun c2 => ?_)
    · replace hw := hw.1 c2
      refine lv_iconst (v := (0 : Int32)) hx hb dX11_in_14 (by decide) ?_
      subst hQ
      exact x_zret (u := ()) hC hI hr hlk hw rfl (Or.inl rfl) dX11_in_15
    · replace hw := hw.2 c2
      refine lv_iconst (v := (1 : Int32)) hx hb dX11_in_10 (by decide) ?_
      refine lv_goto (tgt := 15) hx hb dX11_in_11 (by decide) ?_
      subst hQ
      exact x_zret (u := ()) hC hI hr hlk hw rfl (Or.inr rfl) dX11_in_15

def wX11_bring (a1 : Int32) (a3 : Int32) (a4 : Int32) (arr : Nat → Int32) (o_arr : Nat → Int32) (alen : Nat) (o_alen : Nat) (post : (Nat → Int32) → Prop) : Prop := (∃ (I3 : Int32 → (Nat → Int32) → Prop) (mu3 : Int32 → (Nat → Int32) → Nat), I3 (0 : Int32) o_arr ∧ ∀ (l5_3 : Int32) (o_arr_3 : Nat → Int32), I3 l5_3 o_arr_3 → ((a4 ≤ l5_3 → post o_arr_3) ∧ (¬ a4 ≤ l5_3 → vp_in (a1 + l5_3) alen ∧ vp_in (a3 + l5_3) o_alen ∧ ∀ x4 : Int32, x4 = l5_3 + 1 → (I3 x4 (upd o_arr_3 (a3 + l5_3).toNatClampNeg (arr (a1 + l5_3).toNatClampNeg)) ∧ mu3 x4 (upd o_arr_3 (a3 + l5_3).toNatClampNeg (arr (a1 + l5_3).toNatClampNeg)) < mu3 l5_3 o_arr_3))))
def rmX11_bring : Room := { frames := 0, cells := 0, slots := 0, locals := 0 }
set_option maxHeartbeats 4000000 in
set_option maxRecDepth 100000 in
theorem mX11_bring (l : Launch) (D : va_G) (K : Nat → ClassId) (h0 : Nat → Nat) (h1 : Nat → Nat) (sz : Nat) (a1 : Int32) (a3 : Int32) (a4 : Int32) (arr : Nat → Int32) (o_arr : Nat → Int32) (alen : Nat) (o_alen : Nat) {post : (Nat → Int32) → Prop} (hw : wX11_bring a1 a3 a4 arr o_arr alen o_alen post) : Met l yX11_bring wsX11_bring rmX11_bring (va_Pc [.ref (h0 0), .int a1, .ref (h1 0), .int a3, .int a4] (cP D K (fl [wAI K h0 alen arr, wAI K h1 o_alen o_arr]) sz)) (va_Qv (fun (u : (Nat → Int32)) => post u) (fun u t => cQ D K (fl [wAI K h0 alen arr, wAI K h1 o_alen u]) (va_A (fl [wAI K h0 alen arr, wAI K h1 o_alen o_arr]) sz) t) (va_A (fl [wAI K h0 alen arr, wAI K h1 o_alen o_arr]) sz)) 0 0 (va_A (fl [wAI K h0 alen arr, wAI K h1 o_alen o_arr]) sz) := by
  refine x_entry (cc := cX11_bring) (maxL := 6) (ret := none) (QA := fun A => va_Qv (fun (u : (Nat → Int32)) => post u) (fun u t => cQ D K (fl [wAI K h0 alen arr, wAI K h1 o_alen u]) A t) A) (plainFor_of_name (by decide)) rfl (Nat.le_of_ble_eq_true rfl) ?_
  intro p e s m args below meth c A ls H Q hQ hC hlk hr hnm hI hl
  obtain ⟨hx, hb, hml, hown, hts, hK, hA, hZ⟩ := id hC
  obtain ⟨locs, hlocs⟩ : ∃ y : List Loc, y = [] := ⟨_, rfl⟩
  rw [← hlocs] at hI ⊢
  clear hlocs
  replace hl : lv_has ls 6 [(0, .ref (h0 0)), (1, .int a1), (2, .ref (h1 0)), (3, .int a3), (4, .int a4)] := hl
  replace hw : (∃ (I3 : Int32 → (Nat → Int32) → Prop) (mu3 : Int32 → (Nat → Int32) → Nat), I3 (0 : Int32) o_arr ∧ ∀ (l5_3 : Int32) (o_arr_3 : Nat → Int32), I3 l5_3 o_arr_3 → ((a4 ≤ l5_3 → post o_arr_3) ∧ (¬ a4 ≤ l5_3 → vp_in (a1 + l5_3) alen ∧ vp_in (a3 + l5_3) o_alen ∧ ∀ x4 : Int32, x4 = l5_3 + 1 → (I3 x4 (upd o_arr_3 (a3 + l5_3).toNatClampNeg (arr (a1 + l5_3).toNatClampNeg)) ∧ mu3 x4 (upd o_arr_3 (a3 + l5_3).toNatClampNeg (arr (a1 + l5_3).toNatClampNeg)) < mu3 l5_3 o_arr_3)))) := hw
  refine lv_iconst (v := (0 : Int32)) hx hb dX11_bring_0 (by decide) ?_
  refine lv_istore (lv' := [(5, .int (0 : Int32)), (0, .ref (h0 0)), (1, .int a1), (2, .ref (h1 0)), (3, .int a3), (4, .int a4)]) hx hb dX11_bring_1 hl (by decide) rfl (fun ls hl => ?_)
  obtain ⟨I3, mu3, hw, hb3⟩ := hw
  have lp3 : ∀ (k : Nat) (l5_3 : Int32) (o_arr_3 : Nat → Int32) (ls : Array Slot) (H : Heap) (locs : List Loc), mu3 l5_3 o_arr_3 < k → I3 l5_3 o_arr_3 → wI s D A (fl [wAI K h0 alen arr, wAI K h1 o_alen o_arr_3]) H locs → lv_has ls 6 [(0, .ref (h0 0)), (1, .int a1), (2, .ref (h1 0)), (3, .int a3), (4, .int a4), (5, .int l5_3)] → W p l e rmX11_bring s m args below meth c H locs 0 0 Q (F0 m 3 ls []) := by
    intro k
    induction k with
    | zero => intro l5_3 o_arr_3 ls H locs hmu; exact absurd hmu (Nat.not_lt_zero _)
    | succ k ih3 =>
      intro l5_3 o_arr_3 ls H locs hmu3 hw hI hl
      replace hw := hb3 l5_3 o_arr_3 hw
      refine lv_iload hx hb dX11_bring_3 (lv_at hl 5 rfl) ?_
      refine lv_iload hx hb dX11_bring_5 (lv_at hl 4 rfl) ?_
      refine lv_icmp_ge (tgt := 28) hx hb dX11_bring_7 (by decide) (fun c1 => ?_) (fun c1 => ?_)
      · replace hw := hw.1 c1
        subst hQ
        exact x_vret (u := o_arr_3) hC hI hr hlk hw rfl dX11_bring_28
      · replace hw := hw.2 c1
        refine lv_aload_n hx hb dX11_bring_10 rfl (lv_at hl 2 rfl) ?_
        refine lv_iload_n hx hb dX11_bring_11 rfl (lv_at hl 3 rfl) ?_
        refine lv_iload hx hb dX11_bring_12 (lv_at hl 5 rfl) ?_
        refine lv_iadd hx hb dX11_bring_14 ?_
        refine lv_aload_n hx hb dX11_bring_15 rfl (lv_at hl 0 rfl) ?_
        refine lv_iload_n hx hb dX11_bring_16 rfl (lv_at hl 1 rfl) ?_
        refine lv_iload hx hb dX11_bring_17 (lv_at hl 5 rfl) ?_
        refine lv_iadd hx hb dX11_bring_19 ?_
        obtain ⟨hc2, hw⟩ := hw
        refine x_iald (f := arr) hC hI 0 rfl hc2 dX11_bring_20 ?_
        obtain ⟨hc3, hw⟩ := hw
        refine x_iast (f := o_arr_3) hC hI 1 rfl hc3 dX11_bring_21 (fun H locs hI => ?_)
        have hI : wI s D A (fl [wAI K h0 alen arr, wAI K h1 o_alen (upd o_arr_3 (a3 + l5_3).toNatClampNeg (arr (a1 + l5_3).toNatClampNeg))]) H locs := hI
        obtain ⟨x4, ex4⟩ : ∃ y : Int32, y = l5_3 + 1 := ⟨_, rfl⟩
        replace hw := hw x4 ex4
        refine lv_iinc (v := x4) (lv' := [(5, .int x4), (0, .ref (h0 0)), (1, .int a1), (2, .ref (h1 0)), (3, .int a3), (4, .int a4)]) hx hb dX11_bring_22 hl (k := 5) rfl (by rw [ex4]; rfl) (by decide) rfl (fun ls hl => ?_)
        refine lv_goto (tgt := 3) hx hb dX11_bring_25 (by decide) ?_
        exact ih3 x4 (upd o_arr_3 (a3 + l5_3).toNatClampNeg (arr (a1 + l5_3).toNatClampNeg)) ls H locs (Nat.lt_of_lt_of_le hw.2 (Nat.le_of_lt_succ hmu3)) hw.1 hI (lv_sub hl [1, 2, 3, 4, 5, 0] rfl)
  exact lp3 (mu3 (0 : Int32) o_arr + 1) (0 : Int32) o_arr ls H locs (Nat.lt_succ_self _) hw hI (lv_sub hl [1, 2, 3, 4, 5, 0] rfl)

def wX11_bringS (a1 : Int32) (a3 : Int32) (a4 : Int32) (arr : Nat → Int32) (alen : Nat) (post : (Nat → Int32) → Prop) : Prop := (∃ (I3 : Int32 → (Nat → Int32) → Prop) (mu3 : Int32 → (Nat → Int32) → Nat), I3 (0 : Int32) arr ∧ ∀ (l5_3 : Int32) (arr_3 : Nat → Int32), I3 l5_3 arr_3 → ((a4 ≤ l5_3 → post arr_3) ∧ (¬ a4 ≤ l5_3 → vp_in (a1 + l5_3) alen ∧ vp_in (a3 + l5_3) alen ∧ ∀ x4 : Int32, x4 = l5_3 + 1 → (I3 x4 (upd arr_3 (a3 + l5_3).toNatClampNeg (arr_3 (a1 + l5_3).toNatClampNeg)) ∧ mu3 x4 (upd arr_3 (a3 + l5_3).toNatClampNeg (arr_3 (a1 + l5_3).toNatClampNeg)) < mu3 l5_3 arr_3))))
def rmX11_bringS : Room := { frames := 0, cells := 0, slots := 0, locals := 0 }
set_option maxHeartbeats 4000000 in
set_option maxRecDepth 100000 in
theorem mX11_bringS (l : Launch) (D : va_G) (K : Nat → ClassId) (h : Nat → Nat) (sz : Nat) (a1 : Int32) (a3 : Int32) (a4 : Int32) (arr : Nat → Int32) (alen : Nat) {post : (Nat → Int32) → Prop} (hw : wX11_bringS a1 a3 a4 arr alen post) : Met l yX11_bring wsX11_bring rmX11_bringS (va_Pc [.ref (h 0), .int a1, .ref (h 0), .int a3, .int a4] (cP D K (fl [wAI K h alen arr]) sz)) (va_Qv (fun (u : (Nat → Int32)) => post u) (fun u t => cQ D K (fl [wAI K h alen u]) (va_A (fl [wAI K h alen arr]) sz) t) (va_A (fl [wAI K h alen arr]) sz)) 0 0 (va_A (fl [wAI K h alen arr]) sz) := by
  refine x_entry (cc := cX11_bring) (maxL := 6) (ret := none) (QA := fun A => va_Qv (fun (u : (Nat → Int32)) => post u) (fun u t => cQ D K (fl [wAI K h alen u]) A t) A) (plainFor_of_name (by decide)) rfl (Nat.le_of_ble_eq_true rfl) ?_
  intro p e s m args below meth c A ls H Q hQ hC hlk hr hnm hI hl
  obtain ⟨hx, hb, hml, hown, hts, hK, hA, hZ⟩ := id hC
  obtain ⟨locs, hlocs⟩ : ∃ y : List Loc, y = [] := ⟨_, rfl⟩
  rw [← hlocs] at hI ⊢
  clear hlocs
  replace hl : lv_has ls 6 [(0, .ref (h 0)), (1, .int a1), (2, .ref (h 0)), (3, .int a3), (4, .int a4)] := hl
  replace hw : (∃ (I3 : Int32 → (Nat → Int32) → Prop) (mu3 : Int32 → (Nat → Int32) → Nat), I3 (0 : Int32) arr ∧ ∀ (l5_3 : Int32) (arr_3 : Nat → Int32), I3 l5_3 arr_3 → ((a4 ≤ l5_3 → post arr_3) ∧ (¬ a4 ≤ l5_3 → vp_in (a1 + l5_3) alen ∧ vp_in (a3 + l5_3) alen ∧ ∀ x4 : Int32, x4 = l5_3 + 1 → (I3 x4 (upd arr_3 (a3 + l5_3).toNatClampNeg (arr_3 (a1 + l5_3).toNatClampNeg)) ∧ mu3 x4 (upd arr_3 (a3 + l5_3).toNatClampNeg (arr_3 (a1 + l5_3).toNatClampNeg)) < mu3 l5_3 arr_3)))) := hw
  refine lv_iconst (v := (0 : Int32)) hx hb dX11_bring_0 (by decide) ?_
  refine lv_istore (lv' := [(5, .int (0 : Int32)), (0, .ref (h 0)), (1, .int a1), (2, .ref (h 0)), (3, .int a3), (4, .int a4)]) hx hb dX11_bring_1 hl (by decide) rfl (fun ls hl => ?_)
  obtain ⟨I3, mu3, hw, hb3⟩ := hw
  have lp3 : ∀ (k : Nat) (l5_3 : Int32) (arr_3 : Nat → Int32) (ls : Array Slot) (H : Heap) (locs : List Loc), mu3 l5_3 arr_3 < k → I3 l5_3 arr_3 → wI s D A (fl [wAI K h alen arr_3]) H locs → lv_has ls 6 [(0, .ref (h 0)), (1, .int a1), (2, .ref (h 0)), (3, .int a3), (4, .int a4), (5, .int l5_3)] → W p l e rmX11_bringS s m args below meth c H locs 0 0 Q (F0 m 3 ls []) := by
    intro k
    induction k with
    | zero => intro l5_3 arr_3 ls H locs hmu; exact absurd hmu (Nat.not_lt_zero _)
    | succ k ih3 =>
      intro l5_3 arr_3 ls H locs hmu3 hw hI hl
      replace hw := hb3 l5_3 arr_3 hw
      refine lv_iload hx hb dX11_bring_3 (lv_at hl 5 rfl) ?_
      refine lv_iload hx hb dX11_bring_5 (lv_at hl 4 rfl) ?_
      refine lv_icmp_ge (tgt := 28) hx hb dX11_bring_7 (by decide) (fun c1 => ?_) (fun c1 => ?_)
      · replace hw := hw.1 c1
        subst hQ
        exact x_vret (u := arr_3) hC hI hr hlk hw rfl dX11_bring_28
      · replace hw := hw.2 c1
        refine lv_aload_n hx hb dX11_bring_10 rfl (lv_at hl 2 rfl) ?_
        refine lv_iload_n hx hb dX11_bring_11 rfl (lv_at hl 3 rfl) ?_
        refine lv_iload hx hb dX11_bring_12 (lv_at hl 5 rfl) ?_
        refine lv_iadd hx hb dX11_bring_14 ?_
        refine lv_aload_n hx hb dX11_bring_15 rfl (lv_at hl 0 rfl) ?_
        refine lv_iload_n hx hb dX11_bring_16 rfl (lv_at hl 1 rfl) ?_
        refine lv_iload hx hb dX11_bring_17 (lv_at hl 5 rfl) ?_
        refine lv_iadd hx hb dX11_bring_19 ?_
        obtain ⟨hc2, hw⟩ := hw
        refine x_iald (f := arr_3) hC hI 0 rfl hc2 dX11_bring_20 ?_
        obtain ⟨hc3, hw⟩ := hw
        refine x_iast (f := arr_3) hC hI 0 rfl hc3 dX11_bring_21 (fun H locs hI => ?_)
        have hI : wI s D A (fl [wAI K h alen (upd arr_3 (a3 + l5_3).toNatClampNeg (arr_3 (a1 + l5_3).toNatClampNeg))]) H locs := hI
        obtain ⟨x4, ex4⟩ : ∃ y : Int32, y = l5_3 + 1 := ⟨_, rfl⟩
        replace hw := hw x4 ex4
        refine lv_iinc (v := x4) (lv' := [(5, .int x4), (0, .ref (h 0)), (1, .int a1), (2, .ref (h 0)), (3, .int a3), (4, .int a4)]) hx hb dX11_bring_22 hl (k := 5) rfl (by rw [ex4]; rfl) (by decide) rfl (fun ls hl => ?_)
        refine lv_goto (tgt := 3) hx hb dX11_bring_25 (by decide) ?_
        exact ih3 x4 (upd arr_3 (a3 + l5_3).toNatClampNeg (arr_3 (a1 + l5_3).toNatClampNeg)) ls H locs (Nat.lt_of_lt_of_le hw.2 (Nat.le_of_lt_succ hmu3)) hw.1 hI (lv_sub hl [1, 2, 3, 4, 5, 0] rfl)
  exact lp3 (mu3 (0 : Int32) arr + 1) (0 : Int32) arr ls H locs (Nat.lt_succ_self _) hw hI (lv_sub hl [1, 2, 3, 4, 5, 0] rfl)

def wX11_size (a0 : Int32)  (post : Int32 → Prop) : Prop := ((0 ≤ a0 → post a0) ∧ (¬ 0 ≤ a0 → post (-a0)))
def rmX11_size : Room := { frames := 0, cells := 0, slots := 0, locals := 0 }
set_option maxHeartbeats 4000000 in
set_option maxRecDepth 100000 in
theorem mX11_size (l : Launch) (D : va_G) (K : Nat → ClassId)  (sz : Nat) (a0 : Int32)   {post : Int32 → Prop} (hw : wX11_size a0  post) : Met l yX11_size wsX11_size rmX11_size (va_Pc [.int a0] (cP D K (fl []) sz)) (va_Qi (fun (r : Int32) (u : Unit) => post r) (fun u t => cQ D K (fl []) (va_A (fl []) sz) t) (va_A (fl []) sz)) 0 0 (va_A (fl []) sz) := by
  refine x_entry (cc := cX11_size) (maxL := 1) (ret := (some .int)) (QA := fun A => va_Qi (fun (r : Int32) (u : Unit) => post r) (fun u t => cQ D K (fl []) A t) A) (plainFor_of_name (by decide)) rfl (Nat.le_of_ble_eq_true rfl) ?_
  intro p e s m args below meth c A ls H Q hQ hC hlk hr hnm hI hl
  obtain ⟨hx, hb, hml, hown, hts, hK, hA, hZ⟩ := id hC
  obtain ⟨locs, hlocs⟩ : ∃ y : List Loc, y = [] := ⟨_, rfl⟩
  rw [← hlocs] at hI ⊢
  clear hlocs
  replace hl : lv_has ls 1 [(0, .int a0)] := hl
  replace hw : ((0 ≤ a0 → post a0) ∧ (¬ 0 ≤ a0 → post (-a0))) := hw
  refine lv_iload_n hx hb dX11_size_0 rfl (lv_at hl 0 rfl) ?_
  refine lv_if_ge (tgt := 9) hx hb dX11_size_1 (by decide) (fun c1 => ?_) (fun c1 => ?_)
  · replace hw := hw.1 c1
    refine lv_iload_n hx hb dX11_size_9 rfl (lv_at hl 0 rfl) ?_
    subst hQ
    exact x_iret (u := ()) hC hI hr hlk hw rfl dX11_size_10
  · replace hw := hw.2 c1
    refine lv_iload_n hx hb dX11_size_4 rfl (lv_at hl 0 rfl) ?_
    refine lv_ineg hx hb dX11_size_5 ?_
    refine lv_goto (tgt := 10) hx hb dX11_size_6 (by decide) ?_
    subst hQ
    exact x_iret (u := ()) hC hI hr hlk hw rfl dX11_size_10

def wX11_quarter (a0 : Int32)  (post : Int32 → Prop) : Prop := ((a0 = (0 : Int32) → post (0 : Int32)) ∧ (¬ a0 = (0 : Int32) → ((a0 = (1 : Int32) → post (2588 : Int32)) ∧ (¬ a0 = (1 : Int32) → ((a0 = (2 : Int32) → post (5000 : Int32)) ∧ (¬ a0 = (2 : Int32) → ((a0 = (3 : Int32) → post (7071 : Int32)) ∧ (¬ a0 = (3 : Int32) → ((a0 = (4 : Int32) → post (8660 : Int32)) ∧ (¬ a0 = (4 : Int32) → ((a0 = (5 : Int32) → post (9659 : Int32)) ∧ (¬ a0 = (5 : Int32) → post (10000 : Int32)))))))))))))
def rmX11_quarter : Room := { frames := 0, cells := 0, slots := 0, locals := 0 }
set_option maxHeartbeats 4000000 in
set_option maxRecDepth 100000 in
theorem mX11_quarter (l : Launch) (D : va_G) (K : Nat → ClassId)  (sz : Nat) (a0 : Int32)   {post : Int32 → Prop} (hw : wX11_quarter a0  post) : Met l yX11_quarter wsX11_quarter rmX11_quarter (va_Pc [.int a0] (cP D K (fl []) sz)) (va_Qi (fun (r : Int32) (u : Unit) => post r) (fun u t => cQ D K (fl []) (va_A (fl []) sz) t) (va_A (fl []) sz)) 0 0 (va_A (fl []) sz) := by
  refine x_entry (cc := cX11_quarter) (maxL := 1) (ret := (some .int)) (QA := fun A => va_Qi (fun (r : Int32) (u : Unit) => post r) (fun u t => cQ D K (fl []) A t) A) (plainFor_of_name (by decide)) rfl (Nat.le_of_ble_eq_true rfl) ?_
  intro p e s m args below meth c A ls H Q hQ hC hlk hr hnm hI hl
  obtain ⟨hx, hb, hml, hown, hts, hK, hA, hZ⟩ := id hC
  obtain ⟨locs, hlocs⟩ : ∃ y : List Loc, y = [] := ⟨_, rfl⟩
  rw [← hlocs] at hI ⊢
  clear hlocs
  replace hl : lv_has ls 1 [(0, .int a0)] := hl
  replace hw : ((a0 = (0 : Int32) → post (0 : Int32)) ∧ (¬ a0 = (0 : Int32) → ((a0 = (1 : Int32) → post (2588 : Int32)) ∧ (¬ a0 = (1 : Int32) → ((a0 = (2 : Int32) → post (5000 : Int32)) ∧ (¬ a0 = (2 : Int32) → ((a0 = (3 : Int32) → post (7071 : Int32)) ∧ (¬ a0 = (3 : Int32) → ((a0 = (4 : Int32) → post (8660 : Int32)) ∧ (¬ a0 = (4 : Int32) → ((a0 = (5 : Int32) → post (9659 : Int32)) ∧ (¬ a0 = (5 : Int32) → post (10000 : Int32))))))))))))) := hw
  refine lv_iload_n hx hb dX11_quarter_0 rfl (lv_at hl 0 rfl) ?_
  by_cases c1 : a0 = (0 : Int32)
  · replace hw := hw.1 c1
    refine lv_tableIn (off := 39) (tgt := 40) hx hb dX11_quarter_1 (by rw [c1]; decide) (by rw [c1]; decide) (by rw [c1]; rfl) (by decide) ?_
    refine lv_iconst (v := (0 : Int32)) hx hb dX11_quarter_40 (by decide) ?_
    subst hQ
    exact x_iret (u := ()) hC hI hr hlk hw rfl dX11_quarter_41
  · replace hw := hw.2 c1
    by_cases c2 : a0 = (1 : Int32)
    · replace hw := hw.1 c2
      refine lv_tableIn (off := 41) (tgt := 42) hx hb dX11_quarter_1 (by rw [c2]; decide) (by rw [c2]; decide) (by rw [c2]; rfl) (by decide) ?_
      refine lv_sipush (v := (2588 : Int32)) hx hb dX11_quarter_42 (by decide) ?_
      subst hQ
      exact x_iret (u := ()) hC hI hr hlk hw rfl dX11_quarter_45
    · replace hw := hw.2 c2
      by_cases c3 : a0 = (2 : Int32)
      · replace hw := hw.1 c3
        refine lv_tableIn (off := 45) (tgt := 46) hx hb dX11_quarter_1 (by rw [c3]; decide) (by rw [c3]; decide) (by rw [c3]; rfl) (by decide) ?_
        refine lv_sipush (v := (5000 : Int32)) hx hb dX11_quarter_46 (by decide) ?_
        subst hQ
        exact x_iret (u := ()) hC hI hr hlk hw rfl dX11_quarter_49
      · replace hw := hw.2 c3
        by_cases c4 : a0 = (3 : Int32)
        · replace hw := hw.1 c4
          refine lv_tableIn (off := 49) (tgt := 50) hx hb dX11_quarter_1 (by rw [c4]; decide) (by rw [c4]; decide) (by rw [c4]; rfl) (by decide) ?_
          refine lv_sipush (v := (7071 : Int32)) hx hb dX11_quarter_50 (by decide) ?_
          subst hQ
          exact x_iret (u := ()) hC hI hr hlk hw rfl dX11_quarter_53
        · replace hw := hw.2 c4
          by_cases c5 : a0 = (4 : Int32)
          · replace hw := hw.1 c5
            refine lv_tableIn (off := 53) (tgt := 54) hx hb dX11_quarter_1 (by rw [c5]; decide) (by rw [c5]; decide) (by rw [c5]; rfl) (by decide) ?_
            refine lv_sipush (v := (8660 : Int32)) hx hb dX11_quarter_54 (by decide) ?_
            subst hQ
            exact x_iret (u := ()) hC hI hr hlk hw rfl dX11_quarter_57
          · replace hw := hw.2 c5
            by_cases c6 : a0 = (5 : Int32)
            · replace hw := hw.1 c6
              refine lv_tableIn (off := 57) (tgt := 58) hx hb dX11_quarter_1 (by rw [c6]; decide) (by rw [c6]; decide) (by rw [c6]; rfl) (by decide) ?_
              refine lv_sipush (v := (9659 : Int32)) hx hb dX11_quarter_58 (by decide) ?_
              subst hQ
              exact x_iret (u := ()) hC hI hr hlk hw rfl dX11_quarter_61
            · replace hw := hw.2 c6
              refine lv_tableOut (tgt := 62) hx hb dX11_quarter_1 (by have nc1 := lv_neT c1 (a := 0) rfl; have nc2 := lv_neT c2 (a := 1) rfl; have nc3 := lv_neT c3 (a := 2) rfl; have nc4 := lv_neT c4 (a := 3) rfl; have nc5 := lv_neT c5 (a := 4) rfl; have nc6 := lv_neT c6 (a := 5) rfl; omega) (by decide) ?_
              refine lv_sipush (v := (10000 : Int32)) hx hb dX11_quarter_62 (by decide) ?_
              subst hQ
              exact x_iret (u := ()) hC hI hr hlk hw rfl dX11_quarter_65

def wX11_sine (a0 : Int32)  (post : Int32 → Prop) : Prop := ∀ x1 : Int32, x1 = a0 - a0 / (12 : Int32) * (12 : Int32) → ∃ J19 : Int32 → Prop, (∀ (t_19 : Int32), J19 t_19 → wX11_quarter t_19 (fun (r2 : Int32) => (((12 : Int32) ≤ a0 → post (-r2)) ∧ (¬ (12 : Int32) ≤ a0 → post r2)))) ∧ ((x1 ≤ (6 : Int32) → J19 x1) ∧ (¬ x1 ≤ (6 : Int32) → J19 ((12 : Int32) - x1)))
def rmX11_sine : Room := { frames := 1, cells := 0, slots := 0, locals := 20 }
set_option maxHeartbeats 4000000 in
set_option maxRecDepth 100000 in
theorem mX11_sine (l : Launch) (D : va_G) (K : Nat → ClassId)  (sz : Nat) (a0 : Int32)   {post : Int32 → Prop} (hw : wX11_sine a0  post) : Met l yX11_sine wsX11_sine rmX11_sine (va_Pc [.int a0] (cP D K (fl []) sz)) (va_Qi (fun (r : Int32) (u : Unit) => post r) (fun u t => cQ D K (fl []) (va_A (fl []) sz) t) (va_A (fl []) sz)) 0 0 (va_A (fl []) sz) := by
  refine x_entry (cc := cX11_sine) (maxL := 3) (ret := (some .int)) (QA := fun A => va_Qi (fun (r : Int32) (u : Unit) => post r) (fun u t => cQ D K (fl []) A t) A) (plainFor_of_name (by decide)) rfl (Nat.le_of_ble_eq_true rfl) ?_
  intro p e s m args below meth c A ls H Q hQ hC hlk hr hnm hI hl
  obtain ⟨hx, hb, hml, hown, hts, hK, hA, hZ⟩ := id hC
  obtain ⟨locs, hlocs⟩ : ∃ y : List Loc, y = [] := ⟨_, rfl⟩
  rw [← hlocs] at hI ⊢
  clear hlocs
  replace hl : lv_has ls 3 [(0, .int a0)] := hl
  replace hw : ∀ x1 : Int32, x1 = a0 - a0 / (12 : Int32) * (12 : Int32) → ∃ J19 : Int32 → Prop, (∀ (t_19 : Int32), J19 t_19 → wX11_quarter t_19 (fun (r2 : Int32) => (((12 : Int32) ≤ a0 → post (-r2)) ∧ (¬ (12 : Int32) ≤ a0 → post r2)))) ∧ ((x1 ≤ (6 : Int32) → J19 x1) ∧ (¬ x1 ≤ (6 : Int32) → J19 ((12 : Int32) - x1))) := hw
  refine lv_iload_n hx hb dX11_sine_0 rfl (lv_at hl 0 rfl) ?_
  refine lv_bipush (v := (12 : Int32)) hx hb dX11_sine_1 (by decide) ?_
  refine lv_irem hx hb dX11_sine_3 (by decide) ?_
  refine lv_topi (fun x1 ex1 => ?_)
  replace hw := hw x1 ex1
  refine lv_istore_n (lv' := [(1, .int x1), (0, .int a0)]) hx hb dX11_sine_4 rfl hl (by decide) rfl (fun ls hl => ?_)
  refine lv_iload_n hx hb dX11_sine_5 rfl (lv_at hl 0 rfl) ?_
  refine lv_bipush (v := (6 : Int32)) hx hb dX11_sine_6 (by decide) ?_
  obtain ⟨J19, hJ19, hw⟩ := hw
  have jn19 : ∀ (t_19 : Int32) (ls : Array Slot) (H : Heap) (locs : List Loc), J19 t_19 → wI s D A (fl []) H locs → lv_has ls 3 [(0, .int a0)] → W p l e rmX11_sine s m args below meth c H locs 0 0 Q (F0 m 19 ls [.int t_19]) := by
    intro t_19 ls H locs hw hI hl
    replace hw := hJ19 t_19 hw
    refine x_callSi (rest := []) hC hI [] (mX11_quarter l D K  _ t_19 hw) (va_cwS 1 hts gX11_sine_X11_quarter rfl rfl rfl (by decide +kernel) ⟨(Nat.le_of_ble_eq_true rfl), (Nat.le_of_ble_eq_true rfl)⟩) (by decide) rfl (fun _ => rfl) rfl hl.1 rfl (Nat.le_of_ble_eq_true rfl) dX11_sine_19 ⟨(Nat.le_of_ble_eq_true rfl), (Nat.le_of_ble_eq_true rfl)⟩ (fun r2 u H locs hw hI => ?_)
    try dsimp only at hw
    have hI : wI s D A (fl []) H locs := hI
    refine lv_istore_n (lv' := [(2, .int r2), (0, .int a0)]) hx hb dX11_sine_22 rfl hl (by decide) rfl (fun ls hl => ?_)
    refine lv_iload_n hx hb dX11_sine_23 rfl (lv_at hl 1 rfl) ?_
    refine lv_bipush (v := (12 : Int32)) hx hb dX11_sine_24 (by decide) ?_
    refine lv_icmp_ge (tgt := 33) hx hb dX11_sine_26 (by decide) (fun c3 => ?_) (fun c3 => ?_)
    · replace hw := hw.1 c3
      refine lv_iload_n hx hb dX11_sine_33 rfl (lv_at hl 0 rfl) ?_
      refine lv_ineg hx hb dX11_sine_34 ?_
      subst hQ
      exact x_iret (u := ()) hC hI hr hlk hw rfl dX11_sine_35
    · replace hw := hw.2 c3
      refine lv_iload_n hx hb dX11_sine_29 rfl (lv_at hl 0 rfl) ?_
      refine lv_goto (tgt := 35) hx hb dX11_sine_30 (by decide) ?_
      subst hQ
      exact x_iret (u := ()) hC hI hr hlk hw rfl dX11_sine_35
  refine lv_icmp_le (tgt := 18) hx hb dX11_sine_8 (by decide) (fun c4 => ?_) (fun c4 => ?_)
  · replace hw := hw.1 c4
    refine lv_iload_n hx hb dX11_sine_18 rfl (lv_at hl 0 rfl) ?_
    exact jn19 x1 ls H locs hw hI (lv_sub hl [1] rfl)
  · replace hw := hw.2 c4
    refine lv_bipush (v := (12 : Int32)) hx hb dX11_sine_11 (by decide) ?_
    refine lv_iload_n hx hb dX11_sine_13 rfl (lv_at hl 0 rfl) ?_
    refine lv_isub hx hb dX11_sine_14 ?_
    refine lv_goto (tgt := 19) hx hb dX11_sine_15 (by decide) ?_
    exact jn19 ((12 : Int32) - x1) ls H locs hw hI (lv_sub hl [1] rfl)

def wX11_cosine (a0 : Int32)  (post : Int32 → Prop) : Prop := wX11_sine ((a0 + (6 : Int32)) - (a0 + (6 : Int32)) / (24 : Int32) * (24 : Int32)) (fun (r1 : Int32) => post r1)
def rmX11_cosine : Room := { frames := 2, cells := 0, slots := 0, locals := 42 }
set_option maxHeartbeats 4000000 in
set_option maxRecDepth 100000 in
theorem mX11_cosine (l : Launch) (D : va_G) (K : Nat → ClassId)  (sz : Nat) (a0 : Int32)   {post : Int32 → Prop} (hw : wX11_cosine a0  post) : Met l yX11_cosine wsX11_cosine rmX11_cosine (va_Pc [.int a0] (cP D K (fl []) sz)) (va_Qi (fun (r : Int32) (u : Unit) => post r) (fun u t => cQ D K (fl []) (va_A (fl []) sz) t) (va_A (fl []) sz)) 0 0 (va_A (fl []) sz) := by
  refine x_entry (cc := cX11_cosine) (maxL := 1) (ret := (some .int)) (QA := fun A => va_Qi (fun (r : Int32) (u : Unit) => post r) (fun u t => cQ D K (fl []) A t) A) (plainFor_of_name (by decide)) rfl (Nat.le_of_ble_eq_true rfl) ?_
  intro p e s m args below meth c A ls H Q hQ hC hlk hr hnm hI hl
  obtain ⟨hx, hb, hml, hown, hts, hK, hA, hZ⟩ := id hC
  obtain ⟨locs, hlocs⟩ : ∃ y : List Loc, y = [] := ⟨_, rfl⟩
  rw [← hlocs] at hI ⊢
  clear hlocs
  replace hl : lv_has ls 1 [(0, .int a0)] := hl
  replace hw : wX11_sine ((a0 + (6 : Int32)) - (a0 + (6 : Int32)) / (24 : Int32) * (24 : Int32)) (fun (r1 : Int32) => post r1) := hw
  refine lv_iload_n hx hb dX11_cosine_0 rfl (lv_at hl 0 rfl) ?_
  refine lv_bipush (v := (6 : Int32)) hx hb dX11_cosine_1 (by decide) ?_
  refine lv_iadd hx hb dX11_cosine_3 ?_
  refine lv_bipush (v := (24 : Int32)) hx hb dX11_cosine_4 (by decide) ?_
  refine lv_irem hx hb dX11_cosine_6 (by decide) ?_
  refine x_callSi (rest := []) hC hI [] (mX11_sine l D K  _ ((a0 + (6 : Int32)) - (a0 + (6 : Int32)) / (24 : Int32) * (24 : Int32)) hw) (va_cwS 1 hts gX11_cosine_X11_sine rfl rfl rfl (by decide +kernel) ⟨(Nat.le_of_ble_eq_true rfl), (Nat.le_of_ble_eq_true rfl)⟩) (by decide) rfl (fun _ => rfl) rfl hl.1 rfl (Nat.le_of_ble_eq_true rfl) dX11_cosine_7 ⟨(Nat.le_of_ble_eq_true rfl), (Nat.le_of_ble_eq_true rfl)⟩ (fun r1 u H locs hw hI => ?_)
  try dsimp only at hw
  have hI : wI s D A (fl []) H locs := hI
  subst hQ
  exact x_iret (u := ()) hC hI hr hlk hw rfl dX11_cosine_10

def wX11_wideOf (a0 : Int32)  (post : Int32 → Prop) : Prop := wX11_size a0 (fun (r1 : Int32) => wX11_cosine r1 (fun (r2 : Int32) => post r2))
def rmX11_wideOf : Room := { frames := 3, cells := 0, slots := 0, locals := 62 }
set_option maxHeartbeats 4000000 in
set_option maxRecDepth 100000 in
theorem mX11_wideOf (l : Launch) (D : va_G) (K : Nat → ClassId)  (sz : Nat) (a0 : Int32)   {post : Int32 → Prop} (hw : wX11_wideOf a0  post) : Met l yX11_wideOf wsX11_wideOf rmX11_wideOf (va_Pc [.int a0] (cP D K (fl []) sz)) (va_Qi (fun (r : Int32) (u : Unit) => post r) (fun u t => cQ D K (fl []) (va_A (fl []) sz) t) (va_A (fl []) sz)) 0 0 (va_A (fl []) sz) := by
  refine x_entry (cc := cX11_wideOf) (maxL := 1) (ret := (some .int)) (QA := fun A => va_Qi (fun (r : Int32) (u : Unit) => post r) (fun u t => cQ D K (fl []) A t) A) (plainFor_of_name (by decide)) rfl (Nat.le_of_ble_eq_true rfl) ?_
  intro p e s m args below meth c A ls H Q hQ hC hlk hr hnm hI hl
  obtain ⟨hx, hb, hml, hown, hts, hK, hA, hZ⟩ := id hC
  obtain ⟨locs, hlocs⟩ : ∃ y : List Loc, y = [] := ⟨_, rfl⟩
  rw [← hlocs] at hI ⊢
  clear hlocs
  replace hl : lv_has ls 1 [(0, .int a0)] := hl
  replace hw : wX11_size a0 (fun (r1 : Int32) => wX11_cosine r1 (fun (r2 : Int32) => post r2)) := hw
  refine lv_iload_n hx hb dX11_wideOf_0 rfl (lv_at hl 0 rfl) ?_
  refine x_callSi (rest := []) hC hI [] (mX11_size l D K  _ a0 hw) (va_cwS 1 hts gX11_wideOf_X11_size rfl rfl rfl (by decide +kernel) ⟨(Nat.le_of_ble_eq_true rfl), (Nat.le_of_ble_eq_true rfl)⟩) (by decide) rfl (fun _ => rfl) rfl hl.1 rfl (Nat.le_of_ble_eq_true rfl) dX11_wideOf_1 ⟨(Nat.le_of_ble_eq_true rfl), (Nat.le_of_ble_eq_true rfl)⟩ (fun r1 u H locs hw hI => ?_)
  try dsimp only at hw
  have hI : wI s D A (fl []) H locs := hI
  refine x_callSi (rest := []) hC hI [] (mX11_cosine l D K  _ r1 hw) (va_cwS 1 hts gX11_wideOf_X11_cosine rfl rfl rfl (by decide +kernel) ⟨(Nat.le_of_ble_eq_true rfl), (Nat.le_of_ble_eq_true rfl)⟩) (by decide) rfl (fun _ => rfl) rfl hl.1 rfl (Nat.le_of_ble_eq_true rfl) dX11_wideOf_4 ⟨(Nat.le_of_ble_eq_true rfl), (Nat.le_of_ble_eq_true rfl)⟩ (fun r2 u H locs hw hI => ?_)
  try dsimp only at hw
  have hI : wI s D A (fl []) H locs := hI
  subst hQ
  exact x_iret (u := ()) hC hI hr hlk hw rfl dX11_wideOf_7

def wX11_isPlace (a0 : Int32) (a1 : Int32)  (post : Int32 → Prop) : Prop := wX11_in a0 (-6 : Int32) (6 : Int32) (fun (r1 : Int32) => ((r1 = 0 → post (0 : Int32)) ∧ (¬ r1 = 0 → wX11_in a1 (0 : Int32) (23 : Int32) (fun (r3 : Int32) => ((r3 = 0 → post (0 : Int32)) ∧ (¬ r3 = 0 → post (1 : Int32)))))))
def rmX11_isPlace : Room := { frames := 1, cells := 0, slots := 0, locals := 22 }
set_option maxHeartbeats 4000000 in
set_option maxRecDepth 100000 in
theorem mX11_isPlace (l : Launch) (D : va_G) (K : Nat → ClassId)  (sz : Nat) (a0 : Int32) (a1 : Int32)   {post : Int32 → Prop} (hw : wX11_isPlace a0 a1  post) : Met l yX11_isPlace wsX11_isPlace rmX11_isPlace (va_Pc [.int a0, .int a1] (cP D K (fl []) sz)) (va_Qi (fun (r : Int32) (u : Unit) => post r) (fun u t => cQ D K (fl []) (va_A (fl []) sz) t) (va_A (fl []) sz)) 0 0 (va_A (fl []) sz) := by
  refine x_entry (cc := cX11_isPlace) (maxL := 2) (ret := (some .boolean)) (QA := fun A => va_Qi (fun (r : Int32) (u : Unit) => post r) (fun u t => cQ D K (fl []) A t) A) (plainFor_of_name (by decide)) rfl (Nat.le_of_ble_eq_true rfl) ?_
  intro p e s m args below meth c A ls H Q hQ hC hlk hr hnm hI hl
  obtain ⟨hx, hb, hml, hown, hts, hK, hA, hZ⟩ := id hC
  obtain ⟨locs, hlocs⟩ : ∃ y : List Loc, y = [] := ⟨_, rfl⟩
  rw [← hlocs] at hI ⊢
  clear hlocs
  replace hl : lv_has ls 2 [(0, .int a0), (1, .int a1)] := hl
  replace hw : wX11_in a0 (-6 : Int32) (6 : Int32) (fun (r1 : Int32) => ((r1 = 0 → post (0 : Int32)) ∧ (¬ r1 = 0 → wX11_in a1 (0 : Int32) (23 : Int32) (fun (r3 : Int32) => ((r3 = 0 → post (0 : Int32)) ∧ (¬ r3 = 0 → post (1 : Int32))))))) := hw
  refine lv_iload_n hx hb dX11_isPlace_0 rfl (lv_at hl 0 rfl) ?_
  refine lv_bipush (v := (-6 : Int32)) hx hb dX11_isPlace_1 (by decide) ?_
  refine lv_bipush (v := (6 : Int32)) hx hb dX11_isPlace_3 (by decide) ?_
  refine x_callSi (rest := []) hC hI [] (mX11_in l D K  _ a0 (-6 : Int32) (6 : Int32) hw) (va_cwS 3 hts gX11_isPlace_X11_in rfl rfl rfl (by decide +kernel) ⟨(Nat.le_of_ble_eq_true rfl), (Nat.le_of_ble_eq_true rfl)⟩) (by decide) rfl (fun _ => rfl) rfl hl.1 rfl (Nat.le_of_ble_eq_true rfl) dX11_isPlace_5 ⟨(Nat.le_of_ble_eq_true rfl), (Nat.le_of_ble_eq_true rfl)⟩ (fun r1 u H locs hw hI => ?_)
  try dsimp only at hw
  have hI : wI s D A (fl []) H locs := hI
  refine lv_if_eq (tgt := 25) hx hb dX11_isPlace_8 (by decide) (fun c2 => ?_) (fun c2 => ?_)
  · replace hw := hw.1 c2
    refine lv_iconst (v := (0 : Int32)) hx hb dX11_isPlace_25 (by decide) ?_
    subst hQ
    exact x_zret (u := ()) hC hI hr hlk hw rfl (Or.inl rfl) dX11_isPlace_26
  · replace hw := hw.2 c2
    refine lv_iload_n hx hb dX11_isPlace_11 rfl (lv_at hl 1 rfl) ?_
    refine lv_iconst (v := (0 : Int32)) hx hb dX11_isPlace_12 (by decide) ?_
    refine lv_bipush (v := (23 : Int32)) hx hb dX11_isPlace_13 (by decide) ?_
    refine x_callSi (rest := []) hC hI [] (mX11_in l D K  _ a1 (0 : Int32) (23 : Int32) hw) (va_cwS 3 hts gX11_isPlace_X11_in rfl rfl rfl (by decide +kernel) ⟨(Nat.le_of_ble_eq_true rfl), (Nat.le_of_ble_eq_true rfl)⟩) (by decide) rfl (fun _ => rfl) rfl hl.1 rfl (Nat.le_of_ble_eq_true rfl) dX11_isPlace_15 ⟨(Nat.le_of_ble_eq_true rfl), (Nat.le_of_ble_eq_true rfl)⟩ (fun r3 u H locs hw hI => ?_)
    try dsimp only at hw
    have hI : wI s D A (fl []) H locs := hI
    refine lv_if_eq (tgt := 25) hx hb dX11_isPlace_18 (by decide) (fun c4 => ?_) (fun c4 => ?_)
    · replace hw := hw.1 c4
      refine lv_iconst (v := (0 : Int32)) hx hb dX11_isPlace_25 (by decide) ?_
      subst hQ
      exact x_zret (u := ()) hC hI hr hlk hw rfl (Or.inl rfl) dX11_isPlace_26
    · replace hw := hw.2 c4
      refine lv_iconst (v := (1 : Int32)) hx hb dX11_isPlace_21 (by decide) ?_
      refine lv_goto (tgt := 26) hx hb dX11_isPlace_22 (by decide) ?_
      subst hQ
      exact x_zret (u := ()) hC hI hr hlk hw rfl (Or.inr rfl) dX11_isPlace_26

def wX11_isNumber (a0 : Int32)  (post : Int32 → Prop) : Prop := wX11_in a0 (0 : Int32) (265 : Int32) (fun (r1 : Int32) => (r1 = 0 ∨ r1 = 1) ∧ post r1)
def rmX11_isNumber : Room := { frames := 1, cells := 0, slots := 0, locals := 22 }
set_option maxHeartbeats 4000000 in
set_option maxRecDepth 100000 in
theorem mX11_isNumber (l : Launch) (D : va_G) (K : Nat → ClassId)  (sz : Nat) (a0 : Int32)   {post : Int32 → Prop} (hw : wX11_isNumber a0  post) : Met l yX11_isNumber wsX11_isNumber rmX11_isNumber (va_Pc [.int a0] (cP D K (fl []) sz)) (va_Qi (fun (r : Int32) (u : Unit) => post r) (fun u t => cQ D K (fl []) (va_A (fl []) sz) t) (va_A (fl []) sz)) 0 0 (va_A (fl []) sz) := by
  refine x_entry (cc := cX11_isNumber) (maxL := 1) (ret := (some .boolean)) (QA := fun A => va_Qi (fun (r : Int32) (u : Unit) => post r) (fun u t => cQ D K (fl []) A t) A) (plainFor_of_name (by decide)) rfl (Nat.le_of_ble_eq_true rfl) ?_
  intro p e s m args below meth c A ls H Q hQ hC hlk hr hnm hI hl
  obtain ⟨hx, hb, hml, hown, hts, hK, hA, hZ⟩ := id hC
  obtain ⟨locs, hlocs⟩ : ∃ y : List Loc, y = [] := ⟨_, rfl⟩
  rw [← hlocs] at hI ⊢
  clear hlocs
  replace hl : lv_has ls 1 [(0, .int a0)] := hl
  replace hw : wX11_in a0 (0 : Int32) (265 : Int32) (fun (r1 : Int32) => (r1 = 0 ∨ r1 = 1) ∧ post r1) := hw
  refine lv_iload_n hx hb dX11_isNumber_0 rfl (lv_at hl 0 rfl) ?_
  refine lv_iconst (v := (0 : Int32)) hx hb dX11_isNumber_1 (by decide) ?_
  refine lv_sipush (v := (265 : Int32)) hx hb dX11_isNumber_2 (by decide) ?_
  refine x_callSi (rest := []) hC hI [] (mX11_in l D K  _ a0 (0 : Int32) (265 : Int32) hw) (va_cwS 3 hts gX11_isNumber_X11_in rfl rfl rfl (by decide +kernel) ⟨(Nat.le_of_ble_eq_true rfl), (Nat.le_of_ble_eq_true rfl)⟩) (by decide) rfl (fun _ => rfl) rfl hl.1 rfl (Nat.le_of_ble_eq_true rfl) dX11_isNumber_5 ⟨(Nat.le_of_ble_eq_true rfl), (Nat.le_of_ble_eq_true rfl)⟩ (fun r1 u H locs hw hI => ?_)
  try dsimp only at hw
  have hI : wI s D A (fl []) H locs := hI
  obtain ⟨hc2, hw⟩ := hw
  subst hQ
  exact x_zret (u := ()) hC hI hr hlk hw rfl hc2 dX11_isNumber_8

def wX11_numberOf (a0 : Int32) (a1 : Int32)  (post : Int32 → Prop) : Prop := ((a0 = (-6 : Int32) → post (0 : Int32)) ∧ (¬ a0 = (-6 : Int32) → ((a0 = (6 : Int32) → post (265 : Int32)) ∧ (¬ a0 = (6 : Int32) → post (((1 : Int32) + ((24 : Int32) * (a0 + (5 : Int32)))) + a1)))))
def rmX11_numberOf : Room := { frames := 0, cells := 0, slots := 0, locals := 0 }
set_option maxHeartbeats 4000000 in
set_option maxRecDepth 100000 in
theorem mX11_numberOf (l : Launch) (D : va_G) (K : Nat → ClassId)  (sz : Nat) (a0 : Int32) (a1 : Int32)   {post : Int32 → Prop} (hw : wX11_numberOf a0 a1  post) : Met l yX11_numberOf wsX11_numberOf rmX11_numberOf (va_Pc [.int a0, .int a1] (cP D K (fl []) sz)) (va_Qi (fun (r : Int32) (u : Unit) => post r) (fun u t => cQ D K (fl []) (va_A (fl []) sz) t) (va_A (fl []) sz)) 0 0 (va_A (fl []) sz) := by
  refine x_entry (cc := cX11_numberOf) (maxL := 2) (ret := (some .int)) (QA := fun A => va_Qi (fun (r : Int32) (u : Unit) => post r) (fun u t => cQ D K (fl []) A t) A) (plainFor_of_name (by decide)) rfl (Nat.le_of_ble_eq_true rfl) ?_
  intro p e s m args below meth c A ls H Q hQ hC hlk hr hnm hI hl
  obtain ⟨hx, hb, hml, hown, hts, hK, hA, hZ⟩ := id hC
  obtain ⟨locs, hlocs⟩ : ∃ y : List Loc, y = [] := ⟨_, rfl⟩
  rw [← hlocs] at hI ⊢
  clear hlocs
  replace hl : lv_has ls 2 [(0, .int a0), (1, .int a1)] := hl
  replace hw : ((a0 = (-6 : Int32) → post (0 : Int32)) ∧ (¬ a0 = (-6 : Int32) → ((a0 = (6 : Int32) → post (265 : Int32)) ∧ (¬ a0 = (6 : Int32) → post (((1 : Int32) + ((24 : Int32) * (a0 + (5 : Int32)))) + a1))))) := hw
  refine lv_iload_n hx hb dX11_numberOf_0 rfl (lv_at hl 0 rfl) ?_
  refine lv_bipush (v := (-6 : Int32)) hx hb dX11_numberOf_1 (by decide) ?_
  refine lv_icmp_ne (tgt := 10) hx hb dX11_numberOf_3 (by decide) (fun c1 => ?_) (fun c1 => ?_)
  · replace hw := hw.2 c1
    refine lv_iload_n hx hb dX11_numberOf_10 rfl (lv_at hl 0 rfl) ?_
    refine lv_bipush (v := (6 : Int32)) hx hb dX11_numberOf_11 (by decide) ?_
    refine lv_icmp_ne (tgt := 22) hx hb dX11_numberOf_13 (by decide) (fun c2 => ?_) (fun c2 => ?_)
    · replace hw := hw.2 c2
      refine lv_iconst (v := (1 : Int32)) hx hb dX11_numberOf_22 (by decide) ?_
      refine lv_bipush (v := (24 : Int32)) hx hb dX11_numberOf_23 (by decide) ?_
      refine lv_iload_n hx hb dX11_numberOf_25 rfl (lv_at hl 0 rfl) ?_
      refine lv_iconst (v := (5 : Int32)) hx hb dX11_numberOf_26 (by decide) ?_
      refine lv_iadd hx hb dX11_numberOf_27 ?_
      refine lv_imul hx hb dX11_numberOf_28 ?_
      refine lv_iadd hx hb dX11_numberOf_29 ?_
      refine lv_iload_n hx hb dX11_numberOf_30 rfl (lv_at hl 1 rfl) ?_
      refine lv_iadd hx hb dX11_numberOf_31 ?_
      subst hQ
      exact x_iret (u := ()) hC hI hr hlk hw rfl dX11_numberOf_32
    · replace hw := hw.1 c2
      refine lv_sipush (v := (265 : Int32)) hx hb dX11_numberOf_16 (by decide) ?_
      refine lv_goto (tgt := 32) hx hb dX11_numberOf_19 (by decide) ?_
      subst hQ
      exact x_iret (u := ()) hC hI hr hlk hw rfl dX11_numberOf_32
  · replace hw := hw.1 c1
    refine lv_iconst (v := (0 : Int32)) hx hb dX11_numberOf_6 (by decide) ?_
    refine lv_goto (tgt := 32) hx hb dX11_numberOf_7 (by decide) ?_
    subst hQ
    exact x_iret (u := ()) hC hI hr hlk hw rfl dX11_numberOf_32

def wX11_isPole (a0 : Int32)  (post : Int32 → Prop) : Prop := ((a0 = 0 → post (1 : Int32)) ∧ (¬ a0 = 0 → ((a0 = (265 : Int32) → post (1 : Int32)) ∧ (¬ a0 = (265 : Int32) → post (0 : Int32)))))
def rmX11_isPole : Room := { frames := 0, cells := 0, slots := 0, locals := 0 }
set_option maxHeartbeats 4000000 in
set_option maxRecDepth 100000 in
theorem mX11_isPole (l : Launch) (D : va_G) (K : Nat → ClassId)  (sz : Nat) (a0 : Int32)   {post : Int32 → Prop} (hw : wX11_isPole a0  post) : Met l yX11_isPole wsX11_isPole rmX11_isPole (va_Pc [.int a0] (cP D K (fl []) sz)) (va_Qi (fun (r : Int32) (u : Unit) => post r) (fun u t => cQ D K (fl []) (va_A (fl []) sz) t) (va_A (fl []) sz)) 0 0 (va_A (fl []) sz) := by
  refine x_entry (cc := cX11_isPole) (maxL := 1) (ret := (some .boolean)) (QA := fun A => va_Qi (fun (r : Int32) (u : Unit) => post r) (fun u t => cQ D K (fl []) A t) A) (plainFor_of_name (by decide)) rfl (Nat.le_of_ble_eq_true rfl) ?_
  intro p e s m args below meth c A ls H Q hQ hC hlk hr hnm hI hl
  obtain ⟨hx, hb, hml, hown, hts, hK, hA, hZ⟩ := id hC
  obtain ⟨locs, hlocs⟩ : ∃ y : List Loc, y = [] := ⟨_, rfl⟩
  rw [← hlocs] at hI ⊢
  clear hlocs
  replace hl : lv_has ls 1 [(0, .int a0)] := hl
  replace hw : ((a0 = 0 → post (1 : Int32)) ∧ (¬ a0 = 0 → ((a0 = (265 : Int32) → post (1 : Int32)) ∧ (¬ a0 = (265 : Int32) → post (0 : Int32))))) := hw
  refine lv_iload_n hx hb dX11_isPole_0 rfl (lv_at hl 0 rfl) ?_
  refine lv_if_eq (tgt := 11) hx hb dX11_isPole_1 (by decide) (fun c1 => ?_) (fun c1 => ?_)
  · replace hw := hw.1 c1
    refine lv_iconst (v := (1 : Int32)) hx hb dX11_isPole_11 (by decide) ?_
    refine lv_goto (tgt := 16) hx hb dX11_isPole_12 (by decide) ?_
    subst hQ
    exact x_zret (u := ()) hC hI hr hlk hw rfl (Or.inr rfl) dX11_isPole_16
  · replace hw := hw.2 c1
    refine lv_iload_n hx hb dX11_isPole_4 rfl (lv_at hl 0 rfl) ?_
    refine lv_sipush (v := (265 : Int32)) hx hb dX11_isPole_5 (by decide) ?_
    refine lv_icmp_ne (tgt := 15) hx hb dX11_isPole_8 (by decide) (fun c2 => ?_) (fun c2 => ?_)
    · replace hw := hw.2 c2
      refine lv_iconst (v := (0 : Int32)) hx hb dX11_isPole_15 (by decide) ?_
      subst hQ
      exact x_zret (u := ()) hC hI hr hlk hw rfl (Or.inl rfl) dX11_isPole_16
    · replace hw := hw.1 c2
      refine lv_iconst (v := (1 : Int32)) hx hb dX11_isPole_11 (by decide) ?_
      refine lv_goto (tgt := 16) hx hb dX11_isPole_12 (by decide) ?_
      subst hQ
      exact x_zret (u := ()) hC hI hr hlk hw rfl (Or.inr rfl) dX11_isPole_16

def wX11_rowOf (a0 : Int32)  (post : Int32 → Prop) : Prop := ((a0 = 0 → post (-6 : Int32)) ∧ (¬ a0 = 0 → ((a0 = (265 : Int32) → post (6 : Int32)) ∧ (¬ a0 = (265 : Int32) → post (((a0 - (1 : Int32)) / (24 : Int32)) - (5 : Int32))))))
def rmX11_rowOf : Room := { frames := 0, cells := 0, slots := 0, locals := 0 }
set_option maxHeartbeats 4000000 in
set_option maxRecDepth 100000 in
theorem mX11_rowOf (l : Launch) (D : va_G) (K : Nat → ClassId)  (sz : Nat) (a0 : Int32)   {post : Int32 → Prop} (hw : wX11_rowOf a0  post) : Met l yX11_rowOf wsX11_rowOf rmX11_rowOf (va_Pc [.int a0] (cP D K (fl []) sz)) (va_Qi (fun (r : Int32) (u : Unit) => post r) (fun u t => cQ D K (fl []) (va_A (fl []) sz) t) (va_A (fl []) sz)) 0 0 (va_A (fl []) sz) := by
  refine x_entry (cc := cX11_rowOf) (maxL := 1) (ret := (some .int)) (QA := fun A => va_Qi (fun (r : Int32) (u : Unit) => post r) (fun u t => cQ D K (fl []) A t) A) (plainFor_of_name (by decide)) rfl (Nat.le_of_ble_eq_true rfl) ?_
  intro p e s m args below meth c A ls H Q hQ hC hlk hr hnm hI hl
  obtain ⟨hx, hb, hml, hown, hts, hK, hA, hZ⟩ := id hC
  obtain ⟨locs, hlocs⟩ : ∃ y : List Loc, y = [] := ⟨_, rfl⟩
  rw [← hlocs] at hI ⊢
  clear hlocs
  replace hl : lv_has ls 1 [(0, .int a0)] := hl
  replace hw : ((a0 = 0 → post (-6 : Int32)) ∧ (¬ a0 = 0 → ((a0 = (265 : Int32) → post (6 : Int32)) ∧ (¬ a0 = (265 : Int32) → post (((a0 - (1 : Int32)) / (24 : Int32)) - (5 : Int32)))))) := hw
  refine lv_iload_n hx hb dX11_rowOf_0 rfl (lv_at hl 0 rfl) ?_
  refine lv_if_ne (tgt := 9) hx hb dX11_rowOf_1 (by decide) (fun c1 => ?_) (fun c1 => ?_)
  · replace hw := hw.2 c1
    refine lv_iload_n hx hb dX11_rowOf_9 rfl (lv_at hl 0 rfl) ?_
    refine lv_sipush (v := (265 : Int32)) hx hb dX11_rowOf_10 (by decide) ?_
    refine lv_icmp_ne (tgt := 21) hx hb dX11_rowOf_13 (by decide) (fun c2 => ?_) (fun c2 => ?_)
    · replace hw := hw.2 c2
      refine lv_iload_n hx hb dX11_rowOf_21 rfl (lv_at hl 0 rfl) ?_
      refine lv_iconst (v := (1 : Int32)) hx hb dX11_rowOf_22 (by decide) ?_
      refine lv_isub hx hb dX11_rowOf_23 ?_
      refine lv_bipush (v := (24 : Int32)) hx hb dX11_rowOf_24 (by decide) ?_
      refine lv_idiv hx hb dX11_rowOf_26 (by decide) ?_
      refine lv_iconst (v := (5 : Int32)) hx hb dX11_rowOf_27 (by decide) ?_
      refine lv_isub hx hb dX11_rowOf_28 ?_
      subst hQ
      exact x_iret (u := ()) hC hI hr hlk hw rfl dX11_rowOf_29
    · replace hw := hw.1 c2
      refine lv_bipush (v := (6 : Int32)) hx hb dX11_rowOf_16 (by decide) ?_
      refine lv_goto (tgt := 29) hx hb dX11_rowOf_18 (by decide) ?_
      subst hQ
      exact x_iret (u := ()) hC hI hr hlk hw rfl dX11_rowOf_29
  · replace hw := hw.1 c1
    refine lv_bipush (v := (-6 : Int32)) hx hb dX11_rowOf_4 (by decide) ?_
    refine lv_goto (tgt := 29) hx hb dX11_rowOf_6 (by decide) ?_
    subst hQ
    exact x_iret (u := ()) hC hI hr hlk hw rfl dX11_rowOf_29

def wX11_stepOf (a0 : Int32)  (post : Int32 → Prop) : Prop := wX11_isPole a0 (fun (r1 : Int32) => ((r1 = 0 → post ((a0 - (1 : Int32)) - (a0 - (1 : Int32)) / (24 : Int32) * (24 : Int32))) ∧ (¬ r1 = 0 → post (0 : Int32))))
def rmX11_stepOf : Room := { frames := 1, cells := 0, slots := 0, locals := 20 }
set_option maxHeartbeats 4000000 in
set_option maxRecDepth 100000 in
theorem mX11_stepOf (l : Launch) (D : va_G) (K : Nat → ClassId)  (sz : Nat) (a0 : Int32)   {post : Int32 → Prop} (hw : wX11_stepOf a0  post) : Met l yX11_stepOf wsX11_stepOf rmX11_stepOf (va_Pc [.int a0] (cP D K (fl []) sz)) (va_Qi (fun (r : Int32) (u : Unit) => post r) (fun u t => cQ D K (fl []) (va_A (fl []) sz) t) (va_A (fl []) sz)) 0 0 (va_A (fl []) sz) := by
  refine x_entry (cc := cX11_stepOf) (maxL := 1) (ret := (some .int)) (QA := fun A => va_Qi (fun (r : Int32) (u : Unit) => post r) (fun u t => cQ D K (fl []) A t) A) (plainFor_of_name (by decide)) rfl (Nat.le_of_ble_eq_true rfl) ?_
  intro p e s m args below meth c A ls H Q hQ hC hlk hr hnm hI hl
  obtain ⟨hx, hb, hml, hown, hts, hK, hA, hZ⟩ := id hC
  obtain ⟨locs, hlocs⟩ : ∃ y : List Loc, y = [] := ⟨_, rfl⟩
  rw [← hlocs] at hI ⊢
  clear hlocs
  replace hl : lv_has ls 1 [(0, .int a0)] := hl
  replace hw : wX11_isPole a0 (fun (r1 : Int32) => ((r1 = 0 → post ((a0 - (1 : Int32)) - (a0 - (1 : Int32)) / (24 : Int32) * (24 : Int32))) ∧ (¬ r1 = 0 → post (0 : Int32)))) := hw
  refine lv_iload_n hx hb dX11_stepOf_0 rfl (lv_at hl 0 rfl) ?_
  refine x_callSi (rest := []) hC hI [] (mX11_isPole l D K  _ a0 hw) (va_cwS 1 hts gX11_stepOf_X11_isPole rfl rfl rfl (by decide +kernel) ⟨(Nat.le_of_ble_eq_true rfl), (Nat.le_of_ble_eq_true rfl)⟩) (by decide) rfl (fun _ => rfl) rfl hl.1 rfl (Nat.le_of_ble_eq_true rfl) dX11_stepOf_1 ⟨(Nat.le_of_ble_eq_true rfl), (Nat.le_of_ble_eq_true rfl)⟩ (fun r1 u H locs hw hI => ?_)
  try dsimp only at hw
  have hI : wI s D A (fl []) H locs := hI
  refine lv_if_eq (tgt := 11) hx hb dX11_stepOf_4 (by decide) (fun c2 => ?_) (fun c2 => ?_)
  · replace hw := hw.1 c2
    refine lv_iload_n hx hb dX11_stepOf_11 rfl (lv_at hl 0 rfl) ?_
    refine lv_iconst (v := (1 : Int32)) hx hb dX11_stepOf_12 (by decide) ?_
    refine lv_isub hx hb dX11_stepOf_13 ?_
    refine lv_bipush (v := (24 : Int32)) hx hb dX11_stepOf_14 (by decide) ?_
    refine lv_irem hx hb dX11_stepOf_16 (by decide) ?_
    subst hQ
    exact x_iret (u := ()) hC hI hr hlk hw rfl dX11_stepOf_17
  · replace hw := hw.2 c2
    refine lv_iconst (v := (0 : Int32)) hx hb dX11_stepOf_7 (by decide) ?_
    refine lv_goto (tgt := 17) hx hb dX11_stepOf_8 (by decide) ?_
    subst hQ
    exact x_iret (u := ()) hC hI hr hlk hw rfl dX11_stepOf_17

def wX11_isOnStrips (a1 : Int32) (st : Nat → Int32) (post : Int32 → Prop) : Prop := wX11_size a1 (fun (r1 : Int32) => ((((6 : Int32) - (st 268)) < r1 → post (0 : Int32)) ∧ (¬ ((6 : Int32) - (st 268)) < r1 → post (1 : Int32))))
def rmX11_isOnStrips : Room := { frames := 1, cells := 0, slots := 0, locals := 20 }
theorem kX11_isOnStrips_0 : Cond.fieldLink RX11 7 "GoreGlobeModel" "st" "[I" ∈ wsX11_isOnStrips := List.mem_cons_of_mem _ (List.mem_append_left _ (List.mem_of_getElem? (i := 0) rfl))
theorem kX11_isOnStrips_cX11 : ∀ w ∈ wsX110, w ∈ wsX11_isOnStrips := fun _ h => List.mem_cons_of_mem _ (List.mem_append_right _ h)
set_option maxHeartbeats 4000000 in
set_option maxRecDepth 100000 in
theorem mX11_isOnStrips (l : Launch) (D : va_G) (K : Nat → ClassId) (h : Nat → Nat) (sz : Nat) (a1 : Int32) (st : Nat → Int32) (past : Nat → Int32) (acts : Int32) (image : Nat → Int32) (ipast : Nat → Int32) (iacts : Int32) (tape : Nat → Int32) (tmany : Int32) (laneOf : Nat → Int32) (sizeOf : Nat → Int32) (items : Nat → Int64) (seaFirst : Nat → Int32) (worstOf : Nat → Int32) (farTo : Nat → Int32) (stepsTo : Nat → Int32) (needs : Nat → Int32) (nmany : Int32) (mat : Int32) (told : Nat → Int32)  {post : Int32 → Prop} (hw : wX11_isOnStrips a1 st post) : Met l yX11_isOnStrips wsX11_isOnStrips rmX11_isOnStrips (va_Pc [.ref (h 0), .int a1] (cP D K (fl [wMo K h st past acts image ipast iacts tape tmany laneOf sizeOf items seaFirst worstOf farTo stepsTo needs nmany mat told]) sz)) (va_Qi (fun (r : Int32) (u : Unit) => post r) (fun u t => cQ D K (fl [wMo K h st past acts image ipast iacts tape tmany laneOf sizeOf items seaFirst worstOf farTo stepsTo needs nmany mat told]) (va_A (fl [wMo K h st past acts image ipast iacts tape tmany laneOf sizeOf items seaFirst worstOf farTo stepsTo needs nmany mat told]) sz) t) (va_A (fl [wMo K h st past acts image ipast iacts tape tmany laneOf sizeOf items seaFirst worstOf farTo stepsTo needs nmany mat told]) sz)) 0 0 (va_A (fl [wMo K h st past acts image ipast iacts tape tmany laneOf sizeOf items seaFirst worstOf farTo stepsTo needs nmany mat told]) sz) := by
  refine x_entry (cc := cX11_isOnStrips) (maxL := 2) (ret := (some .boolean)) (QA := fun A => va_Qi (fun (r : Int32) (u : Unit) => post r) (fun u t => cQ D K (fl [wMo K h st past acts image ipast iacts tape tmany laneOf sizeOf items seaFirst worstOf farTo stepsTo needs nmany mat told]) A t) A) (plainFor_of_name (by decide)) rfl (Nat.le_of_ble_eq_true rfl) ?_
  intro p e s m args below meth c A ls H Q hQ hC hlk hr hnm hI hl
  obtain ⟨hx, hb, hml, hown, hts, hK, hA, hZ⟩ := id hC
  obtain ⟨locs, hlocs⟩ : ∃ y : List Loc, y = [] := ⟨_, rfl⟩
  rw [← hlocs] at hI ⊢
  clear hlocs
  replace hl : lv_has ls 2 [(0, .ref (h 0)), (1, .int a1)] := hl
  replace hw : wX11_size a1 (fun (r1 : Int32) => ((((6 : Int32) - (st 268)) < r1 → post (0 : Int32)) ∧ (¬ ((6 : Int32) - (st 268)) < r1 → post (1 : Int32)))) := hw
  refine lv_iload_n hx hb dX11_isOnStrips_0 rfl (lv_at hl 1 rfl) ?_
  refine x_callSi (rest := []) hC hI [] (mX11_size l D K  _ a1 hw) (va_cwS 1 hts gX11_isOnStrips_X11_size rfl rfl rfl (by decide +kernel) ⟨(Nat.le_of_ble_eq_true rfl), (Nat.le_of_ble_eq_true rfl)⟩) (by decide) rfl (fun _ => rfl) rfl hl.1 rfl (Nat.le_of_ble_eq_true rfl) dX11_isOnStrips_1 ⟨(Nat.le_of_ble_eq_true rfl), (Nat.le_of_ble_eq_true rfl)⟩ (fun r1 u H locs hw hI => ?_)
  try dsimp only at hw
  have hI : wI s D A (fl [wMo K h st past acts image ipast iacts tape tmany laneOf sizeOf items seaFirst worstOf farTo stepsTo needs nmany mat told]) H locs := hI
  refine lv_bipush (v := (6 : Int32)) hx hb dX11_isOnStrips_4 (by decide) ?_
  refine lv_aload_n hx hb dX11_isOnStrips_6 rfl (lv_at hl 0 rfl) ?_
  refine x_get (v := .ref (h 1)) hC hI kX11_isOnStrips_cX11 0 rfl rfl 0 (by decide) kX11_isOnStrips_0 rfl rfl dX11_isOnStrips_7 ?_
  refine lv_sipush (v := (268 : Int32)) hx hb dX11_isOnStrips_10 (by decide) ?_
  refine x_iald (f := st) hC hI 1 rfl (by unfold vp_in; decide) dX11_isOnStrips_13 ?_
  refine lv_isub hx hb dX11_isOnStrips_14 ?_
  refine lv_icmp_gt (tgt := 22) hx hb dX11_isOnStrips_15 (by decide) (fun c2 => ?_) (fun c2 => ?_)
  · replace hw := hw.1 c2
    refine lv_iconst (v := (0 : Int32)) hx hb dX11_isOnStrips_22 (by decide) ?_
    subst hQ
    exact x_zret (u := ()) hC hI hr hlk hw rfl (Or.inl rfl) dX11_isOnStrips_23
  · replace hw := hw.2 c2
    refine lv_iconst (v := (1 : Int32)) hx hb dX11_isOnStrips_18 (by decide) ?_
    refine lv_goto (tgt := 23) hx hb dX11_isOnStrips_19 (by decide) ?_
    subst hQ
    exact x_zret (u := ()) hC hI hr hlk hw rfl (Or.inr rfl) dX11_isOnStrips_23

def wX11_isOnCap (a1 : Int32) (st : Nat → Int32) (post : Int32 → Prop) : Prop := (((st 268) ≤ 0 → post (0 : Int32)) ∧ (¬ (st 268) ≤ 0 → wX11_size a1 (fun (r2 : Int32) => ((r2 < ((6 : Int32) - (st 268)) → post (0 : Int32)) ∧ (¬ r2 < ((6 : Int32) - (st 268)) → post (1 : Int32))))))
def rmX11_isOnCap : Room := { frames := 1, cells := 0, slots := 0, locals := 20 }
theorem kX11_isOnCap_0 : Cond.fieldLink RX11 7 "GoreGlobeModel" "st" "[I" ∈ wsX11_isOnCap := List.mem_cons_of_mem _ (List.mem_append_left _ (List.mem_of_getElem? (i := 0) rfl))
theorem kX11_isOnCap_cX11 : ∀ w ∈ wsX110, w ∈ wsX11_isOnCap := fun _ h => List.mem_cons_of_mem _ (List.mem_append_right _ h)
set_option maxHeartbeats 4000000 in
set_option maxRecDepth 100000 in
theorem mX11_isOnCap (l : Launch) (D : va_G) (K : Nat → ClassId) (h : Nat → Nat) (sz : Nat) (a1 : Int32) (st : Nat → Int32) (past : Nat → Int32) (acts : Int32) (image : Nat → Int32) (ipast : Nat → Int32) (iacts : Int32) (tape : Nat → Int32) (tmany : Int32) (laneOf : Nat → Int32) (sizeOf : Nat → Int32) (items : Nat → Int64) (seaFirst : Nat → Int32) (worstOf : Nat → Int32) (farTo : Nat → Int32) (stepsTo : Nat → Int32) (needs : Nat → Int32) (nmany : Int32) (mat : Int32) (told : Nat → Int32)  {post : Int32 → Prop} (hw : wX11_isOnCap a1 st post) : Met l yX11_isOnCap wsX11_isOnCap rmX11_isOnCap (va_Pc [.ref (h 0), .int a1] (cP D K (fl [wMo K h st past acts image ipast iacts tape tmany laneOf sizeOf items seaFirst worstOf farTo stepsTo needs nmany mat told]) sz)) (va_Qi (fun (r : Int32) (u : Unit) => post r) (fun u t => cQ D K (fl [wMo K h st past acts image ipast iacts tape tmany laneOf sizeOf items seaFirst worstOf farTo stepsTo needs nmany mat told]) (va_A (fl [wMo K h st past acts image ipast iacts tape tmany laneOf sizeOf items seaFirst worstOf farTo stepsTo needs nmany mat told]) sz) t) (va_A (fl [wMo K h st past acts image ipast iacts tape tmany laneOf sizeOf items seaFirst worstOf farTo stepsTo needs nmany mat told]) sz)) 0 0 (va_A (fl [wMo K h st past acts image ipast iacts tape tmany laneOf sizeOf items seaFirst worstOf farTo stepsTo needs nmany mat told]) sz) := by
  refine x_entry (cc := cX11_isOnCap) (maxL := 2) (ret := (some .boolean)) (QA := fun A => va_Qi (fun (r : Int32) (u : Unit) => post r) (fun u t => cQ D K (fl [wMo K h st past acts image ipast iacts tape tmany laneOf sizeOf items seaFirst worstOf farTo stepsTo needs nmany mat told]) A t) A) (plainFor_of_name (by decide)) rfl (Nat.le_of_ble_eq_true rfl) ?_
  intro p e s m args below meth c A ls H Q hQ hC hlk hr hnm hI hl
  obtain ⟨hx, hb, hml, hown, hts, hK, hA, hZ⟩ := id hC
  obtain ⟨locs, hlocs⟩ : ∃ y : List Loc, y = [] := ⟨_, rfl⟩
  rw [← hlocs] at hI ⊢
  clear hlocs
  replace hl : lv_has ls 2 [(0, .ref (h 0)), (1, .int a1)] := hl
  replace hw : (((st 268) ≤ 0 → post (0 : Int32)) ∧ (¬ (st 268) ≤ 0 → wX11_size a1 (fun (r2 : Int32) => ((r2 < ((6 : Int32) - (st 268)) → post (0 : Int32)) ∧ (¬ r2 < ((6 : Int32) - (st 268)) → post (1 : Int32)))))) := hw
  refine lv_aload_n hx hb dX11_isOnCap_0 rfl (lv_at hl 0 rfl) ?_
  refine x_get (v := .ref (h 1)) hC hI kX11_isOnCap_cX11 0 rfl rfl 0 (by decide) kX11_isOnCap_0 rfl rfl dX11_isOnCap_1 ?_
  refine lv_sipush (v := (268 : Int32)) hx hb dX11_isOnCap_4 (by decide) ?_
  refine x_iald (f := st) hC hI 1 rfl (by unfold vp_in; decide) dX11_isOnCap_7 ?_
  refine lv_if_le (tgt := 33) hx hb dX11_isOnCap_8 (by decide) (fun c1 => ?_) (fun c1 => ?_)
  · replace hw := hw.1 c1
    refine lv_iconst (v := (0 : Int32)) hx hb dX11_isOnCap_33 (by decide) ?_
    subst hQ
    exact x_zret (u := ()) hC hI hr hlk hw rfl (Or.inl rfl) dX11_isOnCap_34
  · replace hw := hw.2 c1
    refine lv_iload_n hx hb dX11_isOnCap_11 rfl (lv_at hl 1 rfl) ?_
    refine x_callSi (rest := []) hC hI [] (mX11_size l D K  _ a1 hw) (va_cwS 1 hts gX11_isOnCap_X11_size rfl rfl rfl (by decide +kernel) ⟨(Nat.le_of_ble_eq_true rfl), (Nat.le_of_ble_eq_true rfl)⟩) (by decide) rfl (fun _ => rfl) rfl hl.1 rfl (Nat.le_of_ble_eq_true rfl) dX11_isOnCap_12 ⟨(Nat.le_of_ble_eq_true rfl), (Nat.le_of_ble_eq_true rfl)⟩ (fun r2 u H locs hw hI => ?_)
    try dsimp only at hw
    have hI : wI s D A (fl [wMo K h st past acts image ipast iacts tape tmany laneOf sizeOf items seaFirst worstOf farTo stepsTo needs nmany mat told]) H locs := hI
    refine lv_bipush (v := (6 : Int32)) hx hb dX11_isOnCap_15 (by decide) ?_
    refine lv_aload_n hx hb dX11_isOnCap_17 rfl (lv_at hl 0 rfl) ?_
    refine x_get (v := .ref (h 1)) hC hI kX11_isOnCap_cX11 0 rfl rfl 0 (by decide) kX11_isOnCap_0 rfl rfl dX11_isOnCap_18 ?_
    refine lv_sipush (v := (268 : Int32)) hx hb dX11_isOnCap_21 (by decide) ?_
    refine x_iald (f := st) hC hI 1 rfl (by unfold vp_in; decide) dX11_isOnCap_24 ?_
    refine lv_isub hx hb dX11_isOnCap_25 ?_
    refine lv_icmp_lt (tgt := 33) hx hb dX11_isOnCap_26 (by decide) (fun c3 => ?_) (fun c3 => ?_)
    · replace hw := hw.1 c3
      refine lv_iconst (v := (0 : Int32)) hx hb dX11_isOnCap_33 (by decide) ?_
      subst hQ
      exact x_zret (u := ()) hC hI hr hlk hw rfl (Or.inl rfl) dX11_isOnCap_34
    · replace hw := hw.2 c3
      refine lv_iconst (v := (1 : Int32)) hx hb dX11_isOnCap_29 (by decide) ?_
      refine lv_goto (tgt := 34) hx hb dX11_isOnCap_30 (by decide) ?_
      subst hQ
      exact x_zret (u := ()) hC hI hr hlk hw rfl (Or.inr rfl) dX11_isOnCap_34

def wX11_acrossBy (a1 : Int32) (a2 : Int32) (a3 : Int32) (a4 : Int32) (st : Nat → Int32) (post : Int32 → Prop) : Prop := wX11_wideOf a4 (fun (r1 : Int32) => post ((((((2 : Int32) * a2) + (1 : Int32)) * a1) * (st 266)) + ((((((2 : Int32) * a3) - a1) * (st 266)) * r1) / (10000 : Int32))))
def rmX11_acrossBy : Room := { frames := 4, cells := 0, slots := 0, locals := 82 }
theorem kX11_acrossBy_0 : Cond.fieldLink RX11 7 "GoreGlobeModel" "st" "[I" ∈ wsX11_acrossBy := List.mem_cons_of_mem _ (List.mem_append_left _ (List.mem_of_getElem? (i := 0) rfl))
theorem kX11_acrossBy_cX11 : ∀ w ∈ wsX110, w ∈ wsX11_acrossBy := fun _ h => List.mem_cons_of_mem _ (List.mem_append_right _ h)
set_option maxHeartbeats 4000000 in
set_option maxRecDepth 100000 in
theorem mX11_acrossBy (l : Launch) (D : va_G) (K : Nat → ClassId) (h : Nat → Nat) (sz : Nat) (a1 : Int32) (a2 : Int32) (a3 : Int32) (a4 : Int32) (st : Nat → Int32) (past : Nat → Int32) (acts : Int32) (image : Nat → Int32) (ipast : Nat → Int32) (iacts : Int32) (tape : Nat → Int32) (tmany : Int32) (laneOf : Nat → Int32) (sizeOf : Nat → Int32) (items : Nat → Int64) (seaFirst : Nat → Int32) (worstOf : Nat → Int32) (farTo : Nat → Int32) (stepsTo : Nat → Int32) (needs : Nat → Int32) (nmany : Int32) (mat : Int32) (told : Nat → Int32)  {post : Int32 → Prop} (hw : wX11_acrossBy a1 a2 a3 a4 st post) : Met l yX11_acrossBy wsX11_acrossBy rmX11_acrossBy (va_Pc [.ref (h 0), .int a1, .int a2, .int a3, .int a4] (cP D K (fl [wMo K h st past acts image ipast iacts tape tmany laneOf sizeOf items seaFirst worstOf farTo stepsTo needs nmany mat told]) sz)) (va_Qi (fun (r : Int32) (u : Unit) => post r) (fun u t => cQ D K (fl [wMo K h st past acts image ipast iacts tape tmany laneOf sizeOf items seaFirst worstOf farTo stepsTo needs nmany mat told]) (va_A (fl [wMo K h st past acts image ipast iacts tape tmany laneOf sizeOf items seaFirst worstOf farTo stepsTo needs nmany mat told]) sz) t) (va_A (fl [wMo K h st past acts image ipast iacts tape tmany laneOf sizeOf items seaFirst worstOf farTo stepsTo needs nmany mat told]) sz)) 0 0 (va_A (fl [wMo K h st past acts image ipast iacts tape tmany laneOf sizeOf items seaFirst worstOf farTo stepsTo needs nmany mat told]) sz) := by
  refine x_entry (cc := cX11_acrossBy) (maxL := 5) (ret := (some .int)) (QA := fun A => va_Qi (fun (r : Int32) (u : Unit) => post r) (fun u t => cQ D K (fl [wMo K h st past acts image ipast iacts tape tmany laneOf sizeOf items seaFirst worstOf farTo stepsTo needs nmany mat told]) A t) A) (plainFor_of_name (by decide)) rfl (Nat.le_of_ble_eq_true rfl) ?_
  intro p e s m args below meth c A ls H Q hQ hC hlk hr hnm hI hl
  obtain ⟨hx, hb, hml, hown, hts, hK, hA, hZ⟩ := id hC
  obtain ⟨locs, hlocs⟩ : ∃ y : List Loc, y = [] := ⟨_, rfl⟩
  rw [← hlocs] at hI ⊢
  clear hlocs
  replace hl : lv_has ls 5 [(0, .ref (h 0)), (1, .int a1), (2, .int a2), (3, .int a3), (4, .int a4)] := hl
  replace hw : wX11_wideOf a4 (fun (r1 : Int32) => post ((((((2 : Int32) * a2) + (1 : Int32)) * a1) * (st 266)) + ((((((2 : Int32) * a3) - a1) * (st 266)) * r1) / (10000 : Int32)))) := hw
  refine lv_iconst (v := (2 : Int32)) hx hb dX11_acrossBy_0 (by decide) ?_
  refine lv_iload_n hx hb dX11_acrossBy_1 rfl (lv_at hl 2 rfl) ?_
  refine lv_imul hx hb dX11_acrossBy_2 ?_
  refine lv_iconst (v := (1 : Int32)) hx hb dX11_acrossBy_3 (by decide) ?_
  refine lv_iadd hx hb dX11_acrossBy_4 ?_
  refine lv_iload_n hx hb dX11_acrossBy_5 rfl (lv_at hl 1 rfl) ?_
  refine lv_imul hx hb dX11_acrossBy_6 ?_
  refine lv_aload_n hx hb dX11_acrossBy_7 rfl (lv_at hl 0 rfl) ?_
  refine x_get (v := .ref (h 1)) hC hI kX11_acrossBy_cX11 0 rfl rfl 0 (by decide) kX11_acrossBy_0 rfl rfl dX11_acrossBy_8 ?_
  refine lv_sipush (v := (266 : Int32)) hx hb dX11_acrossBy_11 (by decide) ?_
  refine x_iald (f := st) hC hI 1 rfl (by unfold vp_in; decide) dX11_acrossBy_14 ?_
  refine lv_imul hx hb dX11_acrossBy_15 ?_
  refine lv_iconst (v := (2 : Int32)) hx hb dX11_acrossBy_16 (by decide) ?_
  refine lv_iload_n hx hb dX11_acrossBy_17 rfl (lv_at hl 3 rfl) ?_
  refine lv_imul hx hb dX11_acrossBy_18 ?_
  refine lv_iload_n hx hb dX11_acrossBy_19 rfl (lv_at hl 1 rfl) ?_
  refine lv_isub hx hb dX11_acrossBy_20 ?_
  refine lv_aload_n hx hb dX11_acrossBy_21 rfl (lv_at hl 0 rfl) ?_
  refine x_get (v := .ref (h 1)) hC hI kX11_acrossBy_cX11 0 rfl rfl 0 (by decide) kX11_acrossBy_0 rfl rfl dX11_acrossBy_22 ?_
  refine lv_sipush (v := (266 : Int32)) hx hb dX11_acrossBy_25 (by decide) ?_
  refine x_iald (f := st) hC hI 1 rfl (by unfold vp_in; decide) dX11_acrossBy_28 ?_
  refine lv_imul hx hb dX11_acrossBy_29 ?_
  refine lv_iload hx hb dX11_acrossBy_30 (lv_at hl 4 rfl) ?_
  refine x_callSi (rest := [.int ((((2 : Int32) * a3) - a1) * (st 266)), .int (((((2 : Int32) * a2) + (1 : Int32)) * a1) * (st 266))]) hC hI [] (mX11_wideOf l D K  _ a4 hw) (va_cwS 1 hts gX11_acrossBy_X11_wideOf rfl rfl rfl (by decide +kernel) ⟨(Nat.le_of_ble_eq_true rfl), (Nat.le_of_ble_eq_true rfl)⟩) (by decide) rfl (fun _ => rfl) rfl hl.1 rfl (Nat.le_of_ble_eq_true rfl) dX11_acrossBy_32 ⟨(Nat.le_of_ble_eq_true rfl), (Nat.le_of_ble_eq_true rfl)⟩ (fun r1 u H locs hw hI => ?_)
  try dsimp only at hw
  have hI : wI s D A (fl [wMo K h st past acts image ipast iacts tape tmany laneOf sizeOf items seaFirst worstOf farTo stepsTo needs nmany mat told]) H locs := hI
  refine lv_imul hx hb dX11_acrossBy_35 ?_
  refine lv_sipush (v := (10000 : Int32)) hx hb dX11_acrossBy_36 (by decide) ?_
  refine lv_idiv hx hb dX11_acrossBy_39 (by decide) ?_
  refine lv_iadd hx hb dX11_acrossBy_40 ?_
  subst hQ
  exact x_iret (u := ()) hC hI hr hlk hw rfl dX11_acrossBy_41

def wX11_wide  (st : Nat → Int32) (post : Int32 → Prop) : Prop := ¬ (st 267) = 0 ∧ post ((24 : Int32) / (st 267))
def rmX11_wide : Room := { frames := 0, cells := 0, slots := 0, locals := 0 }
theorem kX11_wide_0 : Cond.fieldLink RX11 7 "GoreGlobeModel" "st" "[I" ∈ wsX11_wide := List.mem_cons_of_mem _ (List.mem_append_left _ (List.mem_of_getElem? (i := 0) rfl))
theorem kX11_wide_cX11 : ∀ w ∈ wsX110, w ∈ wsX11_wide := fun _ h => List.mem_cons_of_mem _ (List.mem_append_right _ h)
set_option maxHeartbeats 4000000 in
set_option maxRecDepth 100000 in
theorem mX11_wide (l : Launch) (D : va_G) (K : Nat → ClassId) (h : Nat → Nat) (sz : Nat)  (st : Nat → Int32) (past : Nat → Int32) (acts : Int32) (image : Nat → Int32) (ipast : Nat → Int32) (iacts : Int32) (tape : Nat → Int32) (tmany : Int32) (laneOf : Nat → Int32) (sizeOf : Nat → Int32) (items : Nat → Int64) (seaFirst : Nat → Int32) (worstOf : Nat → Int32) (farTo : Nat → Int32) (stepsTo : Nat → Int32) (needs : Nat → Int32) (nmany : Int32) (mat : Int32) (told : Nat → Int32)  {post : Int32 → Prop} (hw : wX11_wide  st post) : Met l yX11_wide wsX11_wide rmX11_wide (va_Pc [.ref (h 0)] (cP D K (fl [wMo K h st past acts image ipast iacts tape tmany laneOf sizeOf items seaFirst worstOf farTo stepsTo needs nmany mat told]) sz)) (va_Qi (fun (r : Int32) (u : Unit) => post r) (fun u t => cQ D K (fl [wMo K h st past acts image ipast iacts tape tmany laneOf sizeOf items seaFirst worstOf farTo stepsTo needs nmany mat told]) (va_A (fl [wMo K h st past acts image ipast iacts tape tmany laneOf sizeOf items seaFirst worstOf farTo stepsTo needs nmany mat told]) sz) t) (va_A (fl [wMo K h st past acts image ipast iacts tape tmany laneOf sizeOf items seaFirst worstOf farTo stepsTo needs nmany mat told]) sz)) 0 0 (va_A (fl [wMo K h st past acts image ipast iacts tape tmany laneOf sizeOf items seaFirst worstOf farTo stepsTo needs nmany mat told]) sz) := by
  refine x_entry (cc := cX11_wide) (maxL := 1) (ret := (some .int)) (QA := fun A => va_Qi (fun (r : Int32) (u : Unit) => post r) (fun u t => cQ D K (fl [wMo K h st past acts image ipast iacts tape tmany laneOf sizeOf items seaFirst worstOf farTo stepsTo needs nmany mat told]) A t) A) (plainFor_of_name (by decide)) rfl (Nat.le_of_ble_eq_true rfl) ?_
  intro p e s m args below meth c A ls H Q hQ hC hlk hr hnm hI hl
  obtain ⟨hx, hb, hml, hown, hts, hK, hA, hZ⟩ := id hC
  obtain ⟨locs, hlocs⟩ : ∃ y : List Loc, y = [] := ⟨_, rfl⟩
  rw [← hlocs] at hI ⊢
  clear hlocs
  replace hl : lv_has ls 1 [(0, .ref (h 0))] := hl
  replace hw : ¬ (st 267) = 0 ∧ post ((24 : Int32) / (st 267)) := hw
  refine lv_bipush (v := (24 : Int32)) hx hb dX11_wide_0 (by decide) ?_
  refine lv_aload_n hx hb dX11_wide_2 rfl (lv_at hl 0 rfl) ?_
  refine x_get (v := .ref (h 1)) hC hI kX11_wide_cX11 0 rfl rfl 0 (by decide) kX11_wide_0 rfl rfl dX11_wide_3 ?_
  refine lv_sipush (v := (267 : Int32)) hx hb dX11_wide_6 (by decide) ?_
  refine x_iald (f := st) hC hI 1 rfl (by unfold vp_in; decide) dX11_wide_9 ?_
  obtain ⟨hc1, hw⟩ := hw
  refine lv_idiv hx hb dX11_wide_10 hc1 ?_
  subst hQ
  exact x_iret (u := ()) hC hI hr hlk hw rfl dX11_wide_11

def wX11_across (a1 : Int32) (a2 : Int32) (a3 : Int32) (st : Nat → Int32) (post : Int32 → Prop) : Prop := wX11_wide st (fun (r1 : Int32) => wX11_acrossBy r1 a1 a2 a3 st (fun (r2 : Int32) => post r2))
def rmX11_across : Room := { frames := 5, cells := 0, slots := 0, locals := 106 }
set_option maxHeartbeats 4000000 in
set_option maxRecDepth 100000 in
theorem mX11_across (l : Launch) (D : va_G) (K : Nat → ClassId) (h : Nat → Nat) (sz : Nat) (a1 : Int32) (a2 : Int32) (a3 : Int32) (st : Nat → Int32) (past : Nat → Int32) (acts : Int32) (image : Nat → Int32) (ipast : Nat → Int32) (iacts : Int32) (tape : Nat → Int32) (tmany : Int32) (laneOf : Nat → Int32) (sizeOf : Nat → Int32) (items : Nat → Int64) (seaFirst : Nat → Int32) (worstOf : Nat → Int32) (farTo : Nat → Int32) (stepsTo : Nat → Int32) (needs : Nat → Int32) (nmany : Int32) (mat : Int32) (told : Nat → Int32)  {post : Int32 → Prop} (hw : wX11_across a1 a2 a3 st post) : Met l yX11_across wsX11_across rmX11_across (va_Pc [.ref (h 0), .int a1, .int a2, .int a3] (cP D K (fl [wMo K h st past acts image ipast iacts tape tmany laneOf sizeOf items seaFirst worstOf farTo stepsTo needs nmany mat told]) sz)) (va_Qi (fun (r : Int32) (u : Unit) => post r) (fun u t => cQ D K (fl [wMo K h st past acts image ipast iacts tape tmany laneOf sizeOf items seaFirst worstOf farTo stepsTo needs nmany mat told]) (va_A (fl [wMo K h st past acts image ipast iacts tape tmany laneOf sizeOf items seaFirst worstOf farTo stepsTo needs nmany mat told]) sz) t) (va_A (fl [wMo K h st past acts image ipast iacts tape tmany laneOf sizeOf items seaFirst worstOf farTo stepsTo needs nmany mat told]) sz)) 0 0 (va_A (fl [wMo K h st past acts image ipast iacts tape tmany laneOf sizeOf items seaFirst worstOf farTo stepsTo needs nmany mat told]) sz) := by
  refine x_entry (cc := cX11_across) (maxL := 4) (ret := (some .int)) (QA := fun A => va_Qi (fun (r : Int32) (u : Unit) => post r) (fun u t => cQ D K (fl [wMo K h st past acts image ipast iacts tape tmany laneOf sizeOf items seaFirst worstOf farTo stepsTo needs nmany mat told]) A t) A) (plainFor_of_name (by decide)) rfl (Nat.le_of_ble_eq_true rfl) ?_
  intro p e s m args below meth c A ls H Q hQ hC hlk hr hnm hI hl
  obtain ⟨hx, hb, hml, hown, hts, hK, hA, hZ⟩ := id hC
  obtain ⟨locs, hlocs⟩ : ∃ y : List Loc, y = [] := ⟨_, rfl⟩
  rw [← hlocs] at hI ⊢
  clear hlocs
  replace hl : lv_has ls 4 [(0, .ref (h 0)), (1, .int a1), (2, .int a2), (3, .int a3)] := hl
  replace hw : wX11_wide st (fun (r1 : Int32) => wX11_acrossBy r1 a1 a2 a3 st (fun (r2 : Int32) => post r2)) := hw
  refine lv_aload_n hx hb dX11_across_0 rfl (lv_at hl 0 rfl) ?_
  refine lv_aload_n hx hb dX11_across_1 rfl (lv_at hl 0 rfl) ?_
  refine x_callWi (rest := [.ref (h 0)]) hC hI (mX11_wide l D K h _ st past acts image ipast iacts tape tmany laneOf sizeOf items seaFirst worstOf farTo stepsTo needs nmany mat told hw) (cwV 0 hts gX11_across_X11_wide rfl rfl rfl (by decide +kernel) ⟨(Nat.le_of_ble_eq_true rfl), (Nat.le_of_ble_eq_true rfl)⟩) (fun _ => rfl) 0 9 rfl rfl rfl rfl hl.1 rfl (Nat.le_of_ble_eq_true rfl) dX11_across_2 ⟨(Nat.le_of_ble_eq_true rfl), (Nat.le_of_ble_eq_true rfl)⟩ (fun r1 u H locs hw hI => ?_)
  try dsimp only at hw
  have hI : wI s D A (fl [wMo K h st past acts image ipast iacts tape tmany laneOf sizeOf items seaFirst worstOf farTo stepsTo needs nmany mat told]) H locs := hI
  refine lv_iload_n hx hb dX11_across_5 rfl (lv_at hl 1 rfl) ?_
  refine lv_iload_n hx hb dX11_across_6 rfl (lv_at hl 2 rfl) ?_
  refine lv_iload_n hx hb dX11_across_7 rfl (lv_at hl 3 rfl) ?_
  refine x_callWi (rest := []) hC hI (mX11_acrossBy l D K h _ r1 a1 a2 a3 st past acts image ipast iacts tape tmany laneOf sizeOf items seaFirst worstOf farTo stepsTo needs nmany mat told hw) (cwV 4 hts gX11_across_X11_acrossBy rfl rfl rfl (by decide +kernel) ⟨(Nat.le_of_ble_eq_true rfl), (Nat.le_of_ble_eq_true rfl)⟩) (fun _ => rfl) 0 9 rfl rfl rfl rfl hl.1 rfl (Nat.le_of_ble_eq_true rfl) dX11_across_8 ⟨(Nat.le_of_ble_eq_true rfl), (Nat.le_of_ble_eq_true rfl)⟩ (fun r2 u H locs hw hI => ?_)
  try dsimp only at hw
  have hI : wI s D A (fl [wMo K h st past acts image ipast iacts tape tmany laneOf sizeOf items seaFirst worstOf farTo stepsTo needs nmany mat told]) H locs := hI
  subst hQ
  exact x_iret (u := ()) hC hI hr hlk hw rfl dX11_across_11

def wX11_xOf (a1 : Int32) (st : Nat → Int32) (post : Int32 → Prop) : Prop := wX11_stepOf a1 (fun (r1 : Int32) => wX11_wide st (fun (r2 : Int32) => ¬ r2 = 0 ∧ wX11_wide st (fun (r4 : Int32) => ¬ r4 = 0 ∧ wX11_rowOf a1 (fun (r6 : Int32) => wX11_across (r1 / r2) (r1 - r1 / r4 * r4) r6 st (fun (r7 : Int32) => post r7)))))
def rmX11_xOf : Room := { frames := 6, cells := 0, slots := 0, locals := 129 }
set_option maxHeartbeats 4000000 in
set_option maxRecDepth 100000 in
theorem mX11_xOf (l : Launch) (D : va_G) (K : Nat → ClassId) (h : Nat → Nat) (sz : Nat) (a1 : Int32) (st : Nat → Int32) (past : Nat → Int32) (acts : Int32) (image : Nat → Int32) (ipast : Nat → Int32) (iacts : Int32) (tape : Nat → Int32) (tmany : Int32) (laneOf : Nat → Int32) (sizeOf : Nat → Int32) (items : Nat → Int64) (seaFirst : Nat → Int32) (worstOf : Nat → Int32) (farTo : Nat → Int32) (stepsTo : Nat → Int32) (needs : Nat → Int32) (nmany : Int32) (mat : Int32) (told : Nat → Int32)  {post : Int32 → Prop} (hw : wX11_xOf a1 st post) : Met l yX11_xOf wsX11_xOf rmX11_xOf (va_Pc [.ref (h 0), .int a1] (cP D K (fl [wMo K h st past acts image ipast iacts tape tmany laneOf sizeOf items seaFirst worstOf farTo stepsTo needs nmany mat told]) sz)) (va_Qi (fun (r : Int32) (u : Unit) => post r) (fun u t => cQ D K (fl [wMo K h st past acts image ipast iacts tape tmany laneOf sizeOf items seaFirst worstOf farTo stepsTo needs nmany mat told]) (va_A (fl [wMo K h st past acts image ipast iacts tape tmany laneOf sizeOf items seaFirst worstOf farTo stepsTo needs nmany mat told]) sz) t) (va_A (fl [wMo K h st past acts image ipast iacts tape tmany laneOf sizeOf items seaFirst worstOf farTo stepsTo needs nmany mat told]) sz)) 0 0 (va_A (fl [wMo K h st past acts image ipast iacts tape tmany laneOf sizeOf items seaFirst worstOf farTo stepsTo needs nmany mat told]) sz) := by
  refine x_entry (cc := cX11_xOf) (maxL := 3) (ret := (some .int)) (QA := fun A => va_Qi (fun (r : Int32) (u : Unit) => post r) (fun u t => cQ D K (fl [wMo K h st past acts image ipast iacts tape tmany laneOf sizeOf items seaFirst worstOf farTo stepsTo needs nmany mat told]) A t) A) (plainFor_of_name (by decide)) rfl (Nat.le_of_ble_eq_true rfl) ?_
  intro p e s m args below meth c A ls H Q hQ hC hlk hr hnm hI hl
  obtain ⟨hx, hb, hml, hown, hts, hK, hA, hZ⟩ := id hC
  obtain ⟨locs, hlocs⟩ : ∃ y : List Loc, y = [] := ⟨_, rfl⟩
  rw [← hlocs] at hI ⊢
  clear hlocs
  replace hl : lv_has ls 3 [(0, .ref (h 0)), (1, .int a1)] := hl
  replace hw : wX11_stepOf a1 (fun (r1 : Int32) => wX11_wide st (fun (r2 : Int32) => ¬ r2 = 0 ∧ wX11_wide st (fun (r4 : Int32) => ¬ r4 = 0 ∧ wX11_rowOf a1 (fun (r6 : Int32) => wX11_across (r1 / r2) (r1 - r1 / r4 * r4) r6 st (fun (r7 : Int32) => post r7))))) := hw
  refine lv_iload_n hx hb dX11_xOf_0 rfl (lv_at hl 1 rfl) ?_
  refine x_callSi (rest := []) hC hI [] (mX11_stepOf l D K  _ a1 hw) (va_cwS 1 hts gX11_xOf_X11_stepOf rfl rfl rfl (by decide +kernel) ⟨(Nat.le_of_ble_eq_true rfl), (Nat.le_of_ble_eq_true rfl)⟩) (by decide) rfl (fun _ => rfl) rfl hl.1 rfl (Nat.le_of_ble_eq_true rfl) dX11_xOf_1 ⟨(Nat.le_of_ble_eq_true rfl), (Nat.le_of_ble_eq_true rfl)⟩ (fun r1 u H locs hw hI => ?_)
  try dsimp only at hw
  have hI : wI s D A (fl [wMo K h st past acts image ipast iacts tape tmany laneOf sizeOf items seaFirst worstOf farTo stepsTo needs nmany mat told]) H locs := hI
  refine lv_istore_n (lv' := [(2, .int r1), (0, .ref (h 0)), (1, .int a1)]) hx hb dX11_xOf_4 rfl hl (by decide) rfl (fun ls hl => ?_)
  refine lv_aload_n hx hb dX11_xOf_5 rfl (lv_at hl 1 rfl) ?_
  refine lv_iload_n hx hb dX11_xOf_6 rfl (lv_at hl 0 rfl) ?_
  refine lv_aload_n hx hb dX11_xOf_7 rfl (lv_at hl 1 rfl) ?_
  refine x_callWi (rest := [.int r1, .ref (h 0)]) hC hI (mX11_wide l D K h _ st past acts image ipast iacts tape tmany laneOf sizeOf items seaFirst worstOf farTo stepsTo needs nmany mat told hw) (cwV 0 hts gX11_xOf_X11_wide rfl rfl rfl (by decide +kernel) ⟨(Nat.le_of_ble_eq_true rfl), (Nat.le_of_ble_eq_true rfl)⟩) (fun _ => rfl) 0 9 rfl rfl rfl rfl hl.1 rfl (Nat.le_of_ble_eq_true rfl) dX11_xOf_8 ⟨(Nat.le_of_ble_eq_true rfl), (Nat.le_of_ble_eq_true rfl)⟩ (fun r2 u H locs hw hI => ?_)
  try dsimp only at hw
  have hI : wI s D A (fl [wMo K h st past acts image ipast iacts tape tmany laneOf sizeOf items seaFirst worstOf farTo stepsTo needs nmany mat told]) H locs := hI
  obtain ⟨hc3, hw⟩ := hw
  refine lv_idiv hx hb dX11_xOf_11 hc3 ?_
  refine lv_iload_n hx hb dX11_xOf_12 rfl (lv_at hl 0 rfl) ?_
  refine lv_aload_n hx hb dX11_xOf_13 rfl (lv_at hl 1 rfl) ?_
  refine x_callWi (rest := [.int r1, .int (r1 / r2), .ref (h 0)]) hC hI (mX11_wide l D K h _ st past acts image ipast iacts tape tmany laneOf sizeOf items seaFirst worstOf farTo stepsTo needs nmany mat told hw) (cwV 0 hts gX11_xOf_X11_wide rfl rfl rfl (by decide +kernel) ⟨(Nat.le_of_ble_eq_true rfl), (Nat.le_of_ble_eq_true rfl)⟩) (fun _ => rfl) 0 9 rfl rfl rfl rfl hl.1 rfl (Nat.le_of_ble_eq_true rfl) dX11_xOf_14 ⟨(Nat.le_of_ble_eq_true rfl), (Nat.le_of_ble_eq_true rfl)⟩ (fun r4 u H locs hw hI => ?_)
  try dsimp only at hw
  have hI : wI s D A (fl [wMo K h st past acts image ipast iacts tape tmany laneOf sizeOf items seaFirst worstOf farTo stepsTo needs nmany mat told]) H locs := hI
  obtain ⟨hc5, hw⟩ := hw
  refine lv_irem hx hb dX11_xOf_17 hc5 ?_
  refine lv_iload_n hx hb dX11_xOf_18 rfl (lv_at hl 2 rfl) ?_
  refine x_callSi (rest := [.int (r1 - r1 / r4 * r4), .int (r1 / r2), .ref (h 0)]) hC hI [] (mX11_rowOf l D K  _ a1 hw) (va_cwS 1 hts gX11_xOf_X11_rowOf rfl rfl rfl (by decide +kernel) ⟨(Nat.le_of_ble_eq_true rfl), (Nat.le_of_ble_eq_true rfl)⟩) (by decide) rfl (fun _ => rfl) rfl hl.1 rfl (Nat.le_of_ble_eq_true rfl) dX11_xOf_19 ⟨(Nat.le_of_ble_eq_true rfl), (Nat.le_of_ble_eq_true rfl)⟩ (fun r6 u H locs hw hI => ?_)
  try dsimp only at hw
  have hI : wI s D A (fl [wMo K h st past acts image ipast iacts tape tmany laneOf sizeOf items seaFirst worstOf farTo stepsTo needs nmany mat told]) H locs := hI
  refine x_callWi (rest := []) hC hI (mX11_across l D K h _ (r1 / r2) (r1 - r1 / r4 * r4) r6 st past acts image ipast iacts tape tmany laneOf sizeOf items seaFirst worstOf farTo stepsTo needs nmany mat told hw) (cwV 3 hts gX11_xOf_X11_across rfl rfl rfl (by decide +kernel) ⟨(Nat.le_of_ble_eq_true rfl), (Nat.le_of_ble_eq_true rfl)⟩) (fun _ => rfl) 0 9 rfl rfl rfl rfl hl.1 rfl (Nat.le_of_ble_eq_true rfl) dX11_xOf_22 ⟨(Nat.le_of_ble_eq_true rfl), (Nat.le_of_ble_eq_true rfl)⟩ (fun r7 u H locs hw hI => ?_)
  try dsimp only at hw
  have hI : wI s D A (fl [wMo K h st past acts image ipast iacts tape tmany laneOf sizeOf items seaFirst worstOf farTo stepsTo needs nmany mat told]) H locs := hI
  subst hQ
  exact x_iret (u := ()) hC hI hr hlk hw rfl dX11_xOf_25

def wX11_isCut (a1 : Int32) (st : Nat → Int32) (post : Int32 → Prop) : Prop := wX11_stepOf a1 (fun (r1 : Int32) => wX11_wide st (fun (r2 : Int32) => ¬ r2 = 0 ∧ (((r1 - r1 / r2 * r2) = 0 → post (1 : Int32)) ∧ (¬ (r1 - r1 / r2 * r2) = 0 → post (0 : Int32)))))
def rmX11_isCut : Room := { frames := 2, cells := 0, slots := 0, locals := 40 }
set_option maxHeartbeats 4000000 in
set_option maxRecDepth 100000 in
theorem mX11_isCut (l : Launch) (D : va_G) (K : Nat → ClassId) (h : Nat → Nat) (sz : Nat) (a1 : Int32) (st : Nat → Int32) (past : Nat → Int32) (acts : Int32) (image : Nat → Int32) (ipast : Nat → Int32) (iacts : Int32) (tape : Nat → Int32) (tmany : Int32) (laneOf : Nat → Int32) (sizeOf : Nat → Int32) (items : Nat → Int64) (seaFirst : Nat → Int32) (worstOf : Nat → Int32) (farTo : Nat → Int32) (stepsTo : Nat → Int32) (needs : Nat → Int32) (nmany : Int32) (mat : Int32) (told : Nat → Int32)  {post : Int32 → Prop} (hw : wX11_isCut a1 st post) : Met l yX11_isCut wsX11_isCut rmX11_isCut (va_Pc [.ref (h 0), .int a1] (cP D K (fl [wMo K h st past acts image ipast iacts tape tmany laneOf sizeOf items seaFirst worstOf farTo stepsTo needs nmany mat told]) sz)) (va_Qi (fun (r : Int32) (u : Unit) => post r) (fun u t => cQ D K (fl [wMo K h st past acts image ipast iacts tape tmany laneOf sizeOf items seaFirst worstOf farTo stepsTo needs nmany mat told]) (va_A (fl [wMo K h st past acts image ipast iacts tape tmany laneOf sizeOf items seaFirst worstOf farTo stepsTo needs nmany mat told]) sz) t) (va_A (fl [wMo K h st past acts image ipast iacts tape tmany laneOf sizeOf items seaFirst worstOf farTo stepsTo needs nmany mat told]) sz)) 0 0 (va_A (fl [wMo K h st past acts image ipast iacts tape tmany laneOf sizeOf items seaFirst worstOf farTo stepsTo needs nmany mat told]) sz) := by
  refine x_entry (cc := cX11_isCut) (maxL := 2) (ret := (some .boolean)) (QA := fun A => va_Qi (fun (r : Int32) (u : Unit) => post r) (fun u t => cQ D K (fl [wMo K h st past acts image ipast iacts tape tmany laneOf sizeOf items seaFirst worstOf farTo stepsTo needs nmany mat told]) A t) A) (plainFor_of_name (by decide)) rfl (Nat.le_of_ble_eq_true rfl) ?_
  intro p e s m args below meth c A ls H Q hQ hC hlk hr hnm hI hl
  obtain ⟨hx, hb, hml, hown, hts, hK, hA, hZ⟩ := id hC
  obtain ⟨locs, hlocs⟩ : ∃ y : List Loc, y = [] := ⟨_, rfl⟩
  rw [← hlocs] at hI ⊢
  clear hlocs
  replace hl : lv_has ls 2 [(0, .ref (h 0)), (1, .int a1)] := hl
  replace hw : wX11_stepOf a1 (fun (r1 : Int32) => wX11_wide st (fun (r2 : Int32) => ¬ r2 = 0 ∧ (((r1 - r1 / r2 * r2) = 0 → post (1 : Int32)) ∧ (¬ (r1 - r1 / r2 * r2) = 0 → post (0 : Int32))))) := hw
  refine lv_iload_n hx hb dX11_isCut_0 rfl (lv_at hl 1 rfl) ?_
  refine x_callSi (rest := []) hC hI [] (mX11_stepOf l D K  _ a1 hw) (va_cwS 1 hts gX11_isCut_X11_stepOf rfl rfl rfl (by decide +kernel) ⟨(Nat.le_of_ble_eq_true rfl), (Nat.le_of_ble_eq_true rfl)⟩) (by decide) rfl (fun _ => rfl) rfl hl.1 rfl (Nat.le_of_ble_eq_true rfl) dX11_isCut_1 ⟨(Nat.le_of_ble_eq_true rfl), (Nat.le_of_ble_eq_true rfl)⟩ (fun r1 u H locs hw hI => ?_)
  try dsimp only at hw
  have hI : wI s D A (fl [wMo K h st past acts image ipast iacts tape tmany laneOf sizeOf items seaFirst worstOf farTo stepsTo needs nmany mat told]) H locs := hI
  refine lv_aload_n hx hb dX11_isCut_4 rfl (lv_at hl 0 rfl) ?_
  refine x_callWi (rest := [.int r1]) hC hI (mX11_wide l D K h _ st past acts image ipast iacts tape tmany laneOf sizeOf items seaFirst worstOf farTo stepsTo needs nmany mat told hw) (cwV 0 hts gX11_isCut_X11_wide rfl rfl rfl (by decide +kernel) ⟨(Nat.le_of_ble_eq_true rfl), (Nat.le_of_ble_eq_true rfl)⟩) (fun _ => rfl) 0 9 rfl rfl rfl rfl hl.1 rfl (Nat.le_of_ble_eq_true rfl) dX11_isCut_5 ⟨(Nat.le_of_ble_eq_true rfl), (Nat.le_of_ble_eq_true rfl)⟩ (fun r2 u H locs hw hI => ?_)
  try dsimp only at hw
  have hI : wI s D A (fl [wMo K h st past acts image ipast iacts tape tmany laneOf sizeOf items seaFirst worstOf farTo stepsTo needs nmany mat told]) H locs := hI
  obtain ⟨hc3, hw⟩ := hw
  refine lv_irem hx hb dX11_isCut_8 hc3 ?_
  refine lv_if_ne (tgt := 16) hx hb dX11_isCut_9 (by decide) (fun c4 => ?_) (fun c4 => ?_)
  · replace hw := hw.2 c4
    refine lv_iconst (v := (0 : Int32)) hx hb dX11_isCut_16 (by decide) ?_
    subst hQ
    exact x_zret (u := ()) hC hI hr hlk hw rfl (Or.inl rfl) dX11_isCut_17
  · replace hw := hw.1 c4
    refine lv_iconst (v := (1 : Int32)) hx hb dX11_isCut_12 (by decide) ?_
    refine lv_goto (tgt := 17) hx hb dX11_isCut_13 (by decide) ?_
    subst hQ
    exact x_zret (u := ()) hC hI hr hlk hw rfl (Or.inr rfl) dX11_isCut_17

def wX11_stripAhead (a1 : Int32) (st : Nat → Int32) (post : Int32 → Prop) : Prop := ((a1 = 0 → post ((st 267) - (1 : Int32))) ∧ (¬ a1 = 0 → post (a1 - (1 : Int32))))
def rmX11_stripAhead : Room := { frames := 0, cells := 0, slots := 0, locals := 0 }
theorem kX11_stripAhead_0 : Cond.fieldLink RX11 7 "GoreGlobeModel" "st" "[I" ∈ wsX11_stripAhead := List.mem_cons_of_mem _ (List.mem_append_left _ (List.mem_of_getElem? (i := 0) rfl))
theorem kX11_stripAhead_cX11 : ∀ w ∈ wsX110, w ∈ wsX11_stripAhead := fun _ h => List.mem_cons_of_mem _ (List.mem_append_right _ h)
set_option maxHeartbeats 4000000 in
set_option maxRecDepth 100000 in
theorem mX11_stripAhead (l : Launch) (D : va_G) (K : Nat → ClassId) (h : Nat → Nat) (sz : Nat) (a1 : Int32) (st : Nat → Int32) (past : Nat → Int32) (acts : Int32) (image : Nat → Int32) (ipast : Nat → Int32) (iacts : Int32) (tape : Nat → Int32) (tmany : Int32) (laneOf : Nat → Int32) (sizeOf : Nat → Int32) (items : Nat → Int64) (seaFirst : Nat → Int32) (worstOf : Nat → Int32) (farTo : Nat → Int32) (stepsTo : Nat → Int32) (needs : Nat → Int32) (nmany : Int32) (mat : Int32) (told : Nat → Int32)  {post : Int32 → Prop} (hw : wX11_stripAhead a1 st post) : Met l yX11_stripAhead wsX11_stripAhead rmX11_stripAhead (va_Pc [.ref (h 0), .int a1] (cP D K (fl [wMo K h st past acts image ipast iacts tape tmany laneOf sizeOf items seaFirst worstOf farTo stepsTo needs nmany mat told]) sz)) (va_Qi (fun (r : Int32) (u : Unit) => post r) (fun u t => cQ D K (fl [wMo K h st past acts image ipast iacts tape tmany laneOf sizeOf items seaFirst worstOf farTo stepsTo needs nmany mat told]) (va_A (fl [wMo K h st past acts image ipast iacts tape tmany laneOf sizeOf items seaFirst worstOf farTo stepsTo needs nmany mat told]) sz) t) (va_A (fl [wMo K h st past acts image ipast iacts tape tmany laneOf sizeOf items seaFirst worstOf farTo stepsTo needs nmany mat told]) sz)) 0 0 (va_A (fl [wMo K h st past acts image ipast iacts tape tmany laneOf sizeOf items seaFirst worstOf farTo stepsTo needs nmany mat told]) sz) := by
  refine x_entry (cc := cX11_stripAhead) (maxL := 2) (ret := (some .int)) (QA := fun A => va_Qi (fun (r : Int32) (u : Unit) => post r) (fun u t => cQ D K (fl [wMo K h st past acts image ipast iacts tape tmany laneOf sizeOf items seaFirst worstOf farTo stepsTo needs nmany mat told]) A t) A) (plainFor_of_name (by decide)) rfl (Nat.le_of_ble_eq_true rfl) ?_
  intro p e s m args below meth c A ls H Q hQ hC hlk hr hnm hI hl
  obtain ⟨hx, hb, hml, hown, hts, hK, hA, hZ⟩ := id hC
  obtain ⟨locs, hlocs⟩ : ∃ y : List Loc, y = [] := ⟨_, rfl⟩
  rw [← hlocs] at hI ⊢
  clear hlocs
  replace hl : lv_has ls 2 [(0, .ref (h 0)), (1, .int a1)] := hl
  replace hw : ((a1 = 0 → post ((st 267) - (1 : Int32))) ∧ (¬ a1 = 0 → post (a1 - (1 : Int32)))) := hw
  refine lv_iload_n hx hb dX11_stripAhead_0 rfl (lv_at hl 1 rfl) ?_
  refine lv_if_ne (tgt := 17) hx hb dX11_stripAhead_1 (by decide) (fun c1 => ?_) (fun c1 => ?_)
  · replace hw := hw.2 c1
    refine lv_iload_n hx hb dX11_stripAhead_17 rfl (lv_at hl 1 rfl) ?_
    refine lv_iconst (v := (1 : Int32)) hx hb dX11_stripAhead_18 (by decide) ?_
    refine lv_isub hx hb dX11_stripAhead_19 ?_
    subst hQ
    exact x_iret (u := ()) hC hI hr hlk hw rfl dX11_stripAhead_20
  · replace hw := hw.1 c1
    refine lv_aload_n hx hb dX11_stripAhead_4 rfl (lv_at hl 0 rfl) ?_
    refine x_get (v := .ref (h 1)) hC hI kX11_stripAhead_cX11 0 rfl rfl 0 (by decide) kX11_stripAhead_0 rfl rfl dX11_stripAhead_5 ?_
    refine lv_sipush (v := (267 : Int32)) hx hb dX11_stripAhead_8 (by decide) ?_
    refine x_iald (f := st) hC hI 1 rfl (by unfold vp_in; decide) dX11_stripAhead_11 ?_
    refine lv_iconst (v := (1 : Int32)) hx hb dX11_stripAhead_12 (by decide) ?_
    refine lv_isub hx hb dX11_stripAhead_13 ?_
    refine lv_goto (tgt := 20) hx hb dX11_stripAhead_14 (by decide) ?_
    subst hQ
    exact x_iret (u := ()) hC hI hr hlk hw rfl dX11_stripAhead_20

def wX11_twinX (a1 : Int32) (st : Nat → Int32) (post : Int32 → Prop) : Prop := wX11_stepOf a1 (fun (r1 : Int32) => wX11_wide st (fun (r2 : Int32) => ¬ r2 = 0 ∧ wX11_stripAhead (r1 / r2) st (fun (r4 : Int32) => wX11_wide st (fun (r5 : Int32) => wX11_rowOf a1 (fun (r6 : Int32) => wX11_across r4 r5 r6 st (fun (r7 : Int32) => post r7))))))
def rmX11_twinX : Room := { frames := 6, cells := 0, slots := 0, locals := 129 }
set_option maxHeartbeats 4000000 in
set_option maxRecDepth 100000 in
theorem mX11_twinX (l : Launch) (D : va_G) (K : Nat → ClassId) (h : Nat → Nat) (sz : Nat) (a1 : Int32) (st : Nat → Int32) (past : Nat → Int32) (acts : Int32) (image : Nat → Int32) (ipast : Nat → Int32) (iacts : Int32) (tape : Nat → Int32) (tmany : Int32) (laneOf : Nat → Int32) (sizeOf : Nat → Int32) (items : Nat → Int64) (seaFirst : Nat → Int32) (worstOf : Nat → Int32) (farTo : Nat → Int32) (stepsTo : Nat → Int32) (needs : Nat → Int32) (nmany : Int32) (mat : Int32) (told : Nat → Int32)  {post : Int32 → Prop} (hw : wX11_twinX a1 st post) : Met l yX11_twinX wsX11_twinX rmX11_twinX (va_Pc [.ref (h 0), .int a1] (cP D K (fl [wMo K h st past acts image ipast iacts tape tmany laneOf sizeOf items seaFirst worstOf farTo stepsTo needs nmany mat told]) sz)) (va_Qi (fun (r : Int32) (u : Unit) => post r) (fun u t => cQ D K (fl [wMo K h st past acts image ipast iacts tape tmany laneOf sizeOf items seaFirst worstOf farTo stepsTo needs nmany mat told]) (va_A (fl [wMo K h st past acts image ipast iacts tape tmany laneOf sizeOf items seaFirst worstOf farTo stepsTo needs nmany mat told]) sz) t) (va_A (fl [wMo K h st past acts image ipast iacts tape tmany laneOf sizeOf items seaFirst worstOf farTo stepsTo needs nmany mat told]) sz)) 0 0 (va_A (fl [wMo K h st past acts image ipast iacts tape tmany laneOf sizeOf items seaFirst worstOf farTo stepsTo needs nmany mat told]) sz) := by
  refine x_entry (cc := cX11_twinX) (maxL := 2) (ret := (some .int)) (QA := fun A => va_Qi (fun (r : Int32) (u : Unit) => post r) (fun u t => cQ D K (fl [wMo K h st past acts image ipast iacts tape tmany laneOf sizeOf items seaFirst worstOf farTo stepsTo needs nmany mat told]) A t) A) (plainFor_of_name (by decide)) rfl (Nat.le_of_ble_eq_true rfl) ?_
  intro p e s m args below meth c A ls H Q hQ hC hlk hr hnm hI hl
  obtain ⟨hx, hb, hml, hown, hts, hK, hA, hZ⟩ := id hC
  obtain ⟨locs, hlocs⟩ : ∃ y : List Loc, y = [] := ⟨_, rfl⟩
  rw [← hlocs] at hI ⊢
  clear hlocs
  replace hl : lv_has ls 2 [(0, .ref (h 0)), (1, .int a1)] := hl
  replace hw : wX11_stepOf a1 (fun (r1 : Int32) => wX11_wide st (fun (r2 : Int32) => ¬ r2 = 0 ∧ wX11_stripAhead (r1 / r2) st (fun (r4 : Int32) => wX11_wide st (fun (r5 : Int32) => wX11_rowOf a1 (fun (r6 : Int32) => wX11_across r4 r5 r6 st (fun (r7 : Int32) => post r7)))))) := hw
  refine lv_aload_n hx hb dX11_twinX_0 rfl (lv_at hl 0 rfl) ?_
  refine lv_aload_n hx hb dX11_twinX_1 rfl (lv_at hl 0 rfl) ?_
  refine lv_iload_n hx hb dX11_twinX_2 rfl (lv_at hl 1 rfl) ?_
  refine x_callSi (rest := [.ref (h 0), .ref (h 0)]) hC hI [] (mX11_stepOf l D K  _ a1 hw) (va_cwS 1 hts gX11_twinX_X11_stepOf rfl rfl rfl (by decide +kernel) ⟨(Nat.le_of_ble_eq_true rfl), (Nat.le_of_ble_eq_true rfl)⟩) (by decide) rfl (fun _ => rfl) rfl hl.1 rfl (Nat.le_of_ble_eq_true rfl) dX11_twinX_3 ⟨(Nat.le_of_ble_eq_true rfl), (Nat.le_of_ble_eq_true rfl)⟩ (fun r1 u H locs hw hI => ?_)
  try dsimp only at hw
  have hI : wI s D A (fl [wMo K h st past acts image ipast iacts tape tmany laneOf sizeOf items seaFirst worstOf farTo stepsTo needs nmany mat told]) H locs := hI
  refine lv_aload_n hx hb dX11_twinX_6 rfl (lv_at hl 0 rfl) ?_
  refine x_callWi (rest := [.int r1, .ref (h 0), .ref (h 0)]) hC hI (mX11_wide l D K h _ st past acts image ipast iacts tape tmany laneOf sizeOf items seaFirst worstOf farTo stepsTo needs nmany mat told hw) (cwV 0 hts gX11_twinX_X11_wide rfl rfl rfl (by decide +kernel) ⟨(Nat.le_of_ble_eq_true rfl), (Nat.le_of_ble_eq_true rfl)⟩) (fun _ => rfl) 0 9 rfl rfl rfl rfl hl.1 rfl (Nat.le_of_ble_eq_true rfl) dX11_twinX_7 ⟨(Nat.le_of_ble_eq_true rfl), (Nat.le_of_ble_eq_true rfl)⟩ (fun r2 u H locs hw hI => ?_)
  try dsimp only at hw
  have hI : wI s D A (fl [wMo K h st past acts image ipast iacts tape tmany laneOf sizeOf items seaFirst worstOf farTo stepsTo needs nmany mat told]) H locs := hI
  obtain ⟨hc3, hw⟩ := hw
  refine lv_idiv hx hb dX11_twinX_10 hc3 ?_
  refine x_callWi (rest := [.ref (h 0)]) hC hI (mX11_stripAhead l D K h _ (r1 / r2) st past acts image ipast iacts tape tmany laneOf sizeOf items seaFirst worstOf farTo stepsTo needs nmany mat told hw) (cwV 1 hts gX11_twinX_X11_stripAhead rfl rfl rfl (by decide +kernel) ⟨(Nat.le_of_ble_eq_true rfl), (Nat.le_of_ble_eq_true rfl)⟩) (fun _ => rfl) 0 9 rfl rfl rfl rfl hl.1 rfl (Nat.le_of_ble_eq_true rfl) dX11_twinX_11 ⟨(Nat.le_of_ble_eq_true rfl), (Nat.le_of_ble_eq_true rfl)⟩ (fun r4 u H locs hw hI => ?_)
  try dsimp only at hw
  have hI : wI s D A (fl [wMo K h st past acts image ipast iacts tape tmany laneOf sizeOf items seaFirst worstOf farTo stepsTo needs nmany mat told]) H locs := hI
  refine lv_aload_n hx hb dX11_twinX_14 rfl (lv_at hl 0 rfl) ?_
  refine x_callWi (rest := [.int r4, .ref (h 0)]) hC hI (mX11_wide l D K h _ st past acts image ipast iacts tape tmany laneOf sizeOf items seaFirst worstOf farTo stepsTo needs nmany mat told hw) (cwV 0 hts gX11_twinX_X11_wide rfl rfl rfl (by decide +kernel) ⟨(Nat.le_of_ble_eq_true rfl), (Nat.le_of_ble_eq_true rfl)⟩) (fun _ => rfl) 0 9 rfl rfl rfl rfl hl.1 rfl (Nat.le_of_ble_eq_true rfl) dX11_twinX_15 ⟨(Nat.le_of_ble_eq_true rfl), (Nat.le_of_ble_eq_true rfl)⟩ (fun r5 u H locs hw hI => ?_)
  try dsimp only at hw
  have hI : wI s D A (fl [wMo K h st past acts image ipast iacts tape tmany laneOf sizeOf items seaFirst worstOf farTo stepsTo needs nmany mat told]) H locs := hI
  refine lv_iload_n hx hb dX11_twinX_18 rfl (lv_at hl 1 rfl) ?_
  refine x_callSi (rest := [.int r5, .int r4, .ref (h 0)]) hC hI [] (mX11_rowOf l D K  _ a1 hw) (va_cwS 1 hts gX11_twinX_X11_rowOf rfl rfl rfl (by decide +kernel) ⟨(Nat.le_of_ble_eq_true rfl), (Nat.le_of_ble_eq_true rfl)⟩) (by decide) rfl (fun _ => rfl) rfl hl.1 rfl (Nat.le_of_ble_eq_true rfl) dX11_twinX_19 ⟨(Nat.le_of_ble_eq_true rfl), (Nat.le_of_ble_eq_true rfl)⟩ (fun r6 u H locs hw hI => ?_)
  try dsimp only at hw
  have hI : wI s D A (fl [wMo K h st past acts image ipast iacts tape tmany laneOf sizeOf items seaFirst worstOf farTo stepsTo needs nmany mat told]) H locs := hI
  refine x_callWi (rest := []) hC hI (mX11_across l D K h _ r4 r5 r6 st past acts image ipast iacts tape tmany laneOf sizeOf items seaFirst worstOf farTo stepsTo needs nmany mat told hw) (cwV 3 hts gX11_twinX_X11_across rfl rfl rfl (by decide +kernel) ⟨(Nat.le_of_ble_eq_true rfl), (Nat.le_of_ble_eq_true rfl)⟩) (fun _ => rfl) 0 9 rfl rfl rfl rfl hl.1 rfl (Nat.le_of_ble_eq_true rfl) dX11_twinX_22 ⟨(Nat.le_of_ble_eq_true rfl), (Nat.le_of_ble_eq_true rfl)⟩ (fun r7 u H locs hw hI => ?_)
  try dsimp only at hw
  have hI : wI s D A (fl [wMo K h st past acts image ipast iacts tape tmany laneOf sizeOf items seaFirst worstOf farTo stepsTo needs nmany mat told]) H locs := hI
  subst hQ
  exact x_iret (u := ()) hC hI hr hlk hw rfl dX11_twinX_25

def wX11_yOf (a1 : Int32) (st : Nat → Int32) (post : Int32 → Prop) : Prop := post (((2 : Int32) * (st 266)) * (a1 + (6 : Int32)))
def rmX11_yOf : Room := { frames := 0, cells := 0, slots := 0, locals := 0 }
theorem kX11_yOf_0 : Cond.fieldLink RX11 7 "GoreGlobeModel" "st" "[I" ∈ wsX11_yOf := List.mem_cons_of_mem _ (List.mem_append_left _ (List.mem_of_getElem? (i := 0) rfl))
theorem kX11_yOf_cX11 : ∀ w ∈ wsX110, w ∈ wsX11_yOf := fun _ h => List.mem_cons_of_mem _ (List.mem_append_right _ h)
set_option maxHeartbeats 4000000 in
set_option maxRecDepth 100000 in
theorem mX11_yOf (l : Launch) (D : va_G) (K : Nat → ClassId) (h : Nat → Nat) (sz : Nat) (a1 : Int32) (st : Nat → Int32) (past : Nat → Int32) (acts : Int32) (image : Nat → Int32) (ipast : Nat → Int32) (iacts : Int32) (tape : Nat → Int32) (tmany : Int32) (laneOf : Nat → Int32) (sizeOf : Nat → Int32) (items : Nat → Int64) (seaFirst : Nat → Int32) (worstOf : Nat → Int32) (farTo : Nat → Int32) (stepsTo : Nat → Int32) (needs : Nat → Int32) (nmany : Int32) (mat : Int32) (told : Nat → Int32)  {post : Int32 → Prop} (hw : wX11_yOf a1 st post) : Met l yX11_yOf wsX11_yOf rmX11_yOf (va_Pc [.ref (h 0), .int a1] (cP D K (fl [wMo K h st past acts image ipast iacts tape tmany laneOf sizeOf items seaFirst worstOf farTo stepsTo needs nmany mat told]) sz)) (va_Qi (fun (r : Int32) (u : Unit) => post r) (fun u t => cQ D K (fl [wMo K h st past acts image ipast iacts tape tmany laneOf sizeOf items seaFirst worstOf farTo stepsTo needs nmany mat told]) (va_A (fl [wMo K h st past acts image ipast iacts tape tmany laneOf sizeOf items seaFirst worstOf farTo stepsTo needs nmany mat told]) sz) t) (va_A (fl [wMo K h st past acts image ipast iacts tape tmany laneOf sizeOf items seaFirst worstOf farTo stepsTo needs nmany mat told]) sz)) 0 0 (va_A (fl [wMo K h st past acts image ipast iacts tape tmany laneOf sizeOf items seaFirst worstOf farTo stepsTo needs nmany mat told]) sz) := by
  refine x_entry (cc := cX11_yOf) (maxL := 2) (ret := (some .int)) (QA := fun A => va_Qi (fun (r : Int32) (u : Unit) => post r) (fun u t => cQ D K (fl [wMo K h st past acts image ipast iacts tape tmany laneOf sizeOf items seaFirst worstOf farTo stepsTo needs nmany mat told]) A t) A) (plainFor_of_name (by decide)) rfl (Nat.le_of_ble_eq_true rfl) ?_
  intro p e s m args below meth c A ls H Q hQ hC hlk hr hnm hI hl
  obtain ⟨hx, hb, hml, hown, hts, hK, hA, hZ⟩ := id hC
  obtain ⟨locs, hlocs⟩ : ∃ y : List Loc, y = [] := ⟨_, rfl⟩
  rw [← hlocs] at hI ⊢
  clear hlocs
  replace hl : lv_has ls 2 [(0, .ref (h 0)), (1, .int a1)] := hl
  replace hw : post (((2 : Int32) * (st 266)) * (a1 + (6 : Int32))) := hw
  refine lv_iconst (v := (2 : Int32)) hx hb dX11_yOf_0 (by decide) ?_
  refine lv_aload_n hx hb dX11_yOf_1 rfl (lv_at hl 0 rfl) ?_
  refine x_get (v := .ref (h 1)) hC hI kX11_yOf_cX11 0 rfl rfl 0 (by decide) kX11_yOf_0 rfl rfl dX11_yOf_2 ?_
  refine lv_sipush (v := (266 : Int32)) hx hb dX11_yOf_5 (by decide) ?_
  refine x_iald (f := st) hC hI 1 rfl (by unfold vp_in; decide) dX11_yOf_8 ?_
  refine lv_imul hx hb dX11_yOf_9 ?_
  refine lv_iload_n hx hb dX11_yOf_10 rfl (lv_at hl 1 rfl) ?_
  refine lv_bipush (v := (6 : Int32)) hx hb dX11_yOf_11 (by decide) ?_
  refine lv_iadd hx hb dX11_yOf_13 ?_
  refine lv_imul hx hb dX11_yOf_14 ?_
  subst hQ
  exact x_iret (u := ()) hC hI hr hlk hw rfl dX11_yOf_15

def wX11_capX (a1 : Int32) (st : Nat → Int32) (post : Int32 → Prop) : Prop := wX11_rowOf a1 (fun (r1 : Int32) => wX11_size r1 (fun (r2 : Int32) => wX11_stepOf a1 (fun (r3 : Int32) => wX11_sine r3 (fun (r4 : Int32) => ∀ x5 : Int32, x5 = ((((2 : Int32) * (st 266)) * ((6 : Int32) - r2)) * r4) / (10000 : Int32) → ((r1 ≤ 0 → post ((((2 : Int32) * (st 266)) * (st 268)) + (-x5))) ∧ (¬ r1 ≤ 0 → post ((((2 : Int32) * (st 266)) * (st 268)) + x5)))))))
def rmX11_capX : Room := { frames := 2, cells := 0, slots := 0, locals := 42 }
theorem kX11_capX_0 : Cond.fieldLink RX11 7 "GoreGlobeModel" "st" "[I" ∈ wsX11_capX := List.mem_cons_of_mem _ (List.mem_append_left _ (List.mem_of_getElem? (i := 0) rfl))
theorem kX11_capX_cX11 : ∀ w ∈ wsX110, w ∈ wsX11_capX := fun _ h => List.mem_cons_of_mem _ (List.mem_append_right _ h)
set_option maxHeartbeats 4000000 in
set_option maxRecDepth 100000 in
theorem mX11_capX (l : Launch) (D : va_G) (K : Nat → ClassId) (h : Nat → Nat) (sz : Nat) (a1 : Int32) (st : Nat → Int32) (past : Nat → Int32) (acts : Int32) (image : Nat → Int32) (ipast : Nat → Int32) (iacts : Int32) (tape : Nat → Int32) (tmany : Int32) (laneOf : Nat → Int32) (sizeOf : Nat → Int32) (items : Nat → Int64) (seaFirst : Nat → Int32) (worstOf : Nat → Int32) (farTo : Nat → Int32) (stepsTo : Nat → Int32) (needs : Nat → Int32) (nmany : Int32) (mat : Int32) (told : Nat → Int32)  {post : Int32 → Prop} (hw : wX11_capX a1 st post) : Met l yX11_capX wsX11_capX rmX11_capX (va_Pc [.ref (h 0), .int a1] (cP D K (fl [wMo K h st past acts image ipast iacts tape tmany laneOf sizeOf items seaFirst worstOf farTo stepsTo needs nmany mat told]) sz)) (va_Qi (fun (r : Int32) (u : Unit) => post r) (fun u t => cQ D K (fl [wMo K h st past acts image ipast iacts tape tmany laneOf sizeOf items seaFirst worstOf farTo stepsTo needs nmany mat told]) (va_A (fl [wMo K h st past acts image ipast iacts tape tmany laneOf sizeOf items seaFirst worstOf farTo stepsTo needs nmany mat told]) sz) t) (va_A (fl [wMo K h st past acts image ipast iacts tape tmany laneOf sizeOf items seaFirst worstOf farTo stepsTo needs nmany mat told]) sz)) 0 0 (va_A (fl [wMo K h st past acts image ipast iacts tape tmany laneOf sizeOf items seaFirst worstOf farTo stepsTo needs nmany mat told]) sz) := by
  refine x_entry (cc := cX11_capX) (maxL := 4) (ret := (some .int)) (QA := fun A => va_Qi (fun (r : Int32) (u : Unit) => post r) (fun u t => cQ D K (fl [wMo K h st past acts image ipast iacts tape tmany laneOf sizeOf items seaFirst worstOf farTo stepsTo needs nmany mat told]) A t) A) (plainFor_of_name (by decide)) rfl (Nat.le_of_ble_eq_true rfl) ?_
  intro p e s m args below meth c A ls H Q hQ hC hlk hr hnm hI hl
  obtain ⟨hx, hb, hml, hown, hts, hK, hA, hZ⟩ := id hC
  obtain ⟨locs, hlocs⟩ : ∃ y : List Loc, y = [] := ⟨_, rfl⟩
  rw [← hlocs] at hI ⊢
  clear hlocs
  replace hl : lv_has ls 4 [(0, .ref (h 0)), (1, .int a1)] := hl
  replace hw : wX11_rowOf a1 (fun (r1 : Int32) => wX11_size r1 (fun (r2 : Int32) => wX11_stepOf a1 (fun (r3 : Int32) => wX11_sine r3 (fun (r4 : Int32) => ∀ x5 : Int32, x5 = ((((2 : Int32) * (st 266)) * ((6 : Int32) - r2)) * r4) / (10000 : Int32) → ((r1 ≤ 0 → post ((((2 : Int32) * (st 266)) * (st 268)) + (-x5))) ∧ (¬ r1 ≤ 0 → post ((((2 : Int32) * (st 266)) * (st 268)) + x5))))))) := hw
  refine lv_iload_n hx hb dX11_capX_0 rfl (lv_at hl 1 rfl) ?_
  refine x_callSi (rest := []) hC hI [] (mX11_rowOf l D K  _ a1 hw) (va_cwS 1 hts gX11_capX_X11_rowOf rfl rfl rfl (by decide +kernel) ⟨(Nat.le_of_ble_eq_true rfl), (Nat.le_of_ble_eq_true rfl)⟩) (by decide) rfl (fun _ => rfl) rfl hl.1 rfl (Nat.le_of_ble_eq_true rfl) dX11_capX_1 ⟨(Nat.le_of_ble_eq_true rfl), (Nat.le_of_ble_eq_true rfl)⟩ (fun r1 u H locs hw hI => ?_)
  try dsimp only at hw
  have hI : wI s D A (fl [wMo K h st past acts image ipast iacts tape tmany laneOf sizeOf items seaFirst worstOf farTo stepsTo needs nmany mat told]) H locs := hI
  refine lv_istore_n (lv' := [(2, .int r1), (0, .ref (h 0)), (1, .int a1)]) hx hb dX11_capX_4 rfl hl (by decide) rfl (fun ls hl => ?_)
  refine lv_iconst (v := (2 : Int32)) hx hb dX11_capX_5 (by decide) ?_
  refine lv_aload_n hx hb dX11_capX_6 rfl (lv_at hl 1 rfl) ?_
  refine x_get (v := .ref (h 1)) hC hI kX11_capX_cX11 0 rfl rfl 0 (by decide) kX11_capX_0 rfl rfl dX11_capX_7 ?_
  refine lv_sipush (v := (266 : Int32)) hx hb dX11_capX_10 (by decide) ?_
  refine x_iald (f := st) hC hI 1 rfl (by unfold vp_in; decide) dX11_capX_13 ?_
  refine lv_imul hx hb dX11_capX_14 ?_
  refine lv_bipush (v := (6 : Int32)) hx hb dX11_capX_15 (by decide) ?_
  refine lv_iload_n hx hb dX11_capX_17 rfl (lv_at hl 0 rfl) ?_
  refine x_callSi (rest := [.int (6 : Int32), .int ((2 : Int32) * (st 266))]) hC hI [] (mX11_size l D K  _ r1 hw) (va_cwS 1 hts gX11_capX_X11_size rfl rfl rfl (by decide +kernel) ⟨(Nat.le_of_ble_eq_true rfl), (Nat.le_of_ble_eq_true rfl)⟩) (by decide) rfl (fun _ => rfl) rfl hl.1 rfl (Nat.le_of_ble_eq_true rfl) dX11_capX_18 ⟨(Nat.le_of_ble_eq_true rfl), (Nat.le_of_ble_eq_true rfl)⟩ (fun r2 u H locs hw hI => ?_)
  try dsimp only at hw
  have hI : wI s D A (fl [wMo K h st past acts image ipast iacts tape tmany laneOf sizeOf items seaFirst worstOf farTo stepsTo needs nmany mat told]) H locs := hI
  refine lv_isub hx hb dX11_capX_21 ?_
  refine lv_imul hx hb dX11_capX_22 ?_
  refine lv_iload_n hx hb dX11_capX_23 rfl (lv_at hl 2 rfl) ?_
  refine x_callSi (rest := [.int (((2 : Int32) * (st 266)) * ((6 : Int32) - r2))]) hC hI [] (mX11_stepOf l D K  _ a1 hw) (va_cwS 1 hts gX11_capX_X11_stepOf rfl rfl rfl (by decide +kernel) ⟨(Nat.le_of_ble_eq_true rfl), (Nat.le_of_ble_eq_true rfl)⟩) (by decide) rfl (fun _ => rfl) rfl hl.1 rfl (Nat.le_of_ble_eq_true rfl) dX11_capX_24 ⟨(Nat.le_of_ble_eq_true rfl), (Nat.le_of_ble_eq_true rfl)⟩ (fun r3 u H locs hw hI => ?_)
  try dsimp only at hw
  have hI : wI s D A (fl [wMo K h st past acts image ipast iacts tape tmany laneOf sizeOf items seaFirst worstOf farTo stepsTo needs nmany mat told]) H locs := hI
  refine x_callSi (rest := [.int (((2 : Int32) * (st 266)) * ((6 : Int32) - r2))]) hC hI [] (mX11_sine l D K  _ r3 hw) (va_cwS 1 hts gX11_capX_X11_sine rfl rfl rfl (by decide +kernel) ⟨(Nat.le_of_ble_eq_true rfl), (Nat.le_of_ble_eq_true rfl)⟩) (by decide) rfl (fun _ => rfl) rfl hl.1 rfl (Nat.le_of_ble_eq_true rfl) dX11_capX_27 ⟨(Nat.le_of_ble_eq_true rfl), (Nat.le_of_ble_eq_true rfl)⟩ (fun r4 u H locs hw hI => ?_)
  try dsimp only at hw
  have hI : wI s D A (fl [wMo K h st past acts image ipast iacts tape tmany laneOf sizeOf items seaFirst worstOf farTo stepsTo needs nmany mat told]) H locs := hI
  refine lv_imul hx hb dX11_capX_30 ?_
  refine lv_sipush (v := (10000 : Int32)) hx hb dX11_capX_31 (by decide) ?_
  refine lv_idiv hx hb dX11_capX_34 (by decide) ?_
  refine lv_topi (fun x5 ex5 => ?_)
  replace hw := hw x5 ex5
  refine lv_istore_n (lv' := [(3, .int x5), (2, .int r1), (0, .ref (h 0)), (1, .int a1)]) hx hb dX11_capX_35 rfl hl (by decide) rfl (fun ls hl => ?_)
  refine lv_iconst (v := (2 : Int32)) hx hb dX11_capX_36 (by decide) ?_
  refine lv_aload_n hx hb dX11_capX_37 rfl (lv_at hl 2 rfl) ?_
  refine x_get (v := .ref (h 1)) hC hI kX11_capX_cX11 0 rfl rfl 0 (by decide) kX11_capX_0 rfl rfl dX11_capX_38 ?_
  refine lv_sipush (v := (266 : Int32)) hx hb dX11_capX_41 (by decide) ?_
  refine x_iald (f := st) hC hI 1 rfl (by unfold vp_in; decide) dX11_capX_44 ?_
  refine lv_imul hx hb dX11_capX_45 ?_
  refine lv_aload_n hx hb dX11_capX_46 rfl (lv_at hl 2 rfl) ?_
  refine x_get (v := .ref (h 1)) hC hI kX11_capX_cX11 0 rfl rfl 0 (by decide) kX11_capX_0 rfl rfl dX11_capX_47 ?_
  refine lv_sipush (v := (268 : Int32)) hx hb dX11_capX_50 (by decide) ?_
  refine x_iald (f := st) hC hI 1 rfl (by unfold vp_in; decide) dX11_capX_53 ?_
  refine lv_imul hx hb dX11_capX_54 ?_
  refine lv_iload_n hx hb dX11_capX_55 rfl (lv_at hl 1 rfl) ?_
  refine lv_if_le (tgt := 63) hx hb dX11_capX_56 (by decide) (fun c6 => ?_) (fun c6 => ?_)
  · replace hw := hw.1 c6
    refine lv_iload_n hx hb dX11_capX_63 rfl (lv_at hl 0 rfl) ?_
    refine lv_ineg hx hb dX11_capX_64 ?_
    refine lv_iadd hx hb dX11_capX_65 ?_
    subst hQ
    exact x_iret (u := ()) hC hI hr hlk hw rfl dX11_capX_66
  · replace hw := hw.2 c6
    refine lv_iload_n hx hb dX11_capX_59 rfl (lv_at hl 0 rfl) ?_
    refine lv_goto (tgt := 65) hx hb dX11_capX_60 (by decide) ?_
    refine lv_iadd hx hb dX11_capX_65 ?_
    subst hQ
    exact x_iret (u := ()) hC hI hr hlk hw rfl dX11_capX_66
