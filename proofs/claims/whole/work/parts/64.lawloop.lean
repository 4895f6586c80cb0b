set_option maxHeartbeats 4000000 in
set_option maxRecDepth 100000 in
/-- from the switch on -/
theorem lw_switch {p : Program} {l : Launch} {e : Env} {s : State} {m : MethodId} {below : List Frame} {meth : Method} {c : Code} {D : va_G} {K : Nat → ClassId} {q h : Nat → Nat} {b L k : Nat} {xs : Nat → Int32} {Q : State → Prop} {cells slots : Nat} {bits : Nat → Int64} {stops : Nat → Int32} {num : Int32} {unit : Int32} {strips : Int32} {caps : Int32} {draw : Int32} {oldest : Int32} {known : Int32} {ring : Nat → GS} {im : GS} {iold : Int32} {iknown : Int32} {iring : Nat → GS} {hasIm : Int32} {letters : Nat → Int32} {tbits : Nat → Int64} {tlen : Int32} {tat : Int32} {fig : Int32} {shI : Nat → Nat → Int64} {shH : Nat → Int32} {shL : Nat → Int32} {shS : Nat → Int32} {seaOf : Nat → Int32} {queue : Nat → Int32} {snum : Int32} {cost : Nat → Int32} {heap : Nat → Int64} {wait : Int32} {off : Int32} {les : Int32} {gre : Int32} {abv : Int64} {blw : Int64} {needed : Int32} {ocut : Int32} {opole : Int32} {st : Nat → Int32} {past : Nat → Int32} {acts : Int32} {image : Nat → Int32} {ipast : Nat → Int32} {iacts : Int32} {tape : Nat → Int32} {tmany : Int32} {laneOf : Nat → Int32} {sizeOf : Nat → Int32} {items : Nat → Int64} {seaFirst : Nat → Int32} {worstOf : Nat → Int32} {farTo : Nat → Int32} {stepsTo : Nat → Int32} {needs : Nat → Int32} {nmany : Int32} {mat : Int32} {told : Nat → Int32} {ls : Array Slot} {H : Heap} {locs : List Loc} (hC : Cx p s m #[Value.ref b] c cL_law 4 RL wsL_law D K (fun z : Nat => s.heap.size ≤ z)) (hX : va_X b L xs s s.heap) (hbl : b < s.heap.size) (hlt : k + 5 < L) (hL : L ≤ 3072) (hcs : cells ≤ room_1.cells ∧ slots ≤ room_1.slots) (hR : Rel bits stops num unit strips caps draw oldest known ring im iold iknown iring hasIm letters tlen shI shH shL shS st past acts image ipast iacts tape tmany laneOf sizeOf items) (hI : wI s D (fun z : Nat => s.heap.size ≤ z) (fl (lX K q bits stops num unit strips caps draw oldest known ring im iold iknown iring hasIm letters tbits tlen tat fig shI shH shL shS seaOf queue snum cost heap wait off les gre abv blw needed ocut opole ++ [wMo K h st past acts image ipast iacts tape tmany laneOf sizeOf items seaFirst worstOf farTo stepsTo needs nmany mat told])) H locs) (hl : lv_has ls 4 [(0, .ref b), (1, .ref (q 0)), (2, .ref (h 0)), (3, .int (nI k))]) (kk : ∀ (bits : Nat → Int64) (stops : Nat → Int32) (num : Int32) (unit : Int32) (strips : Int32) (caps : Int32) (draw : Int32) (oldest : Int32) (known : Int32) (ring : Nat → GS) (im : GS) (iold : Int32) (iknown : Int32) (iring : Nat → GS) (hasIm : Int32) (letters : Nat → Int32) (tbits : Nat → Int64) (tlen : Int32) (tat : Int32) (fig : Int32) (shI : Nat → Nat → Int64) (shH : Nat → Int32) (shL : Nat → Int32) (shS : Nat → Int32) (seaOf : Nat → Int32) (queue : Nat → Int32) (snum : Int32) (cost : Nat → Int32) (heap : Nat → Int64) (wait : Int32) (off : Int32) (les : Int32) (gre : Int32) (abv : Int64) (blw : Int64) (needed : Int32) (ocut : Int32) (opole : Int32) (st : Nat → Int32) (past : Nat → Int32) (acts : Int32) (image : Nat → Int32) (ipast : Nat → Int32) (iacts : Int32) (tape : Nat → Int32) (tmany : Int32) (laneOf : Nat → Int32) (sizeOf : Nat → Int32) (items : Nat → Int64) (seaFirst : Nat → Int32) (worstOf : Nat → Int32) (farTo : Nat → Int32) (stepsTo : Nat → Int32) (needs : Nat → Int32) (nmany : Int32) (mat : Int32) (told : Nat → Int32) (ls : Array Slot) (H : Heap) (locs : List Loc), Rel bits stops num unit strips caps draw oldest known ring im iold iknown iring hasIm letters tlen shI shH shL shS st past acts image ipast iacts tape tmany laneOf sizeOf items → wI s D (fun z : Nat => s.heap.size ≤ z) (fl (lX K q bits stops num unit strips caps draw oldest known ring im iold iknown iring hasIm letters tbits tlen tat fig shI shH shL shS seaOf queue snum cost heap wait off les gre abv blw needed ocut opole ++ [wMo K h st past acts image ipast iacts tape tmany laneOf sizeOf items seaFirst worstOf farTo stepsTo needs nmany mat told])) H locs → lv_has ls 4 [(0, .ref b), (1, .ref (q 0)), (2, .ref (h 0)), (3, .int (nI k))] → W p l e room_1 s m #[Value.ref b] below meth c H locs cells slots Q (F0 m 1139 ls [])) (j : Nat) (hj : j < 32) : W p l e room_1 s m #[Value.ref b] below meth c H locs cells slots Q (F0 m 33 ls [.int (nI j)]) := by
  obtain ⟨hx, hb, hml, hown, hts, hK, hA, hZ⟩ := id hC
  match j, hj with
  | 0, _ =>
    refine lv_tableIn (off := 135) (tgt := 168) hx hb dL_law_33 (by decide) (by decide) rfl (by decide) ?_
    exact lc_place hC hX hbl hlt hL hcs hR hI hl kk
  | 1, _ =>
    refine lv_tableIn (off := 178) (tgt := 211) hx hb dL_law_33 (by decide) (by decide) rfl (by decide) ?_
    exact lc_flat hC hX hbl hlt hL hcs hR hI hl kk
  | 2, _ =>
    refine lv_tableIn (off := 221) (tgt := 254) hx hb dL_law_33 (by decide) (by decide) rfl (by decide) ?_
    exact lc_back hC hX hbl hlt hL hcs hR hI hl kk
  | 3, _ =>
    refine lv_tableIn (off := 264) (tgt := 297) hx hb dL_law_33 (by decide) (by decide) rfl (by decide) ?_
    exact lc_pair hC hX hbl hlt hL hcs hR hI hl kk
  | 4, _ =>
    refine lv_tableIn (off := 307) (tgt := 340) hx hb dL_law_33 (by decide) (by decide) rfl (by decide) ?_
    exact lc_worst hC hX hbl hlt hL hcs hR hI hl kk
  | 5, _ =>
    refine lv_tableIn (off := 330) (tgt := 363) hx hb dL_law_33 (by decide) (by decide) rfl (by decide) ?_
    exact lc_way hC hX hbl hlt hL hcs hR hI hl kk
  | 6, _ =>
    refine lv_tableIn (off := 373) (tgt := 406) hx hb dL_law_33 (by decide) (by decide) rfl (by decide) ?_
    exact lc_sea hC hX hbl hlt hL hcs hR hI hl kk
  | 7, _ =>
    refine lv_tableIn (off := 406) (tgt := 439) hx hb dL_law_33 (by decide) (by decide) rfl (by decide) ?_
    exact lc_stop hC hX hbl hlt hL hcs hR hI hl kk
  | 8, _ =>
    refine lv_tableIn (off := 429) (tgt := 462) hx hb dL_law_33 (by decide) (by decide) rfl (by decide) ?_
    exact lc_route hC hX hbl hlt hL hcs hR hI hl kk
  | 9, _ =>
    refine lv_tableIn (off := 452) (tgt := 485) hx hb dL_law_33 (by decide) (by decide) rfl (by decide) ?_
    exact lc_rolled hC hX hbl hlt hL hcs hR hI hl kk
  | 10, _ =>
    refine lv_tableIn (off := 485) (tgt := 518) hx hb dL_law_33 (by decide) (by decide) rfl (by decide) ?_
    exact lc_lost hC hX hbl hlt hL hcs hR hI hl kk
  | 11, _ =>
    refine lv_tableIn (off := 519) (tgt := 552) hx hb dL_law_33 (by decide) (by decide) rfl (by decide) ?_
    exact lc_count hC hX hbl hlt hL hcs hR hI hl kk
  | 12, _ =>
    refine lv_tableIn (off := 542) (tgt := 575) hx hb dL_law_33 (by decide) (by decide) rfl (by decide) ?_
    exact lc_land hC hX hbl hlt hL hcs hR hI hl kk
  | 13, _ =>
    refine lv_tableIn (off := 575) (tgt := 608) hx hb dL_law_33 (by decide) (by decide) rfl (by decide) ?_
    exact lc_tell hC hX hbl hlt hL hcs hR hI hl kk
  | 14, _ =>
    refine lv_tableIn (off := 608) (tgt := 641) hx hb dL_law_33 (by decide) (by decide) rfl (by decide) ?_
    exact lc_add hC hX hbl hlt hL hcs hR hI hl kk
  | 15, _ =>
    refine lv_tableIn (off := 631) (tgt := 664) hx hb dL_law_33 (by decide) (by decide) rfl (by decide) ?_
    exact lc_out hC hX hbl hlt hL hcs hR hI hl kk
  | 16, _ =>
    refine lv_tableIn (off := 654) (tgt := 687) hx hb dL_law_33 (by decide) (by decide) rfl (by decide) ?_
    exact lc_reverse hC hX hbl hlt hL hcs hR hI hl kk
  | 17, _ =>
    refine lv_tableIn (off := 667) (tgt := 700) hx hb dL_law_33 (by decide) (by decide) rfl (by decide) ?_
    exact lc_type hC hX hbl hlt hL hcs hR hI hl kk
  | 18, _ =>
    refine lv_tableIn (off := 690) (tgt := 723) hx hb dL_law_33 (by decide) (by decide) rfl (by decide) ?_
    exact lc_read hC hX hbl hlt hL hcs hR hI hl kk
  | 19, _ =>
    refine lv_tableIn (off := 703) (tgt := 736) hx hb dL_law_33 (by decide) (by decide) rfl (by decide) ?_
    exact lc_drift hC hX hbl hlt hL hcs hR hI hl kk
  | 20, _ =>
    refine lv_tableIn (off := 726) (tgt := 759) hx hb dL_law_33 (by decide) (by decide) rfl (by decide) ?_
    exact lc_undo hC hX hbl hlt hL hcs hR hI hl kk
  | 21, _ =>
    refine lv_tableIn (off := 739) (tgt := 772) hx hb dL_law_33 (by decide) (by decide) rfl (by decide) ?_
    exact lc_seed hC hX hbl hlt hL hcs hR hI hl kk
  | 22, _ =>
    refine lv_tableIn (off := 762) (tgt := 795) hx hb dL_law_33 (by decide) (by decide) rfl (by decide) ?_
    exact lc_image hC hX hbl hlt hL hcs hR hI hl kk
  | 23, _ =>
    refine lv_tableIn (off := 775) (tgt := 808) hx hb dL_law_33 (by decide) (by decide) rfl (by decide) ?_
    exact lc_restore hC hX hbl hlt hL hcs hR hI hl kk
  | 24, _ =>
    refine lv_tableIn (off := 788) (tgt := 821) hx hb dL_law_33 (by decide) (by decide) rfl (by decide) ?_
    exact lc_seen hC hX hbl hlt hL hcs hR hI hl kk
  | 25, _ =>
    refine lv_tableIn (off := 841) (tgt := 874) hx hb dL_law_33 (by decide) (by decide) rfl (by decide) ?_
    exact lc_film hC hX hbl hlt hL hcs hR hI hl kk
  | 26, _ =>
    refine lv_tableIn (off := 894) (tgt := 927) hx hb dL_law_33 (by decide) (by decide) rfl (by decide) ?_
    exact lc_sheet hC hX hbl hlt hL hcs hR hI hl kk
  | 27, _ =>
    refine lv_tableIn (off := 937) (tgt := 970) hx hb dL_law_33 (by decide) (by decide) rfl (by decide) ?_
    exact lc_drop hC hX hbl hlt hL hcs hR hI hl kk
  | 28, _ =>
    refine lv_tableIn (off := 960) (tgt := 993) hx hb dL_law_33 (by decide) (by decide) rfl (by decide) ?_
    exact lc_item hC hX hbl hlt hL hcs hR hI hl kk
  | 29, _ =>
    refine lv_tableIn (off := 1043) (tgt := 1076) hx hb dL_law_33 (by decide) (by decide) rfl (by decide) ?_
    exact lc_copy hC hX hbl hlt hL hcs hR hI hl kk
  | 30, _ =>
    refine lv_tableOut (tgt := 1139) hx hb dL_law_33 (by decide) (by decide) ?_
    exact kk _ _ _ _ _ _ _ _ _ _ _ _ _ _ _ _ _ _ _ _ _ _ _ _ _ _ _ _ _ _ _ _ _ _ _ _ _ _ _ _ _ _ _ _ _ _ _ _ _ _ _ _ _ _ _ _ _ ls H locs hR hI hl
  | 31, _ =>
    refine lv_tableOut (tgt := 1139) hx hb dL_law_33 (by decide) (by decide) ?_
    exact kk _ _ _ _ _ _ _ _ _ _ _ _ _ _ _ _ _ _ _ _ _ _ _ _ _ _ _ _ _ _ _ _ _ _ _ _ _ _ _ _ _ _ _ _ _ _ _ _ _ _ _ _ _ _ _ _ _ ls H locs hR hI hl
  | z + 32, hz => exact absurd hz (by omega)
set_option maxHeartbeats 4000000 in
set_option maxRecDepth 100000 in
theorem law_loop {p : Program} {l : Launch} {e : Env} {s : State} {m : MethodId} {below : List Frame} {meth : Method} {c : Code} {D : va_G} {K : Nat → ClassId} {q h : Nat → Nat} {b L : Nat} {xs : Nat → Int32} (hr : meth.sig.returnType = ret) (hlocks : meth.locks = false) (hC : Cx p s m #[Value.ref b] c cL_law 4 RL wsL_law D K (fun z : Nat => s.heap.size ≤ z)) (hX : va_X b L xs s s.heap) (hbl : b < s.heap.size) (hL : L ≤ 3072) : ∀ (n k : Nat), L + 6 ≤ k + 6 * n → k ≤ L + 5 → ∀ (bits : Nat → Int64) (stops : Nat → Int32) (num : Int32) (unit : Int32) (strips : Int32) (caps : Int32) (draw : Int32) (oldest : Int32) (known : Int32) (ring : Nat → GS) (im : GS) (iold : Int32) (iknown : Int32) (iring : Nat → GS) (hasIm : Int32) (letters : Nat → Int32) (tbits : Nat → Int64) (tlen : Int32) (tat : Int32) (fig : Int32) (shI : Nat → Nat → Int64) (shH : Nat → Int32) (shL : Nat → Int32) (shS : Nat → Int32) (seaOf : Nat → Int32) (queue : Nat → Int32) (snum : Int32) (cost : Nat → Int32) (heap : Nat → Int64) (wait : Int32) (off : Int32) (les : Int32) (gre : Int32) (abv : Int64) (blw : Int64) (needed : Int32) (ocut : Int32) (opole : Int32) (st : Nat → Int32) (past : Nat → Int32) (acts : Int32) (image : Nat → Int32) (ipast : Nat → Int32) (iacts : Int32) (tape : Nat → Int32) (tmany : Int32) (laneOf : Nat → Int32) (sizeOf : Nat → Int32) (items : Nat → Int64) (seaFirst : Nat → Int32) (worstOf : Nat → Int32) (farTo : Nat → Int32) (stepsTo : Nat → Int32) (needs : Nat → Int32) (nmany : Int32) (mat : Int32) (told : Nat → Int32) (ls : Array Slot) (H : Heap) (locs : List Loc), Rel bits stops num unit strips caps draw oldest known ring im iold iknown iring hasIm letters tlen shI shH shL shS st past acts image ipast iacts tape tmany laneOf sizeOf items → wI s D (fun z : Nat => s.heap.size ≤ z) (fl (lX K q bits stops num unit strips caps draw oldest known ring im iold iknown iring hasIm letters tbits tlen tat fig shI shH shL shS seaOf queue snum cost heap wait off les gre abv blw needed ocut opole ++ [wMo K h st past acts image ipast iacts tape tmany laneOf sizeOf items seaFirst worstOf farTo stepsTo needs nmany mat told])) H locs → lv_has ls 4 [(0, .ref b), (1, .ref (q 0)), (2, .ref (h 0)), (3, .int (nI k))] → W p l e room_1 s m #[Value.ref b] below meth c H locs 82 7702 (lw_Z below #[Value.ref b] s) (F0 m 18 ls []) := by
  have hbA : ¬ (s.heap.size ≤ b) := Nat.not_le.mpr hbl
  obtain ⟨hx, hb, hml, hown, hts, hK, hA, hZ⟩ := id hC
  intro n
  induction n with
  | zero => intro k h1 h2; exact absurd h1 (by omega)
  | succ n ih =>
    intro k h1 h2 bits stops num unit strips caps draw oldest known ring im iold iknown iring hasIm letters tbits tlen tat fig shI shH shL shS seaOf queue snum cost heap wait off les gre abv blw needed ocut opole st past acts image ipast iacts tape tmany laneOf sizeOf items seaFirst worstOf farTo stepsTo needs nmany mat told ls H locs hR hI hl
    refine lv_iload_n hx hb dL_law_18 rfl (lv_at hl 3 rfl) ?_
    refine lv_aload_n hx hb dL_law_19 rfl (lv_at hl 0 rfl) ?_
    refine va_slen hx hb hX hbl hbA hI.2.2 dL_law_20 ?_
    refine lv_bipush (v := (6 : Int32)) hx hb dL_law_21 (by decide) ?_
    refine lv_isub hx hb dL_law_23 ?_
    refine lv_icmp_gt (tgt := 1145) hx hb dL_law_24 (by decide) (fun c1 => ?_) (fun c1 => ?_)
    · refine lv_iconst (v := (1 : Int32)) hx hb dL_law_1145 (by decide) ?_
      refine va_forget (fun q hq => hI.2.2.2.2 q hq) ?_
      refine W.widen (k := 600000) (n := 7302250) (Nat.le_of_ble_eq_true rfl) (Nat.le_of_ble_eq_true rfl) ?_
      exact lw_ret hx hb hr hlocks dL_law_1146
    · have hlt := lw_more hL (by omega) c1
      refine lv_aload_n hx hb dL_law_27 rfl (lv_at hl 0 rfl) ?_
      refine lv_iload_n hx hb dL_law_28 rfl (lv_at hl 3 rfl) ?_
      refine va_sld hx hb hX hbl hbA hI.2.2 (vp_in_nI (by omega) (by omega)) dL_law_29 ?_
      refine lv_bipush (v := (31 : Int32)) hx hb dL_law_30 (by decide) ?_
      refine lv_iand hx hb dL_law_32 ?_
      obtain ⟨j, hj, ej⟩ := pk_andE (xs (nI k).toNatClampNeg) (m := 31) 5 (by decide)
      rw [ej]
      refine lw_switch hC hX hbl hlt hL ⟨Nat.le_of_ble_eq_true rfl, Nat.le_of_ble_eq_true rfl⟩ hR hI hl ?_ j hj
      intro bits stops num unit strips caps draw oldest known ring im iold iknown iring hasIm letters tbits tlen tat fig shI shH shL shS seaOf queue snum cost heap wait off les gre abv blw needed ocut opole st past acts image ipast iacts tape tmany laneOf sizeOf items seaFirst worstOf farTo stepsTo needs nmany mat told ls H locs hR hI hl
      refine lv_iinc (v := nI (k + 6)) (lv' := [(3, .int (nI (k + 6))), (0, .ref b), (1, .ref (q 0)), (2, .ref (h 0))]) hx hb dL_law_1139 hl (k := 3) rfl (by rw [← nI_add]; rfl) (by decide) rfl (fun ls hl => ?_)
      refine lv_goto (tgt := 18) hx hb dL_law_1142 (by decide) ?_
      exact ih (k + 6) (by omega) (by omega) _ _ _ _ _ _ _ _ _ _ _ _ _ _ _ _ _ _ _ _ _ _ _ _ _ _ _ _ _ _ _ _ _ _ _ _ _ _ _ _ _ _ _ _ _ _ _ _ _ _ _ _ _ _ _ _ _ ls H locs hR hI (lv_sub hl [1, 2, 3, 0] rfl)
