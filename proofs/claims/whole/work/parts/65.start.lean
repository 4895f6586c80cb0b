theorem zs_sines {b : Nat} {s : State} (hgv : (Jvm.Cond.and given_1 narrow_1).before #[Value.ref b] s = true) : ∀ j : Nat, j < 24 → (Term.elem (.static "GoreGlobe$Grid" "SINES" "[I") (.int (Int32.ofNat j))).eval #[Value.ref b] s none [] s = some (.int (sinesF j)) := by
  have hs := flat_of_before _ hgv
  intro j hj
  match j, hj with
  | 0, _ => exact va_eqt (hs (.eq (.elem (.static "GoreGlobe$Grid" "SINES" "[I") (.int (0 : Int32))) (.int (0 : Int32))) (by decide +kernel))
  | 1, _ => exact va_eqt (hs (.eq (.elem (.static "GoreGlobe$Grid" "SINES" "[I") (.int (1 : Int32))) (.int (2588 : Int32))) (by decide +kernel))
  | 2, _ => exact va_eqt (hs (.eq (.elem (.static "GoreGlobe$Grid" "SINES" "[I") (.int (2 : Int32))) (.int (5000 : Int32))) (by decide +kernel))
  | 3, _ => exact va_eqt (hs (.eq (.elem (.static "GoreGlobe$Grid" "SINES" "[I") (.int (3 : Int32))) (.int (7071 : Int32))) (by decide +kernel))
  | 4, _ => exact va_eqt (hs (.eq (.elem (.static "GoreGlobe$Grid" "SINES" "[I") (.int (4 : Int32))) (.int (8660 : Int32))) (by decide +kernel))
  | 5, _ => exact va_eqt (hs (.eq (.elem (.static "GoreGlobe$Grid" "SINES" "[I") (.int (5 : Int32))) (.int (9659 : Int32))) (by decide +kernel))
  | 6, _ => exact va_eqt (hs (.eq (.elem (.static "GoreGlobe$Grid" "SINES" "[I") (.int (6 : Int32))) (.int (10000 : Int32))) (by decide +kernel))
  | 7, _ => exact va_eqt (hs (.eq (.elem (.static "GoreGlobe$Grid" "SINES" "[I") (.int (7 : Int32))) (.int (9659 : Int32))) (by decide +kernel))
  | 8, _ => exact va_eqt (hs (.eq (.elem (.static "GoreGlobe$Grid" "SINES" "[I") (.int (8 : Int32))) (.int (8660 : Int32))) (by decide +kernel))
  | 9, _ => exact va_eqt (hs (.eq (.elem (.static "GoreGlobe$Grid" "SINES" "[I") (.int (9 : Int32))) (.int (7071 : Int32))) (by decide +kernel))
  | 10, _ => exact va_eqt (hs (.eq (.elem (.static "GoreGlobe$Grid" "SINES" "[I") (.int (10 : Int32))) (.int (5000 : Int32))) (by decide +kernel))
  | 11, _ => exact va_eqt (hs (.eq (.elem (.static "GoreGlobe$Grid" "SINES" "[I") (.int (11 : Int32))) (.int (2588 : Int32))) (by decide +kernel))
  | 12, _ => exact va_eqt (hs (.eq (.elem (.static "GoreGlobe$Grid" "SINES" "[I") (.int (12 : Int32))) (.int (0 : Int32))) (by decide +kernel))
  | 13, _ => exact va_eqt (hs (.eq (.elem (.static "GoreGlobe$Grid" "SINES" "[I") (.int (13 : Int32))) (.int (-2588 : Int32))) (by decide +kernel))
  | 14, _ => exact va_eqt (hs (.eq (.elem (.static "GoreGlobe$Grid" "SINES" "[I") (.int (14 : Int32))) (.int (-5000 : Int32))) (by decide +kernel))
  | 15, _ => exact va_eqt (hs (.eq (.elem (.static "GoreGlobe$Grid" "SINES" "[I") (.int (15 : Int32))) (.int (-7071 : Int32))) (by decide +kernel))
  | 16, _ => exact va_eqt (hs (.eq (.elem (.static "GoreGlobe$Grid" "SINES" "[I") (.int (16 : Int32))) (.int (-8660 : Int32))) (by decide +kernel))
  | 17, _ => exact va_eqt (hs (.eq (.elem (.static "GoreGlobe$Grid" "SINES" "[I") (.int (17 : Int32))) (.int (-9659 : Int32))) (by decide +kernel))
  | 18, _ => exact va_eqt (hs (.eq (.elem (.static "GoreGlobe$Grid" "SINES" "[I") (.int (18 : Int32))) (.int (-10000 : Int32))) (by decide +kernel))
  | 19, _ => exact va_eqt (hs (.eq (.elem (.static "GoreGlobe$Grid" "SINES" "[I") (.int (19 : Int32))) (.int (-9659 : Int32))) (by decide +kernel))
  | 20, _ => exact va_eqt (hs (.eq (.elem (.static "GoreGlobe$Grid" "SINES" "[I") (.int (20 : Int32))) (.int (-8660 : Int32))) (by decide +kernel))
  | 21, _ => exact va_eqt (hs (.eq (.elem (.static "GoreGlobe$Grid" "SINES" "[I") (.int (21 : Int32))) (.int (-7071 : Int32))) (by decide +kernel))
  | 22, _ => exact va_eqt (hs (.eq (.elem (.static "GoreGlobe$Grid" "SINES" "[I") (.int (22 : Int32))) (.int (-5000 : Int32))) (by decide +kernel))
  | 23, _ => exact va_eqt (hs (.eq (.elem (.static "GoreGlobe$Grid" "SINES" "[I") (.int (23 : Int32))) (.int (-2588 : Int32))) (by decide +kernel))
  | z + 24, hz => exact absurd hz (by omega)
theorem zs_strips {b : Nat} {s : State} (hgv : (Jvm.Cond.and given_1 narrow_1).before #[Value.ref b] s = true) : ∀ j : Nat, j < 6 → (Term.elem (.static "GoreGlobe" "STRIP_NUMBERS" "[I") (.int (Int32.ofNat j))).eval #[Value.ref b] s none [] s = some (.int (stripsF j)) := by
  have hs := flat_of_before _ hgv
  intro j hj
  match j, hj with
  | 0, _ => exact va_eqt (hs (.eq (.elem (.static "GoreGlobe" "STRIP_NUMBERS" "[I") (.int (0 : Int32))) (.int (2 : Int32))) (by decide +kernel))
  | 1, _ => exact va_eqt (hs (.eq (.elem (.static "GoreGlobe" "STRIP_NUMBERS" "[I") (.int (1 : Int32))) (.int (3 : Int32))) (by decide +kernel))
  | 2, _ => exact va_eqt (hs (.eq (.elem (.static "GoreGlobe" "STRIP_NUMBERS" "[I") (.int (2 : Int32))) (.int (4 : Int32))) (by decide +kernel))
  | 3, _ => exact va_eqt (hs (.eq (.elem (.static "GoreGlobe" "STRIP_NUMBERS" "[I") (.int (3 : Int32))) (.int (6 : Int32))) (by decide +kernel))
  | 4, _ => exact va_eqt (hs (.eq (.elem (.static "GoreGlobe" "STRIP_NUMBERS" "[I") (.int (4 : Int32))) (.int (8 : Int32))) (by decide +kernel))
  | 5, _ => exact va_eqt (hs (.eq (.elem (.static "GoreGlobe" "STRIP_NUMBERS" "[I") (.int (5 : Int32))) (.int (12 : Int32))) (by decide +kernel))
  | z + 6, hz => exact absurd hz (by omega)
theorem zs_all {b : Nat} {s : State} (hgv : (Jvm.Cond.and given_1 narrow_1).before #[Value.ref b] s = true) (hts : ∀ w ∈ lw_tbl, w.before #[Value.ref b] s = true) : cxZ (fun z : Nat => s.heap.size ≤ z) s s.heap := by
  have hs := flat_of_before _ hgv
  have hA : ∀ a : Nat, a < s.heap.size → ¬ (s.heap.size ≤ a) := fun a h => Nat.not_le.mpr h
  constructor
  · obtain ⟨t, ht, hT⟩ := va_Tof (tm := .static "GoreGlobe$Grid" "SINES" "[I") (ty := .int) (N := 24) (f := fun j => .int (sinesF j)) (A := fun z : Nat => s.heap.size ≤ z) (by omega) (hs _ (by decide +kernel)) (va_eqt (hs (.eq (.length (.static "GoreGlobe$Grid" "SINES" "[I")) (.int (24 : Int32))) (by decide +kernel))) (zs_sines hgv) hA
    exact ⟨t, va_Zof (hts (.laysStatic "GoreGlobe$Grid" "SINES" "[I") (by decide +kernel)) (hts (.initialized "GoreGlobe$Grid") (by decide +kernel)) ht hA, hT⟩
  · obtain ⟨t, ht, hT⟩ := va_Tof (tm := .static "GoreGlobe" "STRIP_NUMBERS" "[I") (ty := .int) (N := 6) (f := fun j => .int (stripsF j)) (A := fun z : Nat => s.heap.size ≤ z) (by omega) (hs _ (by decide +kernel)) (va_eqt (hs (.eq (.length (.static "GoreGlobe" "STRIP_NUMBERS" "[I")) (.int (6 : Int32))) (by decide +kernel))) (zs_strips hgv) hA
    exact ⟨t, va_Zof (hts (.laysStatic "GoreGlobe" "STRIP_NUMBERS" "[I") (by decide +kernel)) (hts (.initialized "GoreGlobe") (by decide +kernel)) ht hA, hT⟩
theorem iw_X0 : Cond.instantiable RX0 7 ∈ lw_tbl := by decide +kernel
theorem iw_X2 : Cond.instantiable RX2 5 ∈ lw_tbl := by decide +kernel
theorem iw_X4 : Cond.instantiable RX4 3 ∈ lw_tbl := by decide +kernel
theorem iw_X5 : Cond.instantiable RX5 3 ∈ lw_tbl := by decide +kernel
theorem iw_X6 : Cond.instantiable RX6 4 ∈ lw_tbl := by decide +kernel
theorem iw_X7 : Cond.instantiable RX7 5 ∈ lw_tbl := by decide +kernel
theorem iw_X8 : Cond.instantiable RX8 3 ∈ lw_tbl := by decide +kernel
theorem iw_X9 : Cond.instantiable RX9 3 ∈ lw_tbl := by decide +kernel
theorem iw_X10 : Cond.instantiable RX10 11 ∈ lw_tbl := by decide +kernel
theorem iw_X11 : Cond.instantiable RX11 19 ∈ lw_tbl := by decide +kernel
theorem iw_aI : Cond.arrayClass .int ∈ lw_tbl := by decide +kernel
theorem iw_aJ : Cond.arrayClass .long ∈ lw_tbl := by decide +kernel
theorem iw_oG : Cond.arrayOver (.object "GoreGlobe$Globe") ∈ lw_tbl := by decide +kernel
theorem iw_oS : Cond.arrayOver (.object "GoreGlobe$Sheet") ∈ lw_tbl := by decide +kernel
theorem iw_nRX4_15 : Cond.methodLinkNest RX4 15 yX0_init "GoreGlobe" ∈ lw_tbl := by decide +kernel
theorem iw_nRX10_9 : Cond.methodLinkNest RX10 9 yX0_init "GoreGlobe" ∈ lw_tbl := by decide +kernel
theorem iw_nRX10_31 : Cond.methodLinkNest RX10 31 yX7_init "GoreGlobe" ∈ lw_tbl := by decide +kernel
theorem iw_nRX10_44 : Cond.methodLinkNest RX10 44 yX5_init "GoreGlobe" ∈ lw_tbl := by decide +kernel
theorem iw_nRX10_51 : Cond.methodLinkNest RX10 51 yX8_init "GoreGlobe" ∈ lw_tbl := by decide +kernel
theorem iw_nRX10_58 : Cond.methodLinkNest RX10 58 yX9_init "GoreGlobe" ∈ lw_tbl := by decide +kernel
theorem iw_nRX10_65 : Cond.methodLinkNest RX10 65 yX2_init "GoreGlobe" ∈ lw_tbl := by decide +kernel
theorem iw_nRX10_70 : Cond.methodLinkNest RX10 70 yX6_init "GoreGlobe" ∈ lw_tbl := by decide +kernel
theorem xtra_start {b : Nat} {s : State} (hts : ∀ w ∈ lw_tbl, w.before #[Value.ref b] s = true) : xtra s := ⟨va_Nw.of rfl (hts _ iw_nRX4_15), va_Nw.of rfl (hts _ iw_nRX10_9), va_Nw.of rfl (hts _ iw_nRX10_31), va_Nw.of rfl (hts _ iw_nRX10_44), va_Nw.of rfl (hts _ iw_nRX10_51), va_Nw.of rfl (hts _ iw_nRX10_58), va_Nw.of rfl (hts _ iw_nRX10_65), va_Nw.of rfl (hts _ iw_nRX10_70), va_AO.of (hts _ iw_oG), va_AO.of (hts _ iw_oS)⟩
theorem known_start {b : Nat} {s : State} (hts : ∀ w ∈ lw_tbl, w.before #[Value.ref b] s = true) : ∃ (D : va_G) (K : Nat → ClassId), va_K D vwCl (tyl K) s := by
  obtain ⟨c0, i0, h0⟩ := u_known (C := RX0) (T := TX0) (N := 7) (n := 7) hts inX0 (hts _ iw_X0)
  obtain ⟨c1, i1, h1⟩ := u_known (C := RX2) (T := TX2) (N := 5) (n := 5) hts inX2 (hts _ iw_X2)
  obtain ⟨c2, i2, h2⟩ := u_known (C := RX4) (T := TX4) (N := 3) (n := 3) hts inX4 (hts _ iw_X4)
  obtain ⟨c3, i3, h3⟩ := u_known (C := RX5) (T := TX5) (N := 3) (n := 3) hts inX5 (hts _ iw_X5)
  obtain ⟨c4, i4, h4⟩ := u_known (C := RX6) (T := TX6) (N := 4) (n := 4) hts inX6 (hts _ iw_X6)
  obtain ⟨c5, i5, h5⟩ := u_known (C := RX7) (T := TX7) (N := 5) (n := 5) hts inX7 (hts _ iw_X7)
  obtain ⟨c6, i6, h6⟩ := u_known (C := RX8) (T := TX8) (N := 3) (n := 3) hts inX8 (hts _ iw_X8)
  obtain ⟨c7, i7, h7⟩ := u_known (C := RX9) (T := TX9) (N := 3) (n := 3) hts inX9 (hts _ iw_X9)
  obtain ⟨c8, i8, h8⟩ := u_known (C := RX10) (T := TX10) (N := 11) (n := 11) hts inX10 (hts _ iw_X10)
  obtain ⟨c9, i9, h9⟩ := u_known (C := RX11) (T := TX11) (N := 19) (n := 19) hts inX11 (hts _ iw_X11)
  obtain ⟨kI, cI, pI, aI1, aI2, aI3⟩ := Cond.arrayClass_spec (hts _ iw_aI)
  obtain ⟨kJ, cJ, pJ, aJ1, aJ2, aJ3⟩ := Cond.arrayClass_spec (hts _ iw_aJ)
  obtain ⟨oG, kG, cG, bG1, bG2, bG3, bG4, bG5⟩ := Cond.arrayOver_spec (hts _ iw_oG)
  obtain ⟨oS, kS, cS, bS1, bS2, bS3, bS4, bS5⟩ := Cond.arrayOver_spec (hts _ iw_oS)
  refine ⟨(fun k => ([c0, c1, c2, c3, c4, c5, c6, c7, c8, c9] : List ClassId).getD k c0, fun k => ([i0, i1, i2, i3, i4, i5, i6, i7, i8, i9] : List (Nat → Nat)).getD k i0), fun k => ([kI, kJ, kG, kS] : List ClassId).getD k kI, fun k q hq => ?_, fun k q hq => ?_⟩
  · match k, hq with
    | 0, hq => cases hq; exact h0
    | 1, hq => cases hq; exact h1
    | 2, hq => cases hq; exact h2
    | 3, hq => cases hq; exact h3
    | 4, hq => cases hq; exact h4
    | 5, hq => cases hq; exact h5
    | 6, hq => cases hq; exact h6
    | 7, hq => cases hq; exact h7
    | 8, hq => cases hq; exact h8
    | 9, hq => cases hq; exact h9
    | z + 10, hq => exact absurd hq (by simp)
  · match k, hq with
    | 0, hq => cases hq; exact ⟨fun n z => ⟨fun k h => (by cases h), cI, aI2, pI, aI3⟩, aI1⟩
    | 1, hq => cases hq; exact ⟨fun n z => ⟨fun k h => (by cases h), cJ, aJ2, pJ, aJ3⟩, aJ1⟩
    | 2, hq => cases hq; exact ⟨fun n z => ⟨fun k h => (by cases h), cG, bG3, oG, bG4⟩, cG, oG, bG3, bG4, bG1, bG5⟩
    | 3, hq => cases hq; exact ⟨fun n z => ⟨fun k h => (by cases h), cS, bS3, oS, bS4⟩, cS, oS, bS3, bS4, bS1, bS5⟩
    | z + 4, hq => exact absurd hq (by simp [tyl])
def msn : Nat → Int32 := (upd (upd (upd (upd (fun _ => 0) 266 (60 : Int32)) 267 (12 : Int32)) 268 (1 : Int32)) 278 (1 : Int32))
theorem wl_cx : Cond.classLink RL 7 RX10 ∈ wsL_law := by decide +kernel
theorem wl_cm : Cond.classLink RL 10 RX11 ∈ wsL_law := by decide +kernel
theorem wl_ix : Cond.instantiable RX10 11 ∈ wsL_law := by decide +kernel
theorem wl_im : Cond.instantiable RX11 19 ∈ wsL_law := by decide +kernel
theorem wl_zx : Cond.initialized RX10 ∈ wsL_law := by decide +kernel
theorem wl_zm : Cond.initialized RX11 ∈ wsL_law := by decide +kernel
theorem wl_lx : Cond.methodLink RL 9 yX10_init ∈ wsL_law := by decide +kernel
theorem wl_lm : Cond.methodLink RL 12 yX11_init ∈ wsL_law := by decide +kernel
theorem wl_nx : Cond.instanceMethod yX10_init ∈ wsL_law := by decide +kernel
theorem wl_nm : Cond.instanceMethod yX11_init ∈ wsL_law := by decide +kernel
set_option maxHeartbeats 4000000 in
set_option maxRecDepth 100000 in
theorem whole_start {p : Program} {e : Env} {s : State} {m : MethodId} {below : List Frame} {meth : Method} {c : Code} (l : Launch) (hflags : l.flags = flags0) {b L : Nat} {xs : Nat → Int32} (hL : L ≤ 3072) (C0 : lw_At p s m meth c b L xs) : W p l e room_1 s m #[Value.ref b] below meth c s.heap [] 0 0 (lw_Z below #[Value.ref b] s) (entryFrame m ([Value.ref b] : List Value).toArray 4) := by
  obtain ⟨hx, hb, hr, hml, hown, hts0, hX0, hbl, hlocks, hgv⟩ := id C0
  have hts : ∀ w ∈ wsL_law, w.before #[Value.ref b] s = true := fun w h => hts0 w (wsL_law_in w h)
  obtain ⟨D, K, hK⟩ := known_start hts0
  have hZ := zs_all hgv hts0
  have hX := xtra_start hts0
  have hA : ∀ q : Nat, s.heap.size ≤ q → (fun z : Nat => s.heap.size ≤ z) q := fun _ h => h
  have hC : Cx p s m #[Value.ref b] c cL_law 4 RL wsL_law D K (fun z : Nat => s.heap.size ≤ z) := ⟨hx, hb, hml, hown, hts, hK, hA, hZ⟩
  obtain ⟨H, hH⟩ : ∃ H : Heap, H = s.heap := ⟨_, rfl⟩
  have hI : wI s D (fun z : Nat => s.heap.size ≤ z) (fl []) H [] := by
    rw [hH]
    exact ⟨fun k q h => by simp at h, ⟨fun i j p q h => by simp at h, fun k q h => by simp at h⟩, va_S.rf⟩
  rw [← hH]
  clear hH
  obtain ⟨locs, hlocs⟩ : ∃ y : List Loc, y = [] := ⟨_, rfl⟩
  rw [← hlocs] at hI ⊢
  clear hlocs
  have hl := lv_entry ([.ref b]) (n := 4) (Nat.le_of_ble_eq_true rfl)
  rw [lg_entry_eq]
  generalize (lg_sl ([.ref b]) ++ List.replicate (4 - (lg_sl ([.ref b])).length) Slot.unset).toArray = ls at hl ⊢
  have hl : lv_has ls 4 [(0, .ref b)] := hl
  refine x_new (ci := 8) (fs := [.null, .null, .null, .null, .int 0, .null, .null, .null, .null, .null, .null]) hC hI (fun w h => inlX10 w h) tyX10 tyX10_ok wl_cx wl_ix wl_zx rfl (fun j hj => by rcases (show j = 0 ∨ j = 1 ∨ j = 2 ∨ j = 3 ∨ j = 4 ∨ j = 5 ∨ j = 6 ∨ j = 7 ∨ j = 8 ∨ j = 9 ∨ j = 10 by omega) with rfl | rfl | rfl | rfl | rfl | rfl | rfl | rfl | rfl | rfl | rfl <;> rfl) (Nat.le_of_ble_eq_true rfl) (Nat.le_of_ble_eq_true rfl) dL_law_0 (fun q0 H hI => ?_)
  refine W.widen (k := 1) (n := 11) (Nat.le_of_ble_eq_true rfl) (Nat.le_of_ble_eq_true rfl) ?_
  have hI : wI s D (fun z : Nat => s.heap.size ≤ z) (fl [[(q0, .inr (8, [.null, .null, .null, .null, .int 0, .null, .null, .null, .null, .null, .null]))]]) H locs := hI
  refine lv_dup hx hb dL_law_3 rfl ?_
  refine x_callI (rest := [.ref q0]) hC hX hI [0] (iX10 l D K q0 _) (cwI 0 hts gL_law_X10_init rfl rfl rfl (hts _ wl_zx) (hts _ wl_lx) (hts _ wl_nx) rfl (by decide +kernel) ⟨Nat.le_of_ble_eq_true rfl, Nat.le_of_ble_eq_true rfl⟩) (by decide) rfl (fun _ => rfl) rfl hl.1 rfl (Nat.le_of_ble_eq_true rfl) dL_law_4 ⟨Nat.le_of_ble_eq_true rfl, Nat.le_of_ble_eq_true rfl⟩ (fun q H locs hw hI => ?_)
  subst hw
  refine W.widen (k := 67) (n := 2466) (Nat.le_of_ble_eq_true rfl) (Nat.le_of_ble_eq_true rfl) ?_
  have hI : wI s D (fun z : Nat => s.heap.size ≤ z) (fl [fl (lX K q (fun _ => 0) (fun _ => 0) 0 60 12 1 1 0 0 (fun _ => gs0) gs0 0 0 (fun _ => gs0) 0 (fun _ => 0) (fun _ => 0) 0 0 0 (fun _ _ => 0) (fun _ => 0) (fun _ => 0) (fun _ => 0) (fun _ => 0) (fun _ => 0) 0 (fun _ => 0) (fun _ => 0) 0 0 0 0 0 0 0 0 0)]) H locs := hI
  refine lv_astore_n (lv' := [(1, .ref (q 0)), (0, .ref b)]) hx hb dL_law_7 rfl hl (by decide) rfl (fun ls hl => ?_)
  refine x_new (ci := 9) (fs := [.null, .null, .int 0, .null, .null, .int 0, .null, .int 0, .null, .null, .null, .null, .null, .null, .null, .null, .int 0, .int 0, .null]) hC hI (fun w h => inlX11 w h) tyX11 tyX11_ok wl_cm wl_im wl_zm rfl (fun j hj => by rcases (show j = 0 ∨ j = 1 ∨ j = 2 ∨ j = 3 ∨ j = 4 ∨ j = 5 ∨ j = 6 ∨ j = 7 ∨ j = 8 ∨ j = 9 ∨ j = 10 ∨ j = 11 ∨ j = 12 ∨ j = 13 ∨ j = 14 ∨ j = 15 ∨ j = 16 ∨ j = 17 ∨ j = 18 by omega) with rfl | rfl | rfl | rfl | rfl | rfl | rfl | rfl | rfl | rfl | rfl | rfl | rfl | rfl | rfl | rfl | rfl | rfl | rfl <;> rfl) (Nat.le_of_ble_eq_true rfl) (Nat.le_of_ble_eq_true rfl) dL_law_8 (fun h0 H hI => ?_)
  refine W.widen (k := 68) (n := 2485) (Nat.le_of_ble_eq_true rfl) (Nat.le_of_ble_eq_true rfl) ?_
  have hI : wI s D (fun z : Nat => s.heap.size ≤ z) (fl [fl (lX K q (fun _ => 0) (fun _ => 0) 0 60 12 1 1 0 0 (fun _ => gs0) gs0 0 0 (fun _ => gs0) 0 (fun _ => 0) (fun _ => 0) 0 0 0 (fun _ _ => 0) (fun _ => 0) (fun _ => 0) (fun _ => 0) (fun _ => 0) (fun _ => 0) 0 (fun _ => 0) (fun _ => 0) 0 0 0 0 0 0 0 0 0), [(h0, .inr (9, [.null, .null, .int 0, .null, .null, .int 0, .null, .int 0, .null, .null, .null, .null, .null, .null, .null, .null, .int 0, .int 0, .null]))]]) H locs := hI
  refine lv_dup hx hb dL_law_11 rfl ?_
  refine x_callI (rest := [.ref h0]) hC hX hI [1] (iX11 l D K h0 _) (cwI 0 hts gL_law_X11_init rfl rfl rfl (hts _ wl_zm) (hts _ wl_lm) (hts _ wl_nm) rfl (by decide +kernel) ⟨Nat.le_of_ble_eq_true rfl, Nat.le_of_ble_eq_true rfl⟩) (by decide) rfl (fun _ => rfl) rfl hl.1 rfl (Nat.le_of_ble_eq_true rfl) dL_law_12 ⟨Nat.le_of_ble_eq_true rfl, Nat.le_of_ble_eq_true rfl⟩ (fun h H locs hw hI => ?_)
  subst hw
  refine W.widen (k := 82) (n := 7702) (Nat.le_of_ble_eq_true rfl) (Nat.le_of_ble_eq_true rfl) ?_
  have hI : wI s D (fun z : Nat => s.heap.size ≤ z) (fl [fl (lX K q (fun _ => 0) (fun _ => 0) 0 60 12 1 1 0 0 (fun _ => gs0) gs0 0 0 (fun _ => gs0) 0 (fun _ => 0) (fun _ => 0) 0 0 0 (fun _ _ => 0) (fun _ => 0) (fun _ => 0) (fun _ => 0) (fun _ => 0) (fun _ => 0) 0 (fun _ => 0) (fun _ => 0) 0 0 0 0 0 0 0 0 0), wMo K h (upd (upd (upd (upd (fun _ => 0) 266 (60 : Int32)) 267 (12 : Int32)) 268 (1 : Int32)) 278 (1 : Int32)) (fun _ => 0) 0 (fun _ => 0) (fun _ => 0) (-1 : Int32) (fun _ => 0) 0 (upd (upd (upd (upd (fun _ => 0) 0 (-4 : Int32)) 1 (-4 : Int32)) 2 (-4 : Int32)) 3 (-4 : Int32)) (fun _ => 0) (fun _ => 0) (fun _ => 0) (fun _ => 0) (fun _ => 0) (fun _ => 0) (fun _ => 0) 0 0 (fun _ => 0)]) H locs := hI
  have eW : ∀ (A : List va_W) (B : va_W), fl [fl A, B] = fl (A ++ [B]) := fun A B => by
    show A.flatten ++ (B ++ []) = (A ++ [B]).flatten
    rw [List.flatten_append]
    rfl
  rw [eW] at hI
  refine lv_astore_n (lv' := [(2, .ref (h 0)), (1, .ref (q 0)), (0, .ref b)]) hx hb dL_law_15 rfl hl (by decide) rfl (fun ls hl => ?_)
  refine lv_iconst (v := (0 : Int32)) hx hb dL_law_16 (by decide) ?_
  refine lv_istore_n (lv' := [(3, .int (0 : Int32)), (2, .ref (h 0)), (1, .ref (q 0)), (0, .ref b)]) hx hb dL_law_17 rfl hl (by decide) rfl (fun ls hl => ?_)
  exact law_loop hr hlocks hC hX0 hbl hL (L + 1) 0 (by omega) (by omega) _ _ _ _ _ _ _ _ _ _ _ _ _ _ _ _ _ _ _ _ _ _ _ _ _ _ _ _ _ _ _ _ _ _ _ _ _ _ _ _ _ _ _ _ _ _ _ _ _ _ _ _ _ _ _ _ _ ls H locs rel_start hI (lv_sub hl [3, 2, 1, 0] rfl)
