/-! ===== what constructors need: new cells ===== -/
/-- links to a nest mate's constructor, and the classes of arrays of objects -/
def xtra (U : State) : Prop := va_Nw (.methodLinkNest RX4 15 yX0_init "GoreGlobe") U ∧ va_Nw (.methodLinkNest RX10 9 yX0_init "GoreGlobe") U ∧ va_Nw (.methodLinkNest RX10 31 yX7_init "GoreGlobe") U ∧ va_Nw (.methodLinkNest RX10 44 yX5_init "GoreGlobe") U ∧ va_Nw (.methodLinkNest RX10 51 yX8_init "GoreGlobe") U ∧ va_Nw (.methodLinkNest RX10 58 yX9_init "GoreGlobe") U ∧ va_Nw (.methodLinkNest RX10 65 yX2_init "GoreGlobe") U ∧ va_Nw (.methodLinkNest RX10 70 yX6_init "GoreGlobe") U ∧ va_AO "GoreGlobe$Globe" U ∧ va_AO "GoreGlobe$Sheet" U
theorem xtra.warm {s U : State} (hW : s.WarmedH U.vm) (h : xtra s) : xtra U := by
  obtain ⟨h1, h2, h3, h4, h5, h6, h7, h8, h9, h10⟩ := h
  exact ⟨h1.warmM hW, h2.warmM hW, h3.warmM hW, h4.warmM hW, h5.warmM hW, h6.warmM hW, h7.warmM hW, h8.warmM hW, h9.moved hW.alike, h10.moved hW.alike⟩
theorem xtra.same {u U : State} (hv : u.vm = U.vm) (h : xtra u) : xtra U := by
  obtain ⟨h1, h2, h3, h4, h5, h6, h7, h8, h9, h10⟩ := h
  have hal : u.vm.Alike U.vm := hv ▸ Vm.Alike.refl u.vm
  exact ⟨h1.same rfl hv, h2.same rfl hv, h3.same rfl hv, h4.same rfl hv, h5.same rfl hv, h6.same rfl hv, h7.same rfl hv, h8.same rfl hv, h9.moved hal, h10.moved hal⟩
def cPi (D : va_G) (K : Nat → ClassId) (V : va_W) (sz : Nat) (U : State) : Prop := cP D K V sz U ∧ xtra U
theorem cPi_blind {D : va_G} {K : Nat → ClassId} {V : va_W} {sz : Nat} {av : List Value} : FrameBlind (va_Pc av (cPi D K V sz)) := by
  intro a U g mk h
  obtain ⟨h0, h1, h2⟩ := h
  have h9 := cP_blind (D := D) (K := K) (W := V) (sz := sz) (av := av) a U g mk ⟨h0, h1⟩
  exact ⟨h0, h9.2, h2.same (u := U) (U := U.calling g mk a) rfl⟩
theorem back_D2 {A : Nat → Prop} {D : va_G} {L Bs B1 : List va_W} {is : List Nat} {H : Heap} (hsub : is.map (fun i => L[i]?) = Bs.map some) (hnd : va_nd is = true) (hlen : B1.length = Bs.length) (hP : va_P D vwCl (fl L) H) (hD : va_D A (fl L)) (hF : ∀ q, va_A (fl Bs) H.size q → A q) (hD1 : va_D (va_A (fl Bs) H.size) (fl B1)) : va_D A (fl (wrp L is B1)) := by
  have hl : B1.length = is.length := by
    have a := congrArg List.length hsub
    simp only [List.length_map] at a
    omega
  obtain ⟨hap, hA⟩ := D_mem.mp hD
  obtain ⟨hap1, hA1⟩ := D_mem.mp hD1
  -- a cell of a new block and a cell of a block that stays are apart
  have key : ∀ (j k : Nat) (B C : va_W) (p q : Nat × va_E), B1[j]? = some B → k ∉ is → L[k]? = some C → p ∈ B → q ∈ C → p.1 ≠ q.1 := by
    intro j k B C p q hB hk hC hp hq e
    rcases hA1 p (List.mem_flatten.mpr ⟨B, List.mem_of_getElem? hB, hp⟩) with ⟨j2, x, hj⟩ | hge
    · obtain ⟨j3, i, E, -, hi, hE, hm⟩ := sub_mem hsub (List.mem_of_getElem? hj)
      exact apart_blocks hap hE hC (fun e2 => hk (e2 ▸ List.mem_of_getElem? hi)) hm hq e
    · have := va_at_in (P_mem.mp hP q (List.mem_flatten.mpr ⟨C, List.mem_of_getElem? hC, hq⟩))
      omega
  refine D_mem.mpr ⟨List.pairwise_flatten.mpr ⟨fun B hB => ?_, List.pairwise_iff_getElem.mpr fun a b ha hb hab p hp q hq => ?_⟩, fun q hq => ?_⟩
  · obtain ⟨k, hk⟩ := List.getElem?_of_mem hB
    rcases wrp_get is L B1 k B hl hk with ⟨j, -, h2⟩ | ⟨-, h2⟩
    · exact (List.pairwise_flatten.mp hap1).1 B (List.mem_of_getElem? h2)
    · exact (List.pairwise_flatten.mp hap).1 B (List.mem_of_getElem? h2)
  · rcases wrp_get is L B1 a _ hl (List.getElem?_eq_getElem ha) with ⟨j, h1, h2⟩ | ⟨h1, h2⟩ <;> rcases wrp_get is L B1 b _ hl (List.getElem?_eq_getElem hb) with ⟨j', h1', h2'⟩ | ⟨h1', h2'⟩
    · refine apart_blocks hap1 h2 h2' (fun e => ?_) hp hq
      subst e
      rw [h1] at h1'
      have := Option.some.inj h1'
      omega
    · exact key j b _ _ p q h2 h1' h2' hp hq
    · exact fun e => key j' a _ _ q p h2' h1 h2 hq hp e.symm
    · exact apart_blocks hap h2 h2' (by omega) hp hq
  · obtain ⟨B, hB, hqB⟩ := List.mem_flatten.mp hq
    obtain ⟨k, hk⟩ := List.getElem?_of_mem hB
    rcases wrp_get is L B1 k B hl hk with ⟨j, -, h2⟩ | ⟨-, h2⟩
    · exact hF _ (hA1 q (List.mem_flatten.mpr ⟨B, List.mem_of_getElem? h2, hqB⟩))
    · exact hA q (List.mem_flatten.mpr ⟨B, List.mem_of_getElem? h2, hqB⟩)
theorem fl_snoc (L : List va_W) (q : Nat × va_E) : fl L ++ [q] = fl (L ++ [[q]]) := by
  show L.flatten ++ [q] = (L ++ [[q]]).flatten
  rw [List.flatten_append]
  rfl
theorem arrV_same (cI : ClassId) (N : Nat) (f g : Nat → Value) (h : ∀ j, j < N → f j = g j) : arrV cI N f = arrV cI N g := by
  unfold arrV
  congr 1
  congr 1
  funext j
  exact h j.val j.isLt
section IROWS
variable {p : Program} {l : Launch} {e : Env} {R : Room} {s : State} {m : MethodId} {args : Array Value} {below : List Frame} {meth : Method} {c : Code} {H : Heap} {locs : List Loc} {cells slots : Nat} {Q : State → Prop}
variable {cc : ByteArray} {pc nL : Nat} {ls : Array Slot} {rest st0 : List Value} {A : Nat → Prop} {D : va_G} {K : Nat → ClassId} {V : va_W} {own : String} {Ts : List Cond} {L : List va_W}
theorem x_obj (hC : Cx p s m args c cc nL own Ts D K A) (hls : ls.size = nL) {idx : Nat} (hlink : Cond.methodLink own idx objectInit ∈ Ts) (hinst : Cond.instanceMethod objectInit ∈ Ts) (hcode : Cond.code objectInit ⟨#[0xb1]⟩ 1 none ∈ Ts) {a : Nat} (hd : decode cc pc = .ok (.invokespecial idx, 3)) (hframes : 1 ≤ R.frames) (hlocals : (rest.map fun v => v.category).sum + 12 ≤ R.locals)
    (kk : W p l e R s m args below meth c H locs cells slots Q (F0 m (pc + 3) ls rest)) : W p l e R s m args below meth c H locs cells slots Q (F0 m pc ls (.ref a :: rest)) := by
  obtain ⟨hx, hb, hml, hown, hts, hK, hA, hZ⟩ := hC
  exact W.objInit hx hb hown (hts _ hlink) (hts _ hinst) (hts _ hcode) rfl (by rw [hml]; exact hls) rfl hd hframes (by show 2 * 0 + _ + 12 ≤ _; omega) kk
theorem x_newI (hC : Cx p s m args c cc nL own Ts D K A) (hI : wI s D A (fl L) H locs) (harr : Cond.arrayClass .int ∈ Ts) {n : Int32} (N : Nat) (hn : ¬ n < 0) (hN : n.toNatClampNeg = N) (hbytes : N * 4 ≤ 536870912) (hcells : cells + 1 ≤ R.cells) (hslots : slots + N ≤ R.slots) (hdg : decode cc pc = .ok (.newarray .int, 2))
    (kk : ∀ (q : Nat) (H1 : Heap), wI s D A (fl (L ++ [[(q, .inl (K 0, N, .inl (fun _ => 0)))]])) H1 locs → W p l e R s m args below meth c H1 locs (cells + 1) (slots + N) Q (F0 m (pc + 2) ls (.ref q :: rest))) : W p l e R s m args below meth c H locs cells slots Q (F0 m pc ls (.int n :: rest)) := by
  obtain ⟨hx, hb, hml, hown, hts, hK, hA, hZ⟩ := hC
  refine va_newa (atype := .int) hx hb (hts _ harr) (ty := .int) rfl hK hI.1 hI.2.1 hI.2.2 hA (a0 := (N, .inl (fun _ => 0))) (fun cA => rfl) hn hN hbytes hcells hslots hdg (fun q cA H1 hK1 hP1 hD1 hS1 => ?_)
  have e1 : cA = K 0 := Option.some.inj ((show s.vm.findClass _ = some cA from (hK1.2 4 (cA, .int) rfl).2).symm.trans (hK.2 0 (K 0, .int) rfl).2)
  subst e1
  rw [fl_snoc] at hP1 hD1
  exact kk q H1 ⟨hP1, hD1, hS1⟩
theorem x_newJ (hC : Cx p s m args c cc nL own Ts D K A) (hI : wI s D A (fl L) H locs) (harr : Cond.arrayClass .long ∈ Ts) {n : Int32} (N : Nat) (hn : ¬ n < 0) (hN : n.toNatClampNeg = N) (hbytes : N * 8 ≤ 536870912) (hcells : cells + 1 ≤ R.cells) (hslots : slots + N ≤ R.slots) (hdg : decode cc pc = .ok (.newarray .long, 2))
    (kk : ∀ (q : Nat) (H1 : Heap), wI s D A (fl (L ++ [[(q, .inl (K 1, N, .inr (.inl (fun _ => 0))))]])) H1 locs → W p l e R s m args below meth c H1 locs (cells + 1) (slots + N) Q (F0 m (pc + 2) ls (.ref q :: rest))) : W p l e R s m args below meth c H locs cells slots Q (F0 m pc ls (.int n :: rest)) := by
  obtain ⟨hx, hb, hml, hown, hts, hK, hA, hZ⟩ := hC
  refine va_newa (atype := .long) hx hb (hts _ harr) (ty := .long) rfl hK hI.1 hI.2.1 hI.2.2 hA (a0 := (N, .inr (.inl (fun _ => 0)))) (fun cA => rfl) hn hN hbytes hcells hslots hdg (fun q cA H1 hK1 hP1 hD1 hS1 => ?_)
  have e1 : cA = K 1 := Option.some.inj ((show s.vm.findClass _ = some cA from (hK1.2 4 (cA, .long) rfl).2).symm.trans (hK.2 1 (K 1, .long) rfl).2)
  subst e1
  rw [fl_snoc] at hP1 hD1
  exact kk q H1 ⟨hP1, hD1, hS1⟩
theorem x_newQ (hC : Cx p s m args c cc nL own Ts D K A) (hI : wI s D A (fl L) H locs) {C : String} {index : Nat} (t0 : Nat) (ht : (tyl K)[t0]? = some (K t0, .object C)) (hclink : Cond.classLink own index C ∈ Ts) (hover : va_AO C s) {n : Int32} (N : Nat) (hn : ¬ n < 0) (hN : n.toNatClampNeg = N) (hbytes : N * 4 ≤ 536870912) (hcells : cells + 1 ≤ R.cells) (hslots : slots + N ≤ R.slots) (hdg : decode cc pc = .ok (.anewarray index, 3))
    (kk : ∀ (q : Nat) (H1 : Heap), wI s D A (fl (L ++ [[(q, .inl (K t0, N, .inr (.inr (.inr (.inr (fun _ => none))))))]])) H1 locs → W p l e R s m args below meth c H1 locs (cells + 1) (slots + N) Q (F0 m (pc + 3) ls (.ref q :: rest))) : W p l e R s m args below meth c H locs cells slots Q (F0 m pc ls (.int n :: rest)) := by
  obtain ⟨hx, hb, hml, hown, hts, hK, hA, hZ⟩ := hC
  refine va_newq hx hb hown (hts _ hclink) hover hK hI.1 hI.2.1 hI.2.2 hA hn hN hbytes hcells hslots hdg (fun q cA H1 hK1 hP1 hD1 hS1 => ?_)
  obtain ⟨kA, comp, -, -, -, r1⟩ := (hK1.2 4 (cA, .object C) rfl).2
  obtain ⟨kB, comp2, -, -, -, r2⟩ := (hK.2 t0 _ ht).2
  have e1 : cA = K t0 := Option.some.inj (r1.symm.trans r2)
  subst e1
  rw [fl_snoc] at hP1 hD1
  exact kk q H1 ⟨hP1, hD1, hS1⟩
theorem x_new (hC : Cx p s m args c cc nL own Ts D K A) (hI : wI s D A (fl L) H locs) {C : String} {T : u_T} {N ci index : Nat} (hin : ∀ w ∈ u_ws C T N, w ∈ Ts) (ty : Nat → FieldType) (hty : ∀ k, k < N → parseFieldDescriptor (T k).2.2.1 = some (ty k)) (hcl : Cond.classLink own index C ∈ Ts) (hinst : Cond.instantiable C N ∈ Ts) (hini : Cond.initialized C ∈ Ts) (hc : vwCl[ci]? = some (C, T, N)) {fs : List Value} (hfs : ∀ j, j < N → defaultValue (ty j) = vp_V fs j) (hcells : cells + 1 ≤ R.cells) (hslots : slots + N ≤ R.slots) (hdg : decode cc pc = .ok (.new index, 3))
    (kk : ∀ (q : Nat) (H1 : Heap), wI s D A (fl (L ++ [[(q, .inr (ci, fs))]])) H1 locs → W p l e R s m args below meth c H1 locs (cells + 1) (slots + N) Q (F0 m (pc + 3) ls (.ref q :: rest))) : W p l e R s m args below meth c H locs cells slots Q (F0 m pc ls rest) := by
  obtain ⟨hx, hb, hml, hown, hts, hK, hA, hZ⟩ := hC
  refine va_new hx hb hts hin ty hty hown (hts _ hcl) (hts _ hinst) (hts _ hini) hK hI.1 hI.2.1 hI.2.2 hA hc hfs hcells hslots hdg (fun q H1 hP1 hD1 hS1 => ?_)
  rw [fl_snoc] at hP1 hD1
  exact kk q H1 ⟨hP1, hD1, hS1⟩
theorem x_putF (hC : Cx p s m args c cc nL own Ts D K A) (hI : wI s D A V H locs) {ref C : String} {T : u_T} {N ci index a : Nat} (hin : ∀ w ∈ u_ws C T N, w ∈ Ts) (ty0 : Nat → FieldType) (hty : ∀ k, k < N → parseFieldDescriptor (T k).2.2.1 = some (ty0 k)) (hnm : ∀ a, a < N → ∀ b, b < N → a ≠ b → (T a).2.1 ≠ (T b).2.1) (q0 : Nat) {fs : List Value} (he : V[q0]? = some (a, .inr (ci, fs))) (hc : vwCl[ci]? = some (C, T, N)) (k : Nat) (hk : k < N) (hlink : Cond.fieldLink own index ref (T k).2.1 (T k).2.2.1 ∈ Ts) (hsame : (T k).1 = ref) (hfin : (T k).2.2.2 = true) (hin2 : meth.name = "<init>") (hdecl : (T k).1 = own) {v : Value} (hn : narrow (ty0 k) v = v) (hfit : fits (ty0 k) v = true) (hl : k < fs.length) (hdg : decode cc pc = .ok (.putfield index, 3))
    (kk : ∀ (H1 : Heap) (locs1 : List Loc), wI s D A (V.set q0 (a, .inr (ci, fs.set k v))) H1 locs1 → W p l e R s m args below meth c H1 locs1 cells slots Q (F0 m (pc + 3) ls rest)) : W p l e R s m args below meth c H locs cells slots Q (F0 m pc ls (v :: .ref a :: rest)) := by
  obtain ⟨hx, hb, hml, hown, hts, hK, hA, hZ⟩ := hC
  subst hsame
  exact va_putF hx hb hts hin ty0 hty hnm hown hK hI.1 hI.2.1 hI.2.2 q0 he hc k hk (hts _ hlink) (fun _ h9 => h9) hfin hin2 hdecl (hty k hk) hn hfit hl hdg (fun H1 locs1 a1 a2 a3 => kk H1 locs1 ⟨a1, a2, a3⟩)
theorem x_astq (hC : Cx p s m args c cc nL own Ts D K A) (hI : wI s D A V H locs) (q0 t0 qk ci : Nat) {a n v : Nat} {r : vw_C} {vs : List Value} {f : Nat → Option Nat} (ha : V[q0]? = some (a, .inl (K t0, n, .inr (.inr (.inr (.inr f)))))) (ht : (tyl K)[t0]? = some (K t0, .object r.1)) (hv : V[qk]? = some (v, .inr (ci, vs))) (hc : vwCl[ci]? = some r) {i : Int32} (hin : vp_in i n) (hdg : decode cc pc = .ok (.aastore, 1))
    (kk : ∀ (H1 : Heap) (locs1 : List Loc), wI s D A (V.set q0 (a, .inl (K t0, n, .inr (.inr (.inr (.inr (va_up f i.toNatClampNeg (some v)))))))) H1 locs1 → W p l e R s m args below meth c H1 locs1 cells slots Q (F0 m (pc + 1) ls rest)) : W p l e R s m args below meth c H locs cells slots Q (F0 m pc ls (.ref v :: .int i :: .ref a :: rest)) := by
  obtain ⟨hx, hb, hml, hown, hts, hK, hA, hZ⟩ := hC
  exact va_astq hx hb hK hI.1 hI.2.1 hI.2.2 q0 t0 qk ci ha ht hv hc hin hdg (fun H1 locs1 a1 a2 a3 => kk H1 locs1 ⟨a1, a2, a3⟩)
theorem x_callIN {S : Type} {post : S → Prop} {w1 : S → List va_W} {b mc ms : Nat} {As : List Value} {y : MethodName} {ws : List Cond} {rm : Room} {bytes : ByteArray} {maxL index n : Nat} {host : String} (hC : Cx p s m args c cc nL own Ts D K A) (hX : xtra s) (hI : wI s D A (fl L) H locs) (is : List Nat) {Bs : List va_W}
    (hM : Met l y ws rm (va_Pc (.ref b :: As) (cPi D K (fl Bs) H.size)) (va_Qv post (fun u t => cQ D K (fl (w1 u)) (va_A (fl Bs) H.size) t) (va_A (fl Bs) H.size)) mc ms (va_A (fl Bs) H.size)) (cw : va_CN R s args own index y host bytes maxL none ws rm mc ms n) (hy : y.name = "<init>") (hinst : Cond.instanceMethod y ∈ Ts)
    (hnd : va_nd is = true) (hsub : is.map (fun i => L[i]?) = Bs.map some) (hlen : ∀ u : S, (w1 u).length = Bs.length) (hn : As.length = n) (hls : ls.size = nL) (hst : st0 = As.reverse ++ .ref b :: rest) (hroom : (rest.map fun v => v.category).sum ≤ 8) (hdg : decode cc pc = .ok (.invokespecial index, 3)) (hcs : cells + mc ≤ R.cells ∧ slots + ms ≤ R.slots)
    (kk : ∀ (u : S) (H1 : Heap) (locs1 : List Loc), post u → wI s D A (fl (wrp L is (w1 u))) H1 locs1 → W p l e R s m args below meth c H1 locs1 (cells + mc) (slots + ms) Q (F0 m (pc + 3) ls rest)) : W p l e R s m args below meth c H locs cells slots Q (F0 m pc ls st0) := by
  obtain ⟨hx, hb, hml, hown, hts, hK, hA, hZ⟩ := hC
  have hFc := sub_free hsub hA hI
  refine va_callv (va_runIN (As := As) (rest := rest) ⟨hx, hb, hml, hown, hts⟩ hM ⟨cw, hy, hts _ hinst⟩ ⟨cPi_blind, fun U hU hW => ⟨rfl, cP_call hK hZ hA hI hnd hsub hU hW, hX.warm hW⟩⟩ rfl hn hls hst (lv_room hroom) hdg hcs) hI.2.2 (fun q _ h => hFc q h) hFc (fun u t H1 locs1 ht hvm hw hB hz1 hk1 hS1 => ?_)
  obtain ⟨hP1, hK1, hD1⟩ := hB
  rw [ht] at hP1
  exact kk u H1 locs1 hw ⟨back_P hsub (hlen u) hI.1 hI.2.1 hP1 hk1, back_D2 hsub hnd (hlen u) hI.1 hI.2.1 hFc hD1, hS1⟩
theorem x_callI {S : Type} {post : S → Prop} {w1 : S → List va_W} {b mc ms : Nat} {As : List Value} {y : MethodName} {ws : List Cond} {rm : Room} {bytes : ByteArray} {maxL index n : Nat} (hC : Cx p s m args c cc nL own Ts D K A) (hX : xtra s) (hI : wI s D A (fl L) H locs) (is : List Nat) {Bs : List va_W}
    (hM : Met l y ws rm (va_Pc (.ref b :: As) (cPi D K (fl Bs) H.size)) (va_Qv post (fun u t => cQ D K (fl (w1 u)) (va_A (fl Bs) H.size) t) (va_A (fl Bs) H.size)) mc ms (va_A (fl Bs) H.size)) (cw : CallB R s args own index y bytes maxL none ws rm mc ms n ∧ y.name = "<init>" ∧ (Cond.instanceMethod y).before args s = true)
    (hnd : va_nd is = true) (hsub : is.map (fun i => L[i]?) = Bs.map some) (hlen : ∀ u : S, (w1 u).length = Bs.length) (hn : As.length = n) (hls : ls.size = nL) (hst : st0 = As.reverse ++ .ref b :: rest) (hroom : (rest.map fun v => v.category).sum ≤ 8) (hdg : decode cc pc = .ok (.invokespecial index, 3)) (hcs : cells + mc ≤ R.cells ∧ slots + ms ≤ R.slots)
    (kk : ∀ (u : S) (H1 : Heap) (locs1 : List Loc), post u → wI s D A (fl (wrp L is (w1 u))) H1 locs1 → W p l e R s m args below meth c H1 locs1 (cells + mc) (slots + ms) Q (F0 m (pc + 3) ls rest)) : W p l e R s m args below meth c H locs cells slots Q (F0 m pc ls st0) := by
  obtain ⟨hx, hb, hml, hown, hts, hK, hA, hZ⟩ := hC
  have hFc := sub_free hsub hA hI
  refine va_callv (va_runI (As := As) (rest := rest) ⟨hx, hb, hml, hown, hts⟩ hM cw ⟨cPi_blind, fun U hU hW => ⟨rfl, cP_call hK hZ hA hI hnd hsub hU hW, hX.warm hW⟩⟩ rfl hn hls hst (lv_room hroom) hdg hcs) hI.2.2 (fun q _ h => hFc q h) hFc (fun u t H1 locs1 ht hvm hw hB hz1 hk1 hS1 => ?_)
  obtain ⟨hP1, hK1, hD1⟩ := hB
  rw [ht] at hP1
  exact kk u H1 locs1 hw ⟨back_P hsub (hlen u) hI.1 hI.2.1 hP1 hk1, back_D2 hsub hnd (hlen u) hI.1 hI.2.1 hFc hD1, hS1⟩
end IROWS
theorem x_entryI {l : Launch} {D : va_G} {K : Nat → ClassId} {y : MethodName} {ws ws' : List Cond} {rm : Room} {cc : ByteArray} {maxL : Nat} {ret : Option FieldType} {QA : (Nat → Prop) → Array Value → State → Outcome → State → Prop} {mc ms : Nat} (hy : plainFor y = true) (hw : ws = Cond.code y cc maxL ret :: ws') {av : List Value} {V : va_W} {sz : Nat} (hn : (lg_sl av).length ≤ maxL)
    (body : ∀ (p : Program) (e : Env) (s : State) (m : MethodId) (args : Array Value) (below : List Frame) (meth : Method) (c : Code) (A : Nat → Prop) (ls : Array Slot) (H : Heap) (Q : State → Prop), Q = MQ below (QA A) args s mc ms A → Cx p s m args c cc maxL y.cls ws D K A → meth.locks = false → meth.sig.returnType = ret → meth.name = y.name → xtra s → wI s D A V H [] → lv_has ls maxL (lv_args 0 av) → W p l e rm s m args below meth c H [] 0 0 Q (F0 m 0 ls [])) : Met l y ws rm (va_Pc av (cPi D K V sz)) (QA (va_A V sz)) mc ms (va_A V sz) := by
  refine x_ofW (cc := cc) (maxL := maxL) (ret := ret) hy hw ?_
  intro p e s m args below meth c s₁ B hml hv
  obtain ⟨rfl, ⟨hsz, hP, hK, hD0, hZ⟩, hX⟩ := hv
  subst hsz
  have hl := lv_entry av (n := maxL) hn
  rw [lg_entry_eq]
  exact body p e s m _ below meth c (va_A V s.heap.size) _ s.heap _ rfl ⟨B.exec, B.bytes, hml, findClass_of_methodNamed B.named, atoms_spec (ws := ws) B.pre, hK, fun q h => Or.inr h, hZ⟩ B.notSynchronized B.returns (name_of_methodNamed B.named B.method).1 hX ⟨hP, hD0.self, va_S.rf⟩ hl
