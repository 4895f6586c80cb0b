/-! ===== the shape of all contracts, and the kit's rows over it ===== -/
abbrev GS : Type := (Nat → Int64) × (Nat → Int32) × Int32 × Int32 × Int32 × Int32 × Int32
def sinesL : List Int32 := [0, 2588, 5000, 7071, 8660, 9659, 10000, 9659, 8660, 7071, 5000, 2588, 0, -2588, -5000, -7071, -8660, -9659, -10000, -9659, -8660, -7071, -5000, -2588]
def sinesF (j : Nat) : Int32 := sinesL.getD j 0
def stripsL : List Int32 := [2, 3, 4, 6, 8, 12]
def stripsF (j : Nat) : Int32 := stripsL.getD j 0
def tyl (K : Nat → ClassId) : List (ClassId × FieldType) := [(K 0, .int), (K 1, .long), (K 2, .object "GoreGlobe$Globe"), (K 3, .object "GoreGlobe$Sheet")]
def cxT (C n : String) (N : Nat) (f : Nat → Int32) (A : Nat → Prop) (U : State) (H : Heap) : Prop := ∃ t : Nat, va_Z C n "[I" (.ref t) A U H ∧ va_T .int t N (fun j => .int (f j)) A U H
theorem cxT.moved {C n : String} {N : Nat} {f : Nat → Int32} {A : Nat → Prop} {u U : State} {H : Heap} (hvm : u.vm.Alike U.vm) (h : cxT C n N f A u H) : cxT C n N f A U H := by
  obtain ⟨t, h1, h2⟩ := h
  exact ⟨t, h1.moved hvm, h2.moved hvm⟩
theorem cxT.kept {C n : String} {N : Nat} {f : Nat → Int32} {A : Nat → Prop} {U : State} {H H1 : Heap} (h : cxT C n N f A U H) (hq : ∀ a : Nat, a < H.size → ¬ A a → H1[a]? = H[a]?) : cxT C n N f A U H1 := by
  obtain ⟨t, h1, h2⟩ := h
  exact ⟨t, h1.kept hq, h2.kept hq⟩
theorem cxT.narrow {C n : String} {N : Nat} {f : Nat → Int32} {A B : Nat → Prop} {U : State} {H : Heap} (h : cxT C n N f A U H) (hAB : ∀ q, B q → A q) : cxT C n N f B U H := by
  obtain ⟨t, h1, h2⟩ := h
  exact ⟨t, h1.narrow hAB, h2.narrow hAB⟩
def cxZ (A : Nat → Prop) (U : State) (H : Heap) : Prop := cxT "GoreGlobe$Grid" "SINES" 24 sinesF A U H ∧ cxT "GoreGlobe" "STRIP_NUMBERS" 6 stripsF A U H
theorem cxZ.moved {A : Nat → Prop} {u U : State} {H : Heap} (hvm : u.vm.Alike U.vm) (h : cxZ A u H) : cxZ A U H := ⟨h.1.moved hvm, h.2.moved hvm⟩
theorem cxZ.kept {A : Nat → Prop} {U : State} {H H1 : Heap} (h : cxZ A U H) (hq : ∀ a : Nat, a < H.size → ¬ A a → H1[a]? = H[a]?) : cxZ A U H1 := ⟨h.1.kept hq, h.2.kept hq⟩
theorem cxZ.narrow {A B : Nat → Prop} {U : State} {H : Heap} (h : cxZ A U H) (hAB : ∀ q, B q → A q) : cxZ B U H := ⟨h.1.narrow hAB, h.2.narrow hAB⟩
/-- what a method finds: the cells W and no others, the heap's size, the array classes, the static rows -/
def cP (D : va_G) (K : Nat → ClassId) (W : va_W) (sz : Nat) (U : State) : Prop := U.heap.size = sz ∧ va_P D vwCl W U.heap ∧ va_K D vwCl (tyl K) U ∧ va_D (fun _ => True) W ∧ cxZ (va_A W sz) U U.heap
/-- what it leaves -/
def cQ (D : va_G) (K : Nat → ClassId) (W : va_W) (A : Nat → Prop) (t : State) : Prop := va_P D vwCl W t.heap ∧ va_K D vwCl (tyl K) t ∧ va_D A W
theorem cP_blind {D : va_G} {K : Nat → ClassId} {W : va_W} {sz : Nat} {av : List Value} : FrameBlind (va_Pc av (cP D K W sz)) := by
  intro a U g mk h
  obtain ⟨h0, h1, h2, h3, h4, h5⟩ := h
  exact ⟨h0, h1, h2, va_K.moved (u := U) (U := U.calling g mk a) (Vm.Alike.refl U.vm) h3, h4, cxZ.moved (u := U) (U := U.calling g mk a) (Vm.Alike.refl U.vm) h5⟩
/-- a walk's fixed facts -/
def Cx (p : Program) (s : State) (m : MethodId) (args : Array Value) (c : Code) (cc : ByteArray) (nL : Nat) (own : String) (Ts : List Cond) (D : va_G) (K : Nat → ClassId) (A : Nat → Prop) : Prop :=
  p.tables.exec = Jvm.exec ∧ c.code = cc ∧ c.maxLocals = nL ∧ s.vm.findClass own = some m.cls ∧ (∀ w ∈ Ts, w.before args s = true) ∧ va_K D vwCl (tyl K) s ∧ (∀ q : Nat, s.heap.size ≤ q → A q) ∧ cxZ A s s.heap
/-- a walk's moving facts -/
def wI (s : State) (D : va_G) (A : Nat → Prop) (W : va_W) (H : Heap) (locs : List Loc) : Prop := va_P D vwCl W H ∧ va_D A W ∧ va_S A s.heap H locs
/-- a world is blocks, one behind the other -/
abbrev fl (L : List va_W) : va_W := L.flatten
theorem fl_single : ∀ V : va_W, fl (List.map (fun c => [c]) V) = V
  | [] => rfl
  | c :: V => by
    show [c] ++ fl (List.map (fun c => [c]) V) = c :: V
    rw [fl_single V]
    rfl
/-- the blocks at the places become others -/
def wrp {α : Type} : List α → List Nat → List α → List α
  | L, i :: is, e :: es => wrp (L.set i e) is es
  | L, _, _ => L
theorem wrp_get {α : Type} : ∀ (is : List Nat) (L w1 : List α) (k : Nat) (e : α), w1.length = is.length → (wrp L is w1)[k]? = some e → (∃ j : Nat, is[j]? = some k ∧ w1[j]? = some e) ∨ (k ∉ is ∧ L[k]? = some e)
  | [], L, w1, k, e, hl, h => by
    right
    cases w1 with
    | nil => exact ⟨List.not_mem_nil, h⟩
    | cons a l => simp at hl
  | i :: is, L, [], k, e, hl, h => by simp at hl
  | i :: is, L, e0 :: es, k, e, hl, h => by
    have hl' : es.length = is.length := by simpa using hl
    rcases wrp_get is (L.set i e0) es k e hl' h with ⟨j, h1, h2⟩ | ⟨h1, h2⟩
    · exact Or.inl ⟨j + 1, by simpa using h1, by simpa using h2⟩
    · by_cases hk : i = k
      · subst hk
        rw [List.getElem?_set] at h2
        simp only [if_true] at h2
        split at h2
        · exact Or.inl ⟨0, rfl, by simpa using h2⟩
        · cases h2
      · rw [List.getElem?_set_ne hk] at h2
        exact Or.inr ⟨by simp only [List.mem_cons, not_or]; exact ⟨fun q => hk q.symm, h1⟩, h2⟩
theorem wrp_map {α β : Type} (f : α → β) : ∀ (is : List Nat) (L w1 : List α), is.map (fun i => (L[i]?).map f) = w1.map (fun q => some (f q)) → (wrp L is w1).map f = L.map f
  | [], L, w1, _ => by cases w1 <;> rfl
  | i :: is, L, [], h => by simp at h
  | i :: is, L, e0 :: es, h => by
    simp only [List.map_cons, List.cons.injEq] at h
    have hs : (L.set i e0).map f = L.map f := by
      rw [List.map_set]
      have h1 := h.1
      rw [← List.getElem?_map] at h1
      obtain ⟨hlt, h2⟩ := List.getElem?_eq_some_iff.mp h1
      rw [← h2]
      exact List.set_getElem_self hlt
    have hh : is.map (fun j => ((L.set i e0)[j]?).map f) = es.map (fun q => some (f q)) := by
      rw [← h.2]
      apply List.map_congr_left
      intro j _
      rw [← List.getElem?_map, ← List.getElem?_map, hs]
    show (wrp (L.set i e0) is es).map f = _
    rw [wrp_map f is (L.set i e0) es hh, hs]
theorem va_D_fst {A : Nat → Prop} {w w' : va_W} (h : va_D A w) (e : w'.map Prod.fst = w.map Prod.fst) : va_D A w' := by
  have key : ∀ (i : Nat) (q : Nat × va_E), w'[i]? = some q → ∃ q', w[i]? = some q' ∧ q'.1 = q.1 := by
    intro i q hq
    have h1 : (w'.map Prod.fst)[i]? = some q.1 := by rw [List.getElem?_map, hq]; rfl
    rw [e, List.getElem?_map] at h1
    cases hw : w[i]? with
    | none => rw [hw] at h1; cases h1
    | some q' =>
      rw [hw] at h1
      exact ⟨q', rfl, Option.some.inj h1⟩
  refine ⟨fun i j p q hi hj hpq => ?_, fun k q hk => ?_⟩
  · obtain ⟨p', a1, a2⟩ := key i p hi
    obtain ⟨q', b1, b2⟩ := key j q hj
    exact h.1 i j p' q' a1 b1 (by rw [a2, b2]; exact hpq)
  · obtain ⟨q', a1, a2⟩ := key k q hk
    rw [← a2]
    exact h.2 k q' a1
theorem sub_place {α : Type} {L Bs : List α} {is : List Nat} (hsub : is.map (fun i => L[i]?) = Bs.map some) {j : Nat} {q : α} (h : Bs[j]? = some q) : ∃ i, is[j]? = some i ∧ L[i]? = some q := by
  have h1 : (is.map (fun i => L[i]?))[j]? = some (some q) := by rw [hsub, List.getElem?_map, h]; rfl
  rw [List.getElem?_map] at h1
  cases hi : is[j]? with
  | none => rw [hi] at h1; cases h1
  | some i => rw [hi] at h1; exact ⟨i, rfl, Option.some.inj h1⟩
theorem va_at_in {D : va_G} {cl : List vw_C} {q : Nat × va_E} {H : Heap} (h : va_at D cl q H) : q.1 < H.size := by
  obtain ⟨a, e⟩ := q
  cases e with
  | inl x => exact (Array.getElem?_eq_some_iff.mp (show H[a]? = some (vp_cell x.1 x.2) from h)).1
  | inr x =>
    obtain ⟨r, -, cell, h1, -⟩ := h
    exact (Array.getElem?_eq_some_iff.mp h1).1
theorem P_mem {D : va_G} {V : va_W} {H : Heap} : va_P D vwCl V H ↔ ∀ q ∈ V, va_at D vwCl q H := by
  constructor
  · intro h q hq
    obtain ⟨k, hk⟩ := List.getElem?_of_mem hq
    exact h k q hk
  · intro h k q hk
    exact h q (List.mem_of_getElem? hk)
/-- no two cells at one place -/
def apart (V : va_W) : Prop := V.Pairwise (fun p q => p.1 ≠ q.1)
theorem D_mem {A : Nat → Prop} {V : va_W} : va_D A V ↔ apart V ∧ ∀ q ∈ V, A q.1 := by
  constructor
  · intro h
    refine ⟨List.pairwise_iff_getElem.mpr fun i j hi hj hij e => ?_, fun q hq => ?_⟩
    · have := h.1 i j _ _ (List.getElem?_eq_getElem hi) (List.getElem?_eq_getElem hj) e
      omega
    · obtain ⟨k, hk⟩ := List.getElem?_of_mem hq
      exact h.2 k q hk
  · rintro ⟨h1, h2⟩
    refine ⟨fun i j p q hp hq e => ?_, fun k q hk => h2 q (List.mem_of_getElem? hk)⟩
    obtain ⟨hi, rfl⟩ := List.getElem?_eq_some_iff.mp hp
    obtain ⟨hj, rfl⟩ := List.getElem?_eq_some_iff.mp hq
    rcases Nat.lt_trichotomy i j with h | h | h
    · exact absurd e (List.pairwise_iff_getElem.mp h1 i j hi hj h)
    · exact h
    · exact absurd e.symm (List.pairwise_iff_getElem.mp h1 j i hj hi h)
theorem apart_blocks {L : List va_W} (h : apart (fl L)) {i k : Nat} {B C : va_W} (hi : L[i]? = some B) (hk : L[k]? = some C) (hne : i ≠ k) {p q : Nat × va_E} (hp : p ∈ B) (hq : q ∈ C) : p.1 ≠ q.1 := by
  have h2 := (List.pairwise_flatten.mp h).2
  obtain ⟨li, rfl⟩ := List.getElem?_eq_some_iff.mp hi
  obtain ⟨lk, rfl⟩ := List.getElem?_eq_some_iff.mp hk
  rcases Nat.lt_or_gt_of_ne hne with x | x
  · exact List.pairwise_iff_getElem.mp h2 i k li lk x p hp q hq
  · exact fun e => List.pairwise_iff_getElem.mp h2 k i lk li x q hq p hp e.symm
theorem sub_mem {L Bs : List va_W} {is : List Nat} (hsub : is.map (fun i => L[i]?) = Bs.map some) {q : Nat × va_E} (h : q ∈ fl Bs) : ∃ (j i : Nat) (B : va_W), Bs[j]? = some B ∧ is[j]? = some i ∧ L[i]? = some B ∧ q ∈ B := by
  obtain ⟨B, hB, hq⟩ := List.mem_flatten.mp h
  obtain ⟨j, hj⟩ := List.getElem?_of_mem hB
  obtain ⟨i, h1, h2⟩ := sub_place hsub hj
  exact ⟨j, i, B, hj, h1, h2, hq⟩
theorem sub_in {L Bs : List va_W} {is : List Nat} (hsub : is.map (fun i => L[i]?) = Bs.map some) {q : Nat × va_E} (h : q ∈ fl Bs) : q ∈ fl L := by
  obtain ⟨j, i, B, -, -, h2, hq⟩ := sub_mem hsub h
  exact List.mem_flatten.mpr ⟨B, List.mem_of_getElem? h2, hq⟩
theorem sub_apart {L Bs : List va_W} {is : List Nat} (hnd : va_nd is = true) (hsub : is.map (fun i => L[i]?) = Bs.map some) (h : apart (fl L)) : apart (fl Bs) := by
  refine List.pairwise_flatten.mpr ⟨fun B hB => ?_, List.pairwise_iff_getElem.mpr fun a b ha hb hab p hp q hq => ?_⟩
  · obtain ⟨j, hj⟩ := List.getElem?_of_mem hB
    obtain ⟨i, -, h2⟩ := sub_place hsub hj
    exact (List.pairwise_flatten.mp h).1 B (List.mem_of_getElem? h2)
  · obtain ⟨i, h1, h2⟩ := sub_place hsub (List.getElem?_eq_getElem ha)
    obtain ⟨k, h3, h4⟩ := sub_place hsub (List.getElem?_eq_getElem hb)
    refine apart_blocks h h2 h4 (fun e => ?_) hp hq
    subst e
    have := va_nd_inj is hnd a b i h1 h3
    omega
theorem sub_free {s : State} {D : va_G} {A : Nat → Prop} {L Bs : List va_W} {is : List Nat} {H : Heap} {locs : List Loc} (hsub : is.map (fun i => L[i]?) = Bs.map some) (hA : ∀ q : Nat, s.heap.size ≤ q → A q) (hI : wI s D A (fl L) H locs) : ∀ q, va_A (fl Bs) H.size q → A q := by
  rintro q (⟨k, e, h⟩ | h)
  · exact (D_mem.mp hI.2.1).2 (q, e) (sub_in hsub (List.mem_of_getElem? h))
  · exact hA q (Nat.le_trans hI.2.2.1 h)
theorem back_P {D : va_G} {A : Nat → Prop} {L Bs B1 : List va_W} {is : List Nat} {H H1 : Heap} (hsub : is.map (fun i => L[i]?) = Bs.map some) (hlen : B1.length = Bs.length) (hP : va_P D vwCl (fl L) H) (hD : va_D A (fl L)) (hP1 : va_P D vwCl (fl B1) H1) (hk : ∀ q : Nat, q < H.size → ¬ va_A (fl Bs) H.size q → H1[q]? = H[q]?) : va_P D vwCl (fl (wrp L is B1)) H1 := by
  have hl : B1.length = is.length := by
    have a := congrArg List.length hsub
    simp only [List.length_map] at a
    omega
  refine P_mem.mpr fun q hq => ?_
  obtain ⟨B, hB, hqB⟩ := List.mem_flatten.mp hq
  obtain ⟨k, hkB⟩ := List.getElem?_of_mem hB
  rcases wrp_get is L B1 k B hl hkB with ⟨j, h1, h2⟩ | ⟨h1, h2⟩
  · exact P_mem.mp hP1 q (List.mem_flatten.mpr ⟨B, List.mem_of_getElem? h2, hqB⟩)
  · have hat := P_mem.mp hP q (List.mem_flatten.mpr ⟨B, List.mem_of_getElem? h2, hqB⟩)
    have hlt : q.1 < H.size := va_at_in hat
    refine hat.kept (hk q.1 hlt ?_)
    rintro (⟨j, x, hj⟩ | hge)
    · obtain ⟨j, i, C, -, hi, hC, hm⟩ := sub_mem hsub (List.mem_of_getElem? hj)
      exact apart_blocks (D_mem.mp hD).1 hC h2 (fun e => h1 (e ▸ List.mem_of_getElem? hi)) hm hqB rfl
    · omega
theorem back_D {A : Nat → Prop} {L Bs B1 : List va_W} {is : List Nat} (hsub : is.map (fun i => L[i]?) = Bs.map some) (hfst : B1.map (List.map Prod.fst) = Bs.map (List.map Prod.fst)) (hD : va_D A (fl L)) : va_D A (fl (wrp L is B1)) := by
  refine va_D_fst hD ?_
  rw [List.map_flatten, List.map_flatten]
  congr 1
  refine wrp_map (List.map Prod.fst) is L B1 ?_
  have a : is.map (fun i => (L[i]?).map (List.map Prod.fst)) = (is.map (fun i => L[i]?)).map (fun o => o.map (List.map Prod.fst)) := by rw [List.map_map]; rfl
  rw [a, hsub, List.map_map]
  have b : B1.map (fun q => some (List.map Prod.fst q)) = (B1.map (List.map Prod.fst)).map some := by rw [List.map_map]; rfl
  rw [b, hfst, List.map_map]
  rfl
theorem cP_call {s U : State} {D : va_G} {K : Nat → ClassId} {A : Nat → Prop} {L Bs : List va_W} {is : List Nat} {H : Heap} {locs : List Loc} (hK : va_K D vwCl (tyl K) s) (hZ : cxZ A s s.heap) (hA : ∀ q : Nat, s.heap.size ≤ q → A q) (hI : wI s D A (fl L) H locs) (hnd : va_nd is = true) (hsub : is.map (fun i => L[i]?) = Bs.map some) (hU : U.heap = H) (hW : s.WarmedH U.vm) : cP D K (fl Bs) H.size U := by
  refine ⟨by rw [hU], by rw [hU]; exact P_mem.mpr fun q hq => P_mem.mp hI.1 q (sub_in hsub hq), va_K.moved hW.alike hK, D_mem.mpr ⟨sub_apart hnd hsub (D_mem.mp hI.2.1).1, fun _ _ => trivial⟩, ?_⟩
  rw [hU]
  exact ((hZ.moved hW.alike).kept (fun a h1 h2 => hI.2.2.2.1 a h1 h2)).narrow (sub_free hsub hA hI)
section XROWS
variable {p : Program} {l : Launch} {e : Env} {R : Room} {s : State} {m : MethodId} {args : Array Value} {below : List Frame} {meth : Method} {c : Code} {H : Heap} {locs : List Loc} {cells slots : Nat} {Q : State → Prop}
variable {cc : ByteArray} {pc nL : Nat} {ls : Array Slot} {rest st0 : List Value} {A : Nat → Prop} {D : va_G} {K : Nat → ClassId} {V : va_W} {own : String} {Ts : List Cond}
theorem x_get (hC : Cx p s m args c cc nL own Ts D K A) (hI : wI s D A V H locs) {ref C : String} {T : u_T} {N ci index a : Nat} (hin : ∀ w ∈ u_ws C T N, w ∈ Ts) (q0 : Nat) {fs : List Value} (he : V[q0]? = some (a, .inr (ci, fs))) (hc : vwCl[ci]? = some (C, T, N)) (k : Nat) (hk : k < N) (hlink : Cond.fieldLink own index ref (T k).2.1 (T k).2.2.1 ∈ Ts) (hsame : (T k).1 = ref) {v : Value} (hv : fs[k]? = some v) (hdg : decode cc pc = .ok (.getfield index, 3))
    (kk : W p l e R s m args below meth c H locs cells slots Q (F0 m (pc + 3) ls (v :: rest))) : W p l e R s m args below meth c H locs cells slots Q (F0 m pc ls (.ref a :: rest)) := by
  obtain ⟨hx, hb, hml, hown, hts, hK, hA, hZ⟩ := hC
  subst hsame
  exact va_get hx hb hts hin hown hK hI.1 q0 he hc k hk (hts _ hlink) (fun _ h9 => h9) hv hdg kk
theorem x_put (hC : Cx p s m args c cc nL own Ts D K A) (hI : wI s D A V H locs) {ref C : String} {T : u_T} {N ci index a : Nat} (hin : ∀ w ∈ u_ws C T N, w ∈ Ts) (ty0 : Nat → FieldType) (hty : ∀ k, k < N → parseFieldDescriptor (T k).2.2.1 = some (ty0 k)) (hnm : ∀ a, a < N → ∀ b, b < N → a ≠ b → (T a).2.1 ≠ (T b).2.1) (q0 : Nat) {fs : List Value} (he : V[q0]? = some (a, .inr (ci, fs))) (hc : vwCl[ci]? = some (C, T, N)) (k : Nat) (hk : k < N) (hlink : Cond.fieldLink own index ref (T k).2.1 (T k).2.2.1 ∈ Ts) (hsame : (T k).1 = ref) (hfin : (T k).2.2.2 = false) {v : Value} (hn : narrow (ty0 k) v = v) (hfit : fits (ty0 k) v = true) (hl : k < fs.length) (hdg : decode cc pc = .ok (.putfield index, 3))
    (kk : ∀ (H1 : Heap) (locs1 : List Loc), wI s D A (V.set q0 (a, .inr (ci, fs.set k v))) H1 locs1 → W p l e R s m args below meth c H1 locs1 cells slots Q (F0 m (pc + 3) ls rest)) : W p l e R s m args below meth c H locs cells slots Q (F0 m pc ls (v :: .ref a :: rest)) := by
  obtain ⟨hx, hb, hml, hown, hts, hK, hA, hZ⟩ := hC
  subst hsame
  exact va_put hx hb hts hin ty0 hty hnm hown hK hI.1 hI.2.1 hI.2.2 q0 he hc k hk (hts _ hlink) (fun _ h9 => h9) hfin (hty k hk) hn hfit hl hdg (fun H1 locs1 a1 a2 a3 => kk H1 locs1 ⟨a1, a2, a3⟩)
theorem x_iald (hC : Cx p s m args c cc nL own Ts D K A) (hI : wI s D A V H locs) (q0 : Nat) {a n : Nat} {f : Nat → Int32} (ha : V[q0]? = some (a, .inl (K 0, n, .inl f))) {i : Int32} (hin : vp_in i n) (hdg : decode cc pc = .ok (.iaload, 1))
    (kk : W p l e R s m args below meth c H locs cells slots Q (F0 m (pc + 1) ls (.int (f i.toNatClampNeg) :: rest))) : W p l e R s m args below meth c H locs cells slots Q (F0 m pc ls (.int i :: .ref a :: rest)) := by
  obtain ⟨hx, hb, hml, hown, hts, hK, hA, hZ⟩ := hC
  exact va_iald hx hb hK hI.1 q0 0 ha rfl hin hdg kk
theorem x_lald (hC : Cx p s m args c cc nL own Ts D K A) (hI : wI s D A V H locs) (q0 : Nat) {a n : Nat} {f : Nat → Int64} (ha : V[q0]? = some (a, .inl (K 1, n, .inr (.inl f)))) {i : Int32} (hin : vp_in i n) (hdg : decode cc pc = .ok (.laload, 1))
    (kk : W p l e R s m args below meth c H locs cells slots Q (F0 m (pc + 1) ls (.long (f i.toNatClampNeg) :: rest))) : W p l e R s m args below meth c H locs cells slots Q (F0 m pc ls (.int i :: .ref a :: rest)) := by
  obtain ⟨hx, hb, hml, hown, hts, hK, hA, hZ⟩ := hC
  exact va_lald hx hb hK hI.1 q0 1 ha rfl hin hdg kk
theorem x_aald (hC : Cx p s m args c cc nL own Ts D K A) (hI : wI s D A V H locs) (q0 t0 : Nat) {cA : ClassId} {C : String} {a n : Nat} {f : Nat → Option Nat} (ha : V[q0]? = some (a, .inl (cA, n, .inr (.inr (.inr (.inr f)))))) (ht : (tyl K)[t0]? = some (cA, .object C)) {i : Int32} (hin : vp_in i n) {x : Nat} (hf : f i.toNatClampNeg = some x) (hdg : decode cc pc = .ok (.aaload, 1))
    (kk : W p l e R s m args below meth c H locs cells slots Q (F0 m (pc + 1) ls (.ref x :: rest))) : W p l e R s m args below meth c H locs cells slots Q (F0 m pc ls (.int i :: .ref a :: rest)) := by
  obtain ⟨hx, hb, hml, hown, hts, hK, hA, hZ⟩ := hC
  refine va_aldq hx hb hK hI.1 q0 t0 ha ht hin hdg ?_
  rw [hf]
  exact kk
theorem x_iast (hC : Cx p s m args c cc nL own Ts D K A) (hI : wI s D A V H locs) (q0 : Nat) {a n : Nat} {f : Nat → Int32} (ha : V[q0]? = some (a, .inl (K 0, n, .inl f))) {i x : Int32} (hin : vp_in i n) (hdg : decode cc pc = .ok (.iastore, 1))
    (kk : ∀ (H1 : Heap) (locs1 : List Loc), wI s D A (V.set q0 (a, .inl (K 0, n, .inl (upd f i.toNatClampNeg x)))) H1 locs1 → W p l e R s m args below meth c H1 locs1 cells slots Q (F0 m (pc + 1) ls rest)) : W p l e R s m args below meth c H locs cells slots Q (F0 m pc ls (.int x :: .int i :: .ref a :: rest)) := by
  obtain ⟨hx, hb, hml, hown, hts, hK, hA, hZ⟩ := hC
  exact va_iast hx hb hK hI.1 hI.2.1 hI.2.2 q0 0 ha rfl hin hdg (fun H1 locs1 a1 a2 a3 => kk H1 locs1 ⟨a1, a2, a3⟩)
theorem x_last (hC : Cx p s m args c cc nL own Ts D K A) (hI : wI s D A V H locs) (q0 : Nat) {a n : Nat} {f : Nat → Int64} (ha : V[q0]? = some (a, .inl (K 1, n, .inr (.inl f)))) {i : Int32} {x : Int64} (hin : vp_in i n) (hdg : decode cc pc = .ok (.lastore, 1))
    (kk : ∀ (H1 : Heap) (locs1 : List Loc), wI s D A (V.set q0 (a, .inl (K 1, n, .inr (.inl (vp_updL f i.toNatClampNeg x))))) H1 locs1 → W p l e R s m args below meth c H1 locs1 cells slots Q (F0 m (pc + 1) ls rest)) : W p l e R s m args below meth c H locs cells slots Q (F0 m pc ls (.long x :: .int i :: .ref a :: rest)) := by
  obtain ⟨hx, hb, hml, hown, hts, hK, hA, hZ⟩ := hC
  exact va_last hx hb hK hI.1 hI.2.1 hI.2.2 q0 1 ha rfl hin hdg (fun H1 locs1 a1 a2 a3 => kk H1 locs1 ⟨a1, a2, a3⟩)
theorem x_alenI (hC : Cx p s m args c cc nL own Ts D K A) (hI : wI s D A V H locs) (q0 : Nat) {a n : Nat} {f : Nat → Int32} (ha : V[q0]? = some (a, .inl (K 0, n, .inl f))) {v : Int32} (hv : Int32.ofNat n = v) (hdg : decode cc pc = .ok (.arraylength, 1))
    (kk : W p l e R s m args below meth c H locs cells slots Q (F0 m (pc + 1) ls (.int v :: rest))) : W p l e R s m args below meth c H locs cells slots Q (F0 m pc ls (.ref a :: rest)) := by
  obtain ⟨hx, hb, hml, hown, hts, hK, hA, hZ⟩ := hC
  exact va_alen hx hb hK hI.1 q0 0 ha (ty := .int) rfl hv hdg kk
theorem x_alenJ (hC : Cx p s m args c cc nL own Ts D K A) (hI : wI s D A V H locs) (q0 : Nat) {a n : Nat} {f : Nat → Int64} (ha : V[q0]? = some (a, .inl (K 1, n, .inr (.inl f)))) {v : Int32} (hv : Int32.ofNat n = v) (hdg : decode cc pc = .ok (.arraylength, 1))
    (kk : W p l e R s m args below meth c H locs cells slots Q (F0 m (pc + 1) ls (.int v :: rest))) : W p l e R s m args below meth c H locs cells slots Q (F0 m pc ls (.ref a :: rest)) := by
  obtain ⟨hx, hb, hml, hown, hts, hK, hA, hZ⟩ := hC
  exact va_alen hx hb hK hI.1 q0 1 ha (ty := .long) rfl hv hdg kk
/-- a static row of ints: the reference, an element, the length -/
theorem x_gets (hC : Cx p s m args c cc nL own Ts D K A) (hI : wI s D A V H locs) {C n : String} {N index : Nat} {f : Nat → Int32} (hT : cxT C n N f A s s.heap) (hlink : Cond.fieldLink own index C n "[I" ∈ Ts) (hdg : decode cc pc = .ok (.getstatic index, 3))
    (kk : ∀ t : Nat, va_T .int t N (fun j => .int (f j)) A s s.heap → W p l e R s m args below meth c H locs cells slots Q (F0 m (pc + 3) ls (.ref t :: rest))) : W p l e R s m args below meth c H locs cells slots Q (F0 m pc ls rest) := by
  obtain ⟨hx, hb, hml, hown, hts, hK, hA, hZ⟩ := hC
  obtain ⟨t, h1, h2⟩ := hT
  exact va_gets hx hb h1 hI.2.2 hown (hts _ hlink) (fun _ h9 => h9) hdg (kk t h2)
theorem x_ti (hC : Cx p s m args c cc nL own Ts D K A) (hI : wI s D A V H locs) {t N : Nat} {f : Nat → Int32} (hT : va_T .int t N (fun j => .int (f j)) A s s.heap) {i : Int32} (hin : vp_in i N) (hdg : decode cc pc = .ok (.iaload, 1))
    (kk : W p l e R s m args below meth c H locs cells slots Q (F0 m (pc + 1) ls (.int (f i.toNatClampNeg) :: rest))) : W p l e R s m args below meth c H locs cells slots Q (F0 m pc ls (.int i :: .ref t :: rest)) := by
  obtain ⟨hx, hb, hml, hown, hts, hK, hA, hZ⟩ := hC
  exact va_ti hx hb hT hI.2.2 hin rfl hdg kk
theorem x_tlen (hC : Cx p s m args c cc nL own Ts D K A) (hI : wI s D A V H locs) {t N : Nat} {f : Nat → Int32} (hT : va_T .int t N (fun j => .int (f j)) A s s.heap) {v : Int32} (hv : Int32.ofNat N = v) (hdg : decode cc pc = .ok (.arraylength, 1))
    (kk : W p l e R s m args below meth c H locs cells slots Q (F0 m (pc + 1) ls (.int v :: rest))) : W p l e R s m args below meth c H locs cells slots Q (F0 m pc ls (.ref t :: rest)) := by
  obtain ⟨hx, hb, hml, hown, hts, hK, hA, hZ⟩ := hC
  exact va_tlen hx hb hT hI.2.2 hv hdg kk
theorem x_callVi {S : Type} {post : Int32 → S → Prop} {w1 : S → List va_W} {C : String} {b : Nat} {As : List Value} {y : MethodName} {ws : List Cond} {rm : Room} {bytes : ByteArray} {maxL index n : Nat} {ret : Option FieldType} {L : List va_W} (hC : Cx p s m args c cc nL own Ts D K A) (hI : wI s D A (fl L) H locs) (is : List Nat) {Bs : List va_W}
    (hM : Met l y ws rm (va_Pc (.ref b :: As) (cP D K (fl Bs) H.size)) (va_Qi post (fun u t => cQ D K (fl (w1 u)) (va_A (fl Bs) H.size) t) (va_A (fl Bs) H.size)) 0 0 (va_A (fl Bs) H.size)) (cw : CallW R s args own C index y bytes maxL ret ws rm 0 0 n)
    (hnd : va_nd is = true) (hsub : is.map (fun i => L[i]?) = Bs.map some) (hfst : ∀ u : S, (w1 u).map (List.map Prod.fst) = Bs.map (List.map Prod.fst)) (q0 ci : Nat) {fs : List Value} {rc : vw_C} (hc : vwCl[ci]? = some rc) (hrC : rc.1 = C) (he : (fl L)[q0]? = some (b, .inr (ci, fs))) (hn : As.length = n) (hls : ls.size = nL) (hst : st0 = As.reverse ++ .ref b :: rest) (hroom : (rest.map fun v => v.category).sum ≤ 8) (hdg : decode cc pc = .ok (.invokevirtual index, 3)) (hcs : cells ≤ R.cells ∧ slots ≤ R.slots)
    (kk : ∀ (r : Int32) (u : S) (H1 : Heap) (locs1 : List Loc), post r u → wI s D A (fl (wrp L is (w1 u))) H1 locs1 → W p l e R s m args below meth c H1 locs1 cells slots Q (F0 m (pc + 3) ls (.int r :: rest))) : W p l e R s m args below meth c H locs cells slots Q (F0 m pc ls st0) := by
  obtain ⟨hx, hb, hml, hown, hts, hK, hA, hZ⟩ := hC
  have hFc := sub_free hsub hA hI
  subst hrC
  refine va_calli (va_runV (As := As) (rest := rest) ⟨hx, hb, hml, hown, hts⟩ hM cw ⟨cP_blind, va_recv hK hI.1 hc he, fun U hU hW => ⟨rfl, cP_call hK hZ hA hI hnd hsub hU hW⟩⟩ rfl hn hls hst (lv_room hroom) hdg hcs) hI.2.2 (fun q _ h => hFc q h) hFc (fun r u t H1 locs1 ht hvm hw hB hz1 hk1 hS1 => ?_)
  obtain ⟨hP1, hK1, hD1⟩ := hB
  rw [ht] at hP1
  exact kk r u H1 locs1 hw ⟨back_P hsub (by have h9 := congrArg List.length (hfst u); simpa using h9) hI.1 hI.2.1 hP1 hk1, back_D hsub (hfst u) hI.2.1, hS1⟩
theorem x_callVl {S : Type} {post : Int64 → S → Prop} {w1 : S → List va_W} {C : String} {b : Nat} {As : List Value} {y : MethodName} {ws : List Cond} {rm : Room} {bytes : ByteArray} {maxL index n : Nat} {ret : Option FieldType} {L : List va_W} (hC : Cx p s m args c cc nL own Ts D K A) (hI : wI s D A (fl L) H locs) (is : List Nat) {Bs : List va_W}
    (hM : Met l y ws rm (va_Pc (.ref b :: As) (cP D K (fl Bs) H.size)) (va_Ql post (fun u t => cQ D K (fl (w1 u)) (va_A (fl Bs) H.size) t) (va_A (fl Bs) H.size)) 0 0 (va_A (fl Bs) H.size)) (cw : CallW R s args own C index y bytes maxL ret ws rm 0 0 n)
    (hnd : va_nd is = true) (hsub : is.map (fun i => L[i]?) = Bs.map some) (hfst : ∀ u : S, (w1 u).map (List.map Prod.fst) = Bs.map (List.map Prod.fst)) (q0 ci : Nat) {fs : List Value} {rc : vw_C} (hc : vwCl[ci]? = some rc) (hrC : rc.1 = C) (he : (fl L)[q0]? = some (b, .inr (ci, fs))) (hn : As.length = n) (hls : ls.size = nL) (hst : st0 = As.reverse ++ .ref b :: rest) (hroom : (rest.map fun v => v.category).sum ≤ 8) (hdg : decode cc pc = .ok (.invokevirtual index, 3)) (hcs : cells ≤ R.cells ∧ slots ≤ R.slots)
    (kk : ∀ (r : Int64) (u : S) (H1 : Heap) (locs1 : List Loc), post r u → wI s D A (fl (wrp L is (w1 u))) H1 locs1 → W p l e R s m args below meth c H1 locs1 cells slots Q (F0 m (pc + 3) ls (.long r :: rest))) : W p l e R s m args below meth c H locs cells slots Q (F0 m pc ls st0) := by
  obtain ⟨hx, hb, hml, hown, hts, hK, hA, hZ⟩ := hC
  have hFc := sub_free hsub hA hI
  subst hrC
  refine va_calll (va_runV (As := As) (rest := rest) ⟨hx, hb, hml, hown, hts⟩ hM cw ⟨cP_blind, va_recv hK hI.1 hc he, fun U hU hW => ⟨rfl, cP_call hK hZ hA hI hnd hsub hU hW⟩⟩ rfl hn hls hst (lv_room hroom) hdg hcs) hI.2.2 (fun q _ h => hFc q h) hFc (fun r u t H1 locs1 ht hvm hw hB hz1 hk1 hS1 => ?_)
  obtain ⟨hP1, hK1, hD1⟩ := hB
  rw [ht] at hP1
  exact kk r u H1 locs1 hw ⟨back_P hsub (by have h9 := congrArg List.length (hfst u); simpa using h9) hI.1 hI.2.1 hP1 hk1, back_D hsub (hfst u) hI.2.1, hS1⟩
theorem x_callVv {S : Type} {post : S → Prop} {w1 : S → List va_W} {C : String} {b : Nat} {As : List Value} {y : MethodName} {ws : List Cond} {rm : Room} {bytes : ByteArray} {maxL index n : Nat} {ret : Option FieldType} {L : List va_W} (hC : Cx p s m args c cc nL own Ts D K A) (hI : wI s D A (fl L) H locs) (is : List Nat) {Bs : List va_W}
    (hM : Met l y ws rm (va_Pc (.ref b :: As) (cP D K (fl Bs) H.size)) (va_Qv post (fun u t => cQ D K (fl (w1 u)) (va_A (fl Bs) H.size) t) (va_A (fl Bs) H.size)) 0 0 (va_A (fl Bs) H.size)) (cw : CallW R s args own C index y bytes maxL ret ws rm 0 0 n)
    (hnd : va_nd is = true) (hsub : is.map (fun i => L[i]?) = Bs.map some) (hfst : ∀ u : S, (w1 u).map (List.map Prod.fst) = Bs.map (List.map Prod.fst)) (q0 ci : Nat) {fs : List Value} {rc : vw_C} (hc : vwCl[ci]? = some rc) (hrC : rc.1 = C) (he : (fl L)[q0]? = some (b, .inr (ci, fs))) (hn : As.length = n) (hls : ls.size = nL) (hst : st0 = As.reverse ++ .ref b :: rest) (hroom : (rest.map fun v => v.category).sum ≤ 8) (hdg : decode cc pc = .ok (.invokevirtual index, 3)) (hcs : cells ≤ R.cells ∧ slots ≤ R.slots)
    (kk : ∀ (u : S) (H1 : Heap) (locs1 : List Loc), post u → wI s D A (fl (wrp L is (w1 u))) H1 locs1 → W p l e R s m args below meth c H1 locs1 cells slots Q (F0 m (pc + 3) ls rest)) : W p l e R s m args below meth c H locs cells slots Q (F0 m pc ls st0) := by
  obtain ⟨hx, hb, hml, hown, hts, hK, hA, hZ⟩ := hC
  have hFc := sub_free hsub hA hI
  subst hrC
  refine va_callv (va_runV (As := As) (rest := rest) ⟨hx, hb, hml, hown, hts⟩ hM cw ⟨cP_blind, va_recv hK hI.1 hc he, fun U hU hW => ⟨rfl, cP_call hK hZ hA hI hnd hsub hU hW⟩⟩ rfl hn hls hst (lv_room hroom) hdg hcs) hI.2.2 (fun q _ h => hFc q h) hFc (fun u t H1 locs1 ht hvm hw hB hz1 hk1 hS1 => ?_)
  obtain ⟨hP1, hK1, hD1⟩ := hB
  rw [ht] at hP1
  exact kk u H1 locs1 hw ⟨back_P hsub (by have h9 := congrArg List.length (hfst u); simpa using h9) hI.1 hI.2.1 hP1 hk1, back_D hsub (hfst u) hI.2.1, hS1⟩
theorem x_callSi {S : Type} {post : Int32 → S → Prop} {w1 : S → List va_W} {As : List Value} {y : MethodName} {ws : List Cond} {rm : Room} {bytes : ByteArray} {maxL index n : Nat} {ret : Option FieldType} {L : List va_W} (hC : Cx p s m args c cc nL own Ts D K A) (hI : wI s D A (fl L) H locs) (is : List Nat) {Bs : List va_W}
    (hM : Met l y ws rm (va_Pc As (cP D K (fl Bs) H.size)) (va_Qi post (fun u t => cQ D K (fl (w1 u)) (va_A (fl Bs) H.size) t) (va_A (fl Bs) H.size)) 0 0 (va_A (fl Bs) H.size)) (cw : CallB R s args own index y bytes maxL ret ws rm 0 0 n ∧ (Cond.static y).before args s = true)
    (hnd : va_nd is = true) (hsub : is.map (fun i => L[i]?) = Bs.map some) (hfst : ∀ u : S, (w1 u).map (List.map Prod.fst) = Bs.map (List.map Prod.fst)) (hn : As.length = n) (hls : ls.size = nL) (hst : st0 = As.reverse ++ rest) (hroom : (rest.map fun v => v.category).sum ≤ 8) (hdg : decode cc pc = .ok (.invokestatic index, 3)) (hcs : cells ≤ R.cells ∧ slots ≤ R.slots)
    (kk : ∀ (r : Int32) (u : S) (H1 : Heap) (locs1 : List Loc), post r u → wI s D A (fl (wrp L is (w1 u))) H1 locs1 → W p l e R s m args below meth c H1 locs1 cells slots Q (F0 m (pc + 3) ls (.int r :: rest))) : W p l e R s m args below meth c H locs cells slots Q (F0 m pc ls st0) := by
  obtain ⟨hx, hb, hml, hown, hts, hK, hA, hZ⟩ := hC
  have hFc := sub_free hsub hA hI
  refine va_calli (va_runS (As := As) (rest := rest) ⟨hx, hb, hml, hown, hts⟩ hM cw ⟨cP_blind, fun U hU hW => ⟨rfl, cP_call hK hZ hA hI hnd hsub hU hW⟩⟩ rfl hn hls hst (lv_room hroom) hdg hcs) hI.2.2 (fun q _ h => hFc q h) hFc (fun r u t H1 locs1 ht hvm hw hB hz1 hk1 hS1 => ?_)
  obtain ⟨hP1, hK1, hD1⟩ := hB
  rw [ht] at hP1
  exact kk r u H1 locs1 hw ⟨back_P hsub (by have h9 := congrArg List.length (hfst u); simpa using h9) hI.1 hI.2.1 hP1 hk1, back_D hsub (hfst u) hI.2.1, hS1⟩
theorem x_callSl {S : Type} {post : Int64 → S → Prop} {w1 : S → List va_W} {As : List Value} {y : MethodName} {ws : List Cond} {rm : Room} {bytes : ByteArray} {maxL index n : Nat} {ret : Option FieldType} {L : List va_W} (hC : Cx p s m args c cc nL own Ts D K A) (hI : wI s D A (fl L) H locs) (is : List Nat) {Bs : List va_W}
    (hM : Met l y ws rm (va_Pc As (cP D K (fl Bs) H.size)) (va_Ql post (fun u t => cQ D K (fl (w1 u)) (va_A (fl Bs) H.size) t) (va_A (fl Bs) H.size)) 0 0 (va_A (fl Bs) H.size)) (cw : CallB R s args own index y bytes maxL ret ws rm 0 0 n ∧ (Cond.static y).before args s = true)
    (hnd : va_nd is = true) (hsub : is.map (fun i => L[i]?) = Bs.map some) (hfst : ∀ u : S, (w1 u).map (List.map Prod.fst) = Bs.map (List.map Prod.fst)) (hn : As.length = n) (hls : ls.size = nL) (hst : st0 = As.reverse ++ rest) (hroom : (rest.map fun v => v.category).sum ≤ 8) (hdg : decode cc pc = .ok (.invokestatic index, 3)) (hcs : cells ≤ R.cells ∧ slots ≤ R.slots)
    (kk : ∀ (r : Int64) (u : S) (H1 : Heap) (locs1 : List Loc), post r u → wI s D A (fl (wrp L is (w1 u))) H1 locs1 → W p l e R s m args below meth c H1 locs1 cells slots Q (F0 m (pc + 3) ls (.long r :: rest))) : W p l e R s m args below meth c H locs cells slots Q (F0 m pc ls st0) := by
  obtain ⟨hx, hb, hml, hown, hts, hK, hA, hZ⟩ := hC
  have hFc := sub_free hsub hA hI
  refine va_calll (va_runS (As := As) (rest := rest) ⟨hx, hb, hml, hown, hts⟩ hM cw ⟨cP_blind, fun U hU hW => ⟨rfl, cP_call hK hZ hA hI hnd hsub hU hW⟩⟩ rfl hn hls hst (lv_room hroom) hdg hcs) hI.2.2 (fun q _ h => hFc q h) hFc (fun r u t H1 locs1 ht hvm hw hB hz1 hk1 hS1 => ?_)
  obtain ⟨hP1, hK1, hD1⟩ := hB
  rw [ht] at hP1
  exact kk r u H1 locs1 hw ⟨back_P hsub (by have h9 := congrArg List.length (hfst u); simpa using h9) hI.1 hI.2.1 hP1 hk1, back_D hsub (hfst u) hI.2.1, hS1⟩
theorem x_callSv {S : Type} {post : S → Prop} {w1 : S → List va_W} {As : List Value} {y : MethodName} {ws : List Cond} {rm : Room} {bytes : ByteArray} {maxL index n : Nat} {ret : Option FieldType} {L : List va_W} (hC : Cx p s m args c cc nL own Ts D K A) (hI : wI s D A (fl L) H locs) (is : List Nat) {Bs : List va_W}
    (hM : Met l y ws rm (va_Pc As (cP D K (fl Bs) H.size)) (va_Qv post (fun u t => cQ D K (fl (w1 u)) (va_A (fl Bs) H.size) t) (va_A (fl Bs) H.size)) 0 0 (va_A (fl Bs) H.size)) (cw : CallB R s args own index y bytes maxL ret ws rm 0 0 n ∧ (Cond.static y).before args s = true)
    (hnd : va_nd is = true) (hsub : is.map (fun i => L[i]?) = Bs.map some) (hfst : ∀ u : S, (w1 u).map (List.map Prod.fst) = Bs.map (List.map Prod.fst)) (hn : As.length = n) (hls : ls.size = nL) (hst : st0 = As.reverse ++ rest) (hroom : (rest.map fun v => v.category).sum ≤ 8) (hdg : decode cc pc = .ok (.invokestatic index, 3)) (hcs : cells ≤ R.cells ∧ slots ≤ R.slots)
    (kk : ∀ (u : S) (H1 : Heap) (locs1 : List Loc), post u → wI s D A (fl (wrp L is (w1 u))) H1 locs1 → W p l e R s m args below meth c H1 locs1 cells slots Q (F0 m (pc + 3) ls rest)) : W p l e R s m args below meth c H locs cells slots Q (F0 m pc ls st0) := by
  obtain ⟨hx, hb, hml, hown, hts, hK, hA, hZ⟩ := hC
  have hFc := sub_free hsub hA hI
  refine va_callv (va_runS (As := As) (rest := rest) ⟨hx, hb, hml, hown, hts⟩ hM cw ⟨cP_blind, fun U hU hW => ⟨rfl, cP_call hK hZ hA hI hnd hsub hU hW⟩⟩ rfl hn hls hst (lv_room hroom) hdg hcs) hI.2.2 (fun q _ h => hFc q h) hFc (fun u t H1 locs1 ht hvm hw hB hz1 hk1 hS1 => ?_)
  obtain ⟨hP1, hK1, hD1⟩ := hB
  rw [ht] at hP1
  exact kk u H1 locs1 hw ⟨back_P hsub (by have h9 := congrArg List.length (hfst u); simpa using h9) hI.1 hI.2.1 hP1 hk1, back_D hsub (hfst u) hI.2.1, hS1⟩
theorem x_callWi {S : Type} {post : Int32 → S → Prop} {w1 : S → va_W} {C : String} {b : Nat} {As : List Value} {y : MethodName} {ws : List Cond} {rm : Room} {bytes : ByteArray} {maxL index n : Nat} {ret : Option FieldType} (hC : Cx p s m args c cc nL own Ts D K A) (hI : wI s D A V H locs)
    (hM : Met l y ws rm (va_Pc (.ref b :: As) (cP D K V H.size)) (va_Qi post (fun u t => cQ D K (w1 u) (va_A V H.size) t) (va_A V H.size)) 0 0 (va_A V H.size)) (cw : CallW R s args own C index y bytes maxL ret ws rm 0 0 n)
    (hfst : ∀ u : S, (w1 u).map Prod.fst = V.map Prod.fst) (q0 ci : Nat) {fs : List Value} {rc : vw_C} (hc : vwCl[ci]? = some rc) (hrC : rc.1 = C) (he : V[q0]? = some (b, .inr (ci, fs))) (hn : As.length = n) (hls : ls.size = nL) (hst : st0 = As.reverse ++ .ref b :: rest) (hroom : (rest.map fun v => v.category).sum ≤ 8) (hdg : decode cc pc = .ok (.invokevirtual index, 3)) (hcs : cells ≤ R.cells ∧ slots ≤ R.slots)
    (kk : ∀ (r : Int32) (u : S) (H1 : Heap) (locs1 : List Loc), post r u → wI s D A (w1 u) H1 locs1 → W p l e R s m args below meth c H1 locs1 cells slots Q (F0 m (pc + 3) ls (.int r :: rest))) : W p l e R s m args below meth c H locs cells slots Q (F0 m pc ls st0) := by
  obtain ⟨hx, hb, hml, hown, hts, hK, hA, hZ⟩ := hC
  have hFc : ∀ q, va_A V H.size q → A q := by
    rintro q (⟨k, e1, h⟩ | h)
    · exact hI.2.1.2 k _ h
    · exact hA q (Nat.le_trans hI.2.2.1 h)
  subst hrC
  refine va_calli (va_runV (As := As) (rest := rest) ⟨hx, hb, hml, hown, hts⟩ hM cw ⟨cP_blind, va_recv hK hI.1 hc he, fun U hU hW => ⟨rfl, by rw [hU], by rw [hU]; exact hI.1, va_K.moved hW.alike hK, hI.2.1.weaken (fun _ _ _ _ => trivial), by rw [hU]; exact ((hZ.moved hW.alike).kept (fun a h1 h2 => hI.2.2.2.1 a h1 h2)).narrow hFc⟩⟩ rfl hn hls hst (lv_room hroom) hdg hcs) hI.2.2 (fun q _ h => hFc q h) hFc (fun r u t H1 locs1 ht hvm hw hB hz1 hk1 hS1 => ?_)
  obtain ⟨hP1, hK1, hD1⟩ := hB
  rw [ht] at hP1
  exact kk r u H1 locs1 hw ⟨hP1, va_D_fst hI.2.1 (hfst u), hS1⟩
theorem x_callWl {S : Type} {post : Int64 → S → Prop} {w1 : S → va_W} {C : String} {b : Nat} {As : List Value} {y : MethodName} {ws : List Cond} {rm : Room} {bytes : ByteArray} {maxL index n : Nat} {ret : Option FieldType} (hC : Cx p s m args c cc nL own Ts D K A) (hI : wI s D A V H locs)
    (hM : Met l y ws rm (va_Pc (.ref b :: As) (cP D K V H.size)) (va_Ql post (fun u t => cQ D K (w1 u) (va_A V H.size) t) (va_A V H.size)) 0 0 (va_A V H.size)) (cw : CallW R s args own C index y bytes maxL ret ws rm 0 0 n)
    (hfst : ∀ u : S, (w1 u).map Prod.fst = V.map Prod.fst) (q0 ci : Nat) {fs : List Value} {rc : vw_C} (hc : vwCl[ci]? = some rc) (hrC : rc.1 = C) (he : V[q0]? = some (b, .inr (ci, fs))) (hn : As.length = n) (hls : ls.size = nL) (hst : st0 = As.reverse ++ .ref b :: rest) (hroom : (rest.map fun v => v.category).sum ≤ 8) (hdg : decode cc pc = .ok (.invokevirtual index, 3)) (hcs : cells ≤ R.cells ∧ slots ≤ R.slots)
    (kk : ∀ (r : Int64) (u : S) (H1 : Heap) (locs1 : List Loc), post r u → wI s D A (w1 u) H1 locs1 → W p l e R s m args below meth c H1 locs1 cells slots Q (F0 m (pc + 3) ls (.long r :: rest))) : W p l e R s m args below meth c H locs cells slots Q (F0 m pc ls st0) := by
  obtain ⟨hx, hb, hml, hown, hts, hK, hA, hZ⟩ := hC
  have hFc : ∀ q, va_A V H.size q → A q := by
    rintro q (⟨k, e1, h⟩ | h)
    · exact hI.2.1.2 k _ h
    · exact hA q (Nat.le_trans hI.2.2.1 h)
  subst hrC
  refine va_calll (va_runV (As := As) (rest := rest) ⟨hx, hb, hml, hown, hts⟩ hM cw ⟨cP_blind, va_recv hK hI.1 hc he, fun U hU hW => ⟨rfl, by rw [hU], by rw [hU]; exact hI.1, va_K.moved hW.alike hK, hI.2.1.weaken (fun _ _ _ _ => trivial), by rw [hU]; exact ((hZ.moved hW.alike).kept (fun a h1 h2 => hI.2.2.2.1 a h1 h2)).narrow hFc⟩⟩ rfl hn hls hst (lv_room hroom) hdg hcs) hI.2.2 (fun q _ h => hFc q h) hFc (fun r u t H1 locs1 ht hvm hw hB hz1 hk1 hS1 => ?_)
  obtain ⟨hP1, hK1, hD1⟩ := hB
  rw [ht] at hP1
  exact kk r u H1 locs1 hw ⟨hP1, va_D_fst hI.2.1 (hfst u), hS1⟩
theorem x_callWv {S : Type} {post : S → Prop} {w1 : S → va_W} {C : String} {b : Nat} {As : List Value} {y : MethodName} {ws : List Cond} {rm : Room} {bytes : ByteArray} {maxL index n : Nat} {ret : Option FieldType} (hC : Cx p s m args c cc nL own Ts D K A) (hI : wI s D A V H locs)
    (hM : Met l y ws rm (va_Pc (.ref b :: As) (cP D K V H.size)) (va_Qv post (fun u t => cQ D K (w1 u) (va_A V H.size) t) (va_A V H.size)) 0 0 (va_A V H.size)) (cw : CallW R s args own C index y bytes maxL ret ws rm 0 0 n)
    (hfst : ∀ u : S, (w1 u).map Prod.fst = V.map Prod.fst) (q0 ci : Nat) {fs : List Value} {rc : vw_C} (hc : vwCl[ci]? = some rc) (hrC : rc.1 = C) (he : V[q0]? = some (b, .inr (ci, fs))) (hn : As.length = n) (hls : ls.size = nL) (hst : st0 = As.reverse ++ .ref b :: rest) (hroom : (rest.map fun v => v.category).sum ≤ 8) (hdg : decode cc pc = .ok (.invokevirtual index, 3)) (hcs : cells ≤ R.cells ∧ slots ≤ R.slots)
    (kk : ∀ (u : S) (H1 : Heap) (locs1 : List Loc), post u → wI s D A (w1 u) H1 locs1 → W p l e R s m args below meth c H1 locs1 cells slots Q (F0 m (pc + 3) ls rest)) : W p l e R s m args below meth c H locs cells slots Q (F0 m pc ls st0) := by
  obtain ⟨hx, hb, hml, hown, hts, hK, hA, hZ⟩ := hC
  have hFc : ∀ q, va_A V H.size q → A q := by
    rintro q (⟨k, e1, h⟩ | h)
    · exact hI.2.1.2 k _ h
    · exact hA q (Nat.le_trans hI.2.2.1 h)
  subst hrC
  refine va_callv (va_runV (As := As) (rest := rest) ⟨hx, hb, hml, hown, hts⟩ hM cw ⟨cP_blind, va_recv hK hI.1 hc he, fun U hU hW => ⟨rfl, by rw [hU], by rw [hU]; exact hI.1, va_K.moved hW.alike hK, hI.2.1.weaken (fun _ _ _ _ => trivial), by rw [hU]; exact ((hZ.moved hW.alike).kept (fun a h1 h2 => hI.2.2.2.1 a h1 h2)).narrow hFc⟩⟩ rfl hn hls hst (lv_room hroom) hdg hcs) hI.2.2 (fun q _ h => hFc q h) hFc (fun u t H1 locs1 ht hvm hw hB hz1 hk1 hS1 => ?_)
  obtain ⟨hP1, hK1, hD1⟩ := hB
  rw [ht] at hP1
  exact kk u H1 locs1 hw ⟨hP1, va_D_fst hI.2.1 (hfst u), hS1⟩
theorem x_iret {S : Type} {post : Int32 → S → Prop} {w1 : S → va_W} {u : S} {v : Int32} (hC : Cx p s m args c cc nL own Ts D K A) (hI : wI s D A V H locs) (hr : meth.sig.returnType = some .int) (hlk : meth.locks = false) (hpost : post v u) (hV : w1 u = V) (hdg : decode cc pc = .ok (.ireturn, 1)) :
    W p l e R s m args below meth c H locs cells slots (MQ below (va_Qi post (fun u t => cQ D K (w1 u) A t) A) args s cells slots A) (F0 m pc ls [.int v]) := by
  obtain ⟨hx, hb, hml, hown, hts, hK, hA, hZ⟩ := hC
  subst hV
  exact W.iret hx hb hr (fun t ht hW => ⟨⟨v, u, rfl, hpost, by rw [ht]; exact hI.1, va_K.moved hW.alike hK, hI.2.1⟩, hI.2.2.F ht⟩) hI.2.2.2.2 hdg hlk
theorem x_zret {S : Type} {post : Int32 → S → Prop} {w1 : S → va_W} {u : S} {v : Int32} (hC : Cx p s m args c cc nL own Ts D K A) (hI : wI s D A V H locs) (hr : meth.sig.returnType = some .boolean) (hlk : meth.locks = false) (hpost : post v u) (hV : w1 u = V) (hz : v = 0 ∨ v = 1) (hdg : decode cc pc = .ok (.ireturn, 1)) :
    W p l e R s m args below meth c H locs cells slots (MQ below (va_Qi post (fun u t => cQ D K (w1 u) A t) A) args s cells slots A) (F0 m pc ls [.int v]) := by
  obtain ⟨hx, hb, hml, hown, hts, hK, hA, hZ⟩ := hC
  subst hV
  have hzn : narrow .boolean (.int v) = .int v := by rcases hz with rfl | rfl <;> rfl
  exact W.zret hx hb hr hzn (fun t ht hW => ⟨⟨v, u, rfl, hpost, by rw [ht]; exact hI.1, va_K.moved hW.alike hK, hI.2.1⟩, hI.2.2.F ht⟩) hI.2.2.2.2 hdg hlk
theorem x_lret {S : Type} {post : Int64 → S → Prop} {w1 : S → va_W} {u : S} {v : Int64} (hC : Cx p s m args c cc nL own Ts D K A) (hI : wI s D A V H locs) (hr : meth.sig.returnType = some .long) (hlk : meth.locks = false) (hpost : post v u) (hV : w1 u = V) (hdg : decode cc pc = .ok (.lreturn, 1)) :
    W p l e R s m args below meth c H locs cells slots (MQ below (va_Ql post (fun u t => cQ D K (w1 u) A t) A) args s cells slots A) (F0 m pc ls [.long v]) := by
  obtain ⟨hx, hb, hml, hown, hts, hK, hA, hZ⟩ := hC
  subst hV
  exact W.lret hx hb hr (fun t ht hW => ⟨⟨v, u, rfl, hpost, by rw [ht]; exact hI.1, va_K.moved hW.alike hK, hI.2.1⟩, hI.2.2.F ht⟩) hI.2.2.2.2 hdg hlk
theorem x_vret {S : Type} {post : S → Prop} {w1 : S → va_W} {u : S} (hC : Cx p s m args c cc nL own Ts D K A) (hI : wI s D A V H locs) (hr : meth.sig.returnType = none) (hlk : meth.locks = false) (hpost : post u) (hV : w1 u = V) (hdg : decode cc pc = .ok (.return_, 1)) :
    W p l e R s m args below meth c H locs cells slots (MQ below (va_Qv post (fun u t => cQ D K (w1 u) A t) A) args s cells slots A) (F0 m pc ls []) := by
  obtain ⟨hx, hb, hml, hown, hts, hK, hA, hZ⟩ := hC
  subst hV
  exact W.vret hx hb hr (fun t ht hW => ⟨⟨u, rfl, hpost, by rw [ht]; exact hI.1, va_K.moved hW.alike hK, hI.2.1⟩, hI.2.2.F ht⟩) hI.2.2.2.2 hdg hlk
theorem x_copyi (hC : Cx p s m args c cc nL own Ts D K A) (hI : wI s D A V H locs) (hls : ls.size = nL) {index : Nat} (hlink : Cond.methodLink own index arraycopyName ∈ Ts) (hnat : Cond.native arraycopyName ∈ Ts) (hstat : Cond.static arraycopyName ∈ Ts) (hini : Cond.initialized "java/lang/System" ∈ Ts) (q0 q1 : Nat) {a0 a1 n0 n1 : Nat} {f g : Nat → Int32} (ha0 : V[q0]? = some (a0, .inl (K 0, n0, .inl f))) (ha1 : V[q1]? = some (a1, .inl (K 0, n1, .inl g)))
    {sp dp n : Int32} (h1 : ¬ sp < 0) (h2 : ¬ dp < 0) (h3 : ¬ n < 0) (h4 : sp.toNatClampNeg + n.toNatClampNeg ≤ n0) (h5 : dp.toNatClampNeg + n.toNatClampNeg ≤ n1) (hframes : 1 ≤ R.frames) (hlocals : (rest.map fun v => v.category).sum + (nativeFrameWords "java/lang/System" "arraycopy" 5 + 11) ≤ R.locals) (hdg : decode cc pc = .ok (.invokestatic index, 3))
    (kk : ∀ (H1 : Heap) (locs1 : List Loc), wI s D A (V.set q1 (a1, .inl (K 0, n1, .inl (va_cpy f g sp.toNatClampNeg dp.toNatClampNeg n.toNatClampNeg)))) H1 locs1 → W p l e R s m args below meth c H1 locs1 cells slots Q (F0 m (pc + 3) ls rest)) : W p l e R s m args below meth c H locs cells slots Q (F0 m pc ls (.int n :: .int dp :: .ref a1 :: .int sp :: .ref a0 :: rest)) := by
  obtain ⟨hx, hb, hml, hown, hts, hK, hA, hZ⟩ := hC
  exact va_copyi hx hb (hml.trans hls.symm) hown (hts _ hlink) (hts _ hnat) (hts _ hstat) (hts _ hini) hK hI.1 hI.2.1 hI.2.2 q0 q1 0 0 ha0 ha1 (ty := .int) rfl rfl rfl h1 h2 h3 h4 h5 (fun _ _ => rfl) hframes hlocals hdg (fun H1 locs1 b1 b2 b3 => kk H1 locs1 ⟨b1, b2, b3⟩)
theorem x_copyj (hC : Cx p s m args c cc nL own Ts D K A) (hI : wI s D A V H locs) (hls : ls.size = nL) {index : Nat} (hlink : Cond.methodLink own index arraycopyName ∈ Ts) (hnat : Cond.native arraycopyName ∈ Ts) (hstat : Cond.static arraycopyName ∈ Ts) (hini : Cond.initialized "java/lang/System" ∈ Ts) (q0 q1 : Nat) {a0 a1 n0 n1 : Nat} {f g : Nat → Int64} (ha0 : V[q0]? = some (a0, .inl (K 1, n0, .inr (.inl f)))) (ha1 : V[q1]? = some (a1, .inl (K 1, n1, .inr (.inl g))))
    {sp dp n : Int32} (h1 : ¬ sp < 0) (h2 : ¬ dp < 0) (h3 : ¬ n < 0) (h4 : sp.toNatClampNeg + n.toNatClampNeg ≤ n0) (h5 : dp.toNatClampNeg + n.toNatClampNeg ≤ n1) (hframes : 1 ≤ R.frames) (hlocals : (rest.map fun v => v.category).sum + (nativeFrameWords "java/lang/System" "arraycopy" 5 + 11) ≤ R.locals) (hdg : decode cc pc = .ok (.invokestatic index, 3))
    (kk : ∀ (H1 : Heap) (locs1 : List Loc), wI s D A (V.set q1 (a1, .inl (K 1, n1, .inr (.inl (va_cpy f g sp.toNatClampNeg dp.toNatClampNeg n.toNatClampNeg))))) H1 locs1 → W p l e R s m args below meth c H1 locs1 cells slots Q (F0 m (pc + 3) ls rest)) : W p l e R s m args below meth c H locs cells slots Q (F0 m pc ls (.int n :: .int dp :: .ref a1 :: .int sp :: .ref a0 :: rest)) := by
  obtain ⟨hx, hb, hml, hown, hts, hK, hA, hZ⟩ := hC
  exact va_copyl hx hb (hml.trans hls.symm) hown (hts _ hlink) (hts _ hnat) (hts _ hstat) (hts _ hini) hK hI.1 hI.2.1 hI.2.2 q0 q1 1 1 ha0 ha1 (ty := .long) rfl rfl rfl h1 h2 h3 h4 h5 (fun _ _ => rfl) hframes hlocals hdg (fun H1 locs1 b1 b2 b3 => kk H1 locs1 ⟨b1, b2, b3⟩)
end XROWS
theorem vp_lt {i : Int32} {n : Nat} (h : vp_in i n) : i.toNatClampNeg < n := Nat.not_le.mp fun q => h (Or.inr q)
theorem lt4 {k : Nat} (h : k < 4) : k = 0 ∨ k = 1 ∨ k = 2 ∨ k = 3 := by omega
theorem lt6 {k : Nat} (h : k < 6) : k = 0 ∨ k = 1 ∨ k = 2 ∨ k = 3 ∨ k = 4 ∨ k = 5 := by omega
theorem x_ofW {l : Launch} {y : MethodName} {ws ws' : List Cond} {rm : Room} {Pc : Array Value → State → Prop} {Qc : Array Value → State → Outcome → State → Prop} {mc ms : Nat} {free : Addr → Prop} {cc : ByteArray} {maxL : Nat} {ret : Option FieldType} (hy : plainFor y = true) (hw : ws = Cond.code y cc maxL ret :: ws')
    (body : ∀ p e s m args below meth c s₁, BodyLoose p l y (headSpec ws rm) cc maxL ret e s m args below meth c s₁ → c.maxLocals = maxL → Pc args s → W p l e (headSpec ws rm).room s m args below meth c s.heap [] 0 0 (MQ below Qc args s mc ms free) (entryFrame m args maxL)) : Met l y ws rm Pc Qc mc ms free := by
  refine MetFree.of_bodySF (code := cc) (maxLocals := maxL) (ret := ret) hy ?_ ?_
  · intro args s m h hn
    obtain ⟨meth, c, h1, h2, h3, h4, h5, h6, -, -⟩ := Cond.code_spec hn (atoms_spec (ws := ws) h _ (by rw [hw]; exact List.mem_cons_self))
    exact ⟨meth, c, h1, h2, h3, h4, h5, h6⟩
  · intro p e s m args below meth c s₁ B hml hP _
    have hh0 : s₁.heap = s.heap := by rw [B.state]; rfl
    obtain ⟨t, a1, o, b1, b2, b3⟩ := body p e s m args below meth c s₁ B hml hP s₁ hh0 (Stand.of_body B)
    exact ⟨t, o, a1, b1, b2, ⟨b3.1, b3.2⟩⟩
theorem x_entry {l : Launch} {D : va_G} {K : Nat → ClassId} {y : MethodName} {ws ws' : List Cond} {rm : Room} {cc : ByteArray} {maxL : Nat} {ret : Option FieldType} {QA : (Nat → Prop) → Array Value → State → Outcome → State → Prop} {mc ms : Nat} (hy : plainFor y = true) (hw : ws = Cond.code y cc maxL ret :: ws') {av : List Value} {V : va_W} {sz : Nat} (hn : (lg_sl av).length ≤ maxL)
    (body : ∀ (p : Program) (e : Env) (s : State) (m : MethodId) (args : Array Value) (below : List Frame) (meth : Method) (c : Code) (A : Nat → Prop) (ls : Array Slot) (H : Heap) (Q : State → Prop), Q = MQ below (QA A) args s mc ms A → Cx p s m args c cc maxL y.cls ws D K A → meth.locks = false → meth.sig.returnType = ret → meth.name = y.name → wI s D A V H [] → lv_has ls maxL (lv_args 0 av) → W p l e rm s m args below meth c H [] 0 0 Q (F0 m 0 ls [])) : Met l y ws rm (va_Pc av (cP D K V sz)) (QA (va_A V sz)) mc ms (va_A V sz) := by
  refine x_ofW (cc := cc) (maxL := maxL) (ret := ret) hy hw ?_
  intro p e s m args below meth c s₁ B hml hv
  obtain ⟨rfl, hsz, hP, hK, hD0, hZ⟩ := hv
  subst hsz
  have hl := lv_entry av (n := maxL) hn
  rw [lg_entry_eq]
  exact body p e s m _ below meth c (va_A V s.heap.size) _ s.heap _ rfl ⟨B.exec, B.bytes, hml, findClass_of_methodNamed B.named, atoms_spec (ws := ws) B.pre, hK, fun q h => Or.inr h, hZ⟩ B.notSynchronized B.returns (name_of_methodNamed B.named B.method).1 ⟨hP, hD0.self, va_S.rf⟩ hl
