/-! ===== a world of two parts, the class's and the reference's ===== -/
theorem va_nd_of {l : List Nat} (h : l.Nodup) : va_nd l = true := by
  induction l with
  | nil => rfl
  | cons a l ih =>
    obtain ⟨h1, h2⟩ := List.nodup_cons.mp h
    simp only [va_nd, ih h2, Bool.and_true, decide_eq_true_eq]
    exact h1
theorem part_sub {α : Type} : ∀ (B P S : List α), (List.range' P.length B.length).map (fun i => (P ++ (B ++ S))[i]?) = B.map some
  | [], P, S => rfl
  | b :: B, P, S => by
    have ih := part_sub B (P ++ [b]) S
    simp only [List.length_append, List.length_cons, List.length_nil, Nat.zero_add, List.append_assoc, List.cons_append, List.nil_append] at ih
    simp only [List.length_cons, List.range'_succ, List.map_cons, List.cons_append]
    rw [ih]
    congr 1
    simp
theorem part_wrp {α : Type} : ∀ (B P S B1 : List α), B1.length = B.length → wrp (P ++ (B ++ S)) (List.range' P.length B.length) B1 = P ++ (B1 ++ S)
  | [], P, S, [], _ => rfl
  | [], P, S, a :: l, h => by simp at h
  | b :: B, P, S, [], h => by simp at h
  | b :: B, P, S, b1 :: B1, h => by
    have h' : B1.length = B.length := by simpa using h
    have ih := part_wrp B (P ++ [b1]) S B1 h'
    simp only [List.length_append, List.length_cons, List.length_nil, Nat.zero_add, List.append_assoc, List.cons_append, List.nil_append] at ih
    simp only [List.length_cons, List.range'_succ, List.cons_append]
    show wrp ((P ++ b :: (B ++ S)).set P.length b1) (List.range' (P.length + 1) B.length) B1 = _
    rw [← ih]
    congr 1
    rw [List.set_append_right _ _ (Nat.le_refl _)]
    simp
section LROWS
variable {p : Program} {l : Launch} {e : Env} {R : Room} {s : State} {m : MethodId} {args : Array Value} {below : List Frame} {meth : Method} {c : Code} {H : Heap} {locs : List Loc} {cells slots : Nat} {Q : State → Prop}
variable {cc : ByteArray} {pc nL : Nat} {ls : Array Slot} {rest st0 : List Value} {A : Nat → Prop} {D : va_G} {K : Nat → ClassId} {own : String} {Ts : List Cond} {L1 L2 : List va_W}
theorem x_callAi {S : Type} {post : Int32 → S → Prop} {w1 : S → List va_W} {C : String} {b : Nat} {As : List Value} {y : MethodName} {ws : List Cond} {rm : Room} {bytes : ByteArray} {maxL index n : Nat} {ret : Option FieldType} (hC : Cx p s m args c cc nL own Ts D K A) (hI : wI s D A (fl (L1 ++ L2)) H locs)
    (hM : Met l y ws rm (va_Pc (.ref b :: As) (cP D K (fl L1) H.size)) (va_Qi post (fun u t => cQ D K (fl (w1 u)) (va_A (fl L1) H.size) t) (va_A (fl L1) H.size)) 0 0 (va_A (fl L1) H.size)) (cw : CallW R s args own C index y bytes maxL ret ws rm 0 0 n)
    (hfst : ∀ u : S, (w1 u).map (List.map Prod.fst) = L1.map (List.map Prod.fst)) (q0 ci : Nat) {fs : List Value} {rc : vw_C} (hc : vwCl[ci]? = some rc) (hrC : rc.1 = C) (he : (fl (L1 ++ L2))[q0]? = some (b, .inr (ci, fs))) (hn : As.length = n) (hls : ls.size = nL) (hst : st0 = As.reverse ++ .ref b :: rest) (hroom : (rest.map fun v => v.category).sum ≤ 8) (hdg : decode cc pc = .ok (.invokevirtual index, 3)) (hcs : cells ≤ R.cells ∧ slots ≤ R.slots)
    (kk : ∀ (r : Int32) (u : S) (H1 : Heap) (locs1 : List Loc), post r u → wI s D A (fl (w1 u ++ L2)) H1 locs1 → W p l e R s m args below meth c H1 locs1 cells slots Q (F0 m (pc + 3) ls (.int r :: rest))) : W p l e R s m args below meth c H locs cells slots Q (F0 m pc ls st0) := by
  refine x_callVi hC hI (List.range' 0 L1.length) hM cw (va_nd_of List.nodup_range') (part_sub L1 [] L2) hfst q0 ci hc hrC he hn hls hst hroom hdg hcs (fun r u H1 locs1 hp hI1 => ?_)
  have e1 := part_wrp L1 [] L2 (w1 u) (by have h9 := congrArg List.length (hfst u); simpa using h9)
  rw [show wrp (L1 ++ L2) (List.range' 0 L1.length) (w1 u) = w1 u ++ L2 from e1] at hI1
  exact kk r u H1 locs1 hp hI1
theorem x_callAl {S : Type} {post : Int64 → S → Prop} {w1 : S → List va_W} {C : String} {b : Nat} {As : List Value} {y : MethodName} {ws : List Cond} {rm : Room} {bytes : ByteArray} {maxL index n : Nat} {ret : Option FieldType} (hC : Cx p s m args c cc nL own Ts D K A) (hI : wI s D A (fl (L1 ++ L2)) H locs)
    (hM : Met l y ws rm (va_Pc (.ref b :: As) (cP D K (fl L1) H.size)) (va_Ql post (fun u t => cQ D K (fl (w1 u)) (va_A (fl L1) H.size) t) (va_A (fl L1) H.size)) 0 0 (va_A (fl L1) H.size)) (cw : CallW R s args own C index y bytes maxL ret ws rm 0 0 n)
    (hfst : ∀ u : S, (w1 u).map (List.map Prod.fst) = L1.map (List.map Prod.fst)) (q0 ci : Nat) {fs : List Value} {rc : vw_C} (hc : vwCl[ci]? = some rc) (hrC : rc.1 = C) (he : (fl (L1 ++ L2))[q0]? = some (b, .inr (ci, fs))) (hn : As.length = n) (hls : ls.size = nL) (hst : st0 = As.reverse ++ .ref b :: rest) (hroom : (rest.map fun v => v.category).sum ≤ 8) (hdg : decode cc pc = .ok (.invokevirtual index, 3)) (hcs : cells ≤ R.cells ∧ slots ≤ R.slots)
    (kk : ∀ (r : Int64) (u : S) (H1 : Heap) (locs1 : List Loc), post r u → wI s D A (fl (w1 u ++ L2)) H1 locs1 → W p l e R s m args below meth c H1 locs1 cells slots Q (F0 m (pc + 3) ls (.long r :: rest))) : W p l e R s m args below meth c H locs cells slots Q (F0 m pc ls st0) := by
  refine x_callVl hC hI (List.range' 0 L1.length) hM cw (va_nd_of List.nodup_range') (part_sub L1 [] L2) hfst q0 ci hc hrC he hn hls hst hroom hdg hcs (fun r u H1 locs1 hp hI1 => ?_)
  have e1 := part_wrp L1 [] L2 (w1 u) (by have h9 := congrArg List.length (hfst u); simpa using h9)
  rw [show wrp (L1 ++ L2) (List.range' 0 L1.length) (w1 u) = w1 u ++ L2 from e1] at hI1
  exact kk r u H1 locs1 hp hI1
theorem x_callZi {S : Type} {post : Int32 → S → Prop} {w1 : S → List va_W} {C : String} {b : Nat} {As : List Value} {y : MethodName} {ws : List Cond} {rm : Room} {bytes : ByteArray} {maxL index n : Nat} {ret : Option FieldType} (hC : Cx p s m args c cc nL own Ts D K A) (hI : wI s D A (fl (L1 ++ L2)) H locs)
    (hM : Met l y ws rm (va_Pc (.ref b :: As) (cP D K (fl L2) H.size)) (va_Qi post (fun u t => cQ D K (fl (w1 u)) (va_A (fl L2) H.size) t) (va_A (fl L2) H.size)) 0 0 (va_A (fl L2) H.size)) (cw : CallW R s args own C index y bytes maxL ret ws rm 0 0 n)
    (hfst : ∀ u : S, (w1 u).map (List.map Prod.fst) = L2.map (List.map Prod.fst)) (q0 ci : Nat) {fs : List Value} {rc : vw_C} (hc : vwCl[ci]? = some rc) (hrC : rc.1 = C) (he : (fl (L1 ++ L2))[q0]? = some (b, .inr (ci, fs))) (hn : As.length = n) (hls : ls.size = nL) (hst : st0 = As.reverse ++ .ref b :: rest) (hroom : (rest.map fun v => v.category).sum ≤ 8) (hdg : decode cc pc = .ok (.invokevirtual index, 3)) (hcs : cells ≤ R.cells ∧ slots ≤ R.slots)
    (kk : ∀ (r : Int32) (u : S) (H1 : Heap) (locs1 : List Loc), post r u → wI s D A (fl (L1 ++ w1 u)) H1 locs1 → W p l e R s m args below meth c H1 locs1 cells slots Q (F0 m (pc + 3) ls (.int r :: rest))) : W p l e R s m args below meth c H locs cells slots Q (F0 m pc ls st0) := by
  have e0 : L1 ++ L2 = L1 ++ (L2 ++ []) := by rw [List.append_nil]
  refine x_callVi hC hI (List.range' L1.length L2.length) hM cw (va_nd_of List.nodup_range') (by rw [e0]; exact part_sub L2 L1 []) hfst q0 ci hc hrC he hn hls hst hroom hdg hcs (fun r u H1 locs1 hp hI1 => ?_)
  have e1 := part_wrp L2 L1 [] (w1 u) (by have h9 := congrArg List.length (hfst u); simpa using h9)
  rw [← e0, List.append_nil] at e1
  rw [e1] at hI1
  exact kk r u H1 locs1 hp hI1
theorem x_callZl {S : Type} {post : Int64 → S → Prop} {w1 : S → List va_W} {C : String} {b : Nat} {As : List Value} {y : MethodName} {ws : List Cond} {rm : Room} {bytes : ByteArray} {maxL index n : Nat} {ret : Option FieldType} (hC : Cx p s m args c cc nL own Ts D K A) (hI : wI s D A (fl (L1 ++ L2)) H locs)
    (hM : Met l y ws rm (va_Pc (.ref b :: As) (cP D K (fl L2) H.size)) (va_Ql post (fun u t => cQ D K (fl (w1 u)) (va_A (fl L2) H.size) t) (va_A (fl L2) H.size)) 0 0 (va_A (fl L2) H.size)) (cw : CallW R s args own C index y bytes maxL ret ws rm 0 0 n)
    (hfst : ∀ u : S, (w1 u).map (List.map Prod.fst) = L2.map (List.map Prod.fst)) (q0 ci : Nat) {fs : List Value} {rc : vw_C} (hc : vwCl[ci]? = some rc) (hrC : rc.1 = C) (he : (fl (L1 ++ L2))[q0]? = some (b, .inr (ci, fs))) (hn : As.length = n) (hls : ls.size = nL) (hst : st0 = As.reverse ++ .ref b :: rest) (hroom : (rest.map fun v => v.category).sum ≤ 8) (hdg : decode cc pc = .ok (.invokevirtual index, 3)) (hcs : cells ≤ R.cells ∧ slots ≤ R.slots)
    (kk : ∀ (r : Int64) (u : S) (H1 : Heap) (locs1 : List Loc), post r u → wI s D A (fl (L1 ++ w1 u)) H1 locs1 → W p l e R s m args below meth c H1 locs1 cells slots Q (F0 m (pc + 3) ls (.long r :: rest))) : W p l e R s m args below meth c H locs cells slots Q (F0 m pc ls st0) := by
  have e0 : L1 ++ L2 = L1 ++ (L2 ++ []) := by rw [List.append_nil]
  refine x_callVl hC hI (List.range' L1.length L2.length) hM cw (va_nd_of List.nodup_range') (by rw [e0]; exact part_sub L2 L1 []) hfst q0 ci hc hrC he hn hls hst hroom hdg hcs (fun r u H1 locs1 hp hI1 => ?_)
  have e1 := part_wrp L2 L1 [] (w1 u) (by have h9 := congrArg List.length (hfst u); simpa using h9)
  rw [← e0, List.append_nil] at e1
  rw [e1] at hI1
  exact kk r u H1 locs1 hp hI1
end LROWS
theorem sc_in {k L : Nat} (c : Nat) (h : k + c < L) (hL : L ≤ 3072) : vp_in (nI k + nI c) L := by
  rw [nI_add]
  exact vp_in_nI h (by omega)
theorem lw_more {k L : Nat} (hL : L ≤ 3072) (hk : k ≤ 4000) (h : ¬ Int32.ofNat L - (6 : Int32) < nI k) : k + 5 < L := by
  rcases Nat.lt_or_ge (k + 5) L with q | q
  · exact q
  · refine absurd ?_ h
    have e1 : (nI L - nI 6).toInt = (L : Int) - 6 := pk_sub_toInt (by omega) (by omega)
    have e2 : (nI k).toInt = (k : Int) := nI_toInt (by omega)
    show nI L - nI 6 < nI k
    rw [Int32.lt_iff_toInt_lt, e1, e2]
    omega
theorem inlX10 : ∀ w ∈ wsX100, w ∈ wsL_law := fun _ h => List.mem_append_left _ (List.mem_append_left _ (List.mem_append_left _ (List.mem_append_left _ (List.mem_append_left _ (List.mem_append_left _ (List.mem_append_left _ (List.mem_append_left _ (List.mem_append_left _ (List.mem_append_left _ (List.mem_append_right _ h))))))))))
theorem inlX11 : ∀ w ∈ wsX110, w ∈ wsL_law := fun _ h => List.mem_append_left _ (List.mem_append_left _ (List.mem_append_left _ (List.mem_append_left _ (List.mem_append_left _ (List.mem_append_left _ (List.mem_append_left _ (List.mem_append_left _ (List.mem_append_left _ (List.mem_append_right _ h)))))))))
