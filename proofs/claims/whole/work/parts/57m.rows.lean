/-! ===== texts: rows, the whole ===== -/
def runsR (L : Nat → Nat) (n : Nat) (l : Int32) : Nat → Nat → (Nat → Bool) → Bool × Nat × (Nat → Bool)
  | 0, a, T => (false, a, T)
  | f + 1, a, T => if (runR L n l a T).1 then (if ch L n (sk L n (runR L n l a T).2.1) = 44 then runsR L n l f (sk L n (runR L n l a T).2.1 + 1) (runR L n l a T).2.2 else (true, sk L n (runR L n l a T).2.1, (runR L n l a T).2.2)) else (false, (runR L n l a T).2.1, T)
theorem runs_f {L : Nat → Nat} {n : Nat} {l : Int32} {f a p : Nat} {T : Nat → Bool} (h : runR L n l a T = (false, p, T)) : runsR L n l (f + 1) a T = (false, p, T) := by
  rw [runsR, h]
  rfl
theorem runs_t {L : Nat → Nat} {n : Nat} {l : Int32} {f a e : Nat} {T T' : Nat → Bool} (h : runR L n l a T = (true, e, T')) : runsR L n l (f + 1) a T = (if ch L n (sk L n e) = 44 then runsR L n l f (sk L n e + 1) T' else (true, sk L n e, T')) := by
  rw [runsR, h]
  rfl
def ra1 (L : Nat → Nat) (n a : Nat) : Nat := if ch L n (sk L n a) = 45 then sk L n a + 1 else sk L n a
def lRow (s : Bool) (c : Nat) : Int32 := if s then nI 48 - nI c else nI c - nI 48
theorem t_lrow : ∀ k, k < 7 → (∃ i, i < 13 ∧ lRow true (48 + k) = nI i - 6) ∧ (∃ i, i < 13 ∧ lRow false (48 + k) = nI i - 6) ∧ -(nI (48 + k) - nI 48) = lRow true (48 + k) := by decide +kernel
theorem lRow_ok {s : Bool} {c : Nat} (h1 : 48 ≤ c) (h2 : c ≤ 54) : rowOK (lRow s c) := by
  obtain ⟨k1, k2, -⟩ := t_lrow (c - 48) (by omega)
  rw [show 48 + (c - 48) = c by omega] at k1 k2
  cases s with
  | true => exact k1
  | false => exact k2
def rowR (L : Nat → Nat) (n a : Nat) (T : Nat → Bool) : Bool × Nat × (Nat → Bool) := if 48 ≤ ch L n (sk L n (ra1 L n a)) ∧ ch L n (sk L n (ra1 L n a)) ≤ 54 then (if ch L n (sk L n (sk L n (ra1 L n a) + 1)) = 58 then runsR L n (lRow (decide (ch L n (sk L n a) = 45)) (ch L n (sk L n (ra1 L n a)))) 91 (sk L n (sk L n (ra1 L n a) + 1) + 1) T else (false, sk L n (sk L n (ra1 L n a) + 1), T)) else (false, sk L n (ra1 L n a), T)
theorem ra1_ok {L : Nat → Nat} {n a : Nat} (ha : a ≤ n) : a ≤ ra1 L n a ∧ ra1 L n a ≤ n := by
  have hs := sk_ok (L := L) ha
  unfold ra1
  by_cases q : ch L n (sk L n a) = 45
  · rw [if_pos q]
    have := ch_lt (L := L) (n := n) (a := sk L n a) (by omega)
    omega
  · rw [if_neg q]
    omega
theorem s7_row {L : Nat → Nat} {n a : Nat} {t : Nat → Int32} {f0 : Int32} {tb : Nat → Int64} {T : Nat → Bool} (ok : tapeOK L n t) (ha : a ≤ n) (hT : bitsT tb T) {post : Int32 → (Nat → Int64) → Int32 → Int32 → Prop} (hA : ∀ p tb' at' f', p ≤ n → (rowR L n a T).1 = false → (rowR L n a T).2.1 = p → post (nI p) tb' at' f') (hB : ∀ p tb' f', p ≤ n → fig (ch L n p) = true → (rowR L n a T).1 = false → (rowR L n a T).2.1 = p → post (-1) tb' (nI p) f') (hC : ∀ e T' tb' f', a < e → e ≤ n → sk L n e = e → rowR L n a T = (true, e, T') → bitsT tb' T' → post (-1) tb' (nI e) f') : wX7_understandRow t tb (nI n) (nI a) f0 post := by
  have hn90 := ok.1
  have hs := sk_ok (L := L) ha
  have hr1 := ra1_ok (L := L) ha
  have hs2 := sk_ok (L := L) hr1.2
  have hbd := ch_bd (a := sk L n (ra1 L n a)) ok
  unfold wX7_understandRow
  have main : ∀ r2 : Int32, r2 = (if decide (ch L n (sk L n a) = 45) then 1 else 0) → wX7_next t (nI n) (nI (ra1 L n a)) (fun (r4 : Int32) (tat_c3 : Int32) => ∀ x5 : Int32, x5 = r4 - (48 : Int32) → ((x5 < 0 → post tat_c3 tb tat_c3 f0) ∧ (¬ x5 < 0 → ((x5 ≤ (6 : Int32) → ∀ x8 : Int32, x8 = tat_c3 + (1 : Int32) → wX7_takes (58 : Int32) t (nI n) x8 (fun (r10 : Int32) (tat_c9 : Int32) => ((r10 = 0 → post tat_c9 tb tat_c9 f0) ∧ (¬ r10 = 0 → (∃ (I56 : Int32 → (Nat → Int64) → Int32 → Int32 → Prop) (mu56 : Int32 → (Nat → Int64) → Int32 → Int32 → Nat), I56 (0 : Int32) tb tat_c9 f0 ∧ ∀ (l3_56 : Int32) (tbits_56 : Nat → Int64) (tat_56 : Int32) (fig_56 : Int32), I56 l3_56 tbits_56 tat_56 fig_56 → (((90 : Int32) < l3_56 → post tat_56 tbits_56 tat_56 fig_56) ∧ (¬ (90 : Int32) < l3_56 → ∃ J73 : Int32 → Prop, (∀ (t_73 : Int32), J73 t_73 → wX7_understandRun t_73 t tbits_56 (nI n) tat_56 fig_56 (fun (r16 : Int32) (tbits_c13 : Nat → Int64) (tat_c14 : Int32) (fig_c15 : Int32) => ((r16 = (-1 : Int32) → wX7_takes (44 : Int32) t (nI n) tat_c14 (fun (r19 : Int32) (tat_c18 : Int32) => ((r19 = 0 → post (-1 : Int32) tbits_c13 tat_c18 fig_c15) ∧ (¬ r19 = 0 → ∀ x21 : Int32, x21 = l3_56 + 1 → (I56 x21 tbits_c13 tat_c18 fig_c15 ∧ mu56 x21 tbits_c13 tat_c18 fig_c15 < mu56 l3_56 tbits_56 tat_56 fig_56))))) ∧ (¬ r16 = (-1 : Int32) → post r16 tbits_c13 tat_c14 fig_c15)))) ∧ ((r2 = 0 → J73 x5) ∧ (¬ r2 = 0 → J73 (-x5)))))))))) ∧ (¬ x5 ≤ (6 : Int32) → post tat_c3 tb tat_c3 f0))))) := by
    intro r2 hr2
    refine s7_next ok hr1.2 ?_
    have bad : ¬ (48 ≤ ch L n (sk L n (ra1 L n a)) ∧ ch L n (sk L n (ra1 L n a)) ≤ 54) → post (nI (sk L n (ra1 L n a))) tb (nI (sk L n (ra1 L n a))) f0 := fun z => by
      have e : rowR L n a T = (false, sk L n (ra1 L n a), T) := by unfold rowR; rw [if_neg z]
      exact hA _ _ _ _ hs2.2.1 (by rw [e]) (by rw [e])
    intro x5 hx5
    by_cases r : sk L n (ra1 L n a) < n
    case neg =>
      rw [if_neg r] at hx5
      have e5 : x5 = -49 := by rw [hx5]; decide
      exact br_t (by rw [e5]; decide) (bad (by rw [ch_out (by omega)]; omega))
    rw [if_pos r] at hx5
    by_cases q : 48 ≤ ch L n (sk L n (ra1 L n a)) ∧ ch L n (sk L n (ra1 L n a)) ≤ 54
    case neg =>
      by_cases q1 : ch L n (sk L n (ra1 L n a)) < 48
      · refine br_t ?_ (bad q)
        rw [hx5, show (48 : Int32) = nI 48 from rfl]
        exact pk_sneg (by omega) q1
      · rw [show (48 : Int32) = nI 48 from rfl, pk_sub (by omega)] at hx5
        subst hx5
        refine br_f (nI_pos (by omega)) (br_f (fun z => ?_) (bad q))
        have := (nI_leI (b := 6) (by omega) (by omega)).1 z
        omega
    have hx5' : x5 = lRow false (ch L n (sk L n (ra1 L n a))) := hx5
    have hneg : -x5 = lRow true (ch L n (sk L n (ra1 L n a))) := by
      have := (t_lrow (ch L n (sk L n (ra1 L n a)) - 48) (by omega)).2.2
      rw [show 48 + (ch L n (sk L n (ra1 L n a)) - 48) = ch L n (sk L n (ra1 L n a)) by omega] at this
      rw [hx5]
      exact this
    rw [show (48 : Int32) = nI 48 from rfl, pk_sub q.1] at hx5
    refine br_f (by rw [hx5]; exact nI_pos (by omega)) (br_t (by rw [hx5]; exact nI_le (b := 6) (by omega) (by omega)) ?_)
    intro x8 hx8
    rw [nI_1] at hx8
    subst hx8
    have hlo := lRow_ok (s := decide (ch L n (sk L n a) = 45)) q.1 q.2
    refine s7_takes (c := 58) ok (by omega) (by omega) (by omega) (fun z => ?_) (fun z => ?_)
    case refine_2 =>
      have hs3 := sk_ok (L := L) (n := n) (a := sk L n (ra1 L n a) + 1) (by omega)
      have e : rowR L n a T = (false, sk L n (sk L n (ra1 L n a) + 1), T) := by unfold rowR; rw [if_pos q, if_neg z]
      exact br_t rfl (hA _ _ _ _ hs3.2.1 (by rw [e]) (by rw [e]))
    have hs3 := sk_ok (L := L) (n := n) (a := sk L n (ra1 L n a) + 1) (by omega)
    have hlt3 := ch_lt (L := L) (n := n) (a := sk L n (sk L n (ra1 L n a) + 1)) (by omega)
    have e0 : rowR L n a T = runsR L n (lRow (decide (ch L n (sk L n a) = 45)) (ch L n (sk L n (ra1 L n a)))) 91 (sk L n (sk L n (ra1 L n a) + 1) + 1) T := by unfold rowR; rw [if_pos q, if_pos z]
    generalize hlr : lRow (decide (ch L n (sk L n a) = 45)) (ch L n (sk L n (ra1 L n a))) = lr at *
    refine br_f (by decide) ?_
    refine ⟨fun l3 tb' at' f' => ∃ i f a' T', l3 = nI i ∧ at' = nI a' ∧ a' ≤ n ∧ a < a' ∧ i ≤ a' ∧ bitsT tb' T' ∧ 91 ≤ f + a' ∧ rowR L n a T = runsR L n lr f a' T', fun l3 _ _ _ => 200 - l3.toNatClampNeg, ⟨0, 91, _, T, rfl, rfl, by omega, by omega, Nat.zero_le _, hT, by omega, e0⟩, ?_⟩
    rintro l3 tb' at' f' ⟨i, f, a', T', rfl, rfl, ha', haa, hia, hT', hf, e⟩
    obtain ⟨f, rfl⟩ : ∃ g, f = g + 1 := ⟨f - 1, by omega⟩
    refine br_f (nI_nlt (a := 90) (by omega) (by omega)) ?_
    refine ⟨fun t => t = lr, ?_, ?_⟩
    · rintro _ rfl
      refine s7_run ok hlo ha' hT' (fun p tb2 at2 f2 hp hr => ?_) (fun p tb2 f2 hp hfp hr => ?_) (fun e1 T2 tb2 f2 hae he1 hr hT2 => ?_)
      · rw [runs_f hr] at e
        exact br_f (fun z => nI_nm1 (by omega) z) (hA _ _ _ _ hp (by rw [e]) (by rw [e]))
      · rw [runs_f hr] at e
        have hfy := fig_yes hfp
        refine br_t rfl (s7_takes (c := 44) ok hp (by omega) (by omega) (fun z => ?_) (fun z => ?_))
        · rw [fig_stop hfp] at z; omega
        · rw [fig_stop hfp]
          exact br_t rfl (hB _ _ _ hp hfp (by rw [e]) (by rw [e]))
      · rw [runs_t hr] at e
        have hse := sk_ok (L := L) he1
        refine br_t rfl (s7_takes (c := 44) ok he1 (by omega) (by omega) (fun z => ?_) (fun z => ?_))
        · rw [if_pos z] at e
          have hlt := ch_lt (L := L) (n := n) (a := sk L n e1) (by omega)
          refine br_f (by decide) (fun x hx => ⟨⟨i + 1, f, sk L n e1 + 1, T2, hx.trans (nI_1 i), rfl, by omega, by omega, by omega, hT2, by omega, e⟩, loop_mu hx (by omega) (by omega)⟩)
        · rw [if_neg z] at e
          exact br_t rfl (hC _ T2 _ _ (by omega) hse.2.1 (sk_sk he1) e hT2)
    · rw [hr2]
      by_cases w : ch L n (sk L n a) = 45
      · rw [decide_eq_true w] at hlr ⊢
        refine br_f (by decide) ?_
        show -x5 = lr
        rw [hneg, hlr]
      · rw [decide_eq_false w] at hlr ⊢
        refine br_t rfl ?_
        show x5 = lr
        rw [hx5', hlr]
  refine s7_takes (c := 45) ok ha (by omega) (by omega) (fun z => ?_) (fun z => ?_)
  · have := main 1 (by rw [decide_eq_true z]; rfl)
    unfold ra1 at this
    rw [if_pos z] at this
    exact this
  · have := main 0 (by rw [decide_eq_false z]; rfl)
    unfold ra1 at this
    rw [if_neg z] at this
    exact this
theorem fIn_nI {a lo hi : Nat} (ha : a < 2 ^ 31) (hl : lo < 2 ^ 31) (hh : hi < 2 ^ 31) : fIn (nI a) (nI lo) (nI hi) = if lo ≤ a ∧ a ≤ hi then 1 else 0 := by
  unfold fIn
  by_cases c : a < lo
  · rw [if_pos (nI_lt c hl), if_neg (by omega)]
  · rw [if_neg (nI_nlt (by omega) ha)]
    by_cases d : hi < a
    · rw [if_pos (nI_lt d ha), if_neg (by omega)]
    · rw [if_neg (nI_nlt (by omega) hh), if_pos (by omega)]
theorem s11_trow {L : Nat → Nat} {n a : Nat} {t : Nat → Int32} {td : Nat → Int32} {T : Nat → Bool} (ok : tapeOK L n t) (ha : a ≤ n) (hT : toldT td T) {post : Int32 → Int32 → (Nat → Int32) → Prop} (hA : ∀ p td', p ≤ n → (rowR L n a T).1 = false → (rowR L n a T).2.1 = p → post 0 (nI p) td') (hC : ∀ e T' td', a < e → e ≤ n → rowR L n a T = (true, e, T') → toldT td' T' → post 1 (nI e) td') : wX11_readsRow t (nI n) (nI a) td post := by
  have hn90 := ok.1
  have hs := sk_ok (L := L) ha
  have hr1 := ra1_ok (L := L) ha
  have hs2 := sk_ok (L := L) hr1.2
  have hbd := ch_bd (a := sk L n (ra1 L n a)) ok
  unfold wX11_readsRow
  have main : ∀ r2 : Int32, r2 = (if decide (ch L n (sk L n a) = 45) then 1 else 0) → wX11_sign t (nI n) (nI (ra1 L n a)) (fun (r4 : Int32) (mat_c3 : Int32) => wX11_in r4 (48 : Int32) (54 : Int32) (fun (r5 : Int32) => ((r5 = 0 → post (0 : Int32) mat_c3 td) ∧ (¬ r5 = 0 → ∀ x7 : Int32, x7 = mat_c3 + (1 : Int32) → ∃ J50 : Int32 → Prop, (∀ (t_50 : Int32), J50 t_50 → wX11_takes (58 : Int32) t (nI n) x7 (fun (r9 : Int32) (mat_c8 : Int32) => ((r9 = 0 → post (0 : Int32) mat_c8 td) ∧ (¬ r9 = 0 → wX11_readsRun t_50 t (nI n) mat_c8 td (fun (r13 : Int32) (mat_c11 : Int32) (told_c12 : Nat → Int32) => (∃ (I69 : Int32 → Int32 → (Nat → Int32) → Prop) (mu69 : Int32 → Int32 → (Nat → Int32) → Nat), I69 r13 mat_c11 told_c12 ∧ ∀ (l4_69 : Int32) (mat_69 : Int32) (told_69 : Nat → Int32), I69 l4_69 mat_69 told_69 → ((l4_69 = 0 → (l4_69 = 0 ∨ l4_69 = 1) ∧ post l4_69 mat_69 told_69) ∧ (¬ l4_69 = 0 → wX11_takes (44 : Int32) t (nI n) mat_69 (fun (r17 : Int32) (mat_c16 : Int32) => ((r17 = 0 → (l4_69 = 0 ∨ l4_69 = 1) ∧ post l4_69 mat_c16 told_69) ∧ (¬ r17 = 0 → wX11_readsRun t_50 t (nI n) mat_c16 told_69 (fun (r22 : Int32) (mat_c20 : Int32) (told_c21 : Nat → Int32) => (I69 r22 mat_c20 told_c21 ∧ mu69 r22 mat_c20 told_c21 < mu69 l4_69 mat_69 told_69))))))))))))) ∧ ((r2 = 0 → J50 (r4 - (48 : Int32))) ∧ (¬ r2 = 0 → J50 ((48 : Int32) - r4)))))) ) := by
    intro r2 hr2
    refine s11_sign ok hr1.2 (q11_in ?_)
    by_cases q : 48 ≤ ch L n (sk L n (ra1 L n a)) ∧ ch L n (sk L n (ra1 L n a)) ≤ 54
    case neg =>
      have e : rowR L n a T = (false, sk L n (ra1 L n a), T) := by unfold rowR; rw [if_neg q]
      refine br_t ?_ (hA _ _ hs2.2.1 (by rw [e]) (by rw [e]))
      show fIn (nI (ch L n (sk L n (ra1 L n a)))) (nI 48) (nI 54) = 0
      rw [fIn_nI (by omega) (by omega) (by omega), if_neg q]
    have hfi : fIn (nI (ch L n (sk L n (ra1 L n a)))) 48 54 = 1 := by
      show fIn (nI (ch L n (sk L n (ra1 L n a)))) (nI 48) (nI 54) = 1
      rw [fIn_nI (by omega) (by omega) (by omega), if_pos q]
    rw [hfi]
    refine br_f (by decide) ?_
    intro x7 hx7
    rw [nI_1] at hx7
    subst hx7
    have hlt2 := ch_lt (L := L) (n := n) (a := sk L n (ra1 L n a)) (by omega)
    have hlo := lRow_ok (s := decide (ch L n (sk L n a) = 45)) q.1 q.2
    refine ⟨fun t => t = lRow (decide (ch L n (sk L n a) = 45)) (ch L n (sk L n (ra1 L n a))), ?_, ?_⟩
    case refine_2 =>
      rw [hr2]
      by_cases w : ch L n (sk L n a) = 45
      · rw [decide_eq_true w]; exact br_f (by decide) rfl
      · rw [decide_eq_false w]; exact br_t rfl rfl
    rintro _ rfl
    refine s11_takes (c := 58) ok (by omega) (by omega) (by omega) (fun z => ?_) (fun z => ?_)
    case refine_2 =>
      have hs3 := sk_ok (L := L) (n := n) (a := sk L n (ra1 L n a) + 1) (by omega)
      have e : rowR L n a T = (false, sk L n (sk L n (ra1 L n a) + 1), T) := by unfold rowR; rw [if_pos q, if_neg z]
      exact br_t rfl (hA _ _ hs3.2.1 (by rw [e]) (by rw [e]))
    have hs3 := sk_ok (L := L) (n := n) (a := sk L n (ra1 L n a) + 1) (by omega)
    have hlt3 := ch_lt (L := L) (n := n) (a := sk L n (sk L n (ra1 L n a) + 1)) (by omega)
    have e0 : rowR L n a T = runsR L n (lRow (decide (ch L n (sk L n a) = 45)) (ch L n (sk L n (ra1 L n a)))) 91 (sk L n (sk L n (ra1 L n a) + 1) + 1) T := by unfold rowR; rw [if_pos q, if_pos z]
    generalize hlr : lRow (decide (ch L n (sk L n a) = 45)) (ch L n (sk L n (ra1 L n a))) = lr at *
    have enter : ∀ (f a' : Nat) (T' : Nat → Bool) (td' : Nat → Int32), a' ≤ n → a < a' → toldT td' T' → 91 ≤ f + a' → rowR L n a T = runsR L n lr f a' T' → ∀ {post2 : Int32 → Int32 → (Nat → Int32) → Prop}, (∀ r m d, ((∃ p, r = 0 ∧ m = nI p ∧ p ≤ n ∧ (rowR L n a T).1 = false ∧ (rowR L n a T).2.1 = p) ∨ (∃ e T2 f, r = 1 ∧ m = nI e ∧ e ≤ n ∧ a' < e ∧ toldT d T2 ∧ 90 ≤ f + e ∧ rowR L n a T = (if ch L n (sk L n e) = 44 then runsR L n lr f (sk L n e + 1) T2 else (true, sk L n e, T2)))) → post2 r m d) → wX11_readsRun lr t (nI n) (nI a') td' post2 := by
      intro f a' T' td' ha' haa hT' hf e post2 hp2
      obtain ⟨f, rfl⟩ : ∃ g, f = g + 1 := ⟨f - 1, by omega⟩
      refine s11_run ok hlo ha' hT' (fun p hp hr => ?_) (fun e1 T2 td2 hae he1 hr hT2 => ?_)
      · rw [runs_f hr] at e
        exact hp2 _ _ _ (Or.inl ⟨p, rfl, rfl, hp, by rw [e], by rw [e]⟩)
      · rw [runs_t hr] at e
        exact hp2 _ _ _ (Or.inr ⟨e1, T2, f, rfl, rfl, he1, hae, hT2, by omega, e⟩)
    refine br_f (by decide) (enter 91 _ T td (by omega) (by omega) hT (by omega) e0 (fun r m d hrmd => ?_))
    refine ⟨fun r m d => (∃ p, r = 0 ∧ m = nI p ∧ p ≤ n ∧ (rowR L n a T).1 = false ∧ (rowR L n a T).2.1 = p) ∨ (∃ e T2 f, r = 1 ∧ m = nI e ∧ e ≤ n ∧ a < e ∧ toldT d T2 ∧ 90 ≤ f + e ∧ rowR L n a T = (if ch L n (sk L n e) = 44 then runsR L n lr f (sk L n e + 1) T2 else (true, sk L n e, T2))), fun r m _ => if r = 0 then 0 else 200 - m.toNatClampNeg, ?_, ?_⟩
    · rcases hrmd with k | ⟨e, T2, f, k1, k2, k3, k4, k5⟩
      · exact Or.inl k
      · exact Or.inr ⟨e, T2, f, k1, k2, k3, by omega, k5⟩
    rintro r m d (⟨p, rfl, rfl, hp, k1, k2⟩ | ⟨e, T2, f, rfl, rfl, he, hae, hT2, hf, ee⟩)
    · exact br_t rfl ⟨Or.inl rfl, hA p d hp k1 k2⟩
    · have hse := sk_ok (L := L) he
      refine br_f (by decide) (s11_takes (c := 44) ok he (by omega) (by omega) (fun w => ?_) (fun w => ?_))
      · have hlt := ch_lt (L := L) (n := n) (a := sk L n e) (by omega)
        rw [if_pos w] at ee
        refine br_f (by decide) (enter f (sk L n e + 1) T2 d (by omega) (by omega) hT2 (by omega) ee (fun r m d' hk => ?_))
        refine ⟨?_, ?_⟩
        · rcases hk with k | ⟨e', T3, f', k1, k2, k3, k4, k5⟩
          · exact Or.inl k
          · exact Or.inr ⟨e', T3, f', k1, k2, k3, by omega, k5⟩
        · show (if r = 0 then 0 else 200 - m.toNatClampNeg) < (if (1 : Int32) = 0 then 0 else 200 - (nI e).toNatClampNeg)
          rw [if_neg (show ¬ (1 : Int32) = 0 by decide), nI_clamp (by omega)]
          rcases hk with ⟨p, k1, -⟩ | ⟨e', T3, f', k1, k2, k3, k4, -⟩
          · rw [k1, if_pos rfl]; omega
          · rw [k1, if_neg (by decide), k2, nI_clamp (by omega)]; omega
      · rw [if_neg w] at ee
        exact br_t rfl ⟨Or.inr rfl, hC _ T2 d (by omega) hse.2.1 ee hT2⟩
  refine s11_takes (c := 45) ok ha (by omega) (by omega) (fun z => ?_) (fun z => ?_)
  · have := main 1 (by rw [decide_eq_true z]; rfl)
    unfold ra1 at this
    rw [if_pos z] at this
    exact this
  · have := main 0 (by rw [decide_eq_false z]; rfl)
    unfold ra1 at this
    rw [if_neg z] at this
    exact this
/-! the whole text -/
def rowsR (L : Nat → Nat) (n : Nat) : Nat → Nat → (Nat → Bool) → Bool × Nat × (Nat → Bool)
  | 0, a, T => (false, a, T)
  | f + 1, a, T => if (rowR L n a T).1 then (if ch L n (sk L n (rowR L n a T).2.1) = 59 then rowsR L n f (sk L n (rowR L n a T).2.1 + 1) (rowR L n a T).2.2 else if ch L n (sk L n (rowR L n a T).2.1) = 0 then (true, sk L n (rowR L n a T).2.1, (rowR L n a T).2.2) else (false, sk L n (rowR L n a T).2.1, T)) else (false, (rowR L n a T).2.1, T)
theorem rows_f {L : Nat → Nat} {n f a p : Nat} {T : Nat → Bool} (h : (rowR L n a T).1 = false) (h2 : (rowR L n a T).2.1 = p) : rowsR L n (f + 1) a T = (false, p, T) := by
  rw [rowsR, h, h2]
  rfl
theorem rows_t {L : Nat → Nat} {n f a e : Nat} {T T' : Nat → Bool} (h : rowR L n a T = (true, e, T')) : rowsR L n (f + 1) a T = (if ch L n (sk L n e) = 59 then rowsR L n f (sk L n e + 1) T' else if ch L n (sk L n e) = 0 then (true, sk L n e, T') else (false, sk L n e, T)) := by
  rw [rowsR, h]
  rfl
theorem s7_text {L : Nat → Nat} {n : Nat} {t : Nat → Int32} {f0 : Int32} {tb : Nat → Int64} (ok : tapeOK L n t) {post : Int32 → (Nat → Int64) → Int32 → Int32 → Prop} (hA : ∀ p tb' at' f', p ≤ n → (rowsR L n 91 0 (fun _ => false)).1 = false → (rowsR L n 91 0 (fun _ => false)).2.1 = p → post (nI p) tb' at' f') (hC : ∀ tb' at' f', (rowsR L n 91 0 (fun _ => false)).1 = true → bitsT tb' (rowsR L n 91 0 (fun _ => false)).2.2 → post (-1) tb' at' f') : wX7_understand t tb (nI n) f0 post := by
  have hn90 := ok.1
  unfold wX7_understand
  refine s_fillJ (by omega) ?_
  have hT0 : bitsT (fun j => if j < 5 then (0 : Int64) else tb j) (fun _ => false) := fun q hq => by
    unfold bitAt
    show (if q / 64 < 5 then (0 : Int64) else tb (q / 64)).toBitVec.getLsbD (q % 64) = _
    rw [if_pos (by omega), Bool.and_false]
    simp
  generalize hR : rowsR L n 91 0 (fun _ => false) = R at *
  refine ⟨fun l1 tb' at' f' => ∃ i f a' T', l1 = nI i ∧ at' = nI a' ∧ a' ≤ n ∧ i ≤ a' ∧ bitsT tb' T' ∧ 91 ≤ f + a' ∧ R = rowsR L n f a' T', fun l1 _ _ _ => 200 - l1.toNatClampNeg, ⟨0, 91, 0, fun _ => false, rfl, rfl, Nat.zero_le _, Nat.le_refl _, hT0, by omega, hR.symm⟩, ?_⟩
  rintro l1 tb' at' f' ⟨i, f, a', T', rfl, rfl, ha', hia, hT', hf, e⟩
  obtain ⟨f, rfl⟩ : ∃ g, f = g + 1 := ⟨f - 1, by omega⟩
  refine br_f (nI_nlt (a := 90) (by omega) (by omega)) ?_
  refine s7_row ok ha' hT' (fun p tb2 at2 f2 hp k1 k2 => ?_) (fun p tb2 f2 hp hfp k1 k2 => ?_) (fun e1 T2 tb2 f2 hae he1 hse hr hT2 => ?_)
  · rw [rows_f k1 k2] at e
    exact br_f (fun z => nI_nm1 (by omega) z) (hA _ _ _ _ hp (by rw [e]) (by rw [e]))
  · rw [rows_f k1 k2] at e
    have hfy := fig_yes hfp
    have hlt := fig_lt hfp
    refine br_t rfl (s7_next ok hp ?_)
    rw [fig_stop hfp, if_pos hlt]
    refine br_f (fun z => nI_nm1 (by omega) z) (s7_takes (c := 59) ok hp (by omega) (by omega) (fun z => ?_) (fun z => ?_))
    · rw [fig_stop hfp] at z; omega
    · rw [fig_stop hfp]
      exact br_t rfl (hA _ _ _ _ hp (by rw [e]) (by rw [e]))
  · rw [rows_t hr, hse] at e
    have hbd := ch_bd (a := e1) ok
    refine br_t rfl (s7_next ok he1 ?_)
    rw [hse]
    by_cases q : e1 < n
    · rw [if_pos q]
      have hge := ch_ge ok q
      refine br_f (fun z => nI_nm1 (by omega) z) (s7_takes (c := 59) ok he1 (by omega) (by omega) (fun z => ?_) (fun z => ?_))
      · rw [hse] at z ⊢
        rw [if_pos z] at e
        refine br_f (by decide) (fun x hx => ⟨⟨i + 1, f, e1 + 1, T2, hx.trans (nI_1 i), rfl, by omega, by omega, hT2, by omega, e⟩, loop_mu hx (by omega) (by omega)⟩)
      · rw [hse] at z ⊢
        rw [if_neg z, if_neg (by omega)] at e
        exact br_t rfl (hA _ _ _ _ he1 (by rw [e]) (by rw [e]))
    · rw [if_neg q]
      have h0 : ch L n e1 = 0 := ch_out (by omega)
      rw [h0, if_neg (by decide), if_pos rfl] at e
      exact br_t rfl (hC _ _ _ (by rw [e]) (by rw [e]; exact hT2))
theorem s11_text {L : Nat → Nat} {n : Nat} {t : Nat → Int32} {td : Nat → Int32} (ok : tapeOK L n t) {post : Int32 → Int32 → (Nat → Int32) → Prop} (hA : ∀ p td', p ≤ n → (rowsR L n 91 0 (fun _ => false)).1 = false → (rowsR L n 91 0 (fun _ => false)).2.1 = p → post 0 (nI p) td') (hC : ∀ at' td', (rowsR L n 91 0 (fun _ => false)).1 = true → toldT td' (rowsR L n 91 0 (fun _ => false)).2.2 → post 1 at' td') : wX11_reads t (nI n) td post := by
  have hn90 := ok.1
  unfold wX11_reads
  refine ⟨fun l d => ∃ a, a ≤ 266 ∧ l = nI a ∧ ∀ p, p < a → d p = 0, fun l _ => 266 - l.toNatClampNeg, ⟨0, by omega, rfl, fun p hp => absurd hp (Nat.not_lt_zero p)⟩, ?_⟩
  rintro l d ⟨a, ha, rfl, hd⟩
  refine pk_le 266 a (fun c => ?_) (fun c => ?_)
  case refine_2 =>
    rw [nI_clamp (n := a) (by omega)]
    refine ⟨vp_in_nI c (by omega), fun x hx => ⟨⟨a + 1, by omega, hx.trans (nI_1 a), fun p hp => ?_⟩, loop_mu hx c (by omega)⟩⟩
    by_cases e : p = a
    · rw [e, pk_us]
    · rw [pk_un e]; exact hd p (by omega)
  have ea : a = 266 := by omega
  subst ea
  have hT0 : toldT d (fun _ => false) := fun q hq => hd q hq
  generalize hR : rowsR L n 91 0 (fun _ => false) = R at *
  have enter : ∀ (f a' : Nat) (T' : Nat → Bool) (td' : Nat → Int32), a' ≤ n → toldT td' T' → 91 ≤ f + a' → R = rowsR L n f a' T' → ∀ {post2 : Int32 → Int32 → (Nat → Int32) → Prop}, (∀ r m d, ((∃ p, r = 0 ∧ m = nI p ∧ p ≤ n ∧ R.1 = false ∧ R.2.1 = p) ∨ (∃ e T2 T3 f, r = 1 ∧ m = nI e ∧ e ≤ n ∧ a' < e ∧ toldT d T2 ∧ 90 ≤ f + e ∧ R = (if ch L n (sk L n e) = 59 then rowsR L n f (sk L n e + 1) T2 else if ch L n (sk L n e) = 0 then (true, sk L n e, T2) else (false, sk L n e, T3)))) → post2 r m d) → wX11_readsRow t (nI n) (nI a') td' post2 := by
    intro f a' T' td' ha' hT' hf e post2 hp2
    obtain ⟨f, rfl⟩ : ∃ g, f = g + 1 := ⟨f - 1, by omega⟩
    refine s11_trow ok ha' hT' (fun p td2 hp k1 k2 => ?_) (fun e1 T2 td2 hae he1 hr hT2 => ?_)
    · rw [rows_f k1 k2] at e
      exact hp2 _ _ _ (Or.inl ⟨p, rfl, rfl, hp, by rw [e], by rw [e]⟩)
    · rw [rows_t hr] at e
      exact hp2 _ _ _ (Or.inr ⟨e1, T2, T', f, rfl, rfl, he1, hae, hT2, by omega, e⟩)
  refine enter 91 0 (fun _ => false) d (Nat.zero_le _) hT0 (by omega) hR.symm (fun r m d' hk => ?_)
  refine ⟨fun r m d => (∃ p, r = 0 ∧ m = nI p ∧ p ≤ n ∧ R.1 = false ∧ R.2.1 = p) ∨ (∃ e T2 T3 f, r = 1 ∧ m = nI e ∧ e ≤ n ∧ toldT d T2 ∧ 90 ≤ f + e ∧ R = (if ch L n (sk L n e) = 59 then rowsR L n f (sk L n e + 1) T2 else if ch L n (sk L n e) = 0 then (true, sk L n e, T2) else (false, sk L n e, T3))), fun r m _ => if r = 0 then 0 else 200 - m.toNatClampNeg, ?_, ?_⟩
  · rcases hk with k | ⟨e, T2, T3, f, k1, k2, k3, k4, k5, k6⟩
    · exact Or.inl k
    · exact Or.inr ⟨e, T2, T3, f, k1, k2, k3, k5, k6⟩
  clear hk
  rintro r m d' (⟨p, rfl, rfl, hp, k1, k2⟩ | ⟨e, T2, T3, f, rfl, rfl, he, hT2, hf, ee⟩)
  · refine ⟨fun x => x = nI p, ?_, br_t rfl rfl⟩
    rintro x rfl
    exact br_t rfl (hA p d' hp k1 k2)
  · have hse := sk_ok (L := L) he
    have hbd := ch_bd (a := sk L n e) ok
    refine ⟨fun x => x = nI (sk L n e) ∧ ch L n (sk L n e) ≠ 59, ?_, ?_⟩
    · rintro x ⟨rfl, hne⟩
      rw [if_neg hne] at ee
      refine br_f (by decide) (s11_sign ok hse.2.1 ?_)
      rw [sk_sk he]
      refine pk_eq (ch L n (sk L n e)) 0 (fun w => ?_) (fun w => ?_)
      · rw [if_pos w] at ee
        exact hC _ d' (by rw [ee]) (by rw [ee]; exact hT2)
      · rw [if_neg w] at ee
        exact hA _ d' hse.2.1 (by rw [ee]) (by rw [ee])
    · refine br_f (by decide) (s11_takes (c := 59) ok he (by omega) (by omega) (fun w => ?_) (fun w => ?_))
      · have hlt := ch_lt (L := L) (n := n) (a := sk L n e) (by omega)
        rw [if_pos w] at ee
        refine br_f (by decide) (enter f (sk L n e + 1) T2 d' (by omega) hT2 (by omega) ee (fun r m d2 hk => ⟨?_, ?_⟩))
        · rcases hk with k | ⟨e', T4, T5, f', k1, k2, k3, k4, k5, k6⟩
          · exact Or.inl k
          · exact Or.inr ⟨e', T4, T5, f', k1, k2, k3, k5, k6⟩
        · show (if r = 0 then 0 else 200 - m.toNatClampNeg) < (if (1 : Int32) = 0 then 0 else 200 - (nI e).toNatClampNeg)
          rw [if_neg (show ¬ (1 : Int32) = 0 by decide), nI_clamp (by omega)]
          rcases hk with ⟨p, k1, -⟩ | ⟨e', T4, T5, f', k1, k2, k3, k4, -⟩
          · rw [k1, if_pos rfl]; omega
          · rw [k1, if_neg (by decide), k2, nI_clamp (by omega)]; omega
      · exact br_t rfl ⟨rfl, w⟩
