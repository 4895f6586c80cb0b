/-! ===== texts: runs, rows ===== -/
def pN (l : Int32) (m : Nat) : Nat := (fNumber l (nI m)).toNatClampNeg
theorem pN_is {l : Int32} (hl : rowOK l) {m : Nat} (hm : m < 24) : fNumber l (nI m) = nI (pN l m) ∧ pN l m < 266 := by
  obtain ⟨p, hp, e, -⟩ := numOf hl hm
  unfold pN
  rw [e, nI_clamp (by omega)]
  exact ⟨rfl, hp⟩
def setT (T : Nat → Bool) (p : Nat) : Nat → Bool := fun q => T q || decide (q = p)
def mkT (l : Int32) (v : Nat) (T : Nat → Bool) : Nat → (Nat → Bool)
  | 0 => T
  | i + 1 => setT (mkT l v T i) (pN l ((v + i) % 24))
def bitsT (tb : Nat → Int64) (T : Nat → Bool) : Prop := ∀ q, q < 320 → bitAt tb q = (decide (q < 266) && T q)
def toldT (told : Nat → Int32) (T : Nat → Bool) : Prop := ∀ q, q < 266 → told q = if T q then 1 else 0
theorem told_set {told : Nat → Int32} {T : Nat → Bool} {p : Nat} (h : toldT told T) : toldT (upd told p 1) (setT T p) := by
  intro q hq
  unfold setT
  by_cases e : q = p
  · subst e
    rw [pk_us, decide_eq_true rfl, Bool.or_true]; rfl
  · rw [pk_un e, decide_eq_false e, Bool.or_false]
    exact h q hq
theorem bits_set {tb : Nat → Int64} {T : Nat → Bool} {p : Nat} (hp : p < 266) (h : bitsT tb T) : bitsT (vp_updL tb (p / 64) (tb (p / 64) ||| ((1 : Int64) <<< ((nI (p % 64)).toInt64 &&& 63)))) (setT T p) := by
  intro q hq
  have h0 := h q hq
  unfold bitAt at h0 ⊢
  unfold vp_updL setT
  by_cases e : q / 64 = p / 64
  · rw [if_pos e, Int64.toBitVec_or, one_shl (p % 64) (by omega), BitVec.getLsbD_or, BitVec.getLsbD_twoPow, ← e, h0]
    have h1 : p % 64 < 64 := by omega
    rw [decide_eq_true h1, Bool.true_and]
    by_cases e2 : q = p
    · subst e2
      rw [decide_eq_true hp, decide_eq_true rfl, decide_eq_true (rfl : q = q), Bool.or_true, Bool.or_true]; rfl
    · rw [decide_eq_false e2, decide_eq_false (by omega : ¬ p % 64 = q % 64), Bool.or_false, Bool.or_false]
  · rw [if_neg e, h0, decide_eq_false (by omega : ¬ q = p), Bool.or_false]
def fFM (a b : Int32) : Int32 := if 0 ≤ (a ^^^ b) then a - a / b * b else if a - a / b * b = 0 then a - a / b * b else (a - a / b * b) + b
theorem q_floorMod {a b : Int32} (hb : ¬ b = 0) {post : Int32 → Prop} (h : post (fFM a b)) : wJ9_floorMod_7cf53 a b post := by
  unfold wJ9_floorMod_7cf53
  unfold fFM at h
  refine ⟨hb, fun x hx => ?_⟩
  subst hx
  refine br_c (fun c => ?_) (fun c => br_c (fun d => ?_) (fun d => ?_))
  · rw [if_pos c] at h; exact h
  · rw [if_neg c, if_pos d] at h; exact h
  · rw [if_neg c, if_neg d] at h; exact h
def stN (v v2 : Nat) : Nat := (v2 + 24 - v) % 24
theorem t_fm : ∀ v, v < 24 → ∀ v2, v2 < 24 → fFM (nI v2 - nI v) 24 = nI (stN v v2) := by decide +kernel
theorem mod24_is (k : Nat) (hk : k < 2 ^ 20) : nI k - nI k / (24 : Int32) * (24 : Int32) = nI (k % 24) := mod_nI (d := 24) (by omega) (by omega) (by omega)
/-- the class marks a run -/
theorem s7_marks {l : Int32} (hl : rowOK l) {v s : Nat} (hv : v < 24) (hs : s < 24) {tb0 : Nat → Int64} {T : Nat → Bool} (hT : bitsT tb0 T) {post : (Nat → Int64) → Prop} (h : ∀ tb, bitsT tb (mkT l v T (s + 1)) → post tb) : (∃ (I54 : Int32 → (Nat → Int64) → Prop) (mu54 : Int32 → (Nat → Int64) → Nat), I54 (0 : Int32) tb0 ∧ ∀ (l5_54 : Int32) (tbits_54 : Nat → Int64), I54 l5_54 tbits_54 → ((nI s < l5_54 → post tbits_54) ∧ (¬ nI s < l5_54 → wX1_numberOf l ((nI v + l5_54) - (nI v + l5_54) / (24 : Int32) * (24 : Int32)) (fun (r9 : Int32) => vp_in (r9 >>> ((6 : Int32) &&& 31)) 5 ∧ vp_in (r9 >>> ((6 : Int32) &&& 31)) 5 ∧ ∀ x12 : Int32, x12 = l5_54 + 1 → (I54 x12 (vp_updL tbits_54 (r9 >>> ((6 : Int32) &&& 31)).toNatClampNeg ((tbits_54 (r9 >>> ((6 : Int32) &&& 31)).toNatClampNeg) ||| ((1 : Int64) <<< ((r9 &&& (63 : Int32)).toInt64 &&& 63)))) ∧ mu54 x12 (vp_updL tbits_54 (r9 >>> ((6 : Int32) &&& 31)).toNatClampNeg ((tbits_54 (r9 >>> ((6 : Int32) &&& 31)).toNatClampNeg) ||| ((1 : Int64) <<< ((r9 &&& (63 : Int32)).toInt64 &&& 63)))) < mu54 l5_54 tbits_54))))) := by
  refine ⟨fun l5 tb => ∃ i, i ≤ s + 1 ∧ l5 = nI i ∧ bitsT tb (mkT l v T i), fun l5 _ => 30 - l5.toNatClampNeg, ⟨0, by omega, rfl, hT⟩, ?_⟩
  rintro l5 tb ⟨i, hi, rfl, hb⟩
  refine pk_lt s i (fun c => ?_) (fun c => ?_)
  · have e : i = s + 1 := by omega
    subst e
    exact h tb hb
  · rw [nI_add, mod24_is _ (by omega)]
    obtain ⟨e, hp⟩ := pN_is hl (m := (v + i) % 24) (by omega)
    refine q1_numberOf ?_
    rw [e, sh6 (by omega), an63 (by omega), nI_clamp (n := pN l ((v + i) % 24) / 64) (by omega)]
    have hv5 : vp_in (nI (pN l ((v + i) % 24) / 64)) 5 := vp_in_nI (by omega) (by omega)
    exact ⟨hv5, hv5, fun x hx => ⟨⟨i + 1, by omega, hx.trans (nI_1 i), bits_set hp hb⟩, loop_mu hx (by omega) (by omega)⟩⟩
theorem s11_marks {l : Int32} (hl : rowOK l) {v v2 : Nat} (hv : v < 24) (hv2 : v2 < 24) {told : Nat → Int32} {T : Nat → Bool} (hT : toldT told T) {post : (Nat → Int32) → Prop} (h : ∀ td, toldT td (mkT l v T (stN v v2 + 1)) → post td) : wX11_marks l (nI v) (nI v2) told post := by
  unfold wX11_marks
  obtain ⟨e, hp⟩ := pN_is hl hv
  refine q11_numberOf ?_
  rw [e, nI_clamp (n := pN l v) (by omega)]
  refine ⟨vp_in_nI hp (by omega), ?_⟩
  refine ⟨fun l4 td => ∃ i, i < 24 ∧ i ≤ stN v v2 ∧ l4 = nI ((v + i) % 24) ∧ toldT td (mkT l v T (i + 1)), fun l4 _ => 24 - (l4.toNatClampNeg + 24 - v) % 24, ⟨0, by omega, Nat.zero_le _, ?_, ?_⟩, ?_⟩
  · rw [Nat.add_zero, Nat.mod_eq_of_lt hv]
  · show toldT _ (setT T (pN l ((v + 0) % 24)))
    rw [Nat.add_zero, Nat.mod_eq_of_lt hv]
    exact told_set hT
  rintro l4 td ⟨i, hi, his, rfl, htd⟩
  have hs : stN v v2 = (v2 + 24 - v) % 24 := rfl
  refine pk_eq ((v + i) % 24) v2 (fun c => ?_) (fun c => ?_) rfl rfl (by omega) (by omega)
  · have ei : i = stN v v2 := by omega
    rw [ei] at htd
    exact h td htd
  · intro x hx
    rw [nI_1, mod24_is _ (by omega), show ((v + i) % 24 + 1) % 24 = (v + (i + 1)) % 24 by omega] at hx
    subst hx
    obtain ⟨e2, hp2⟩ := pN_is hl (m := (v + (i + 1)) % 24) (by omega)
    refine q11_numberOf ?_
    rw [e2, nI_clamp (n := pN l ((v + (i + 1)) % 24)) (by omega)]
    refine ⟨vp_in_nI hp2 (by omega), ⟨i + 1, by omega, by omega, rfl, told_set htd⟩, ?_⟩
    show 24 - ((nI ((v + (i + 1)) % 24)).toNatClampNeg + 24 - v) % 24 < 24 - ((nI ((v + i) % 24)).toNatClampNeg + 24 - v) % 24
    rw [nI_clamp (by omega), nI_clamp (by omega)]
    omega
/-! a run -/
def runR (L : Nat → Nat) (n : Nat) (l : Int32) (a : Nat) (T : Nat → Bool) : Bool × Nat × (Nat → Bool) := if (numR L n a).1 then (if ch L n (sk L n (numR L n a).2.1) = 45 then (if (numR L n (sk L n (numR L n a).2.1 + 1)).1 then (true, (numR L n (sk L n (numR L n a).2.1 + 1)).2.1, mkT l (numR L n a).2.2 T (stN (numR L n a).2.2 (numR L n (sk L n (numR L n a).2.1 + 1)).2.2 + 1)) else (false, (numR L n (sk L n (numR L n a).2.1 + 1)).2.1, T)) else (true, sk L n (numR L n a).2.1, mkT l (numR L n a).2.2 T (stN (numR L n a).2.2 (numR L n a).2.2 + 1))) else (false, (numR L n a).2.1, T)
theorem run_f {L : Nat → Nat} {n : Nat} {l : Int32} {a p v : Nat} {T : Nat → Bool} (h : numR L n a = (false, p, v)) : runR L n l a T = (false, p, T) := by
  unfold runR
  rw [h]
  rfl
theorem run_1 {L : Nat → Nat} {n : Nat} {l : Int32} {a e v : Nat} {T : Nat → Bool} (h : numR L n a = (true, e, v)) (hc : ch L n (sk L n e) ≠ 45) : runR L n l a T = (true, sk L n e, mkT l v T (stN v v + 1)) := by
  unfold runR
  rw [h]
  show (if ch L n (sk L n e) = 45 then _ else _) = _
  rw [if_neg hc]
theorem run_2f {L : Nat → Nat} {n : Nat} {l : Int32} {a e v p v2 : Nat} {T : Nat → Bool} (h : numR L n a = (true, e, v)) (hc : ch L n (sk L n e) = 45) (h2 : numR L n (sk L n e + 1) = (false, p, v2)) : runR L n l a T = (false, p, T) := by
  unfold runR
  rw [h]
  show (if ch L n (sk L n e) = 45 then (if (numR L n (sk L n e + 1)).1 then _ else _) else _) = _
  rw [if_pos hc, h2]
  rfl
theorem run_2 {L : Nat → Nat} {n : Nat} {l : Int32} {a e v e2 v2 : Nat} {T : Nat → Bool} (h : numR L n a = (true, e, v)) (hc : ch L n (sk L n e) = 45) (h2 : numR L n (sk L n e + 1) = (true, e2, v2)) : runR L n l a T = (true, e2, mkT l v T (stN v v2 + 1)) := by
  unfold runR
  rw [h]
  show (if ch L n (sk L n e) = 45 then (if (numR L n (sk L n e + 1)).1 then (true, (numR L n (sk L n e + 1)).2.1, mkT l v T (stN v (numR L n (sk L n e + 1)).2.2 + 1)) else _) else _) = _
  rw [if_pos hc, h2]
  rfl
theorem fig_stop {L : Nat → Nat} {n p : Nat} (h : fig (ch L n p) = true) : sk L n p = p := sk_stop (by have := fig_yes h; omega)
theorem s7_run {L : Nat → Nat} {n a : Nat} {t : Nat → Int32} {l f0 : Int32} {tb : Nat → Int64} {T : Nat → Bool} (ok : tapeOK L n t) (hl : rowOK l) (ha : a ≤ n) (hT : bitsT tb T) {post : Int32 → (Nat → Int64) → Int32 → Int32 → Prop} (hA : ∀ p tb' at' f', p ≤ n → runR L n l a T = (false, p, T) → post (nI p) tb' at' f') (hB : ∀ p tb' f', p ≤ n → fig (ch L n p) = true → runR L n l a T = (false, p, T) → post (-1) tb' (nI p) f') (hC : ∀ e T' tb' f', a < e → e ≤ n → runR L n l a T = (true, e, T') → bitsT tb' T' → post (-1) tb' (nI e) f') : wX7_understandRun l t tb (nI n) (nI a) f0 post := by
  have hn90 := ok.1
  unfold wX7_understandRun
  refine s7_num ok ha (fun p at' f' hp hr => ?_) (fun e v hae he hv hf hr => ?_) (fun e v hr => ?_)
  · exact br_f (fun z => nI_nm1 (by omega) z) (hA p _ _ _ hp (run_f hr))
  · refine br_t rfl (s7_takes (c := 45) ok he (by omega) (by omega) (fun z => ?_) (fun z => ?_))
    · rw [fig_stop hf] at z
      have := fig_yes hf
      omega
    · rw [fig_stop hf]
      refine ⟨fun x y => x = nI e ∧ y = nI v, ?_, br_t rfl ⟨rfl, rfl⟩⟩
      rintro x y ⟨rfl, rfl⟩
      refine q_floorMod (by decide) ?_
      rw [t_fm v (by omega) v (by omega)]
      exact s7_marks hl (by omega) (Nat.mod_lt _ (by omega)) hT (fun tb' _ => hB e tb' _ he hf (run_f hr))
  · obtain ⟨h1, h2, h3, h4⟩ := num_ok ha hr
    have hs := sk_ok (L := L) h2
    refine br_t rfl (s7_takes (c := 45) ok h2 (by omega) (by omega) (fun z => ?_) (fun z => ?_))
    · have hlt := ch_lt (L := L) (n := n) (a := sk L n e) (by omega)
      refine ⟨fun x y => ∃ e2 v2, x = nI e2 ∧ y = nI v2 ∧ v2 ≤ 23 ∧ a < e2 ∧ e2 ≤ n ∧ ((numR L n (sk L n e + 1) = (true, e2, v2)) ∨ (fig (ch L n e2) = true ∧ numR L n (sk L n e + 1) = (false, e2, 0))), ?_, ?_⟩
      · rintro x y ⟨e2, v2, rfl, rfl, hv2, hae2, he2, hcase⟩
        refine q_floorMod (by decide) ?_
        rw [t_fm v (by omega) v2 (by omega)]
        refine s7_marks hl (by omega) (Nat.mod_lt _ (by omega)) hT (fun tb' htb' => ?_)
        rcases hcase with hc | ⟨hf, hc⟩
        · exact hC e2 _ tb' _ hae2 he2 (run_2 hr z hc) htb'
        · exact hB e2 tb' _ he2 hf (run_2f hr z hc)
      · refine br_f (by decide) (s7_num ok (by omega) (fun p at' f' hp hr2 => ?_) (fun e2 v2 hae2 he2 hv2 hf2 hr2 => ?_) (fun e2 v2 hr2 => ?_))
        · exact br_f (fun w => nI_nm1 (by omega) w) (hA p _ _ _ hp (run_2f hr z hr2))
        · exact br_t rfl ⟨e2, v2, rfl, rfl, hv2, by omega, he2, Or.inr ⟨hf2, hr2⟩⟩
        · obtain ⟨k1, k2, k3, k4⟩ := num_ok (by omega) hr2
          exact br_t rfl ⟨e2, v2, rfl, rfl, k3, by omega, k2, Or.inl hr2⟩
    · refine ⟨fun x y => x = nI (sk L n e) ∧ y = nI v, ?_, br_t rfl ⟨rfl, rfl⟩⟩
      rintro x y ⟨rfl, rfl⟩
      refine q_floorMod (by decide) ?_
      rw [t_fm v (by omega) v (by omega)]
      exact s7_marks hl (by omega) (Nat.mod_lt _ (by omega)) hT (fun tb' htb' => hC (sk L n e) _ tb' _ (by omega) hs.2.1 (run_1 hr z) htb')
theorem s11_run {L : Nat → Nat} {n a : Nat} {t : Nat → Int32} {l : Int32} {td : Nat → Int32} {T : Nat → Bool} (ok : tapeOK L n t) (hl : rowOK l) (ha : a ≤ n) (hT : toldT td T) {post : Int32 → Int32 → (Nat → Int32) → Prop} (hA : ∀ p, p ≤ n → runR L n l a T = (false, p, T) → post 0 (nI p) td) (hC : ∀ e T' td', a < e → e ≤ n → runR L n l a T = (true, e, T') → toldT td' T' → post 1 (nI e) td') : wX11_readsRun l t (nI n) (nI a) td post := by
  have hn90 := ok.1
  unfold wX11_readsRun
  refine s11_num ok ha (fun p hp hr => ?_) (fun e v hr => ?_)
  · exact br_f (by decide) (hA p hp (run_f hr))
  · obtain ⟨h1, h2, h3, h4⟩ := num_ok ha hr
    have hs := sk_ok (L := L) h2
    refine br_t (nI_pos' (by omega)) (s11_takes (c := 45) ok h2 (by omega) (by omega) (fun z => ?_) (fun z => ?_))
    · have hlt := ch_lt (L := L) (n := n) (a := sk L n e) (by omega)
      refine ⟨fun x y => (x = -4 ∧ ∃ p, y = nI p ∧ p ≤ n ∧ numR L n (sk L n e + 1) = (false, p, 0)) ∨ ∃ e2 v2, x = nI v2 ∧ y = nI e2 ∧ numR L n (sk L n e + 1) = (true, e2, v2), ?_, ?_⟩
      · rintro x y (⟨rfl, p, rfl, hp, hr2⟩ | ⟨e2, v2, rfl, rfl, hr2⟩)
        · exact br_f (by decide) (hA p hp (run_2f hr z hr2))
        · obtain ⟨k1, k2, k3, k4⟩ := num_ok (by omega) hr2
          exact br_t (nI_pos' (by omega)) (s11_marks hl (by omega) (by omega) hT (fun td' htd' => hC e2 _ td' (by omega) k2 (run_2 hr z hr2) htd'))
      · exact br_f (by decide) (s11_num ok (by omega) (fun p hp hr2 => Or.inl ⟨rfl, p, rfl, hp, hr2⟩) (fun e2 v2 hr2 => Or.inr ⟨e2, v2, rfl, rfl, hr2⟩))
    · refine ⟨fun x y => x = nI v ∧ y = nI (sk L n e), ?_, br_t rfl ⟨rfl, rfl⟩⟩
      rintro x y ⟨rfl, rfl⟩
      exact br_t (nI_pos' (by omega)) (s11_marks hl (by omega) (by omega) hT (fun td' htd' => hC (sk L n e) _ td' (by omega) hs.2.1 (run_1 hr z) htd'))
