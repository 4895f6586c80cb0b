/-! ===== texts: letters, blanks, numbers ===== -/
def ch (L : Nat → Nat) (n a : Nat) : Nat := if a < n then L a else 0
def skF (L : Nat → Nat) (n : Nat) : Nat → Nat → Nat
  | 0, a => a
  | f + 1, a => if ch L n a = 32 then skF L n f (a + 1) else a
def sk (L : Nat → Nat) (n a : Nat) : Nat := skF L n (n + 1 - a) a
theorem ch_in {L : Nat → Nat} {n a : Nat} (h : a < n) : ch L n a = L a := if_pos h
theorem ch_out {L : Nat → Nat} {n a : Nat} (h : n ≤ a) : ch L n a = 0 := if_neg (by omega)
theorem ch_lt {L : Nat → Nat} {n a : Nat} (h : ch L n a ≠ 0) : a < n := by
  rcases Nat.lt_or_ge a n with q | q
  · exact q
  · exact absurd (ch_out q) h
theorem sk_stop {L : Nat → Nat} {n a : Nat} (h : ch L n a ≠ 32) : sk L n a = a := by
  unfold sk
  cases n + 1 - a with
  | zero => rfl
  | succ f => rw [skF, if_neg h]
theorem sk_step {L : Nat → Nat} {n a : Nat} (h : ch L n a = 32) : sk L n a = sk L n (a + 1) := by
  have := ch_lt (L := L) (n := n) (a := a) (by omega)
  unfold sk
  rw [show n + 1 - a = (n + 1 - (a + 1)) + 1 by omega, skF, if_pos h]
theorem sk_is {L : Nat → Nat} {n : Nat} : ∀ d a, n - a = d → a ≤ n → a ≤ sk L n a ∧ sk L n a ≤ n ∧ ch L n (sk L n a) ≠ 32 := by
  intro d
  induction d with
  | zero =>
    intro a hd ha
    have e : ch L n a ≠ 32 := by rw [ch_out (by omega)]; decide
    rw [sk_stop e]
    exact ⟨Nat.le_refl _, ha, e⟩
  | succ d ih =>
    intro a hd ha
    by_cases c : ch L n a = 32
    · rw [sk_step c]
      obtain ⟨h1, h2, h3⟩ := ih (a + 1) (by omega) (by omega)
      exact ⟨by omega, h2, h3⟩
    · rw [sk_stop c]
      exact ⟨Nat.le_refl _, ha, c⟩
theorem sk_ok {L : Nat → Nat} {n a : Nat} (ha : a ≤ n) : a ≤ sk L n a ∧ sk L n a ≤ n ∧ ch L n (sk L n a) ≠ 32 := sk_is (n - a) a rfl ha
theorem sk_sk {L : Nat → Nat} {n a : Nat} (ha : a ≤ n) : sk L n (sk L n a) = sk L n a := sk_stop (sk_ok ha).2.2
/-- the tape of both -/
def tapeOK (L : Nat → Nat) (n : Nat) (t : Nat → Int32) : Prop := n ≤ 90 ∧ ∀ i, i < n → t i = nI (L i) ∧ 32 ≤ L i ∧ L i ≤ 126
theorem s7_next {L : Nat → Nat} {n a : Nat} {t : Nat → Int32} (ok : tapeOK L n t) (ha : a ≤ n) {post : Int32 → Int32 → Prop} (h : post (if sk L n a < n then nI (ch L n (sk L n a)) else -1) (nI (sk L n a))) : wX7_next t (nI n) (nI a) post := by
  obtain ⟨hn, hL⟩ := ok
  unfold wX7_next
  refine ⟨fun l => ∃ b, l = nI b ∧ b ≤ n ∧ sk L n b = sk L n a, fun l => 100 - l.toNatClampNeg, ⟨a, rfl, ha, rfl⟩, ?_⟩
  rintro l ⟨b, rfl, hb, e⟩
  refine ⟨sk L n a = b, fun es => ?_, ?_⟩
  · rw [es] at h
    refine pk_le n b (fun c => ?_) (fun c => ?_)
    · rw [if_neg (by omega)] at h; exact h
    · rw [if_pos c, ch_in c, ← (hL b c).1] at h
      rw [nI_clamp (by omega)]
      exact ⟨vp_in_nI (by omega) (by omega), h⟩
  · refine pk_le n b (fun c => ?_) (fun c => ?_)
    · rw [← e]
      exact sk_stop (by rw [ch_out c]; decide)
    · rw [nI_clamp (by omega)]
      refine ⟨vp_in_nI (by omega) (by omega), ?_⟩
      have hLb := hL b c
      rw [hLb.1]
      refine pk_eq (L b) 32 (fun d => ?_) (fun d => ?_)
      · intro x hx
        rw [nI_1] at hx
        refine ⟨⟨b + 1, hx, by omega, ?_⟩, ?_⟩
        · rw [← e]; exact (sk_step (by rw [ch_in c]; exact d)).symm
        · subst hx
          show 100 - (nI (b + 1)).toNatClampNeg < 100 - (nI b).toNatClampNeg
          rw [nI_clamp (by omega), nI_clamp (by omega)]
          omega
      · rw [← e]
        exact sk_stop (by rw [ch_in c]; exact d)
theorem s11_here {L : Nat → Nat} {n a : Nat} {t : Nat → Int32} (ok : tapeOK L n t) (ha : a < 2 ^ 20) {post : Int32 → Prop} (h : post (nI (ch L n a))) : wX11_here t (nI n) (nI a) post := by
  obtain ⟨hn, hL⟩ := ok
  unfold wX11_here
  refine pk_le n a (fun c => ?_) (fun c => ?_)
  · rw [ch_out c] at h; exact h
  · rw [ch_in c, ← (hL a c).1] at h
    rw [nI_clamp (by omega)]
    exact ⟨vp_in_nI (by omega) (by omega), h⟩
theorem ch_bd {L : Nat → Nat} {n a : Nat} {t : Nat → Int32} (ok : tapeOK L n t) : ch L n a ≤ 126 := by
  unfold ch
  split
  · rename_i c; exact (ok.2 a c).2.2
  · omega
theorem ch_ge {L : Nat → Nat} {n a : Nat} {t : Nat → Int32} (ok : tapeOK L n t) (h : a < n) : 32 ≤ ch L n a := by
  rw [ch_in h]; exact (ok.2 a h).2.1
theorem s11_sign {L : Nat → Nat} {n a : Nat} {t : Nat → Int32} (ok : tapeOK L n t) (ha : a ≤ n) {post : Int32 → Int32 → Prop} (h : post (nI (ch L n (sk L n a))) (nI (sk L n a))) : wX11_sign t (nI n) (nI a) post := by
  have hn := ok.1
  unfold wX11_sign
  refine ⟨fun l => ∃ b, l = nI b ∧ b ≤ n ∧ sk L n b = sk L n a, fun l => 100 - l.toNatClampNeg, ⟨a, rfl, ha, rfl⟩, ?_⟩
  rintro l ⟨b, rfl, hb, e⟩
  refine s11_here ok (by omega) ?_
  have hbd := ch_bd (a := b) ok
  refine pk_eq (ch L n b) 32 (fun d => ?_) (fun d => ?_)
  · have c := ch_lt (L := L) (n := n) (a := b) (by omega)
    intro x hx
    rw [nI_1] at hx
    refine ⟨⟨b + 1, hx, by omega, ?_⟩, ?_⟩
    · rw [← e]; exact (sk_step d).symm
    · subst hx
      show 100 - (nI (b + 1)).toNatClampNeg < 100 - (nI b).toNatClampNeg
      rw [nI_clamp (by omega), nI_clamp (by omega)]
      omega
  · refine s11_here ok (by omega) ?_
    rw [← e, sk_stop d] at h
    exact h
theorem s7_takes {L : Nat → Nat} {n a c : Nat} {t : Nat → Int32} (ok : tapeOK L n t) (ha : a ≤ n) (hc1 : 33 ≤ c) (hc2 : c ≤ 126) {post : Int32 → Int32 → Prop} (hy : ch L n (sk L n a) = c → post 1 (nI (sk L n a + 1))) (hn : ch L n (sk L n a) ≠ c → post 0 (nI (sk L n a))) : wX7_takes (nI c) t (nI n) (nI a) post := by
  have hn90 := ok.1
  unfold wX7_takes
  refine s7_next ok ha ?_
  have hbd := ch_bd (a := sk L n a) ok
  refine ⟨fun t => (t = 1 ∧ ch L n (sk L n a) = c) ∨ (t = 0 ∧ ch L n (sk L n a) ≠ c), ?_, ?_⟩
  · rintro t (⟨rfl, e⟩ | ⟨rfl, e⟩)
    · refine br_f (by decide) (fun x hx => ⟨Or.inr rfl, ?_⟩)
      rw [hx, nI_1]
      exact hy e
    · exact br_t rfl ⟨Or.inl rfl, hn e⟩
  · by_cases q : sk L n a < n
    · rw [if_pos q]
      refine pk_eq (ch L n (sk L n a)) c (fun d => Or.inl ⟨rfl, d⟩) (fun d => Or.inr ⟨rfl, d⟩)
    · rw [if_neg q]
      refine br_f (fun e => ?_) (Or.inr ⟨rfl, ?_⟩)
      · have := nI_pos (n := c) (by omega)
        rw [← e] at this
        exact this (by decide)
      · rw [ch_out (by omega)]
        omega
theorem s11_takes {L : Nat → Nat} {n a c : Nat} {t : Nat → Int32} (ok : tapeOK L n t) (ha : a ≤ n) (hc1 : 33 ≤ c) (hc2 : c ≤ 126) {post : Int32 → Int32 → Prop} (hy : ch L n (sk L n a) = c → post 1 (nI (sk L n a + 1))) (hn : ch L n (sk L n a) ≠ c → post 0 (nI (sk L n a))) : wX11_takes (nI c) t (nI n) (nI a) post := by
  unfold wX11_takes
  refine s11_sign ok ha ?_
  have hbd := ch_bd (a := sk L n a) ok
  refine ⟨fun t => (t = 1 ∧ ch L n (sk L n a) = c) ∨ (t = 0 ∧ ch L n (sk L n a) ≠ c), ?_, ?_⟩
  · rintro t (⟨rfl, e⟩ | ⟨rfl, e⟩)
    · refine br_f (by decide) (fun x hx => ⟨Or.inr rfl, ?_⟩)
      rw [hx, nI_1]
      exact hy e
    · refine br_t rfl (fun x hx => ⟨Or.inl rfl, ?_⟩)
      rw [hx, show (0 : Int32) = nI 0 from rfl, nI_add]
      exact hn e
  · exact pk_eq (ch L n (sk L n a)) c (fun d => Or.inl ⟨rfl, d⟩) (fun d => Or.inr ⟨rfl, d⟩)
def fig (k : Nat) : Bool := decide (48 ≤ k ∧ k ≤ 57)
theorem s7_fig {k : Nat} (hk : k < 2 ^ 20) {post : Int32 → Prop} (h : post (if fig k then 1 else 0)) : wX7_isFigure (nI k) post := by
  unfold wX7_isFigure
  unfold fig at h
  refine pk_lt k 48 (fun c => ?_) (fun c => pk_lt 57 k (fun d => ?_) (fun d => ?_))
  · rw [decide_eq_false (by omega)] at h; exact h
  · rw [decide_eq_false (by omega)] at h; exact h
  · rw [decide_eq_true ⟨by omega, by omega⟩] at h; exact h
theorem s11_fig {k : Nat} (hk : k < 2 ^ 20) {post : Int32 → Prop} (h : post (if fig k then 1 else 0)) : wX11_isFigure (nI k) post := by
  unfold wX11_isFigure
  unfold fig at h
  refine pk_lt k 48 (fun c => ?_) (fun c => pk_lt 57 k (fun d => ?_) (fun d => ?_))
  · rw [decide_eq_false (by omega)] at h; exact h
  · rw [decide_eq_false (by omega)] at h; exact h
  · rw [decide_eq_true ⟨by omega, by omega⟩] at h; exact h
theorem fig_yes {k : Nat} (h : fig k = true) : 48 ≤ k ∧ k ≤ 57 := of_decide_eq_true h
theorem fig_lt {L : Nat → Nat} {n a : Nat} (h : fig (ch L n a) = true) : a < n := ch_lt (L := L) (n := n) (a := a) (by have := fig_yes h; omega)
/-- a number: its end, and its value -/
def nE (L : Nat → Nat) (n b : Nat) : Nat := if fig (ch L n (b + 1)) then b + 2 else b + 1
def nV (L : Nat → Nat) (n b : Nat) : Nat := if fig (ch L n (b + 1)) then 10 * (ch L n b - 48) + (ch L n (b + 1) - 48) else ch L n b - 48
def numR (L : Nat → Nat) (n a : Nat) : Bool × Nat × Nat := if fig (ch L n (sk L n a)) then (if 23 < nV L n (sk L n a) then (false, sk L n a, 0) else if fig (ch L n (nE L n (sk L n a))) then (false, nE L n (sk L n a), 0) else (true, nE L n (sk L n a), nV L n (sk L n a))) else (false, sk L n a, 0)
theorem nE_ok {L : Nat → Nat} {n b : Nat} (h : fig (ch L n b) = true) : b < nE L n b ∧ nE L n b ≤ n := by
  have h1 := fig_lt h
  unfold nE
  by_cases q : fig (ch L n (b + 1)) = true
  · rw [if_pos q]
    have := fig_lt q
    omega
  · rw [if_neg q]
    omega
theorem nV_bd {L : Nat → Nat} {n b : Nat} (h : fig (ch L n b) = true) : nV L n b ≤ 99 := by
  have h1 := fig_yes h
  unfold nV
  by_cases q : fig (ch L n (b + 1)) = true
  · rw [if_pos q]
    have := fig_yes q
    omega
  · rw [if_neg q]
    omega
theorem num_ok {L : Nat → Nat} {n a e v : Nat} (ha : a ≤ n) (h : numR L n a = (true, e, v)) : a < e ∧ e ≤ n ∧ v ≤ 23 ∧ fig (ch L n e) = false := by
  unfold numR at h
  have hs := sk_ok (L := L) ha
  by_cases q : fig (ch L n (sk L n a)) = true
  · rw [if_pos q] at h
    by_cases r : 23 < nV L n (sk L n a)
    · rw [if_pos r] at h; exact absurd (show false = true from congrArg Prod.fst h) (by decide)
    · rw [if_neg r] at h
      by_cases s : fig (ch L n (nE L n (sk L n a))) = true
      · rw [if_pos s] at h; exact absurd (show false = true from congrArg Prod.fst h) (by decide)
      · rw [if_neg s] at h
        have h2 := congrArg Prod.snd h
        have e1 : nE L n (sk L n a) = e := congrArg Prod.fst h2
        have e2 : nV L n (sk L n a) = v := congrArg Prod.snd h2
        have := nE_ok q
        rw [e1] at this s
        exact ⟨by omega, this.2, by omega, ts_nt s⟩
  · rw [if_neg q] at h; exact absurd (show false = true from congrArg Prod.fst h) (by decide)
theorem s7_num {L : Nat → Nat} {n a : Nat} {t : Nat → Int32} {f0 : Int32} (ok : tapeOK L n t) (ha : a ≤ n) {post : Int32 → Int32 → Int32 → Prop} (hA : ∀ p at' f', p ≤ n → numR L n a = (false, p, 0) → post (nI p) at' f') (hB : ∀ e v, a < e → e ≤ n → v ≤ 23 → fig (ch L n e) = true → numR L n a = (false, e, 0) → post (-1) (nI e) (nI v)) (hC : ∀ e v, numR L n a = (true, e, v) → post (-1) (nI e) (nI v)) : wX7_understandNumber t (nI n) (nI a) f0 post := by
  have hn90 := ok.1
  have hs := sk_ok (L := L) ha
  unfold wX7_understandNumber
  refine s7_next ok ha ?_
  have hbd := ch_bd (a := sk L n a) ok
  have hbd1 := ch_bd (a := sk L n a + 1) ok
  by_cases q : fig (ch L n (sk L n a)) = true
  case neg =>
    have e : numR L n a = (false, sk L n a, 0) := by unfold numR; rw [if_neg q]
    by_cases r : sk L n a < n
    · rw [if_pos r]
      refine s7_fig (by omega) ?_
      rw [if_neg q]
      exact br_t rfl (hA _ _ _ hs.2.1 e)
    · rw [if_neg r]
      unfold wX7_isFigure
      exact br_t (by decide) (br_t rfl (hA _ _ _ hs.2.1 e))
  have hlt := fig_lt q
  have hfy := fig_yes q
  have hE := nE_ok q
  have hV := nV_bd q
  rw [if_pos hlt]
  refine s7_fig (by omega) ?_
  rw [if_pos q, nI_clamp (n := sk L n a) (by omega), (ok.2 _ hlt).1, ← ch_in (L := L) hlt, show (48 : Int32) = nI 48 from rfl, pk_sub hfy.1, nI_1]
  refine br_f (by decide) ⟨vp_in_nI (by omega) (by omega), fun x6 hx6 x7 hx7 => ?_⟩
  subst hx6 hx7
  refine ⟨fun t f => t = nI (nE L n (sk L n a)) ∧ f = nI (nV L n (sk L n a)), ?_, ?_⟩
  · rintro t f ⟨rfl, rfl⟩
    refine pk_le 24 (nV L n (sk L n a)) (fun r => ?_) (fun r => ?_)
    · exact hA _ _ _ hs.2.1 (by unfold numR; rw [if_pos q, if_pos (by omega)])
    · by_cases s : fig (ch L n (nE L n (sk L n a))) = true
      · exact hB _ _ (by omega) hE.2 (by omega) s (by unfold numR; rw [if_pos q, if_neg (by omega), if_pos s])
      · exact hC _ _ (by unfold numR; rw [if_pos q, if_neg (by omega), if_neg s])
  · refine pk_le n (sk L n a + 1) (fun r => ?_) (fun r => ?_)
    · have z : ¬ fig (ch L n (sk L n a + 1)) = true := fun w => by have := fig_lt w; omega
      unfold nE nV
      rw [if_neg z, if_neg z]
      exact ⟨rfl, rfl⟩
    · rw [nI_clamp (n := sk L n a + 1) (by omega), (ok.2 _ r).1, ← ch_in (L := L) r]
      refine ⟨vp_in_nI (by omega) (by omega), s7_fig (by omega) ?_⟩
      by_cases z : fig (ch L n (sk L n a + 1)) = true
      · rw [if_pos z]
        have hz := fig_yes z
        refine br_f (by decide) ⟨vp_in_nI (by omega) (by omega), fun x hx y hy => ?_⟩
        rw [show (10 : Int32) = nI 10 from rfl, pk_mul, nI_add, pk_sub (by omega)] at hx
        rw [nI_1] at hy
        subst hx hy
        unfold nE nV
        rw [if_pos z, if_pos z]
        exact ⟨rfl, congrArg nI (by omega)⟩
      · rw [if_neg z]
        unfold nE nV
        rw [if_neg z, if_neg z]
        exact br_t rfl ⟨rfl, rfl⟩
theorem s11_num {L : Nat → Nat} {n a : Nat} {t : Nat → Int32} (ok : tapeOK L n t) (ha : a ≤ n) {post : Int32 → Int32 → Prop} (hA : ∀ p, p ≤ n → numR L n a = (false, p, 0) → post (-4) (nI p)) (hC : ∀ e v, numR L n a = (true, e, v) → post (nI v) (nI e)) : wX11_readsNumber t (nI n) (nI a) post := by
  have hn90 := ok.1
  have hs := sk_ok (L := L) ha
  unfold wX11_readsNumber
  refine s11_sign ok ha ?_
  have hbd := ch_bd (a := sk L n a) ok
  have hbd1 := ch_bd (a := sk L n a + 1) ok
  refine s11_fig (by omega) ?_
  by_cases q : fig (ch L n (sk L n a)) = true
  case neg =>
    rw [if_neg q]
    exact br_t rfl (hA _ hs.2.1 (by unfold numR; rw [if_neg q]))
  have hlt := fig_lt q
  have hfy := fig_yes q
  have hE := nE_ok q
  have hV := nV_bd q
  rw [if_pos q]
  refine br_f (by decide) (s11_here ok (by omega) ?_)
  intro x6 hx6
  rw [show (48 : Int32) = nI 48 from rfl, pk_sub hfy.1] at hx6
  subst hx6
  rw [nI_1]
  refine ⟨fun t => t = (if fig (ch L n (sk L n a + 1)) then 1 else 0), ?_, ?_⟩
  · rintro t rfl
    refine ⟨fun v => v = nI (nV L n (sk L n a)), ?_, ?_⟩
    · rintro v rfl
      refine pk_le (nV L n (sk L n a)) 23 (fun r => ?_) (fun r => ?_)
      · refine ⟨fun t => t = nI (nE L n (sk L n a) - sk L n a), ?_, ?_⟩
        · rintro t rfl x8 hx8
          rw [nI_add, show sk L n a + (nE L n (sk L n a) - sk L n a) = nE L n (sk L n a) by omega] at hx8
          subst hx8
          refine s11_here ok (by omega) (s11_fig (by have := ch_bd (a := nE L n (sk L n a)) ok; omega) ?_)
          by_cases s : fig (ch L n (nE L n (sk L n a))) = true
          · rw [if_pos s]
            exact br_f (by decide) (hA _ hE.2 (by unfold numR; rw [if_pos q, if_neg (by omega), if_pos s]))
          · rw [if_neg s]
            exact br_t rfl (hC _ _ (by unfold numR; rw [if_pos q, if_neg (by omega), if_neg s]))
        · unfold nE
          by_cases z : fig (ch L n (sk L n a + 1)) = true
          · rw [if_pos z, if_pos z]
            refine br_f (by decide) ?_
            show (2 : Int32) = nI _
            rw [show sk L n a + 2 - sk L n a = 2 by omega]; rfl
          · rw [if_neg z, if_neg z]
            refine br_t rfl ?_
            show (1 : Int32) = nI _
            rw [show sk L n a + 1 - sk L n a = 1 by omega]; rfl
      · exact hA _ hs.2.1 (by unfold numR; rw [if_pos q, if_pos r])
    · by_cases z : fig (ch L n (sk L n a + 1)) = true
      · rw [if_pos z]
        have r := fig_lt z
        have hz := fig_yes z
        rw [nI_clamp (n := sk L n a + 1) (by omega), (ok.2 _ r).1, ← ch_in (L := L) r]
        refine br_f (by decide) ⟨vp_in_nI (by omega) (by omega), fun x hx => ?_⟩
        rw [show (10 : Int32) = nI 10 from rfl, show (48 : Int32) = nI 48 from rfl, pk_mul, nI_add, pk_sub (by omega)] at hx
        rw [hx]
        unfold nV
        rw [if_pos z]
        exact congrArg nI (by omega)
      · rw [if_neg z]
        refine br_t rfl ?_
        unfold nV
        rw [if_neg z]
  · refine ⟨¬ fig (ch L n (sk L n a + 1)) = true, fun z => by show _ = _; rw [if_neg z], ?_⟩
    refine pk_le n (sk L n a + 1) (fun r => fun w => by have := fig_lt w; omega) (fun r => ?_)
    rw [nI_clamp (n := sk L n a + 1) (by omega), (ok.2 _ r).1, ← ch_in (L := L) r]
    refine ⟨vp_in_nI (by omega) (by omega), s11_fig (by omega) ?_⟩
    by_cases z : fig (ch L n (sk L n a + 1)) = true
    · rw [if_pos z]
      exact br_f (by decide) rfl
    · rw [if_neg z]
      exact br_t rfl z
