/-! ===== globes and what may be undone ===== -/
theorem okS_congr {st st' : Nat → Int32} (h : ∀ j, j < 279 → st' j = st j) (ok : okS st) : okS st' := by
  obtain ⟨h1, h2, h3, h4, ⟨n, hn, e, hs⟩, h6⟩ := ok
  refine ⟨fun p hp => ?_, ?_, ?_, ?_, ⟨n, hn, ?_, fun i hi => ?_⟩, ?_⟩
  · rw [h p (by omega)]; exact h1 p hp
  · rw [h 266 (by omega)]; exact h2
  · rw [h 267 (by omega)]; exact h3
  · rw [h 268 (by omega)]; exact h4
  · rw [h 269 (by omega)]; exact e
  · rw [h (270 + i) (by omega)]; exact hs i hi
  · rw [h 278 (by omega)]; exact h6
theorem bitAt_congr {b b' : Nat → Int64} (h : ∀ j, j < 5 → b' j = b j) {p : Nat} (hp : p < 320) : bitAt b' p = bitAt b p := by
  unfold bitAt
  rw [h (p / 64) (by omega)]
theorem relG_congr {g g' : GS} {st st' : Nat → Int32} (hs : ∀ j, j < 279 → st' j = st j) (hb : ∀ j, j < 5 → g'.1 j = g.1 j) (ht : ∀ i, i < 8 → g'.2.1 i = g.2.1 i) (h3 : g'.2.2 = g.2.2) (h : relG g st) : relG g' st' := by
  obtain ⟨h1, h2, h4, h5, h6, h7, h8, h9⟩ := h
  refine ⟨okS_congr hs h1, fun p hp => ?_, fun i hi => ?_, ?_, ?_, ?_, ?_, ?_⟩
  · rw [bitAt_congr hb hp, h2 p hp]
    by_cases hq : p < 266
    · rw [hs p (by omega)]
    · simp [hq]
  · rw [ht i hi, h4 i hi, hs (270 + i) (by omega)]
  · rw [h3, h5, hs 269 (by omega)]
  · rw [h3, h6, hs 266 (by omega)]
  · rw [h3, h7, hs 267 (by omega)]
  · rw [h3, h8, hs 268 (by omega)]
  · rw [h3, h9, hs 278 (by omega)]
theorem cpy_lo {α : Type} {f g : Nat → α} {n j : Nat} (h : j < n) : va_cpy f g 0 0 n j = f j := by
  unfold va_cpy
  rw [if_pos ⟨Nat.zero_le _, by omega⟩]
  exact congrArg _ (by omega)
theorem mod_nI {a d : Nat} (ha : a < 2 ^ 31) (h0 : 0 < d) (hd : d < 2 ^ 31) : nI a - nI a / nI d * nI d = nI (a % d) := pk_rem ha h0 hd
/-- bring, of two rows -/
theorem s_bring {i j n alen oalen : Nat} {arr oarr : Nat → Int32} {post : (Nat → Int32) → Prop} (h1 : i + n ≤ alen) (h2 : j + n ≤ oalen) (ha : alen < 2 ^ 31) (hb : oalen < 2 ^ 31) (h : post (va_cpy arr oarr i j n)) : wX11_bring (nI i) (nI j) (nI n) arr oarr alen oalen post := by
  unfold wX11_bring
  refine ⟨fun l o => ∃ k, k ≤ n ∧ l = nI k ∧ o = va_cpy arr oarr i j k, fun l _ => n - l.toNatClampNeg, ⟨0, Nat.zero_le _, rfl, ?_⟩, ?_⟩
  · funext m
    unfold va_cpy
    rw [if_neg (by omega)]
  · rintro l o ⟨k, hk, rfl, rfl⟩
    refine ⟨fun c => ?_, fun c => ?_⟩
    · have h3 : n ≤ k := (nI_leI (by omega) (by omega)).mp c
      have e : k = n := by omega
      subst e
      exact h
    · have hlt : k < n := by
        rcases Nat.lt_or_ge k n with q | q
        · exact q
        · exact absurd (nI_le q (by omega)) c
      rw [nI_add, nI_add]
      refine ⟨vp_in_nI (by omega) ha, vp_in_nI (by omega) hb, fun x hx => ?_⟩
      subst hx
      rw [nI_1, nI_clamp (by omega), nI_clamp (by omega)]
      refine ⟨⟨k + 1, hlt, rfl, ?_⟩, ?_⟩
      · funext m
        unfold upd va_cpy
        by_cases hm : m = j + k
        · subst hm
          rw [if_pos rfl, if_pos ⟨by omega, by omega⟩]
          exact congrArg _ (by omega)
        · rw [if_neg hm]
          by_cases hm2 : j ≤ m ∧ m < j + k
          · rw [if_pos hm2, if_pos ⟨hm2.1, by omega⟩]
          · rw [if_neg hm2, if_neg (by omega)]
      · show n - (nI (k + 1)).toNatClampNeg < n - (nI k).toNatClampNeg
        rw [nI_clamp (by omega), nI_clamp (by omega)]
        omega
/-- bring, within a row, to the left -/
theorem s_bringS {i j n alen : Nat} {arr : Nat → Int32} {post : (Nat → Int32) → Prop} (hij : j ≤ i) (h1 : i + n ≤ alen) (ha : alen < 2 ^ 31) (h : post (va_cpy arr arr i j n)) : wX11_bringS (nI i) (nI j) (nI n) arr alen post := by
  unfold wX11_bringS
  refine ⟨fun l o => ∃ k, k ≤ n ∧ l = nI k ∧ o = va_cpy arr arr i j k, fun l _ => n - l.toNatClampNeg, ⟨0, Nat.zero_le _, rfl, ?_⟩, ?_⟩
  · funext m
    unfold va_cpy
    rw [if_neg (by omega)]
  · rintro l o ⟨k, hk, rfl, rfl⟩
    refine ⟨fun c => ?_, fun c => ?_⟩
    · have h3 : n ≤ k := (nI_leI (by omega) (by omega)).mp c
      have e : k = n := by omega
      subst e
      exact h
    · have hlt : k < n := by
        rcases Nat.lt_or_ge k n with q | q
        · exact q
        · exact absurd (nI_le q (by omega)) c
      rw [nI_add, nI_add]
      refine ⟨vp_in_nI (by omega) ha, vp_in_nI (by omega) ha, fun x hx => ?_⟩
      subst hx
      rw [nI_1, nI_clamp (by omega), nI_clamp (by omega)]
      refine ⟨⟨k + 1, hlt, rfl, ?_⟩, ?_⟩
      · funext m
        unfold upd va_cpy
        by_cases hm : m = j + k
        · subst hm
          rw [if_pos rfl, if_neg (by omega), if_pos ⟨by omega, by omega⟩]
          exact congrArg _ (by omega)
        · rw [if_neg hm]
          by_cases hm2 : j ≤ m ∧ m < j + k
          · rw [if_pos hm2, if_pos ⟨hm2.1, by omega⟩]
          · rw [if_neg hm2, if_neg (by omega)]
      · show n - (nI (k + 1)).toNatClampNeg < n - (nI k).toNatClampNeg
        rw [nI_clamp (by omega), nI_clamp (by omega)]
        omega
def pastN (k : Nat) (st past : Nat → Int32) : Nat → Int32 := if k = 6 then va_cpy st (va_cpy past past 279 0 1395) 0 1395 279 else va_cpy st past 0 (279 * k) 279
def knownN (k : Nat) : Nat := if k = 6 then 6 else k + 1
def oldN (o k : Nat) : Nat := if k = 6 then (o + 1) % 6 else o
theorem s_notes {k : Nat} (hk : k ≤ 6) {st past : Nat → Int32} {post : (Nat → Int32) → Int32 → Prop} (h : post (pastN k st past) (nI (knownN k))) : wX11_notes st past (nI k) post := by
  unfold wX11_notes
  by_cases h6 : k = 6
  · subst h6
    refine ⟨fun p a => p = va_cpy past past 279 0 1395 ∧ a = nI 5, ?_, ?_⟩
    · rintro p a ⟨rfl, rfl⟩
      show wX11_bring (nI 0) (nI 1395) (nI 279) st _ 279 1674 _
      refine s_bring (by omega) (by omega) (by omega) (by omega) ?_
      intro x hx
      subst hx
      exact h
    · refine br_t rfl ?_
      show wX11_bringS (nI 279) (nI 0) (nI 1395) past 1674 _
      refine s_bringS (by omega) (by omega) (by omega) ?_
      intro x hx
      exact ⟨rfl, hx.trans rfl⟩
  · have hne : ¬ nI k = (6 : Int32) := fun e => h6 ((nI_eq (a := k) (b := 6) (by omega) (by omega)).mp e)
    refine ⟨fun p a => p = past ∧ a = nI k, ?_, ?_⟩
    · rintro p a ⟨rfl, rfl⟩
      have e1 : (279 : Int32) * nI k = nI (279 * k) := pk_mul 279 k
      rw [e1]
      show wX11_bring (nI 0) (nI (279 * k)) (nI 279) st _ 279 1674 _
      refine s_bring (by omega) (by omega) (by omega) (by omega) ?_
      intro x hx
      subst hx
      rw [nI_1]
      unfold pastN knownN at h
      rw [if_neg h6, if_neg h6] at h
      exact h
    · exact br_f hne ⟨rfl, rfl⟩
theorem s_keep {o k : Nat} (ho : o < 6) (hk : k ≤ 6) {ring : Nat → GS} {bits : Nat → Int64} {stops : Nat → Int32} {num unit strips caps draw : Int32} {post : Int32 → Int32 → (Nat → GS) → Prop} (h : post (nI (oldN o k)) (nI (knownN k)) (va_up ring ((o + k) % 6) (va_cpy bits (ring ((o + k) % 6)).1 0 0 5, va_cpy stops (ring ((o + k) % 6)).2.1 0 0 8, num, unit, strips, caps, draw))) : wX4_keep (nI o) (nI k) ring bits stops num unit strips caps draw post := by
  unfold wX4_keep wX0_become
  have e1 : (nI o + nI k) - (nI o + nI k) / 6 * 6 = nI ((o + k) % 6) := by
    rw [nI_add]
    exact mod_nI (d := 6) (by omega) (by omega) (by omega)
  rw [e1]
  have hm := Nat.mod_lt (o + k) (show 0 < 6 by omega)
  refine ⟨vp_in_nI hm (by omega), fun k2 hk2 => ?_⟩
  rw [nI_clamp (by omega)] at hk2
  subst hk2
  unfold oldN knownN at h
  refine ⟨fun c => ?_, fun c => ?_⟩
  · have e6 : k = 6 := by
      have := (nI_leI (a := 6) (b := k) (by omega) (by omega)).mp c
      omega
    subst e6
    intro x hx
    subst hx
    rw [if_pos rfl, if_pos rfl] at h
    have e2 : (nI o + 1) - (nI o + 1) / 6 * 6 = nI ((o + 1) % 6) := by
      rw [nI_1]
      exact mod_nI (d := 6) (by omega) (by omega) (by omega)
    rw [e2]
    exact h
  · have h6 : ¬ k = 6 := fun e => c (by subst e; exact Int32.le_refl _)
    intro x hx
    subst hx
    rw [nI_1]
    rw [if_neg h6, if_neg h6] at h
    exact h
theorem relP_keep {o k : Nat} (ho : o < 6) (hk : k ≤ 6) {ring : Nat → GS} {past st : Nat → Int32} {g : GS} {b' : Nat → Int64} {s' : Nat → Int32} (hG : relG g st) (hr : ∀ i, i < k → relG (ring ((o + i) % 6)) (fun j => past (279 * i + j))) :
    relP (nI (oldN o k)) (nI (knownN k)) (va_up ring ((o + k) % 6) (va_cpy g.1 b' 0 0 5, va_cpy g.2.1 s' 0 0 8, g.2.2.1, g.2.2.2.1, g.2.2.2.2.1, g.2.2.2.2.2.1, g.2.2.2.2.2.2)) (pastN k st past) (nI (knownN k)) := by
  have hnew : ∀ st', (∀ j, j < 279 → st' j = st j) → relG (va_cpy g.1 b' 0 0 5, va_cpy g.2.1 s' 0 0 8, g.2.2.1, g.2.2.2.1, g.2.2.2.2.1, g.2.2.2.2.2.1, g.2.2.2.2.2.2) st' := fun st' hs =>
    relG_congr hs (fun j hj => cpy_lo hj) (fun i hi => cpy_lo hi) rfl hG
  unfold oldN knownN pastN
  by_cases h6 : k = 6
  · subst h6
    rw [if_pos rfl, if_pos rfl, if_pos rfl]
    refine ⟨(o + 1) % 6, 6, Nat.mod_lt _ (by omega), Nat.le_refl _, rfl, rfl, rfl, fun i hi => ?_⟩
    by_cases h5 : i = 5
    · subst h5
      have e1 : ((o + 1) % 6 + 5) % 6 = (o + 6) % 6 := by omega
      rw [e1]
      show relG (va_up ring ((o + 6) % 6) _ ((o + 6) % 6)) _
      unfold va_up
      rw [if_pos rfl]
      refine hnew _ fun j hj => ?_
      unfold va_cpy
      rw [if_pos ⟨by omega, by omega⟩]
      exact congrArg _ (by omega)
    · have hne : ((o + 1) % 6 + i) % 6 ≠ (o + 6) % 6 := by omega
      unfold va_up
      rw [if_neg hne]
      have e1 : ((o + 1) % 6 + i) % 6 = (o + (i + 1)) % 6 := by omega
      rw [e1]
      refine relG_congr (fun j hj => ?_) (fun _ _ => rfl) (fun _ _ => rfl) rfl (hr (i + 1) (by omega))
      unfold va_cpy
      rw [if_neg (by omega), if_pos ⟨by omega, by omega⟩]
      exact congrArg _ (by omega)
  · rw [if_neg h6, if_neg h6, if_neg h6]
    refine ⟨o, k + 1, ho, by omega, rfl, rfl, rfl, fun i hi => ?_⟩
    by_cases hik : i = k
    · subst hik
      unfold va_up
      rw [if_pos rfl]
      refine hnew _ fun j hj => ?_
      unfold va_cpy
      rw [if_pos ⟨by omega, by omega⟩]
      exact congrArg _ (by omega)
    · have hne : (o + i) % 6 ≠ (o + k) % 6 := by omega
      unfold va_up
      rw [if_neg hne]
      refine relG_congr (fun j hj => ?_) (fun _ _ => rfl) (fun _ _ => rfl) rfl (hr i (by omega))
      unfold va_cpy
      rw [if_neg (by omega)]
theorem s_takeBack {o k : Nat} (ho : o < 6) (hk : k < 6) {ring : Nat → GS} {bits : Nat → Int64} {stops : Nat → Int32} {post : Int32 → (Nat → Int64) → (Nat → Int32) → Int32 → Int32 → Int32 → Int32 → Int32 → Prop} (h : post (nI k) (va_cpy (ring ((o + k) % 6)).1 bits 0 0 5) (va_cpy (ring ((o + k) % 6)).2.1 stops 0 0 8) (ring ((o + k) % 6)).2.2.1 (ring ((o + k) % 6)).2.2.2.1 (ring ((o + k) % 6)).2.2.2.2.1 (ring ((o + k) % 6)).2.2.2.2.2.1 (ring ((o + k) % 6)).2.2.2.2.2.2) : wX4_takeBack (nI o) (nI (k + 1)) ring bits stops post := by
  unfold wX4_takeBack wX0_become
  intro x hx
  have ex : x = nI k := hx.trans (nI_pred k)
  subst ex
  have e1 : (nI o + nI k) - (nI o + nI k) / 6 * 6 = nI ((o + k) % 6) := by
    rw [nI_add]
    exact mod_nI (d := 6) (by omega) (by omega) (by omega)
  rw [e1]
  have hm := Nat.mod_lt (o + k) (show 0 < 6 by omega)
  refine ⟨vp_in_nI hm (by omega), fun k2 hk2 => ?_⟩
  rw [nI_clamp (by omega)] at hk2
  subst hk2
  exact h
/-- Past.become: the six globes are as the other's -/
theorem s_pastBecome {ring oring : Nat → GS} {oo ok : Int32} {post : Int32 → Int32 → (Nat → GS) → Prop} (h : ∀ ring', (∀ i, i < 6 → ∃ b s, ring' i = (va_cpy (oring i).1 b 0 0 5, va_cpy (oring i).2.1 s 0 0 8, (oring i).2.2.1, (oring i).2.2.2.1, (oring i).2.2.2.2.1, (oring i).2.2.2.2.2.1, (oring i).2.2.2.2.2.2)) → post oo ok ring') : wX4_become ring oo ok oring post := by
  unfold wX4_become wX0_become
  refine ⟨fun l r => ∃ n, n ≤ 6 ∧ l = nI n ∧ ∀ i, i < n → ∃ b s, r i = (va_cpy (oring i).1 b 0 0 5, va_cpy (oring i).2.1 s 0 0 8, (oring i).2.2.1, (oring i).2.2.2.1, (oring i).2.2.2.2.1, (oring i).2.2.2.2.2.1, (oring i).2.2.2.2.2.2), fun l _ => 6 - l.toNatClampNeg, ⟨0, Nat.zero_le _, rfl, fun i hi => absurd hi (Nat.not_lt_zero i)⟩, ?_⟩
  rintro l r ⟨n, hn, rfl, hr⟩
  refine ⟨fun c => ?_, fun c => ?_⟩
  · have h6 : 6 ≤ n := (nI_leI (a := 6) (b := n) (by omega) (by omega)).mp c
    exact h r (fun i hi => hr i (by omega))
  · have hlt : n < 6 := by
      rcases Nat.lt_or_ge n 6 with q | q
      · exact q
      · exact absurd (nI_le (a := 6) q (by omega)) c
    refine ⟨vp_in_nI hlt (by omega), fun k hk => ?_⟩
    rw [nI_clamp (by omega)] at hk
    subst hk
    intro x hx
    subst hx
    rw [nI_1]
    refine ⟨⟨k + 1, hlt, rfl, fun i hi => ?_⟩, ?_⟩
    · unfold va_up
      by_cases e : i = k
      · subst e
        rw [if_pos rfl]
        exact ⟨_, _, rfl⟩
      · rw [if_neg e]
        exact hr i (by omega)
    · show 6 - (nI (k + 1)).toNatClampNeg < 6 - (nI k).toNatClampNeg
      rw [nI_clamp (by omega), nI_clamp (by omega)]
      omega
theorem vup_s {α : Type} (f : Nat → α) (k : Nat) (v : α) : va_up f k v k = v := by
  unfold va_up
  exact if_pos rfl
theorem vup_o {α : Type} (f : Nat → α) {k j : Nat} (v : α) (h : j ≠ k) : va_up f k v j = f j := by
  unfold va_up
  exact if_neg h
/-! ===== sheets ===== -/
def fSheet (s la : Int32) : Int32 := if fIn s 0 (nI 3) = 0 then 0 else if fIn la 0 (nI 3) = 0 then 0 else 1
theorem q10_isSheet {s la : Int32} {post : Int32 → Prop} (h : post (fSheet s la)) : wX10_isSheetOfLane s la post := by
  unfold wX10_isSheetOfLane
  unfold fSheet at h
  refine q10_isIn ?_
  refine br_c (fun c => ?_) (fun c => ?_)
  · rw [if_pos (show fIn s 0 (nI 3) = 0 from c)] at h; exact h
  · rw [if_neg (show ¬ fIn s 0 (nI 3) = 0 from c)] at h
    refine q10_isIn ?_
    refine br_c (fun c => ?_) (fun c => ?_)
    · rw [if_pos (show fIn la 0 (nI 3) = 0 from c)] at h; exact h
    · rw [if_neg (show ¬ fIn la 0 (nI 3) = 0 from c)] at h; exact h
theorem q11_isSheet {s la : Int32} {post : Int32 → Prop} (h : post (fSheet s la)) : wX11_isSheet s la post := by
  unfold wX11_isSheet
  unfold fSheet at h
  refine q11_in ?_
  refine br_c (fun c => ?_) (fun c => ?_)
  · rw [if_pos (show fIn s 0 (nI 3) = 0 from c)] at h; exact h
  · rw [if_neg (show ¬ fIn s 0 (nI 3) = 0 from c)] at h
    refine q11_in ?_
    refine br_c (fun c => ?_) (fun c => ?_)
    · rw [if_pos (show fIn la 0 (nI 3) = 0 from c)] at h; exact h
    · rw [if_neg (show ¬ fIn la 0 (nI 3) = 0 from c)] at h; exact h
theorem fSheet_yes {s la : Int32} (h : ¬ fSheet s la = 0) : ∃ k j : Nat, k < 4 ∧ j < 4 ∧ s = nI k ∧ la = nI j := by
  unfold fSheet at h
  rcases fIn_cases s (hi := 3) (by omega) with q | ⟨q, k, hk, ek⟩
  · rw [if_pos q] at h; exact absurd rfl h
  · rw [if_neg (by rw [q]; decide)] at h
    rcases fIn_cases la (hi := 3) (by omega) with q | ⟨q, j, hj, ej⟩
    · rw [if_pos q] at h; exact absurd rfl h
    · exact ⟨k, j, by omega, by omega, ek, ej⟩
theorem s_fillJ {alen : Nat} {v : Int64} {arr : Nat → Int64} {post : (Nat → Int64) → Prop} (ha : alen < 2 ^ 31) (h : post (fun j => if j < alen then v else arr j)) : wJ7_fill_d0a16 v arr alen post := by
  unfold wJ7_fill_d0a16
  intro x hx
  have ex : x = nI alen := hx
  subst ex
  refine ⟨fun l o => ∃ i, i ≤ alen ∧ l = nI i ∧ o = fun j => if j < i then v else arr j, fun l _ => alen - l.toNatClampNeg, ⟨0, Nat.zero_le _, rfl, ?_⟩, ?_⟩
  · funext j
    rw [if_neg (Nat.not_lt_zero j)]
  · rintro l o ⟨i, hi, rfl, rfl⟩
    refine br_c (fun c => ?_) (fun c => ?_)
    · have e : i = alen := by
        have := (nI_leI (by omega) (by omega)).mp c
        omega
      subst e
      exact h
    · have hlt : i < alen := by
        rcases Nat.lt_or_ge i alen with q | q
        · exact q
        · exact absurd (nI_le q (by omega)) c
      refine ⟨vp_in_nI hlt ha, fun y hy => ?_⟩
      subst hy
      rw [nI_1, nI_clamp (by omega)]
      refine ⟨⟨i + 1, hlt, rfl, ?_⟩, ?_⟩
      · funext j
        unfold vp_updL
        by_cases e : j = i
        · subst e; rw [if_pos rfl, if_pos (by omega)]
        · rw [if_neg e]
          show (if j < i then v else arr j) = (if j < i + 1 then v else arr j)
          by_cases e2 : j < i
          · rw [if_pos e2, if_pos (by omega)]
          · rw [if_neg e2, if_neg (by omega)]
      · show alen - (nI (i + 1)).toNatClampNeg < alen - (nI i).toNatClampNeg
        rw [nI_clamp (by omega), nI_clamp (by omega)]
        omega
theorem s_fillI {alen : Nat} {v : Int32} {arr : Nat → Int32} {post : (Nat → Int32) → Prop} (ha : alen < 2 ^ 31) (h : post (fun j => if j < alen then v else arr j)) : wJ7_fill_53178 v arr alen post := by
  unfold wJ7_fill_53178
  intro x hx
  have ex : x = nI alen := hx
  subst ex
  refine ⟨fun l o => ∃ i, i ≤ alen ∧ l = nI i ∧ o = fun j => if j < i then v else arr j, fun l _ => alen - l.toNatClampNeg, ⟨0, Nat.zero_le _, rfl, ?_⟩, ?_⟩
  · funext j
    rw [if_neg (Nat.not_lt_zero j)]
  · rintro l o ⟨i, hi, rfl, rfl⟩
    refine br_c (fun c => ?_) (fun c => ?_)
    · have e : i = alen := by
        have := (nI_leI (by omega) (by omega)).mp c
        omega
      subst e
      exact h
    · have hlt : i < alen := by
        rcases Nat.lt_or_ge i alen with q | q
        · exact q
        · exact absurd (nI_le q (by omega)) c
      refine ⟨vp_in_nI hlt ha, fun y hy => ?_⟩
      subst hy
      rw [nI_1, nI_clamp (by omega)]
      refine ⟨⟨i + 1, hlt, rfl, ?_⟩, ?_⟩
      · funext j
        unfold upd
        by_cases e : j = i
        · subst e; rw [if_pos rfl, if_pos (by omega)]
        · rw [if_neg e]
          show (if j < i then v else arr j) = (if j < i + 1 then v else arr j)
          by_cases e2 : j < i
          · rw [if_pos e2, if_pos (by omega)]
          · rw [if_neg e2, if_neg (by omega)]
      · show alen - (nI (i + 1)).toNatClampNeg < alen - (nI i).toNatClampNeg
        rw [nI_clamp (by omega), nI_clamp (by omega)]
        omega
/-! ===== what may be told ===== -/
def fStrip (v : Int32) : Int32 := if v = 2 ∨ v = 3 ∨ v = 4 ∨ v = 6 ∨ v = 8 ∨ v = 12 then 1 else 0
theorem stripsF_yes : ∀ i, i < 6 → fStrip (stripsF i) = 1 := by decide
theorem fStrip_no {v : Int32} (h : ∀ i, i < 6 → ¬ stripsF i = v) : fStrip v = 0 := by
  unfold fStrip
  refine if_neg ?_
  rintro (e | e | e | e | e | e)
  · exact h 0 (by omega) e.symm
  · exact h 1 (by omega) e.symm
  · exact h 2 (by omega) e.symm
  · exact h 3 (by omega) e.symm
  · exact h 4 (by omega) e.symm
  · exact h 5 (by omega) e.symm
theorem q10_isStrip {v : Int32} {post : Int32 → Prop} (h : post (fStrip v)) : wX10_isStripNumber v post := by
  unfold wX10_isStripNumber
  refine ⟨fun l => ∃ i, i ≤ 6 ∧ l = nI i ∧ ∀ j, j < i → ¬ stripsF j = v, fun l => 6 - l.toNatClampNeg, ⟨0, by omega, rfl, fun j hj => absurd hj (Nat.not_lt_zero j)⟩, ?_⟩
  rintro l ⟨i, hi, rfl, hn⟩
  refine br_c (fun c => ?_) (fun c => ?_)
  · have e : i = 6 := by
      have := (nI_leI (a := 6) (by omega) (by omega)).mp c
      omega
    subst e
    rw [fStrip_no hn] at h
    exact h
  · have hlt : i < 6 := by
      rcases Nat.lt_or_ge i 6 with q | q
      · exact q
      · exact absurd (nI_le (a := 6) q (by omega)) c
    refine ⟨vp_in_nI hlt (by omega), fun x hx => ?_⟩
    rw [nI_clamp (by omega)] at hx
    refine br_c (fun c2 => ?_) (fun c2 => ?_)
    · have e : v = stripsF i := c2.symm.trans hx
      rw [e, stripsF_yes i hlt] at h
      exact h
    · intro y hy
      subst hy
      rw [nI_1]
      refine ⟨⟨i + 1, hlt, rfl, fun j hj => ?_⟩, ?_⟩
      · by_cases e : j = i
        · subst e
          rw [← hx]
          exact c2
        · exact hn j (by omega)
      · show 6 - (nI (i + 1)).toNatClampNeg < 6 - (nI i).toNatClampNeg
        rw [nI_clamp (by omega), nI_clamp (by omega)]
        omega
def fCuts (k : Int32) : Int32 := if 3 ≤ k then (if k = 3 then 6 else if k = 4 then 8 else 12) else k + 2
theorem q11_cutsOf {k : Int32} {post : Int32 → Prop} (h : post (fCuts k)) : wX11_cutsOf k post := by
  unfold wX11_cutsOf
  unfold fCuts at h
  repeat' first | exact h | (refine ⟨fun c => ?_, fun c => ?_⟩ <;> first | rw [if_pos c] at h | rw [if_neg c] at h)
theorem t_cuts : ∀ i, i < 6 → fCuts (nI i) = stripsF i := by decide
theorem q11_isCut {v : Int32} {post : Int32 → Prop} (h : post (fStrip v)) : wX11_isCutNumber v post := by
  unfold wX11_isCutNumber
  refine ⟨fun a l => ∃ i, i ≤ 6 ∧ l = nI i ∧ ((a = 0 ∧ ∀ j, j < i → ¬ stripsF j = v) ∨ (a = 1 ∧ fStrip v = 1)), fun _ l => 6 - l.toNatClampNeg, ⟨0, by omega, rfl, Or.inl ⟨rfl, fun j hj => absurd hj (Nat.not_lt_zero j)⟩⟩, ?_⟩
  rintro a l ⟨i, hi, rfl, ha⟩
  have step : ∀ {x : Int32}, x = nI i + 1 → i < 6 → 6 - x.toNatClampNeg < 6 - (nI i).toNatClampNeg := by
    intro x hx hlt
    subst hx
    rw [nI_1, nI_clamp (by omega), nI_clamp (by omega)]
    omega
  refine br_c (fun c => ?_) (fun c => ?_)
  · have e : i = 6 := by
      have := (nI_leI (a := 6) (by omega) (by omega)).mp c
      omega
    subst e
    rcases ha with ⟨e, hn⟩ | ⟨e, h1⟩
    · subst e
      rw [fStrip_no hn] at h
      exact ⟨Or.inl rfl, h⟩
    · subst e
      rw [h1] at h
      exact ⟨Or.inr rfl, h⟩
  · have hlt : i < 6 := by
      rcases Nat.lt_or_ge i 6 with q | q
      · exact q
      · exact absurd (nI_le (a := 6) q (by omega)) c
    rcases ha with ⟨e, hn⟩ | ⟨e, h1⟩
    · subst e
      refine br_t rfl (q11_cutsOf ?_)
      rw [t_cuts i hlt]
      refine br_c (fun c2 => ?_) (fun c2 => ?_)
      · intro x hx
        refine ⟨⟨i + 1, hlt, hx.trans (nI_1 i), Or.inr ⟨rfl, ?_⟩⟩, step hx hlt⟩
        rw [← c2]
        exact stripsF_yes i hlt
      · intro x hx
        refine ⟨⟨i + 1, hlt, hx.trans (nI_1 i), Or.inl ⟨rfl, fun j hj => ?_⟩⟩, step hx hlt⟩
        by_cases e : j = i
        · subst e; exact c2
        · exact hn j (by omega)
    · subst e
      refine br_f (by decide) ?_
      intro x hx
      exact ⟨⟨i + 1, hlt, hx.trans (nI_1 i), Or.inr ⟨rfl, h1⟩⟩, step hx hlt⟩
theorem fStrip_01 (v : Int32) : fStrip v = 0 ∨ fStrip v = 1 := by
  unfold fStrip
  split
  · exact Or.inr rfl
  · exact Or.inl rfl
def fTold (w v : Int32) : Int32 := if w = 0 then fIn v 10 200 else if w = 1 then fStrip v else if w = 2 then fIn v 0 3 else 0
theorem q10_told {w v : Int32} {post : Int32 → Prop} (h : post (fTold w v)) : wX10_mayBeTold w v post := by
  unfold wX10_mayBeTold
  unfold fTold at h
  refine br_c (fun c => ?_) (fun c => ?_)
  · rw [if_pos c] at h; exact q10_isIn ⟨fIn_01 _ _ _, h⟩
  rw [if_neg c] at h
  refine br_c (fun c => ?_) (fun c => ?_)
  · rw [if_pos c] at h; exact q10_isStrip ⟨fStrip_01 _, h⟩
  rw [if_neg c] at h
  refine br_c (fun c => ?_) (fun c => ?_)
  · rw [if_pos c] at h; exact q10_isIn ⟨fIn_01 _ _ _, h⟩
  · rw [if_neg c] at h; exact h
theorem q11_told {w v : Int32} {post : Int32 → Prop} (h : post (fTold w v)) : wX11_isTold w v post := by
  unfold wX11_isTold
  unfold fTold at h
  refine br_c (fun c => ?_) (fun c => ?_)
  · rw [if_pos c] at h; exact q11_in ⟨fIn_01 _ _ _, h⟩
  rw [if_neg c] at h
  refine br_c (fun c => ?_) (fun c => ?_)
  · rw [if_pos c] at h; exact q11_isCut ⟨fStrip_01 _, h⟩
  rw [if_neg c] at h
  refine br_c (fun c => ?_) (fun c => ?_)
  · rw [if_pos c] at h; exact q11_in ⟨fIn_01 _ _ _, h⟩
  · rw [if_neg c] at h; exact h
theorem fIn_range {v : Int32} {a b : Nat} (hb : b < 2 ^ 31) (hab : a ≤ b) (h : ¬ fIn v (nI a) (nI b) = 0) : ∃ k, a ≤ k ∧ k ≤ b ∧ v = nI k := by
  unfold fIn at h
  by_cases h1 : v < nI a
  · rw [if_pos h1] at h; exact absurd rfl h
  · rw [if_neg h1] at h
    by_cases h2 : nI b < v
    · rw [if_pos h2] at h; exact absurd rfl h
    · have h3 : ¬ v < 0 := fun q => h1 (by
        rw [fa_lt] at q ⊢
        rw [nI_toInt (by omega)]
        have : (0 : Int32).toInt = 0 := rfl
        omega)
      obtain ⟨k, hk, e⟩ := nI_of h3
      subst e
      refine ⟨k, ?_, ?_, rfl⟩
      · rcases Nat.lt_or_ge k a with q | q
        · exact absurd (nI_lt q (by omega)) h1
        · exact q
      · rcases Nat.lt_or_ge b k with q | q
        · exact absurd (nI_lt q hk) h2
        · exact q
