/-! ===== caps, twins ===== -/
def fCR (l unit : Int32) : Int32 := (2 * unit) * (6 - absI l)
def fCX (l unit caps : Int32) (m : Nat) : Int32 := if l ≤ 0 then (2 * unit) * caps + (-((fCR l unit * sinesF m) / 10000)) else (2 * unit) * caps + ((fCR l unit * sinesF m) / 10000)
def fCY (l unit caps : Int32) (m : Nat) : Int32 := (2 * unit) * caps + ((fCR l unit * sinesF ((m + 6) % 24)) / 10000)
theorem s3_capX {l unit caps : Int32} {m : Nat} (hm : m < 24) {post : Int32 → Prop} (h : post (fCX l unit caps m)) : wX3_capX l (nI m) unit caps post := by
  unfold wX3_capX wX3_capRadius wX3_capMiddle
  refine s1_sine hm ?_
  intro x hx
  have hx : x = (fCR l unit * sinesF m) / 10000 := hx
  subst hx
  unfold fCX at h
  refine br_c (fun c => ?_) (fun c => ?_)
  · rw [if_pos c] at h; exact h
  · rw [if_neg c] at h; exact h
theorem s3_capY {l unit caps : Int32} {m : Nat} (hm : m < 24) {post : Int32 → Prop} (h : post (fCY l unit caps m)) : wX3_capY l (nI m) unit caps post := by
  unfold wX3_capY wX3_capRadius wX3_capMiddle
  exact s1_cosine hm h
theorem s11_capX {p : Nat} (hp : p < 266) {st : Nat → Int32} {post : Int32 → Prop} (h : post (fCX (rowI p) (st 266) (st 268) (stepN p))) : wX11_capX (nI p) st post := by
  unfold wX11_capX
  refine s11_row hp (q11_size (s11_step hp (s11_sine (stepN_lt p) ?_)))
  intro x hx
  have hx : x = (fCR (rowI p) (st 266) * sinesF (stepN p)) / 10000 := hx
  subst hx
  unfold fCX at h
  refine br_c (fun c => ?_) (fun c => ?_)
  · rw [if_pos c] at h; exact h
  · rw [if_neg c] at h; exact h
theorem s11_capY {p : Nat} (hp : p < 266) {st : Nat → Int32} {post : Int32 → Prop} (h : post (fCY (rowI p) (st 266) (st 268) (stepN p))) : wX11_capY (nI p) st post := by
  unfold wX11_capY
  refine s11_row hp (q11_size (s11_step hp (s11_cosine (stepN_lt p) ?_)))
  intro x hx
  subst hx
  exact h
theorem st_div {m w : Nat} (hm : m < 24) (h0 : 0 < w) (hw : w ≤ 12) : nI m / nI w = nI (m / w) := pk_div (by omega) h0 (by omega)
theorem st_mod {m w : Nat} (hm : m < 24) (h0 : 0 < w) (hw : w ≤ 12) : nI m - nI m / nI w * nI w = nI (m % w) := pk_rem (by omega) h0 (by omega)
theorem st_cut {m w : Nat} (h0 : 0 < w) (h : m % w = 0) : m = 0 ↔ m / w = 0 := by
  constructor
  · intro e; subst e; exact Nat.zero_div w
  · intro e
    have := Nat.div_add_mod m w
    rw [e, h] at this
    omega
theorem nI_z {m : Nat} (h : m < 2 ^ 31) : nI m = 0 ↔ m = 0 := nI_eq (b := 0) h (by omega)
