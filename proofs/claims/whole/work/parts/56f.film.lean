theorem put_succL (f g : Nat → Int64) (a n : Nat) : vp_updL (fb_put f g a n) (a + n) (g n) = fb_put f g a (n + 1) := by
  funext k
  unfold vp_updL fb_put
  by_cases h : k = a + n
  · subst h
    rw [if_pos rfl, if_pos (by omega)]
    exact congrArg g (by omega)
  · rw [if_neg h]
    by_cases h2 : a ≤ k ∧ k < a + n
    · rw [if_pos h2, if_pos (by omega)]
    · rw [if_neg h2, if_neg (by omega)]
theorem vup_self {α : Type} (f : Nat → α) (k : Nat) : va_up f k (f k) = f := by
  funext j
  unfold va_up
  by_cases h : j = k
  · subst h; exact if_pos rfl
  · exact if_neg h
theorem vup_twice {α : Type} (f : Nat → α) (k : Nat) (a b : α) : va_up (va_up f k a) k b = va_up f k b := by
  funext j
  unfold va_up
  by_cases h : j = k
  · rw [if_pos h, if_pos h]
  · rw [if_neg h, if_neg h, if_neg h]
theorem stepOf_num {l : Int32} (hl : rowOK l) {m : Nat} (hm : m < 24) {post : Int32 → Prop} (h : post (fStep (fNumber l (nI m)))) : wX1_stepOf (fNumber l (nI m)) post := q1_stepOf h
def vFilm (unit w l la : Int32) (m : Nat) : Int64 := fLow (fSX unit w l (fStep (fNumber l (nI m)))).toInt64 la
theorem fIn_place {l : Int32} : fPlace l 0 = fIn l (-6) 6 := by
  unfold fPlace
  rw [if_neg (show ¬ fIn (0 : Int32) 0 (nI 23) = 0 by decide)]
  rcases fIn_01 l (-6) 6 with h | h
  · rw [if_pos h, h]
  · rw [if_neg (by rw [h]; decide), h]
