def fCopy (a1 a2 a3 a4 a5 s1 s3 : Int32) (items : Nat → Int64) (post : Int32 → (Nat → Int64) → Prop) : Prop :=
  ((a5 < 0 → post (-13 : Int32) items) ∧ (¬ a5 < 0 → (((30 : Int32) < a5 → post (-13 : Int32) items) ∧ (¬ (30 : Int32) < a5 → ((a2 < 0 → post (-13 : Int32) items) ∧ (¬ a2 < 0 → ((a4 < 0 → post (-13 : Int32) items) ∧ (¬ a4 < 0 → vp_in a1 4 ∧ (((s1 - a5) < a2 → post (-13 : Int32) items) ∧ (¬ (s1 - a5) < a2 → vp_in a3 4 ∧ ((a4 ≤ (s3 - a5) → ∃ J121 : Int32 → Prop, (∀ (t_121 : Int32), J121 t_121 → (∃ (I126 : Int32 → (Nat → Int64) → Prop) (mu126 : Int32 → (Nat → Int64) → Nat), I126 (0 : Int32) items ∧ ∀ (l7_126 : Int32) (items_126 : Nat → Int64), I126 l7_126 items_126 → ((a5 ≤ l7_126 → post a5 items_126) ∧ (¬ a5 ≤ l7_126 → ∃ J150 : Int32 → Prop, (∀ (t_150 : Int32), J150 t_150 → vp_in ((((30 : Int32) * a1) + a2) + t_150) 120 ∧ vp_in ((((30 : Int32) * a3) + a4) + t_150) 120 ∧ ∀ x23 : Int32, x23 = l7_126 + 1 → (I126 x23 (vp_updL items_126 ((((30 : Int32) * a3) + a4) + t_150).toNatClampNeg (items_126 ((((30 : Int32) * a1) + a2) + t_150).toNatClampNeg)) ∧ mu126 x23 (vp_updL items_126 ((((30 : Int32) * a3) + a4) + t_150).toNatClampNeg (items_126 ((((30 : Int32) * a1) + a2) + t_150).toNatClampNeg)) < mu126 l7_126 items_126)) ∧ ((t_121 = 0 → J150 l7_126) ∧ (¬ t_121 = 0 → J150 ((a5 - (1 : Int32)) - l7_126))))))) ∧ ((a4 ≤ a2 → J121 (0 : Int32)) ∧ (¬ a4 ≤ a2 → J121 (1 : Int32)))) ∧ (¬ a4 ≤ (s3 - a5) → post (-13 : Int32) items))))))))))))
theorem s_copyN {k m c n n' : Nat} {a2 a4 : Int32} {items : Nat → Int64} {post : Int32 → (Nat → Int64) → Prop} (hk : k < 4) (hm : m < 4) (hc : c ≤ 30) (hn : n ≤ 30) (hn' : n' ≤ 30)
    (h : ((fHas a2 c n = 0 ∨ fHas a4 c n' = 0) ∧ post (-13) items) ∨ (∃ t t' : Nat, t + c ≤ n ∧ t' + c ≤ n' ∧ a2 = nI t ∧ a4 = nI t' ∧ ∀ it' : Nat → Int64, (∀ x, it' x = if 30 * m + t' ≤ x ∧ x < 30 * m + t' + c then items (30 * k + t + (x - (30 * m + t'))) else items x) → post (nI c) it')) :
    fCopy (nI k) a2 (nI m) a4 (nI c) (nI n) (nI n') items post := by
  have hv : vp_in (nI k) 4 := vp_in_nI (by omega) (by omega)
  have hw : vp_in (nI m) 4 := vp_in_nI (by omega) (by omega)
  have hs : (nI n - nI c).toInt = (n : Int) - c := pk_sub_toInt (by omega) (by omega)
  have hs' : (nI n' - nI c).toInt = (n' : Int) - c := pk_sub_toInt (by omega) (by omega)
  unfold fCopy
  refine br_f (nI_pos (by omega)) (br_f (fun q => absurd ((nI_ltI (a := 30) (b := c) (by omega) (by omega)).1 q) (by omega)) ?_)
  rcases h with ⟨ho, h⟩ | ⟨t, t', ht, ht', e2, e4, h⟩
  · refine br_c (fun _ => h) (fun f2 => br_c (fun _ => h) (fun f4 => ⟨hv, br_c (fun _ => h) (fun f5 => ⟨hw, br_c (fun f6 => ?_) (fun _ => h)⟩)⟩))
    exfalso
    have g2 : ¬ a2.toInt < 0 := fun q => f2 ((fa_lt a2 0).2 q)
    have g4 : ¬ a4.toInt < 0 := fun q => f4 ((fa_lt a4 0).2 q)
    have g5 : ¬ (nI n - nI c).toInt < a2.toInt := fun q => f5 ((fa_lt _ _).2 q)
    have g6 : a4.toInt ≤ (nI n' - nI c).toInt := (fa_le _ _).1 f6
    rw [hs] at g5
    rw [hs'] at g6
    rcases ho with ho | ho
    · unfold fHas at ho
      rw [if_pos (by omega)] at ho
      exact absurd ho (by decide)
    · unfold fHas at ho
      rw [if_pos (by omega)] at ho
      exact absurd ho (by decide)
  · subst e2 e4
    refine br_f (nI_pos (by omega)) (br_f (nI_pos (by omega)) ⟨hv, br_f (fun q => ?_) ⟨hw, br_t ?_ ?_⟩⟩)
    · have g := (fa_lt _ _).1 q
      rw [hs, nI_toInt (by omega)] at g
      omega
    · refine (fa_le _ _).2 ?_
      rw [hs', nI_toInt (by omega)]
      omega
    · refine ⟨fun b => (b = 0 ∧ t' ≤ t) ∨ (b = 1 ∧ t < t'), ?_, br_c (fun q => Or.inl ⟨rfl, (nI_leI (by omega) (by omega)).1 q⟩) (fun q => Or.inr ⟨rfl, Nat.lt_of_not_le (fun f => q ((nI_leI (by omega) (by omega)).2 f))⟩)⟩
      have hx : ∀ u, u < 30 → ((30 : Int32) * nI k) + nI t + nI u = nI (30 * k + t + u) := fun u _ => by
        rw [show (30 : Int32) = nI 30 from rfl, pk_mul, nI_add, nI_add]
      have hy : ∀ u, u < 30 → ((30 : Int32) * nI m) + nI t' + nI u = nI (30 * m + t' + u) := fun u _ => by
        rw [show (30 : Int32) = nI 30 from rfl, pk_mul, nI_add, nI_add]
      rintro b hb
      refine ⟨fun l it => ∃ i, i ≤ c ∧ l = nI i ∧ ∀ x, it x = if (b = 0 ∧ 30 * m + t' ≤ x ∧ x < 30 * m + t' + i) ∨ (b = 1 ∧ 30 * m + t' + c - i ≤ x ∧ x < 30 * m + t' + c) then items (30 * k + t + (x - (30 * m + t'))) else items x, fun l _ => c - l.toNatClampNeg, ⟨0, by omega, rfl, fun x => by rw [if_neg (by omega)]⟩, ?_⟩
      rintro l it ⟨i, hi, rfl, hit⟩
      refine br_c (fun q => ?_) (fun q => ?_)
      · have hic : i = c := by have := (nI_leI (by omega) (by omega)).1 q; omega
        subst hic
        refine h it (fun x => ?_)
        rw [hit x]
        rcases hb with ⟨hb, ho⟩ | ⟨hb, ho⟩ <;> subst hb
        · by_cases z : 30 * m + t' ≤ x ∧ x < 30 * m + t' + i
          · rw [if_pos z, if_pos (Or.inl ⟨rfl, z⟩)]
          · rw [if_neg z, if_neg (by rintro (z2 | z2); exact z z2.2; exact absurd z2.1 (by decide))]
        · by_cases z : 30 * m + t' ≤ x ∧ x < 30 * m + t' + i
          · rw [if_pos z, if_pos (Or.inr ⟨rfl, by omega⟩)]
          · rw [if_neg z, if_neg (by rintro (z2 | z2); exact absurd z2.1 (by decide); exact z (by omega))]
      · have hic : i < c := Nat.lt_of_not_le (fun f => q ((nI_leI (by omega) (by omega)).2 f))
        rcases hb with ⟨hb, ho⟩ | ⟨hb, ho⟩ <;> subst hb
        · refine ⟨fun y => y = nI i, ?_, br_t rfl rfl⟩
          rintro y rfl
          rw [hx i (by omega), hy i (by omega), nI_clamp (by omega), nI_clamp (by omega)]
          refine ⟨vp_in_nI (by omega) (by omega), vp_in_nI (by omega) (by omega), fun x23 e => ?_⟩
          subst e
          rw [nI_1]
          refine ⟨⟨i + 1, by omega, rfl, fun x => ?_⟩, by show c - (nI (i + 1)).toNatClampNeg < c - (nI i).toNatClampNeg; rw [nI_clamp (by omega), nI_clamp (by omega)]; omega⟩
          have e1 : it (30 * k + t + i) = items (30 * k + t + i) := by
            rw [hit, if_neg]
            rintro (z | z)
            · omega
            · exact absurd z.1 (by decide)
          by_cases z : x = 30 * m + t' + i
          · subst z
            rw [pk_uLs, e1, if_pos (Or.inl ⟨rfl, by omega, by omega⟩)]
            exact congrArg items (by omega)
          · rw [pk_uLn z, hit x]
            by_cases w : 30 * m + t' ≤ x ∧ x < 30 * m + t' + i
            · rw [if_pos (Or.inl ⟨rfl, w⟩), if_pos (Or.inl ⟨rfl, by omega, by omega⟩)]
            · rw [if_neg (by rintro (z2 | z2); exact w z2.2; exact absurd z2.1 (by decide)), if_neg (by rintro (z2 | z2); exact w ⟨z2.2.1, by omega⟩; exact absurd z2.1 (by decide))]
        · refine ⟨fun y => y = nI (c - 1 - i), ?_, br_f (by decide) (by rw [show (1 : Int32) = nI 1 from rfl, pk_sub (by omega), pk_sub (by omega)])⟩
          rintro y rfl
          rw [hx _ (by omega), hy _ (by omega), nI_clamp (by omega), nI_clamp (by omega)]
          refine ⟨vp_in_nI (by omega) (by omega), vp_in_nI (by omega) (by omega), fun x23 e => ?_⟩
          subst e
          rw [nI_1]
          refine ⟨⟨i + 1, by omega, rfl, fun x => ?_⟩, by show c - (nI (i + 1)).toNatClampNeg < c - (nI i).toNatClampNeg; rw [nI_clamp (by omega), nI_clamp (by omega)]; omega⟩
          have e1 : it (30 * k + t + (c - 1 - i)) = items (30 * k + t + (c - 1 - i)) := by
            rw [hit, if_neg]
            rintro (z | z)
            · exact absurd z.1 (by decide)
            · omega
          by_cases z : x = 30 * m + t' + (c - 1 - i)
          · subst z
            rw [pk_uLs, e1, if_pos (Or.inr ⟨rfl, by omega, by omega⟩)]
            exact congrArg items (by omega)
          · rw [pk_uLn z, hit x]
            by_cases w : 30 * m + t' + c - i ≤ x ∧ x < 30 * m + t' + c
            · rw [if_pos (Or.inr ⟨rfl, w⟩), if_pos (Or.inr ⟨rfl, by omega, by omega⟩)]
            · rw [if_neg (by rintro (z2 | z2); exact absurd z2.1 (by decide); exact w z2.2), if_neg (by rintro (z2 | z2); exact absurd z2.1 (by decide); exact w (by omega))]
