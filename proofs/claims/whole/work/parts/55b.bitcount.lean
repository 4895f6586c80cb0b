theorem s_bitCount {w : Int64} {post : Int32 → Prop} (h : post (nI (pop64 (uN w)))) : wJ13_bitCount_95d88 w post := by
  unfold wJ13_bitCount_95d88
  have hn : uN w < 2 ^ 64 := uN_lt w
  intro x1 e1 x2 e2 x3 e3 x4 e4 x5 e5 x6 e6
  have sk : ∀ (x : Int64) (k : Nat), k < 64 → uN (x.toUInt64 >>> ((nI k).toInt64.toUInt64 &&& Int64.toUInt64 63)).toInt64 = uN x / 2 ^ k := fun x k hk => uN_sk x hk
  have m55 : uN (6148914691236517205 : Int64) = mk 0x55 8 := by decide +kernel
  have m33 : uN (3689348814741910323 : Int64) = mk 0x33 8 := by decide +kernel
  have m0f : uN (1085102592571150095 : Int64) = mk 0x0f 8 := by decide +kernel
  have f1 : uN x1 = p1 8 (uN w) := by
    have hh : uN ((w.toUInt64 >>> ((nI 1).toInt64.toUInt64 &&& Int64.toUInt64 63)).toInt64 &&& (6148914691236517205 : Int64)) = (uN w / 2) &&& mk 0x55 8 := by rw [uN_and, sk w 1 (by omega), m55]
    rw [e1]
    show uN (w - ((w.toUInt64 >>> ((nI 1).toInt64.toUInt64 &&& Int64.toUInt64 63)).toInt64 &&& (6148914691236517205 : Int64))) = _
    rw [uN_sub (by rw [hh]; exact p1_le 8 _), hh]
    rfl
  have v33 : mk 0x33 8 = 3689348814741910323 := by decide +kernel
  have le33 : ∀ x : Nat, x &&& mk 0x33 8 ≤ 3689348814741910323 := fun x => v33 ▸ Nat.and_le_right
  have f2 : uN x2 = p2 8 (p1 8 (uN w)) := by
    rw [e2]
    show uN ((x1 &&& (3689348814741910323 : Int64)) + ((x1.toUInt64 >>> ((nI 2).toInt64.toUInt64 &&& Int64.toUInt64 63)).toInt64 &&& (3689348814741910323 : Int64))) = _
    have a1 : uN (x1 &&& (3689348814741910323 : Int64)) = uN x1 &&& mk 0x33 8 := by rw [uN_and, m33]
    have a2 : uN ((x1.toUInt64 >>> ((nI 2).toInt64.toUInt64 &&& Int64.toUInt64 63)).toInt64 &&& (3689348814741910323 : Int64)) = (uN x1 / 4) &&& mk 0x33 8 := by rw [uN_and, sk x1 2 (by decide), m33]
    rw [uN_addl (by rw [a1, a2]; exact dl6 (dl5 (le33 _) (le33 _))), a1, a2, f1]
    rfl
  have hp : p2 8 (p1 8 (uN w)) ≤ 7378697629483820646 := by
    unfold p2
    exact dl5 (le33 _) (le33 _)
  have f3 : uN x3 = p3 8 (p2 8 (p1 8 (uN w))) := by
    rw [e3]
    show uN ((x2 + (x2.toUInt64 >>> ((nI 4).toInt64.toUInt64 &&& Int64.toUInt64 63)).toInt64) &&& (1085102592571150095 : Int64)) = _
    have a2 : uN (x2.toUInt64 >>> ((nI 4).toInt64.toUInt64 &&& Int64.toUInt64 63)).toInt64 = uN x2 / 16 := sk x2 4 (by decide)
    rw [uN_and, m0f, uN_addl (by rw [a2, f2]; exact dl4 hp), a2, f2]
    unfold p3
    rfl
  rw [p123_8 _ hn] at f3
  have b0 := tb4 (uN w % 256) (Nat.mod_lt _ (by decide))
  have b1 := tb4 (uN w / 256 % 256) (Nat.mod_lt _ (by decide))
  have b2 := tb4 (uN w / 65536 % 256) (Nat.mod_lt _ (by decide))
  have b3 := tb4 (uN w / 16777216 % 256) (Nat.mod_lt _ (by decide))
  have b4 := tb4 (uN w / 4294967296 % 256) (Nat.mod_lt _ (by decide))
  have b5 := tb4 (uN w / 1099511627776 % 256) (Nat.mod_lt _ (by decide))
  have b6 := tb4 (uN w / 281474976710656 % 256) (Nat.mod_lt _ (by decide))
  have b7 := tb4 (uN w / 72057594037927936 % 256) (Nat.mod_lt _ (by decide))
  have l3 : uN x3 < 2 ^ 60 := by rw [f3]; exact x3_lt b0.2.1 b1.2.1 b2.2.1 b3.2.1 b4.2.1 b5.2.1 b6.2.1 b7.2.1
  have g4 : uN (x3.toUInt64 >>> ((nI 8).toInt64.toUInt64 &&& Int64.toUInt64 63)).toInt64 = uN x3 / 256 := sk x3 8 (by decide)
  have f4 : uN x4 = uN x3 + uN x3 / 256 := by
    rw [e4]
    show uN (x3 + (x3.toUInt64 >>> ((nI 8).toInt64.toUInt64 &&& Int64.toUInt64 63)).toInt64) = _
    rw [uN_addl (by rw [g4]; exact dl8 (dl1 l3)), g4]
  have l4 : uN x4 < 2 ^ 61 := by rw [f4]; exact dl1 l3
  have g5 : uN (x4.toUInt64 >>> ((nI 16).toInt64.toUInt64 &&& Int64.toUInt64 63)).toInt64 = uN x4 / 65536 := sk x4 16 (by decide)
  have f5 : uN x5 = uN x4 + uN x4 / 65536 := by
    rw [e5]
    show uN (x4 + (x4.toUInt64 >>> ((nI 16).toInt64.toUInt64 &&& Int64.toUInt64 63)).toInt64) = _
    rw [uN_addl (by rw [g5]; exact dl9 (dl2 l4)), g5]
  have l5 : uN x5 < 2 ^ 62 := by rw [f5]; exact dl2 l4
  have g6 : uN (x5.toUInt64 >>> ((nI 32).toInt64.toUInt64 &&& Int64.toUInt64 63)).toInt64 = uN x5 / 4294967296 := sk x5 32 (by decide)
  have f6 : uN x6 = uN x5 + uN x5 / 4294967296 := by
    rw [e6]
    show uN (x5 + (x5.toUInt64 >>> ((nI 32).toInt64.toUInt64 &&& Int64.toUInt64 63)).toInt64) = _
    rw [uN_addl (by rw [g6]; exact dl10 (dl3 l5)), g6]
  have fin := fold_bytes b0.2.1 b1.2.1 b2.2.1 b3.2.1 b4.2.1 b5.2.1 b6.2.1 b7.2.1 f3 f4 f5 f6
  rw [b0.1, b1.1, b2.1, b3.1, b4.1, b5.1, b6.1, b7.1] at fin
  have e7 : x6.toInt32 &&& 127 = nI (uN x6 % 128) := by
    have h9 : x6.toInt32 = nI (uN x6) := by
      obtain ⟨z, hz, e⟩ := wb_of x6
      have h8 : uN x6 = z := by rw [e]; exact wb_tn hz
      rw [h8, e, lN_i]
    rw [h9, pk_and (nI (uN x6)) (m := 127) 7 (by decide)]
    rw [show (nI (uN x6)).toBitVec = BitVec.ofNat 32 (uN x6) from rfl, BitVec.toNat_ofNat]
    exact congrArg nI (dl7 _)
  unfold pop64 at h
  rw [e7, fin]
  exact h
