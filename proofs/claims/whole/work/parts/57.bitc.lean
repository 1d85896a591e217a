theorem mb8 (t : Nat → Nat) (m : Nat) : mb t 8 m = t (m % 256) + 256 * (t (m / 256 % 256) + 256 * (t (m / 256 / 256 % 256) + 256 * (t (m / 256 / 256 / 256 % 256) + 256 * (t (m / 256 / 256 / 256 / 256 % 256) + 256 * (t (m / 256 / 256 / 256 / 256 / 256 % 256) + 256 * (t (m / 256 / 256 / 256 / 256 / 256 / 256 % 256) + 256 * t (m / 256 / 256 / 256 / 256 / 256 / 256 / 256 % 256))))))) := by simp only [mb, Nat.mul_zero, Nat.add_zero]
theorem pc64 (m : Nat) : pc 64 m = pc 8 m + (pc 8 (m / 256) + (pc 8 (m / 256 / 256) + (pc 8 (m / 256 / 256 / 256) + (pc 8 (m / 256 / 256 / 256 / 256) + (pc 8 (m / 256 / 256 / 256 / 256 / 256) + (pc 8 (m / 256 / 256 / 256 / 256 / 256 / 256) + pc 8 (m / 256 / 256 / 256 / 256 / 256 / 256 / 256))))))) := by
  have h : ∀ b x, pc (8 + b) x = pc 8 x + pc b (x / 256) := fun b x => pc_add 8 b x
  have e := h 56 m
  rw [h 48, h 40, h 32, h 24, h 16, h 8] at e
  exact e
theorem rb85 : lN (rb 85 8) = (6148914691236517205 : Int64) := by decide +kernel
theorem rb51 : lN (rb 51 8) = (3689348814741910323 : Int64) := by decide +kernel
theorem rb15 : lN (rb 15 8) = (1085102592571150095 : Int64) := by decide +kernel
theorem rbl (c : Nat) (h : c = 85 ∨ c = 51 ∨ c = 15) : rb c 8 < 2 ^ 64 := by rcases h with rfl | rfl | rfl <;> decide +kernel
theorem p64 : (256 : Nat) ^ 8 = 2 ^ 64 := by decide +kernel
theorem bitCount_v {m : Nat} (hm : m < 2 ^ 64) (n : Nat) : f_Long_bitCount n (lN m) = some (nI (pc 64 m)) := by
  have hm8 : m < 256 ^ 8 := by rw [p64]; exact hm
  have q1 := st1 8 m hm8
  have l1' : mb t1 8 m < 256 ^ 8 := mb_lt t1 t1_lt 8 m
  have l1 : mb t1 8 m < 2 ^ 64 := by rw [← p64]; exact l1'
  have q2 := st2 8 (mb t1 8 m) l1'
  rw [mb_mb t1_lt] at q2
  have l2' : mb (fun a => t2 (t1 a)) 8 m < 256 ^ 8 := mb_lt _ (fun a h => (t12_lt a h).1) 8 m
  have l2 : mb (fun a => t2 (t1 a)) 8 m < 2 ^ 64 := by rw [← p64]; exact l2'
  have lw := lowb_mb 8 m
  have q3 := st3 8 _ l2' lw
  have q3' := st3lt 8 _ l2' lw
  rw [mb_mb (fun a h => (t12_lt a h).1), mb_t] at q3
  rw [p64] at q3'
  have l3 : mb (pc 8) 8 m < 2 ^ 64 := by rw [← p64]; exact mb_lt (pc 8) (fun a _ => Nat.lt_of_le_of_lt (pc_le 8 a) (by decide)) 8 m
  have hy := mb8 (pc 8) m
  have hp := pc64 m
  have pm : ∀ x, pc 8 (x % 256) = pc 8 x := fun x => pc_mod 8 x
  rw [pm, pm, pm, pm, pm, pm, pm, pm] at hy
  have hb : ∀ x, pc 8 x ≤ 8 := fun x => pc_le 8 x
  generalize mb t1 8 m = m1 at q1 l1 q2
  generalize mb (fun a => t2 (t1 a)) 8 m = m2 at q2 l2 q3 q3'
  generalize mb (pc 8) 8 m = m3 at q3 l3 hy
  obtain ⟨s1, s2, s3, s4⟩ := sumb (hb _) (hb _) (hb _) (hb _) (hb _) (hb _) (hb _) (hb _) hy rfl rfl rfl
  have hs : (m3 + m3 / 256 + (m3 + m3 / 256) / 65536 + (m3 + m3 / 256 + (m3 + m3 / 256) / 65536) / 4294967296) % 128 = pc 64 m := by rw [s4, hp]; simp only [Nat.add_assoc]
  have l8 : ∀ {a b : Nat}, a < 2 ^ 64 → a / b < 2 ^ 64 := fun h => Nat.lt_of_le_of_lt (Nat.div_le_self _ _) h
  unfold f_Long_bitCount
  rw [← rb85, ← rb51, ← rb15]
  have w1 : ((lN m).toUInt64 >>> (((1 : Int32) : Int32).toInt64.toUInt64 &&& Int64.toUInt64 63)).toInt64 = lN (m / 2) := wb_shr (k := 1) hm (by decide)
  have w2 : ((lN m1).toUInt64 >>> (((2 : Int32) : Int32).toInt64.toUInt64 &&& Int64.toUInt64 63)).toInt64 = lN (m1 / 4) := wb_shr (k := 2) l1 (by decide)
  have w3 : ((lN m2).toUInt64 >>> (((4 : Int32) : Int32).toInt64.toUInt64 &&& Int64.toUInt64 63)).toInt64 = lN (m2 / 16) := wb_shr (k := 4) l2 (by decide)
  have w4 : ((lN m3).toUInt64 >>> (((8 : Int32) : Int32).toInt64.toUInt64 &&& Int64.toUInt64 63)).toInt64 = lN (m3 / 256) := wb_shr (k := 8) l3 (by decide)
  have w5 : ((lN (m3 + m3 / 256)).toUInt64 >>> (((16 : Int32) : Int32).toInt64.toUInt64 &&& Int64.toUInt64 63)).toInt64 = lN ((m3 + m3 / 256) / 65536) := wb_shr (k := 16) s1 (by decide)
  have w6 : ((lN (m3 + m3 / 256 + (m3 + m3 / 256) / 65536)).toUInt64 >>> (((32 : Int32) : Int32).toInt64.toUInt64 &&& Int64.toUInt64 63)).toInt64 = lN ((m3 + m3 / 256 + (m3 + m3 / 256) / 65536) / 4294967296) := wb_shr (k := 32) s2 (by decide)
  rw [w1, wb_and (l8 hm) (rbl 85 (Or.inl rfl)), lN_sub q1.1, q1.2, bd_e]
  rw [w2, wb_and l1 (rbl 51 (Or.inr (Or.inl rfl))), wb_and (l8 l1) (rbl 51 (Or.inr (Or.inl rfl))), lN_add, q2, bd_e]
  rw [w3, lN_add, wb_and q3' (rbl 15 (Or.inr (Or.inr rfl))), q3, bd_e]
  rw [w4, lN_add, bd_e, w5, lN_add, bd_e, w6, lN_add, bd_e, lN_i, nI_127, hs]
