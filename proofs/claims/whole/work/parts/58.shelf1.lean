/-! PURE: sets of documents as longs; drop and segment -/
def cnt (p : Nat → Bool) : Nat → Nat
  | 0 => 0
  | n + 1 => cnt p n + (if p n = true then 1 else 0)
theorem pc_cnt (m : Nat) : ∀ k, pc k m = cnt m.testBit k := by
  intro k
  induction k with
  | zero => rfl
  | succ k ih =>
    rw [pc_add k 1 m, ih]
    show _ + (m / 2 ^ k % 2 + 0) = _ + _
    rw [Nat.testBit_eq_decide_div_mod_eq]
    have : m / 2 ^ k % 2 = 0 ∨ m / 2 ^ k % 2 = 1 := by omega
    rcases this with h | h <;> simp [h]
theorem cnt_up {p : Nat → Bool} {c : Nat} (h : ∀ d, c ≤ d → p d = false) : ∀ n, c ≤ n → cnt p n = cnt p c := by
  intro n
  induction n with
  | zero => intro hn; rw [show c = 0 by omega]
  | succ n ih =>
    intro hn
    by_cases e : c = n + 1
    · rw [e]
    · show cnt p n + _ = _
      rw [ih (by omega), h n (by omega)]
      simp
theorem cnt_eq {p q : Nat → Bool} : ∀ n, (∀ d, d < n → p d = q d) → cnt p n = cnt q n := by
  intro n
  induction n with
  | zero => intro _; rfl
  | succ n ih =>
    intro h
    show cnt p n + _ = cnt q n + _
    rw [ih (fun d hd => h d (by omega)), h n (by omega)]
theorem cnt_le (p : Nat → Bool) : ∀ n, cnt p n ≤ n := by
  intro n
  induction n with
  | zero => exact Nat.le_refl _
  | succ n ih => show cnt p n + _ ≤ n + 1; split <;> omega
theorem tb_hi {m c d : Nat} (hm : m < 2 ^ c) (hd : c ≤ d) : m.testBit d = false := Nat.testBit_lt_two_pow (Nat.lt_of_lt_of_le hm (Nat.pow_le_pow_right (by decide) hd))
theorem lt64 {m c : Nat} (hm : m < 2 ^ c) (hc : c ≤ 40) : m < 2 ^ 64 := Nat.lt_of_lt_of_le hm (Nat.pow_le_pow_right (by decide) (by omega))
theorem holds_v {m d : Nat} (hm : m < 2 ^ 64) (hd : d < 64) (n : Nat) : f_Shelf_holds n (lN m) (nI d) = some (m.testBit d) := by
  unfold f_Shelf_holds
  rw [wb_bit hm hd, Nat.testBit_eq_decide_div_mod_eq]
  have : m / 2 ^ d % 2 = 0 ∨ m / 2 ^ d % 2 = 1 := by omega
  rcases this with h | h <;> rw [h]
  · rfl
  · rfl
theorem or_b {m d : Nat} (hm : m < 2 ^ 64) (hd : d < 64) : lN m ||| ((1 : Int64) <<< (((nI d) : Int32).toInt64 &&& 63)) = lN (m ||| 2 ^ d) := by
  rw [show (1 : Int64) = lN 1 from by decide, wb_shl 1 hd, Nat.one_mul, wb_or hm (Nat.pow_lt_pow_right (by decide) hd)]
theorem andn_b {a b : Nat} (ha : a < 2 ^ 64) (hb : b < 2 ^ 64) : ∃ r, r < 2 ^ 64 ∧ r ≤ a ∧ lN a &&& (lN b ^^^ (-1 : Int64)) = lN r ∧ ∀ i, r.testBit i = (a.testBit i && !b.testBit i) := by
  refine ⟨a &&& (2 ^ 64 - 1 - b), Nat.lt_of_le_of_lt Nat.and_le_left ha, Nat.and_le_left, ?_, fun i => ?_⟩
  · have e : lN b ^^^ (-1 : Int64) = lN (2 ^ 64 - 1 - b) := by
      apply wb_inj
      rw [Int64.toBitVec_xor, wb_tb, wb_tb]
      apply BitVec.eq_of_toNat_eq
      show (BitVec.ofNat 64 b ^^^ BitVec.allOnes 64).toNat = _
      rw [BitVec.xor_allOnes, BitVec.toNat_not, BitVec.toNat_ofNat, BitVec.toNat_ofNat, Nat.mod_eq_of_lt hb, Nat.mod_eq_of_lt (by omega)]
    rw [e, wb_and ha (by omega)]
  · rw [Nat.testBit_and]
    by_cases hi : i < 64
    · have e := Nat.testBit_two_pow_sub_succ hb i
      rw [show 2 ^ 64 - 1 - b = 2 ^ 64 - (b + 1) by omega, e]
      simp [hi]
    · rw [Nat.testBit_lt_two_pow (Nat.lt_of_lt_of_le ha (Nat.pow_le_pow_right (by decide) (by omega)))]
      simp
/-- the shelf: c documents, k segments; waiting, dropped, snapshot and segments as sets of bits -/
def ShP (μ ν : Mem) (c k w dp sn : Nat) (z : Nat → Nat) : Prop :=
  (c ≤ 40 ∧ k ≤ 3 ∧ w < 2 ^ c ∧ dp < 2 ^ c ∧ sn < 2 ^ c ∧ ∀ i, i < k → z i < 2 ^ c) ∧
  (μ.1 41 1 = nI c ∧ μ.1 41 6 = nI k ∧ μ.2 41 2 = lN w ∧ μ.2 41 3 = lN dp ∧ μ.2 41 4 = lN sn ∧ ∀ i, i < k → μ.2 43 i = lN (z i)) ∧
  (ν.1 0 50 = nI c ∧ ν.1 0 51 = nI k ∧ ∀ d, d < 40 → ν.1 36 d = bz (w.testBit d) ∧ ν.1 37 d = bz (dp.testBit d) ∧ ν.1 39 d = bz (sn.testBit d)) ∧
  (∀ d, d < c → (∀ i, i < k → ((z i).testBit d = true ↔ ν.1 38 d = nI i)) ∧ ((∀ i, i < k → ¬ ν.1 38 d = nI i) → ν.1 38 d = -1)) ∧
  (∀ d, w.testBit d = true → dp.testBit d = false ∧ ∀ i, i < k → (z i).testBit d = false)
theorem lying_v {ν : Mem} {c i : Nat} (hc : c ≤ 40) (h0 : ν.1 0 50 = nI c) : ∀ j k n, k + j = c → j < n → f_Mo_lying_4 ν n (nI i) (nI (cnt (fun d => decide (ν.1 38 d = nI i)) k)) (nI k) = some (nI (cnt (fun d => decide (ν.1 38 d = nI i)) c)) := by
  intro j
  induction j with
  | zero =>
    intro k n hk hn
    obtain ⟨n, rfl⟩ : ∃ z, n = z + 1 := ⟨n - 1, by omega⟩
    rw [f_Mo_lying_4, h0, if_pos (nI_le (by omega) (by omega)), show k = c by omega]
  | succ j ih =>
    intro k n hk hn
    obtain ⟨n, rfl⟩ : ∃ z, n = z + 1 := ⟨n - 1, by omega⟩
    have e := ih (k + 1) n (by omega) (by omega)
    rw [f_Mo_lying_4, h0, if_neg (nI_ge (by omega) (by omega)), gd_i (by rw [nI_toInt (by omega)]; omega), nI_clamp (by omega)]
    by_cases h : ν.1 38 k = nI i
    · rw [if_pos h]
      unfold f_Mo_lying_28
      rw [bd_e, bd_e, nI_1, show bz true = nI 1 from rfl, nI_add, ← e]
      have e2 : cnt (fun d => decide (ν.1 38 d = nI i)) (k + 1) = cnt (fun d => decide (ν.1 38 d = nI i)) k + 1 := by
        show _ + (if decide (ν.1 38 k = nI i) = true then 1 else 0) = _
        rw [if_pos (by simp [h])]
      rw [e2]
    · rw [if_neg h]
      unfold f_Mo_lying_28
      rw [bd_e, bd_e, nI_1, show bz false = nI 0 from rfl, nI_add, ← e]
      have e2 : cnt (fun d => decide (ν.1 38 d = nI i)) (k + 1) = cnt (fun d => decide (ν.1 38 d = nI i)) k + 0 := by
        show _ + (if decide (ν.1 38 k = nI i) = true then 1 else 0) = _
        rw [if_neg (by simp [h])]
      rw [e2]
theorem ShP.size {μ ν : Mem} {c k w dp sn i : Nat} {z : Nat → Nat} (h : ShP μ ν c k w dp sn z) (hi : i < k) : pc 64 (z i) = cnt (fun d => decide (ν.1 38 d = nI i)) c := by
  rw [pc_cnt, cnt_up (fun d hd => tb_hi (h.1.2.2.2.2.2 i hi) hd) 64 (by have := h.1.1; omega)]
  refine cnt_eq c (fun d hd => ?_)
  have e := (h.2.2.2.1 d hd).1 i hi
  by_cases q : ν.1 38 d = nI i
  · simp [e.mpr q, q]
  · have : (z i).testBit d = false := by
      cases hz : (z i).testBit d with
      | false => rfl
      | true => exact absurd (e.mp hz) q
    simp [this, q]
/-- segment, both sides -/
theorem st_segment {μ ν : Mem} {c k w dp sn : Nat} {z : Nat → Nat} (h : ShP μ ν c k w dp sn z) (a : Int32) : ∃ (n1 n2 : Nat) (r : Int32), f_X_segment n1 μ a = some r ∧ f_Mo_segment n2 ν a = some r := by
  have hk : (nI k).toInt = k := nI_toInt (by have := h.1.2.1; omega)
  by_cases h1 : a = -1
  · refine ⟨0, 0, nI k, ?_, ?_⟩
    · unfold f_X_segment
      rw [if_pos h1]
      show some (μ.1 41 6) = _
      rw [h.2.1.2.1]
    · unfold f_Mo_segment
      rw [if_pos h1, h.2.2.1.2.1]
  · by_cases h2 : 0 ≤ a.toInt ∧ a.toInt < k
    · obtain ⟨i, hi, rfl⟩ := nI_of2 (M := 3) (n := 3) (by decide) (x := a) (by rw [i_lt, v_0]; omega) (by rw [i_le, v_3]; have := h.1.2.1; omega)
      rw [nI_toInt (by omega)] at h2
      have hi2 : i < k := by omega
      refine ⟨0, 41, nI (pc 64 (z i)), ?_, ?_⟩
      · unfold f_X_segment f_Shelf_segmentSize
        rw [if_neg h1, if_neg (nI_pos (by omega)), h.2.1.2.1, if_pos (nI_lt hi2 (by have := h.1.2.1; omega)), gd_i (by rw [nI_toInt (by omega)]; have := h.1.2.1; omega), nI_clamp (by omega), h.2.1.2.2.2.2.2 i hi2, bitCount_v (lt64 (h.1.2.2.2.2.2 i hi2) h.1.1), cl_s, cl_s]
      · unfold f_Mo_segment f_Mo_lying
        rw [if_neg h1, in_v, cl_s, if_neg, h.size hi2]
        · have e := lying_v (i := i) h.1.1 h.2.2.1.1 c 0 41 (by omega) (by have := h.1.1; omega)
          have e' : f_Mo_lying_4 ν 41 (nI i) 0 0 = some (nI (cnt (fun d => decide (ν.1 38 d = nI i)) c)) := e
          rw [e', cl_s]
        · rw [bz_0, decide_eq_false_iff_not, h.2.2.1.2.1, v_0, nI_toInt (by omega), show (1 : Int32) = nI 1 from rfl, pk_sub_toInt (by have := h.1.2.1; omega) (by decide)]
          omega
    · refine ⟨0, 0, -1, ?_, ?_⟩
      · unfold f_X_segment f_Shelf_segmentSize f_Shelf_segmentSize_12
        rw [if_neg h1, h.2.1.2.1]
        by_cases h3 : a < 0
        · rw [if_pos h3, cl_s]
        · rw [if_neg h3, if_neg (by rw [i_lt, hk]; rw [i_lt, v_0] at h3; omega), cl_s]
      · unfold f_Mo_segment
        rw [if_neg h1, in_v, cl_s, if_pos]
        rw [bz_0, decide_eq_false_iff_not, h.2.2.1.2.1, v_0, show (1 : Int32) = nI 1 from rfl, pk_sub_toInt (by have := h.1.2.1; omega) (by decide)]
        omega
