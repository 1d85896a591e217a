/-! PURE: Long.bitCount counts bits -/
/-- how many of the first k bits are set -/
def pc : Nat → Nat → Nat
  | 0, _ => 0
  | k + 1, m => m % 2 + pc k (m / 2)
/-- k bytes, each the byte c -/
def rb (c : Nat) : Nat → Nat
  | 0 => 0
  | k + 1 => c + 256 * rb c k
theorem land256 {a b c d : Nat} (ha : a < 256) (hc : c < 256) : (a + 256 * b) &&& (c + 256 * d) = (a &&& c) + 256 * (b &&& d) := by
  have e1 : a + 256 * b = b <<< 8 + a := by rw [Nat.shiftLeft_eq]; omega
  have e2 : c + 256 * d = d <<< 8 + c := by rw [Nat.shiftLeft_eq]; omega
  have l1 : a &&& c < 2 ^ 8 := Nat.and_lt_two_pow _ hc
  have e3 : (a &&& c) + 256 * (b &&& d) = (b &&& d) <<< 8 + (a &&& c) := by rw [Nat.shiftLeft_eq]; omega
  rw [e1, e2, e3]
  apply Nat.eq_of_testBit_eq
  intro i
  rw [Nat.testBit_and, Nat.shiftLeft_eq, Nat.shiftLeft_eq, Nat.shiftLeft_eq, Nat.mul_comm b, Nat.mul_comm d, Nat.mul_comm (b &&& d), Nat.testBit_two_pow_mul_add _ ha, Nat.testBit_two_pow_mul_add _ hc, Nat.testBit_two_pow_mul_add _ l1]
  by_cases h : i < 8
  · simp [h, Nat.testBit_and]
  · simp [h, Nat.testBit_and]
theorem s1_b : ∀ a, a < 256 → ∀ z, z < 2 → (a / 2 + 128 * z) &&& 85 = (a / 2) &&& 85 := by decide +kernel
theorem s1_l : ∀ a, a < 256 → (a / 2) &&& 85 ≤ a := by decide +kernel
theorem s2_b : ∀ a, a < 256 → ∀ z, z < 4 → (a / 4 + 64 * z) &&& 51 = (a / 4) &&& 51 := by decide +kernel
def t1 (a : Nat) : Nat := a - ((a / 2) &&& 85)
def t2 (a : Nat) : Nat := (a &&& 51) + ((a / 4) &&& 51)
def t3 (a : Nat) : Nat := (a + a / 16) &&& 15
theorem t1_lt : ∀ a, a < 256 → t1 a < 256 := by decide +kernel
theorem t12_lt : ∀ a, a < 256 → t2 (t1 a) < 256 ∧ t2 (t1 a) % 16 ≤ 4 ∧ t2 (t1 a) / 16 ≤ 4 := by decide +kernel
theorem t123 : ∀ a, a < 256 → t3 (t2 (t1 a)) = pc 8 a := by decide +kernel
/-- a number's bytes, each turned by t -/
def mb (t : Nat → Nat) : Nat → Nat → Nat
  | 0, _ => 0
  | k + 1, m => t (m % 256) + 256 * mb t k (m / 256)
theorem st1 : ∀ k m, m < 256 ^ k → (m / 2) &&& rb 85 k ≤ m ∧ m - ((m / 2) &&& rb 85 k) = mb t1 k m := by
  intro k
  induction k with
  | zero => intro m h; simp at h; subst h; exact ⟨by decide, rfl⟩
  | succ k ih =>
    intro m h
    have hq : m / 256 < 256 ^ k := Nat.div_lt_of_lt_mul (by rw [Nat.pow_succ, Nat.mul_comm] at h; exact h)
    obtain ⟨h1, h2⟩ := ih (m / 256) hq
    have e1 : m / 2 = (m % 256 / 2 + 128 * (m / 256 % 2)) + 256 * (m / 256 / 2) := by omega
    have e2 : (m / 2) &&& rb 85 (k + 1) = ((m % 256 / 2) &&& 85) + 256 * ((m / 256 / 2) &&& rb 85 k) := by
      rw [e1]
      show _ &&& (85 + 256 * rb 85 k) = _
      rw [land256 (by omega) (by decide), s1_b _ (by omega) _ (by omega)]
    have h3 := s1_l (m % 256) (by omega)
    rw [e2]
    refine ⟨by omega, ?_⟩
    show _ = t1 (m % 256) + 256 * mb t1 k (m / 256)
    rw [← h2]
    unfold t1
    omega
theorem mb_lt (t : Nat → Nat) (ht : ∀ a, a < 256 → t a < 256) : ∀ k m, mb t k m < 256 ^ k := by
  intro k
  induction k with
  | zero => intro m; exact Nat.one_pos
  | succ k ih =>
    intro m
    have a := ht (m % 256) (by omega)
    have b := ih (m / 256)
    show t (m % 256) + 256 * mb t k (m / 256) < 256 ^ (k + 1)
    rw [Nat.pow_succ]
    omega
theorem mb_mb {s t : Nat → Nat} (hs : ∀ a, a < 256 → s a < 256) : ∀ k m, mb t k (mb s k m) = mb (fun a => t (s a)) k m := by
  intro k
  induction k with
  | zero => intro m; rfl
  | succ k ih =>
    intro m
    have a := hs (m % 256) (by omega)
    show t ((s (m % 256) + 256 * mb s k (m / 256)) % 256) + 256 * mb t k ((s (m % 256) + 256 * mb s k (m / 256)) / 256) = t (s (m % 256)) + 256 * mb (fun a => t (s a)) k (m / 256)
    rw [show (s (m % 256) + 256 * mb s k (m / 256)) % 256 = s (m % 256) by omega, show (s (m % 256) + 256 * mb s k (m / 256)) / 256 = mb s k (m / 256) by omega, ih]
theorem st2 : ∀ k m, m < 256 ^ k → (m &&& rb 51 k) + ((m / 4) &&& rb 51 k) = mb t2 k m := by
  intro k
  induction k with
  | zero => intro m h; simp at h; subst h; rfl
  | succ k ih =>
    intro m h
    have hq : m / 256 < 256 ^ k := Nat.div_lt_of_lt_mul (by rw [Nat.pow_succ, Nat.mul_comm] at h; exact h)
    have h2 := ih (m / 256) hq
    have e0 : m &&& rb 51 (k + 1) = ((m % 256) &&& 51) + 256 * ((m / 256) &&& rb 51 k) := by
      conv => lhs; rw [show m = m % 256 + 256 * (m / 256) by omega]
      show _ &&& (51 + 256 * rb 51 k) = _
      rw [land256 (by omega) (by decide)]
    have e1 : m / 4 = (m % 256 / 4 + 64 * (m / 256 % 4)) + 256 * (m / 256 / 4) := by omega
    have e2 : (m / 4) &&& rb 51 (k + 1) = ((m % 256 / 4) &&& 51) + 256 * ((m / 256 / 4) &&& rb 51 k) := by
      rw [e1]
      show _ &&& (51 + 256 * rb 51 k) = _
      rw [land256 (by omega) (by decide), s2_b _ (by omega) _ (by omega)]
    rw [e0, e2]
    show _ = t2 (m % 256) + 256 * mb t2 k (m / 256)
    rw [← h2]
    unfold t2
    omega
/-- each half of each byte is at most 4 -/
def lowb : Nat → Nat → Prop
  | 0, _ => True
  | k + 1, m => m % 256 % 16 ≤ 4 ∧ m % 256 / 16 ≤ 4 ∧ lowb k (m / 256)
theorem s3_b : ∀ a, a < 256 → a % 16 ≤ 4 → a / 16 ≤ 4 → ∀ z, z ≤ 4 → (a + a / 16 + 16 * z) &&& 15 = (a + a / 16) &&& 15 := by decide +kernel
theorem st3 : ∀ k m, m < 256 ^ k → lowb k m → (m + m / 16) &&& rb 15 k = mb t3 k m := by
  intro k
  induction k with
  | zero => intro m h _; simp at h; subst h; rfl
  | succ k ih =>
    intro m h hl
    obtain ⟨l1, l2, l3⟩ := hl
    have hq : m / 256 < 256 ^ k := Nat.div_lt_of_lt_mul (by rw [Nat.pow_succ, Nat.mul_comm] at h; exact h)
    have h2 := ih (m / 256) hq l3
    have l4 : m / 256 % 16 ≤ 4 := by
      cases k with
      | zero => simp at hq; omega
      | succ k => have := l3.1; omega
    have e1 : m + m / 16 = (m % 256 + m % 256 / 16 + 16 * (m / 256 % 16)) + 256 * (m / 256 + m / 256 / 16) := by omega
    rw [e1]
    show _ &&& (15 + 256 * rb 15 k) = t3 (m % 256) + 256 * mb t3 k (m / 256)
    rw [land256 (by omega) (by decide), s3_b _ (by omega) l1 l2 _ l4, h2]
    rfl
theorem lowb_mb : ∀ k m, lowb k (mb (fun a => t2 (t1 a)) k m) := by
  intro k
  induction k with
  | zero => intro m; trivial
  | succ k ih =>
    intro m
    have a := t12_lt (m % 256) (by omega)
    show (t2 (t1 (m % 256)) + 256 * mb (fun a => t2 (t1 a)) k (m / 256)) % 256 % 16 ≤ 4 ∧ (t2 (t1 (m % 256)) + 256 * mb (fun a => t2 (t1 a)) k (m / 256)) % 256 / 16 ≤ 4 ∧ lowb k ((t2 (t1 (m % 256)) + 256 * mb (fun a => t2 (t1 a)) k (m / 256)) / 256)
    rw [show (t2 (t1 (m % 256)) + 256 * mb (fun a => t2 (t1 a)) k (m / 256)) / 256 = mb (fun a => t2 (t1 a)) k (m / 256) by omega, show (t2 (t1 (m % 256)) + 256 * mb (fun a => t2 (t1 a)) k (m / 256)) % 256 = t2 (t1 (m % 256)) by omega]
    exact ⟨a.2.1, a.2.2, ih _⟩
theorem mb_t : ∀ k m, mb (fun a => t3 (t2 (t1 a))) k m = mb (pc 8) k m := by
  intro k
  induction k with
  | zero => intro m; rfl
  | succ k ih =>
    intro m
    show t3 (t2 (t1 (m % 256))) + 256 * mb (fun a => t3 (t2 (t1 a))) k (m / 256) = pc 8 (m % 256) + 256 * mb (pc 8) k (m / 256)
    rw [t123 _ (by omega), ih]
theorem st3lt : ∀ k m, m < 256 ^ k → lowb k m → m + m / 16 < 256 ^ k := by
  intro k
  induction k with
  | zero => intro m h _; simp at h; subst h; decide
  | succ k ih =>
    intro m h hl
    obtain ⟨l1, l2, l3⟩ := hl
    have hq : m / 256 < 256 ^ k := Nat.div_lt_of_lt_mul (by rw [Nat.pow_succ, Nat.mul_comm] at h; exact h)
    have h2 := ih (m / 256) hq l3
    have l4 : m / 256 % 16 ≤ 4 := by
      cases k with
      | zero => simp at hq; omega
      | succ k => have := l3.1; omega
    rw [Nat.pow_succ]
    omega
theorem pc_add : ∀ a b m, pc (a + b) m = pc a m + pc b (m / 2 ^ a) := by
  intro a
  induction a with
  | zero => intro b m; simp [pc]
  | succ a ih =>
    intro b m
    rw [show a + 1 + b = (a + b) + 1 by omega]
    show m % 2 + pc (a + b) (m / 2) = m % 2 + pc a (m / 2) + pc b (m / 2 ^ (a + 1))
    rw [ih, Nat.div_div_eq_div_mul, ← Nat.pow_succ', Nat.add_assoc]
theorem pc_mod : ∀ k m, pc k (m % 2 ^ k) = pc k m := by
  intro k
  induction k with
  | zero => intro m; rfl
  | succ k ih =>
    intro m
    show m % 2 ^ (k + 1) % 2 + pc k (m % 2 ^ (k + 1) / 2) = m % 2 + pc k (m / 2)
    have e1 : m % 2 ^ (k + 1) % 2 = m % 2 := Nat.mod_mod_of_dvd _ ⟨2 ^ k, by rw [Nat.pow_succ, Nat.mul_comm]⟩
    have e2 : m % 2 ^ (k + 1) / 2 = m / 2 % 2 ^ k := by rw [Nat.pow_succ, Nat.mul_comm, Nat.mod_mul_right_div_self]
    rw [e1, e2, ih]
theorem pc_le : ∀ k m, pc k m ≤ k := by
  intro k
  induction k with
  | zero => intro m; exact Nat.le_refl _
  | succ k ih =>
    intro m
    have := ih (m / 2)
    show m % 2 + pc k (m / 2) ≤ k + 1
    omega
theorem div_o {y B L U : Nat} (h : y = L + B * U) (hL : L < B) : y / B = U := by
  rw [h, Nat.add_mul_div_left _ _ (by omega), Nat.div_eq_of_lt hL, Nat.zero_add]
theorem sa1 (b0 b1 b2 b3 b4 b5 b6 b7 : Nat) : (b0 + 256 * (b1 + 256 * (b2 + 256 * (b3 + 256 * (b4 + 256 * (b5 + 256 * (b6 + 256 * b7))))))) + (b1 + 256 * (b2 + 256 * (b3 + 256 * (b4 + 256 * (b5 + 256 * (b6 + 256 * b7)))))) = ((b0 + b1) + 256 * (b1 + b2)) + 65536 * ((b2 + b3) + 256 * (b3 + b4) + 65536 * ((b4 + b5) + 256 * (b5 + b6) + 65536 * ((b6 + b7) + 256 * b7))) := by omega
theorem sa2 (b0 b1 b2 b3 b4 b5 b6 b7 : Nat) : (((b0 + b1) + 256 * (b1 + b2)) + 65536 * ((b2 + b3) + 256 * (b3 + b4) + 65536 * ((b4 + b5) + 256 * (b5 + b6) + 65536 * ((b6 + b7) + 256 * b7)))) + ((b2 + b3) + 256 * (b3 + b4) + 65536 * ((b4 + b5) + 256 * (b5 + b6) + 65536 * ((b6 + b7) + 256 * b7))) = ((b0 + b1 + b2 + b3) + 256 * (b1 + b2 + b3 + b4) + 65536 * ((b2 + b3 + b4 + b5) + 256 * (b3 + b4 + b5 + b6))) + 4294967296 * ((b4 + b5 + b6 + b7) + 256 * (b5 + b6 + b7) + 65536 * ((b6 + b7) + 256 * b7)) := by omega
theorem sa3 (b0 b1 b2 b3 b4 b5 b6 b7 : Nat) : (((b0 + b1 + b2 + b3) + 256 * (b1 + b2 + b3 + b4) + 65536 * ((b2 + b3 + b4 + b5) + 256 * (b3 + b4 + b5 + b6))) + 4294967296 * ((b4 + b5 + b6 + b7) + 256 * (b5 + b6 + b7) + 65536 * ((b6 + b7) + 256 * b7))) + ((b4 + b5 + b6 + b7) + 256 * (b5 + b6 + b7) + 65536 * ((b6 + b7) + 256 * b7)) = (b0 + b1 + b2 + b3 + b4 + b5 + b6 + b7) + 128 * (2 * ((b1 + b2 + b3 + b4 + b5 + b6 + b7) + 256 * ((b2 + b3 + b4 + b5 + b6 + b7) + 256 * ((b3 + b4 + b5 + b6 + b7) + 256 * ((b4 + b5 + b6 + b7) + 256 * ((b5 + b6 + b7) + 256 * ((b6 + b7) + 256 * b7))))))) := by omega
theorem sb1 {b0 b1 b2 b3 b4 b5 b6 b7 : Nat} (h0 : b0 ≤ 8) (h1 : b1 ≤ 8) (h2 : b2 ≤ 8) (h3 : b3 ≤ 8) (h4 : b4 ≤ 8) (h5 : b5 ≤ 8) (h6 : b6 ≤ 8) (h7 : b7 ≤ 8) : ((b0 + b1) + 256 * (b1 + b2)) + 65536 * ((b2 + b3) + 256 * (b3 + b4) + 65536 * ((b4 + b5) + 256 * (b5 + b6) + 65536 * ((b6 + b7) + 256 * b7))) < 18446744073709551616 ∧ ((b0 + b1 + b2 + b3) + 256 * (b1 + b2 + b3 + b4) + 65536 * ((b2 + b3 + b4 + b5) + 256 * (b3 + b4 + b5 + b6))) + 4294967296 * ((b4 + b5 + b6 + b7) + 256 * (b5 + b6 + b7) + 65536 * ((b6 + b7) + 256 * b7)) < 18446744073709551616 ∧ (b0 + b1 + b2 + b3 + b4 + b5 + b6 + b7) + 128 * (2 * ((b1 + b2 + b3 + b4 + b5 + b6 + b7) + 256 * ((b2 + b3 + b4 + b5 + b6 + b7) + 256 * ((b3 + b4 + b5 + b6 + b7) + 256 * ((b4 + b5 + b6 + b7) + 256 * ((b5 + b6 + b7) + 256 * ((b6 + b7) + 256 * b7))))))) < 18446744073709551616 := by omega
theorem sumb {b0 b1 b2 b3 b4 b5 b6 b7 y y1 y2 y3 : Nat} (h0 : b0 ≤ 8) (h1 : b1 ≤ 8) (h2 : b2 ≤ 8) (h3 : b3 ≤ 8) (h4 : b4 ≤ 8) (h5 : b5 ≤ 8) (h6 : b6 ≤ 8) (h7 : b7 ≤ 8)
    (hy : y = b0 + 256 * (b1 + 256 * (b2 + 256 * (b3 + 256 * (b4 + 256 * (b5 + 256 * (b6 + 256 * b7))))))) (hy1 : y1 = y + y / 256) (hy2 : y2 = y1 + y1 / 65536) (hy3 : y3 = y2 + y2 / 4294967296) :
    y1 < 18446744073709551616 ∧ y2 < 18446744073709551616 ∧ y3 < 18446744073709551616 ∧ y3 % 128 = b0 + b1 + b2 + b3 + b4 + b5 + b6 + b7 := by
  have g0 : b0 < 256 := by clear hy hy1 hy2 hy3; omega
  have g1 : (b0 + b1) + 256 * (b1 + b2) < 65536 := by clear hy hy1 hy2 hy3; omega
  have g2 : ((b0 + b1 + b2 + b3) + 256 * (b1 + b2 + b3 + b4) + 65536 * ((b2 + b3 + b4 + b5) + 256 * (b3 + b4 + b5 + b6))) < 4294967296 := by clear hy hy1 hy2 hy3; omega
  have g3 : b0 + b1 + b2 + b3 + b4 + b5 + b6 + b7 < 128 := by clear hy hy1 hy2 hy3; omega
  have gb := sb1 h0 h1 h2 h3 h4 h5 h6 h7
  rw [div_o hy g0, hy, sa1] at hy1
  rw [div_o hy1 g1, hy1, sa2] at hy2
  rw [div_o hy2 g2, hy2, sa3] at hy3
  refine ⟨by rw [hy1]; exact gb.1, by rw [hy2]; exact gb.2.1, by rw [hy3]; exact gb.2.2, ?_⟩
  rw [hy3, Nat.add_mul_mod_self_left, Nat.mod_eq_of_lt g3]
theorem nI_127 (m : Nat) : nI m &&& 127 = nI (m % 128) := by
  rw [pk_and (nI m) (m := 127) 7 (by decide)]
  have h : (nI m).toBitVec.toNat = m % 2 ^ 32 := BitVec.toNat_ofNat m 32
  rw [h]
  congr 1
  omega
