/-! PURE: texts as numbers -/
def tv (c : Nat → Nat) : Nat → Nat
  | 0 => 0
  | n + 1 => tv c n + c n * 2 ^ (8 * n)
theorem p8 (n : Nat) : 2 ^ (8 * (n + 1)) = 256 * 2 ^ (8 * n) := by rw [Nat.mul_add, Nat.pow_add, Nat.mul_comm]
theorem tv_lt {c : Nat → Nat} : ∀ n, (∀ k, k < n → c k ≤ 255) → tv c n < 2 ^ (8 * n) := by
  intro n
  induction n with
  | zero => intro _; exact Nat.two_pow_pos _
  | succ n ih =>
    intro h
    have a := ih (fun k hk => h k (by omega))
    have b := Nat.mul_le_mul_right (2 ^ (8 * n)) (h n (by omega))
    rw [p8]
    show tv c n + c n * 2 ^ (8 * n) < _
    omega
theorem tv64 {c : Nat → Nat} {n : Nat} (hn : n ≤ 8) (h : ∀ k, k < n → c k ≤ 255) : tv c n < 2 ^ 64 := Nat.lt_of_lt_of_le (tv_lt n h) (Nat.pow_le_pow_right (by decide) (by omega))
theorem tv_ch {c : Nat → Nat} : ∀ n, (∀ k, k < n → c k ≤ 255) → ∀ k, k < n → ch (tv c n) k = c k := by
  intro n
  induction n with
  | zero => intro _ k hk; omega
  | succ n ih =>
    intro h k hk
    have hl := tv_lt n (fun q hq => h q (by omega))
    show (tv c n + c n * 2 ^ (8 * n)) / 2 ^ (8 * k) % 256 = c k
    by_cases e : k = n
    · subst e
      rw [Nat.add_mul_div_right _ _ (Nat.two_pow_pos _), Nat.div_eq_of_lt hl, Nat.zero_add, Nat.mod_eq_of_lt (by have := h k (by omega); omega)]
    · have hk2 : k < n := by omega
      obtain ⟨m, rfl⟩ : ∃ m, n = k + 1 + m := ⟨n - k - 1, by omega⟩
      have e1 : c (k + 1 + m) * 2 ^ (8 * (k + 1 + m)) = (c (k + 1 + m) * 2 ^ (8 * m) * 256) * 2 ^ (8 * k) := by
        rw [show 8 * (k + 1 + m) = 8 * m + 8 + 8 * k by omega, Nat.pow_add, Nat.pow_add]
        simp only [Nat.mul_assoc]
      rw [e1, Nat.add_mul_div_right _ _ (Nat.two_pow_pos _), Nat.add_mul_mod_self_right]
      exact ih (fun q hq => h q (by omega)) k hk2
theorem tv_hi {c : Nat → Nat} {n k : Nat} (h : ∀ k, k < n → c k ≤ 255) (hk : n ≤ k) : ch (tv c n) k = 0 := by
  unfold ch
  rw [Nat.div_eq_of_lt (Nat.lt_of_lt_of_le (tv_lt n h) (Nat.pow_le_pow_right (by decide) (by omega)))]
theorem szF_tv {c : Nat → Nat} {n : Nat} (hn : n ≤ 8) (h : ∀ k, k < n → 1 ≤ c k ∧ c k ≤ 255) : ∀ j k, k + j = 8 → k ≤ n → szF (tv c n) j k = n := by
  intro j
  induction j with
  | zero => intro k hk hkn; show k = n; omega
  | succ j ih =>
    intro k hk hkn
    unfold szF
    by_cases e : k = n
    · rw [if_pos (by rw [e]; exact tv_hi (fun q hq => (h q hq).2) (Nat.le_refl _)), e]
    · have hk2 : k < n := by omega
      rw [if_neg (by rw [tv_ch n (fun q hq => (h q hq).2) k hk2]; have := (h k hk2).1; omega)]
      exact ih (k + 1) (by omega) (by omega)
theorem szT_tv {c : Nat → Nat} {n : Nat} (hn : n ≤ 8) (h : ∀ k, k < n → 1 ≤ c k ∧ c k ≤ 255) : szT (tv c n) = n := szF_tv hn h 8 0 rfl (by omega)
theorem tv_eq {f g : Nat → Nat} : ∀ n, (∀ k, k < n → f k = g k) → tv f n = tv g n := by
  intro n
  induction n with
  | zero => intro _; rfl
  | succ n ih =>
    intro h
    show tv f n + f n * _ = tv g n + g n * _
    rw [ih (fun k hk => h k (by omega)), h n (by omega)]
theorem tv_inj {f g : Nat → Nat} {n m : Nat} (hn : n ≤ 8) (hm : m ≤ 8) (hf : ∀ k, k < n → 1 ≤ f k ∧ f k ≤ 255) (hg : ∀ k, k < m → 1 ≤ g k ∧ g k ≤ 255) : tv f n = tv g m ↔ n = m ∧ ∀ k, k < n → f k = g k := by
  constructor
  · intro e
    have e1 : n = m := by rw [← szT_tv hn hf, e, szT_tv hm hg]
    subst e1
    refine ⟨rfl, fun k hk => ?_⟩
    rw [← tv_ch n (fun q hq => (hf q hq).2) k hk, e, tv_ch n (fun q hq => (hg q hq).2) k hk]
  · rintro ⟨rfl, h⟩
    exact tv_eq n h
theorem lN_inj {a b : Nat} (ha : a < 2 ^ 64) (hb : b < 2 ^ 64) : lN a = lN b ↔ a = b := by
  constructor
  · intro h
    have h1 := congrArg (fun x : Int64 => x.toBitVec.toNat) h
    simp only [wb_tn ha, wb_tn hb] at h1
    exact h1
  · intro h; rw [h]
theorem text_l {μ : Mem} {s b t : Nat} {c : Nat → Nat} (hs : ∀ j, j < s → c j ≤ 255 ∧ μ.1 2 j = nI (c j)) (h24 : s ≤ 24) (hb : b + t ≤ s) (ht : t ≤ 8) : ∀ j k n, k + j = t → j < n → f_Draft_text_22 μ n (nI b) (nI t) (lN (tv (fun q => c (b + q)) k)) (nI k) = some (lN (tv (fun q => c (b + q)) t)) := by
  intro j
  induction j with
  | zero =>
    intro k n hk hn
    obtain ⟨n, rfl⟩ : ∃ z, n = z + 1 := ⟨n - 1, by omega⟩
    rw [f_Draft_text_22, if_pos (nI_le (by omega) (by omega)), show k = t by omega]
  | succ j ih =>
    intro k n hk hn
    obtain ⟨n, rfl⟩ : ∃ z, n = z + 1 := ⟨n - 1, by omega⟩
    have hc := hs (b + k) (by omega)
    have hlt := tv_lt (c := fun q => c (b + q)) k (fun q hq => (hs (b + q) (by omega)).1)
    have hlt2 := tv64 (c := fun q => c (b + q)) (n := k + 1) (by omega) (fun q hq => (hs (b + q) (by omega)).1)
    have e1 : (8 : Int32) * nI k = nI (8 * k) := by rw [show (8 : Int32) = nI 8 from by decide, pk_mul]
    rw [f_Draft_text_22, if_neg (nI_ge (by omega) (by omega)), nI_add, gd_i (by rw [nI_toInt (by omega)]; omega), nI_clamp (by omega), hc.2, nI_l (by omega), e1, wb_shl _ (by omega), g_or' (k := 8 * k) rfl hlt hlt2, bd_e, bd_e, nI_1]
    exact ih (k + 1) n (by omega) (by omega)
/-- Draft.text: at most 8 characters, and no more than there are -/
theorem text_v {μ : Mem} {s b len n : Nat} {c : Nat → Nat} (h0 : μ.1 1 1 = nI s) (hs : ∀ j, j < s → c j ≤ 255 ∧ μ.1 2 j = nI (c j)) (h24 : s ≤ 24) (hb : b ≤ s) (hl : len < 1000) (hn : 8 < n) : f_Draft_text n μ (nI b) (nI len) = some (lN (tv (fun q => c (b + q)) (min (min len 8) (s - b)))) := by
  have e1 : (if (8 : Int32) < nI len then (8 : Int32) else nI len) = nI (min len 8) := by
    rw [show (8 : Int32) = nI 8 from by decide]
    by_cases h : 8 < len
    · rw [if_pos (nI_lt h (by omega)), Nat.min_eq_right (by omega)]
    · rw [if_neg (nI_nlt (by omega) (by omega)), Nat.min_eq_left (by omega)]
  have e2 : (if nI (s - b) < nI (min len 8) then nI (s - b) else nI (min len 8)) = nI (min (min len 8) (s - b)) := by
    by_cases h : s - b < min len 8
    · rw [if_pos (nI_lt h (by omega))]; congr 1; omega
    · rw [if_neg (nI_nlt (by omega) (by omega))]; congr 1; omega
  unfold f_Draft_text
  rw [e1, bd_e, h0, pk_sub hb, e2, bd_e]
  exact text_l hs h24 (by omega) (by omega) (min (min len 8) (s - b)) 0 n (by omega) (by omega)
