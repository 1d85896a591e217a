/-! PURE: Texts.first, isAllOf; Lexicon.begins against standsAt; runs of a class -/
theorem first_v {m k : Nat} (hm : m < 2 ^ 64) (hk : k ≤ 8) (n : Nat) : f_Texts_first n (lN m) (nI k) = some (lN (m % 2 ^ (8 * k))) := by
  unfold f_Texts_first
  by_cases h : k < 8
  · have e1 : (8 : Int32) * nI k = nI (8 * k) := by rw [show (8 : Int32) = nI 8 from by decide, pk_mul]
    have hp : 0 < 2 ^ (8 * k) := Nat.two_pow_pos _
    rw [if_pos (show nI k < 8 from nI_lt (b := 8) h (by decide)), e1, show (1 : Int64) = lN 1 from by decide, wb_shl 1 (by omega), Nat.one_mul, lN_sub (by omega), wb_mask hm (by omega)]
  · have e : k = 8 := by omega
    subst e
    rw [if_neg (by decide), Nat.mod_eq_of_lt hm]
theorem tv_mod {f : Nat → Nat} {t : Nat} (h : ∀ k, k < t → f k ≤ 255) : ∀ l, tv f t % 2 ^ (8 * l) = tv f (min l t) := by
  intro l
  by_cases hl : t ≤ l
  · rw [Nat.min_eq_right hl, Nat.mod_eq_of_lt (Nat.lt_of_lt_of_le (tv_lt t h) (Nat.pow_le_pow_right (by decide) (by omega)))]
  · rw [Nat.min_eq_left (by omega)]
    have key : ∀ j, l + j ≤ t → tv f (l + j) % 2 ^ (8 * l) = tv f l := by
      intro j
      induction j with
      | zero => intro _; exact Nat.mod_eq_of_lt (tv_lt l (fun k hk => h k (by omega)))
      | succ j ih =>
        intro hj
        show (tv f (l + j) + f (l + j) * 2 ^ (8 * (l + j))) % 2 ^ (8 * l) = _
        rw [Nat.mul_add, Nat.pow_add, Nat.mul_comm (2 ^ (8 * l)), ← Nat.mul_assoc, Nat.add_mul_mod_self_right]
        exact ih (by omega)
    have := key (t - l) (by omega)
    rw [show l + (t - l) = t by omega] at this
    exact this
/-- Lexicon.begins, on the draft's text at place p, is standsAt -/
theorem begins_v {μ ν : Mem} {ne s p e n : Nat} {le : Nat → Nat} {sf : Nat → Nat → Nat} {c : Nat → Nat} (hx : LxP μ ν ne le sf) (he : e < ne) (hc : ∀ j, j < s → 1 ≤ c j ∧ c j ≤ 255) (hp : p ≤ s) : f_Lexicon_begins n μ (nI e) (lN (tv (fun q => c (p + q)) (min 8 (s - p)))) = some (decide (p + le e ≤ s ∧ ∀ q, q < le e → sf e q = c (p + q))) := by
  have hne := hx.1.1
  obtain ⟨⟨l1, l2⟩, g2, g3, g4, g5⟩ := hx.2.1 e he
  have hg : ∀ {x : Option Bool}, gd (inb (nI e) 40) x = x := gd_i (by rw [nI_toInt (by omega)]; omega)
  have hb : ∀ k, k < min 8 (s - p) → 1 ≤ c (p + k) ∧ c (p + k) ≤ 255 := fun k hk => hc (p + k) (by omega)
  have t64 := tv64 (c := fun q => c (p + q)) (n := min 8 (s - p)) (by omega) (fun k hk => (hb k hk).2)
  have e64 := tv64 l2 (fun k hk => (g2 k hk).1.2)
  unfold f_Lexicon_begins
  rw [hg, nI_clamp (by omega), g3, first_v t64 l2, cl_s, hg, g5, tv_mod (fun k hk => (hb k hk).2)]
  have m64 := tv64 (c := fun q => c (p + q)) (n := min (le e) (min 8 (s - p))) (by omega) (fun k hk => (hb k (by omega)).2)
  have key : tv (fun q => c (p + q)) (min (le e) (min 8 (s - p))) = tv (sf e) (le e) ↔ (p + le e ≤ s ∧ ∀ q, q < le e → sf e q = c (p + q)) := by
    rw [tv_inj (by omega) l2 (fun k hk => hb k (by omega)) (fun k hk => (g2 k hk).1)]
    constructor
    · rintro ⟨a, b⟩
      exact ⟨by omega, fun q hq => (b q (by omega)).symm⟩
    · rintro ⟨a, b⟩
      exact ⟨by omega, fun q hq => (b q (by omega)).symm⟩
  by_cases h : p + le e ≤ s ∧ ∀ q, q < le e → sf e q = c (p + q)
  · rw [if_pos ((lc_0 _ _).mpr ((lN_inj m64 e64).mpr (key.mpr h))), decide_eq_true h]
  · rw [if_neg (fun z => h (key.mp ((lN_inj m64 e64).mp ((lc_0 _ _).mp z)))), decide_eq_false h]
theorem div64 {a : Nat} (h : a ≤ 255) : nI a / (64 : Int32) = nI (a / 64) := by rw [show (64 : Int32) = nI 64 from by decide, pk_div (by omega) (by decide) (by decide)]
theorem all_l {m k len : Nat} (hm : m < 2 ^ 64) (hk : k < 4) (hl : len ≤ 8) : ∀ j i n, i + j = len → j < n → (∀ q, q < i → ch m q / 64 = k) → f_Texts_isAllOf_3 n (nI k) (lN m) (nI len) (nI i) = some (decide (∀ q, q < len → ch m q / 64 = k)) := by
  intro j
  induction j with
  | zero =>
    intro i n hi hn hq
    obtain ⟨n, rfl⟩ : ∃ z, n = z + 1 := ⟨n - 1, by omega⟩
    rw [f_Texts_isAllOf_3, if_pos (nI_le (by omega) (by omega)), decide_eq_true (fun q h => hq q (by omega))]
  | succ j ih =>
    intro i n hi hn hq
    obtain ⟨n, rfl⟩ : ∃ z, n = z + 1 := ⟨n - 1, by omega⟩
    have hlt := ch_lt m i
    rw [f_Texts_isAllOf_3, if_neg (nI_ge (by omega) (by omega)), char_v hm (by omega), cl_s]
    unfold f_Texts_classOf
    rw [div64 (by omega), cl_s]
    by_cases h : ch m i / 64 = k
    · rw [if_pos (by rw [h]), bd_e, nI_1]
      exact ih (i + 1) n (by omega) (by omega) (fun q hq2 => by
        by_cases e : q = i
        · rw [e]; exact h
        · exact hq q (by omega))
    · rw [if_neg (fun z => h ((nI_eq (by omega) (by omega)).mp z)), decide_eq_false (fun z => h (z i (by omega)))]
theorem all_v {m k len n : Nat} (hm : m < 2 ^ 64) (hk : k < 4) (hl : len ≤ 8) (hn : 8 < n) : f_Texts_isAllOf n (nI k) (lN m) (nI len) = some (decide (∀ q, q < len → ch m q / 64 = k)) := all_l hm hk hl len 0 n (by omega) (by omega) (fun q hq => by omega)
/-- how far, from place p on, the characters are of one class: at most j more -/
def runF (c : Nat → Nat) (p : Nat) : Nat → Nat → Nat
  | 0, k => k
  | j + 1, k => if c (p + k) / 64 = c p / 64 then runF c p j (k + 1) else k
theorem runF_le (c : Nat → Nat) (p : Nat) : ∀ j k, k ≤ runF c p j k ∧ runF c p j k ≤ k + j := by
  intro j
  induction j with
  | zero => intro k; exact ⟨Nat.le_refl _, Nat.le_refl _⟩
  | succ j ih =>
    intro k
    unfold runF
    split
    · have := ih (k + 1); omega
    · omega
theorem classAt_v {μ : Mem} {s p n : Nat} {c : Nat → Nat} (hs : s ≤ 24) (hd : ∀ j, j < s → c j ≤ 255 ∧ μ.1 2 j = nI (c j)) (hp : p < s) : f_Draft_classAt n μ (nI p) = some (nI (c p / 64)) := by
  unfold f_Draft_classAt f_Texts_classOf
  rw [gd_i (by rw [nI_toInt (by omega)]; omega), nI_clamp (by omega), (hd p hp).2, div64 (hd p hp).1, cl_s]
theorem run_x {μ : Mem} {s p t : Nat} {c : Nat → Nat} (hs : s ≤ 24) (hd : ∀ j, j < s → c j ≤ 255 ∧ μ.1 2 j = nI (c j)) (hp : p + t ≤ s) (ht : t ≤ 8) (h1 : 1 ≤ t) : ∀ j k n, k + j = t → j < n → 1 ≤ k → f_Draft_runAt_14 μ n (nI p) (nI t) (nI k) = some (nI (runF c p j k)) := by
  intro j
  induction j with
  | zero =>
    intro k n hk hn _
    obtain ⟨n, rfl⟩ : ∃ z, n = z + 1 := ⟨n - 1, by omega⟩
    rw [f_Draft_runAt_14, if_pos (nI_le (by omega) (by omega))]
    rfl
  | succ j ih =>
    intro k n hk hn hk1
    obtain ⟨n, rfl⟩ : ∃ z, n = z + 1 := ⟨n - 1, by omega⟩
    have a := (hd (p + k) (by omega)).1
    have b := (hd p (by omega)).1
    rw [f_Draft_runAt_14, if_neg (nI_ge (by omega) (by omega)), nI_add, classAt_v hs hd (by omega), cl_s, classAt_v hs hd (by omega), cl_s]
    unfold runF
    by_cases h : c (p + k) / 64 = c p / 64
    · rw [if_pos (by rw [h]), if_pos h, bd_e, nI_1]
      exact ih (k + 1) n (by omega) (by omega) (by omega)
    · rw [if_neg (fun z => h ((nI_eq (by omega) (by omega)).mp z)), if_neg h]
theorem run_m {ν : Mem} {s p t : Nat} {c : Nat → Nat} (hs : s ≤ 24) (h0 : ν.1 0 1 = nI s) (hd : ∀ j, j < s → c j ≤ 255 ∧ ν.1 1 j = nI (c j)) (hp : t = min 8 (s - p)) (hps : p < s) : ∀ j k n, k + j = t → j < n → 1 ≤ k → f_Mo_runAt_2 ν n (nI p) (nI k) = some (nI (runF c p j k)) := by
  intro j
  induction j with
  | zero =>
    intro k n hk hn _
    obtain ⟨n, rfl⟩ : ∃ z, n = z + 1 := ⟨n - 1, by omega⟩
    rw [f_Mo_runAt_2]
    by_cases h8 : 8 ≤ k
    · rw [if_pos (show (8 : Int32) ≤ nI k from nI_le (a := 8) h8 (by omega))]
      rfl
    · rw [if_neg (show ¬ (8 : Int32) ≤ nI k from nI_ge (b := 8) (by omega) (by decide)), h0, nI_add, if_pos (nI_le (by omega) (by omega))]
      rfl
  | succ j ih =>
    intro k n hk hn hk1
    obtain ⟨n, rfl⟩ : ∃ z, n = z + 1 := ⟨n - 1, by omega⟩
    have a := hd (p + k) (by omega)
    have b := hd p (by omega)
    rw [f_Mo_runAt_2, if_neg (show ¬ (8 : Int32) ≤ nI k from nI_ge (b := 8) (by omega) (by decide)), h0, nI_add, if_neg (nI_ge (by omega) (by omega)), gd_i (by rw [nI_toInt (by omega)]; omega), gd_i (by rw [nI_toInt (by omega)]; omega), nI_clamp (by omega), nI_clamp (by omega), a.2, b.2, div64 a.1, div64 b.1]
    unfold runF
    by_cases h : c (p + k) / 64 = c p / 64
    · rw [if_pos (by rw [h]), if_pos h, bd_e, nI_1]
      exact ih (k + 1) n (by omega) (by omega) (by omega)
    · rw [if_neg (fun z => h ((nI_eq (by omega) (by omega)).mp z)), if_neg h]
/-- the run at a place, both sides -/
theorem runAt_x {μ : Mem} {s p n : Nat} {c : Nat → Nat} (hs : s ≤ 24) (h0 : μ.1 1 1 = nI s) (hd : ∀ j, j < s → c j ≤ 255 ∧ μ.1 2 j = nI (c j)) (hps : p < s) (hn : 8 < n) : f_Draft_runAt n μ (nI p) = some (nI (runF c p (min 8 (s - p) - 1) 1)) := by
  have e : (if nI (s - p) < (8 : Int32) then nI (s - p) else (8 : Int32)) = nI (min 8 (s - p)) := by
    by_cases h : s - p < 8
    · rw [if_pos (show nI (s - p) < 8 from nI_lt (b := 8) h (by decide))]; congr 1; omega
    · rw [if_neg (show ¬ nI (s - p) < 8 from nI_nlt (b := 8) (by omega) (by omega)), show min 8 (s - p) = 8 by omega]; rfl
  unfold f_Draft_runAt
  rw [h0, pk_sub (by omega), e, bd_e]
  exact run_x hs hd (by omega) (by omega) (by omega) (min 8 (s - p) - 1) 1 n (by omega) (by omega) (by omega)
theorem runAt_m {ν : Mem} {s p n : Nat} {c : Nat → Nat} (hs : s ≤ 24) (h0 : ν.1 0 1 = nI s) (hd : ∀ j, j < s → c j ≤ 255 ∧ ν.1 1 j = nI (c j)) (hps : p < s) (hn : 8 < n) : f_Mo_runAt n ν (nI p) = some (nI (runF c p (min 8 (s - p) - 1) 1)) := run_m hs h0 hd rfl hps (min 8 (s - p) - 1) 1 n (by omega) (by omega) (by omega)
