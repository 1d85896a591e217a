/-! PURE: a node's charge, both sides -/
/-- are the l characters from place b on all of class 1? -/
def allH (c : Nat → Nat) (b l : Nat) : Bool := decide (∀ q, q < l → c (b + q) / 64 = 1)
/-- the charge of a node without cuts -/
def chg (ha ot : Int32) (c : Nat → Nat) (b l : Nat) : Int32 := if allH c b l = true ∧ 2 < l then ha * (nI l - 2) else if 4 < l then ot * (nI l - 4) else 0
theorem allH_s {c : Nat → Nat} {b i : Nat} : allH c b (i + 1) = (allH c b i && decide (c (b + i) / 64 = 1)) := by
  unfold allH
  rw [← Bool.decide_and]
  apply decide_eq_decide.mpr
  constructor
  · intro h; exact ⟨fun q hq => h q (by omega), h i (by omega)⟩
  · rintro ⟨h1, h2⟩ q hq
    by_cases e : q = i
    · rw [e]; exact h2
    · exact h1 q (by omega)
theorem chargeM_89 {ν : Mem} {l n : Nat} (hl : l ≤ 8) : f_Mo_chargeOf_89 ν n (nI l) = some (if 4 < l then ν.1 0 14 * (nI l - 4) else 0) := by
  unfold f_Mo_chargeOf_89
  by_cases h : 4 < l
  · rw [if_neg (show ¬ nI l ≤ 4 from nI_ge (a := 4) h (by omega)), if_pos h]
  · rw [if_pos (show nI l ≤ 4 from nI_le (b := 4) (by omega) (by decide)), if_neg h]
theorem chargeM_l {ν : Mem} {s b l : Nat} {c : Nat → Nat} (hs : s ≤ 24) (hd : ∀ j, j < s → c j ≤ 255 ∧ ν.1 1 j = nI (c j)) (hb : b + l ≤ s) (hl : l ≤ 8) : ∀ j i n, i + j = l → j < n → f_Mo_chargeOf_28 ν n (nI b) (nI l) (allH c b i) (nI i) = some (chg (ν.1 0 13) (ν.1 0 14) c b l) := by
  intro j
  induction j with
  | zero =>
    intro i n hi hn
    obtain ⟨n, rfl⟩ : ∃ z, n = z + 1 := ⟨n - 1, by omega⟩
    have e : i = l := by omega
    subst e
    rw [f_Mo_chargeOf_28, if_pos (nI_le (by omega) (by omega)), chargeM_89 hl]
    unfold chg
    cases ha : allH c b i with
    | false => rw [if_pos bzf, if_neg (show ¬ (false = true ∧ 2 < i) from fun z => absurd z.1 (by decide))]
    | true =>
      rw [if_neg (by decide)]
      by_cases h2 : 2 < i
      · rw [if_neg (show ¬ nI i ≤ 2 from nI_ge (a := 2) h2 (by omega)), if_pos ⟨rfl, h2⟩]
      · rw [if_pos (show nI i ≤ 2 from nI_le (b := 2) (by omega) (by decide)), if_neg (show ¬ (true = true ∧ 2 < i) from fun z => h2 z.2)]
  | succ j ih =>
    intro i n hi hn
    obtain ⟨n, rfl⟩ : ∃ z, n = z + 1 := ⟨n - 1, by omega⟩
    have a := hd (b + i) (by omega)
    have i1 := ih (i + 1) n (by omega) (by omega)
    rw [f_Mo_chargeOf_28, if_neg (nI_ge (by omega) (by omega))]
    unfold f_Mo_chargeOf_59 f_Mo_chargeOf_60
    rw [bd_e, bd_e, nI_1, ← i1, allH_s]
    cases ha : allH c b i with
    | false => rw [if_pos bzf]; rfl
    | true =>
      rw [if_neg (by decide), nI_add, gd_i (by rw [nI_toInt (by omega)]; omega), nI_clamp (by omega), a.2, div64 a.1]
      by_cases h : c (b + i) / 64 = 1
      · rw [if_pos (by rw [h]; rfl), h]; rfl
      · rw [if_neg (show ¬ nI (c (b + i) / 64) = 1 from fun z => h ((nI_eq (b := 1) (by omega) (by decide)).mp z)), decide_eq_false h]; rfl
theorem chargeM_v {ν : Mem} {s b l n : Nat} {c : Nat → Nat} (hs : s ≤ 24) (hd : ∀ j, j < s → c j ≤ 255 ∧ ν.1 1 j = nI (c j)) (hb : b + l ≤ s) (hl : l ≤ 8) (hn : 8 < n) : f_Mo_chargeOf_22 ν n (nI b) (nI l) = some (chg (ν.1 0 13) (ν.1 0 14) c b l) := by
  have e := chargeM_l hs hd hb hl l 0 n (by omega) (by omega)
  have e0 : allH c b 0 = true := decide_eq_true (fun q hq => by omega)
  rw [e0] at e
  exact e
theorem chargeX_18 {μ : Mem} {l n : Nat} (hl : l ≤ 8) : f_Grammar_charge_18 μ n (nI l) = some (if 4 < l then μ.1 10 5 * (nI l - 4) else 0) := by
  unfold f_Grammar_charge_18
  by_cases h : 4 < l
  · rw [if_neg (show ¬ nI l ≤ 4 from nI_ge (a := 4) h (by omega)), if_pos h]
  · rw [if_pos (show nI l ≤ 4 from nI_le (b := 4) (by omega) (by decide)), if_neg h]
theorem chargeX_v {μ : Mem} {c : Nat → Nat} {b l n : Nat} (hl : l ≤ 8) : f_Grammar_charge n μ (nI l) (bz (allH c b l)) = some (chg (μ.1 10 4) (μ.1 10 5) c b l) := by
  unfold f_Grammar_charge
  rw [chargeX_18 hl]
  unfold chg
  by_cases h2 : 2 < l
  · rw [if_neg (show ¬ nI l ≤ 2 from nI_ge (a := 2) h2 (by omega))]
    cases ha : allH c b l with
    | true => rw [if_neg (by decide), if_pos ⟨rfl, h2⟩]
    | false =>
      rw [if_pos bzf, if_neg (show ¬ (false = true ∧ 2 < l) from fun z => absurd z.1 (by decide))]
  · rw [if_pos (show nI l ≤ 2 from nI_le (b := 2) (by omega) (by decide)), if_neg (show ¬ (allH c b l = true ∧ 2 < l) from fun z => h2 z.2)]
/-- Texts.isAllOf on the draft's text is allH -/
theorem allH_x {s b l n : Nat} {c : Nat → Nat} (hc : ∀ j, j < s → 1 ≤ c j ∧ c j ≤ 255) (hb : b + l ≤ s) (hl : l ≤ 8) (hn : 8 < n) : f_Texts_isAllOf n 1 (lN (tv (fun q => c (b + q)) l)) (nI l) = some (allH c b l) := by
  have e := all_v (m := tv (fun q => c (b + q)) l) (k := 1) (len := l) (n := n) (tv64 hl (fun k hk => (hc (b + k) (by omega)).2)) (by decide) hl hn
  have e : f_Texts_isAllOf n 1 (lN (tv (fun q => c (b + q)) l)) (nI l) = _ := e
  rw [e]
  congr 1
  unfold allH
  apply decide_eq_decide.mpr
  constructor
  · intro h q hq
    have := h q hq
    rw [tv_ch l (fun k hk => (hc (b + k) (by omega)).2) q hq] at this
    exact this
  · intro h q hq
    rw [tv_ch l (fun k hk => (hc (b + k) (by omega)).2) q hq]
    exact h q hq
