/-! PURE: small predicates of both sides, by numbers -/
theorem i_lt (a b : Int32) : a < b ↔ a.toInt < b.toInt := Int32.lt_iff_toInt_lt
theorem i_le (a b : Int32) : a ≤ b ↔ a.toInt ≤ b.toInt := Int32.le_iff_toInt_le
theorem i_eq (a b : Int32) : a = b ↔ a.toInt = b.toInt := Int32.toInt_inj.symm
theorem bz_0 (b : Bool) : bz b = 0 ↔ b = false := by cases b <;> simp [bz]
theorem lc_0 (x y : Int64) : lg_cmp x y = 0 ↔ x = y := by
  unfold lg_cmp
  split
  · rename_i h
    exact ⟨fun h1 => absurd h1 (by decide), fun h1 => absurd h1.symm (lg_lt_ne h)⟩
  · split
    · rename_i h; exact ⟨fun _ => h, fun _ => rfl⟩
    · rename_i h; exact ⟨fun h1 => absurd h1 (by decide), fun h1 => absurd h1 h⟩
theorem in_v (n : Nat) (a lo hi : Int32) : f_Mo_in n a lo hi = some (decide (lo.toInt ≤ a.toInt ∧ a.toInt ≤ hi.toInt)) := by
  unfold f_Mo_in
  simp only [i_lt]
  split
  · rw [decide_eq_false (by omega)]
  · split
    · rw [decide_eq_false (by omega)]
    · rw [decide_eq_true (by omega)]
theorem isCost_v (n : Nat) (a : Int32) : f_X_isCost n a = some (decide (-10000 ≤ a.toInt ∧ a.toInt ≤ 10000)) := by
  unfold f_X_isCost
  simp only [i_lt, show (-10000 : Int32).toInt = -10000 from by decide, show (10000 : Int32).toInt = 10000 from by decide]
  split
  · rw [decide_eq_false (by omega)]
  · split
    · rw [decide_eq_false (by omega)]
    · rw [decide_eq_true (by omega)]
theorem isPart_v (n : Nat) (a : Int32) : f_X_isPart n a = some (decide (0 ≤ a.toInt ∧ a.toInt ≤ 7)) := by
  unfold f_X_isPart
  simp only [i_lt, i_le, show (0 : Int32).toInt = 0 from by decide, show (8 : Int32).toInt = 8 from by decide]
  split
  · rw [decide_eq_false (by omega)]
  · split
    · rw [decide_eq_false (by omega)]
    · rw [decide_eq_true (by omega)]
theorem isWordPart_v (n : Nat) (a : Int32) : f_X_isWordPart n a = some (decide (1 ≤ a.toInt ∧ a.toInt ≤ 7)) := by
  unfold f_X_isWordPart
  rw [isPart_v, cl_s]
  simp only [i_eq a, show (0 : Int32).toInt = 0 from by decide, bz_0, decide_eq_false_iff_not]
  split
  · rw [decide_eq_false (by omega)]
  · split
    · rw [decide_eq_false (by omega)]
    · rw [decide_eq_true (by omega)]
theorem inb_iff {i : Int32} {n : Nat} : inb i n = true ↔ 0 ≤ i.toInt ∧ i.toInt < n := by
  simp only [inb, Bool.and_eq_true, Bool.not_eq_true', decide_eq_false_iff_not, decide_eq_true_eq, i_lt, show (0 : Int32).toInt = 0 from by decide]
  constructor
  · intro ⟨h1, h2⟩
    refine ⟨by omega, ?_⟩
    have h9 : i.toNatClampNeg = i.toInt.toNat := rfl
    omega
  · intro ⟨h1, h2⟩
    refine ⟨by omega, ?_⟩
    have h9 : i.toNatClampNeg = i.toInt.toNat := rfl
    omega
theorem gd_i {β : Type} {i : Int32} {n : Nat} {x : Option β} (h : 0 ≤ i.toInt ∧ i.toInt < n) : gd (inb i n) x = x := by rw [inb_iff.mpr h]; rfl
theorem v_0 : (0 : Int32).toInt = 0 := by decide
theorem v_1 : (1 : Int32).toInt = 1 := by decide
theorem v_m1 : (-1 : Int32).toInt = -1 := by decide
theorem v_2 : (2 : Int32).toInt = 2 := by decide
theorem v_3 : (3 : Int32).toInt = 3 := by decide
theorem v_4 : (4 : Int32).toInt = 4 := by decide
theorem v_6 : (6 : Int32).toInt = 6 := by decide
theorem v_7 : (7 : Int32).toInt = 7 := by decide
theorem v_8 : (8 : Int32).toInt = 8 := by decide
theorem v_19 : (19 : Int32).toInt = 19 := by decide
theorem v_24 : (24 : Int32).toInt = 24 := by decide
theorem v_40 : (40 : Int32).toInt = 40 := by decide
theorem v_10k : (10000 : Int32).toInt = 10000 := by decide
theorem v_m10k : (-10000 : Int32).toInt = -10000 := by decide
/-- rule: both sides refuse alike; else each writes its own rows -/
def ruleOK (a1 a2 a3 a4 : Int32) : Prop := (0 ≤ a1.toInt ∧ a1.toInt ≤ 3) ∧ (0 ≤ a2.toInt ∧ a2.toInt ≤ 19) ∧ (1 ≤ a3.toInt ∧ a3.toInt ≤ 7) ∧ (-10000 ≤ a4.toInt ∧ a4.toInt ≤ 10000)
def ruleX (μ : Mem) (a1 a2 a3 a4 : Int32) : Mem := wi (wi (wi (wi μ 11 a1.toNatClampNeg a2) 12 a1.toNatClampNeg a3) 13 a1.toNatClampNeg a4) 0 10 0
def ruleM (μ : Mem) (a1 a2 a3 a4 : Int32) : Mem := wi (wi (wi μ 8 a1.toNatClampNeg a2) 9 a1.toNatClampNeg a3) 10 a1.toNatClampNeg a4
theorem rule_x (n : Nat) (μ : Mem) (a1 a2 a3 a4 : Int32) : (ruleOK a1 a2 a3 a4 → f_X_rule n μ a1 a2 a3 a4 = some (true, ruleX μ a1 a2 a3 a4)) ∧ (¬ ruleOK a1 a2 a3 a4 → f_X_rule n μ a1 a2 a3 a4 = some (false, μ)) := by
  unfold f_X_rule ruleOK
  simp only [isWordPart_v, isCost_v, cl_s, bz_0, decide_eq_false_iff_not, i_lt, i_le, v_0, v_4, v_19]
  constructor
  · intro h
    rw [if_neg (by omega), if_neg (by omega), if_neg (by omega), if_pos (by omega), if_neg (by omega), if_neg (by omega)]
    unfold f_Grammar_setRule
    simp only [gd_i (i := a1) (n := 4) (by omega), bd, cl_s]
    rfl
  · intro h
    repeat' split
    all_goals first | rfl | (exfalso; omega)
theorem rule_m (n : Nat) (μ : Mem) (a1 a2 a3 a4 : Int32) : (ruleOK a1 a2 a3 a4 → f_Mo_rule n μ a1 a2 a3 a4 = some (true, ruleM μ a1 a2 a3 a4)) ∧ (¬ ruleOK a1 a2 a3 a4 → f_Mo_rule n μ a1 a2 a3 a4 = some (false, μ)) := by
  unfold f_Mo_rule ruleOK
  simp only [in_v, cl_s, bz_0, decide_eq_false_iff_not, v_0, v_1, v_3, v_7, v_19, v_10k, v_m10k]
  constructor
  · intro h
    rw [if_neg (by omega), if_neg (by omega), if_neg (by omega), if_neg (by omega)]
    simp only [gd_i (i := a1) (n := 4) (by omega), bd]
    rfl
  · intro h
    repeat' split
    all_goals first | rfl | (exfalso; omega)
def linkOK (a1 a2 a3 : Int32) : Prop := (0 ≤ a1.toInt ∧ a1.toInt ≤ 7) ∧ (0 ≤ a2.toInt ∧ a2.toInt ≤ 7) ∧ (-10000 ≤ a3.toInt ∧ a3.toInt ≤ 10000)
theorem ix8 {a1 a2 : Int32} (h1 : 0 ≤ a1.toInt ∧ a1.toInt ≤ 7) (h2 : 0 ≤ a2.toInt ∧ a2.toInt ≤ 7) : (a1 * 8 + a2).toInt = 8 * a1.toInt + a2.toInt ∧ (8 * a1 + a2).toInt = 8 * a1.toInt + a2.toInt := by
  obtain ⟨x, hx, rfl⟩ := nI_of2 (M := 7) (n := 7) (by decide) (x := a1) (by rw [i_lt, v_0]; omega) (by rw [i_le, v_7]; omega)
  obtain ⟨y, hy, rfl⟩ := nI_of2 (M := 7) (n := 7) (by decide) (x := a2) (by rw [i_lt, v_0]; omega) (by rw [i_le, v_7]; omega)
  have e8 : (8 : Int32) = nI 8 := by decide
  rw [e8, pk_mul, pk_mul, nI_add, nI_add, nI_toInt (by omega), nI_toInt (by omega), nI_toInt (by omega), nI_toInt (by omega)]
  omega
def linkX (μ : Mem) (a1 a2 a3 : Int32) : Mem := wi (wi μ 14 (a1 * 8 + a2).toNatClampNeg a3) 0 10 0
def linkM (μ : Mem) (a1 a2 a3 : Int32) : Mem := wi μ 11 (8 * a1 + a2).toNatClampNeg a3
theorem link_x (n : Nat) (μ : Mem) (a1 a2 a3 : Int32) : (linkOK a1 a2 a3 → f_X_link n μ a1 a2 a3 = some (true, linkX μ a1 a2 a3)) ∧ (¬ linkOK a1 a2 a3 → f_X_link n μ a1 a2 a3 = some (false, μ)) := by
  unfold f_X_link linkOK
  simp only [isPart_v, isCost_v, cl_s, bz_0, decide_eq_false_iff_not]
  constructor
  · intro h
    have h8 := ix8 h.1 h.2.1
    rw [if_neg (by omega), if_neg (by omega), if_neg (by omega)]
    unfold f_Grammar_setLink
    simp only [gd_i (i := a1 * 8 + a2) (n := 64) (by omega), bd, cl_s]
    rfl
  · intro h
    repeat' split
    all_goals first | rfl | (exfalso; omega)
theorem link_m (n : Nat) (μ : Mem) (a1 a2 a3 : Int32) : (linkOK a1 a2 a3 → f_Mo_link n μ a1 a2 a3 = some (true, linkM μ a1 a2 a3)) ∧ (¬ linkOK a1 a2 a3 → f_Mo_link n μ a1 a2 a3 = some (false, μ)) := by
  unfold f_Mo_link linkOK
  simp only [in_v, cl_s, bz_0, decide_eq_false_iff_not, v_0, v_7, v_10k, v_m10k]
  constructor
  · intro h
    have h8 := ix8 h.1 h.2.1
    rw [if_neg (by omega), if_neg (by omega), if_neg (by omega)]
    simp only [gd_i (i := 8 * a1 + a2) (n := 64) (by omega), bd]
    rfl
  · intro h
    repeat' split
    all_goals first | rfl | (exfalso; omega)
def modeOK (a1 a2 : Int32) : Prop := (0 ≤ a1.toInt ∧ a1.toInt ≤ 10000) ∧ (0 ≤ a2.toInt ∧ a2.toInt ≤ 10000)
def modeX (μ : Mem) (a1 a2 : Int32) : Mem := wi (wi (wi μ 10 4 a1) 10 5 a2) 0 10 0
def modeM (μ : Mem) (a1 a2 : Int32) : Mem := wi (wi μ 0 13 a1) 0 14 a2
theorem mode_x (n : Nat) (μ : Mem) (a1 a2 : Int32) : (modeOK a1 a2 → f_X_mode n μ a1 a2 = some (true, modeX μ a1 a2)) ∧ (¬ modeOK a1 a2 → f_X_mode n μ a1 a2 = some (false, μ)) := by
  unfold f_X_mode modeOK
  simp only [i_lt, i_le, v_0, v_10k]
  constructor
  · intro h
    rw [if_neg (by omega), if_neg (by omega), if_neg (by omega), if_pos (by omega)]
    rfl
  · intro h
    repeat' split
    all_goals first | rfl | (exfalso; omega)
theorem mode_m (n : Nat) (μ : Mem) (a1 a2 : Int32) : (modeOK a1 a2 → f_Mo_mode n μ a1 a2 = some (true, modeM μ a1 a2)) ∧ (¬ modeOK a1 a2 → f_Mo_mode n μ a1 a2 = some (false, μ)) := by
  unfold f_Mo_mode modeOK
  simp only [in_v, cl_s, bz_0, decide_eq_false_iff_not, v_0, v_10k]
  constructor
  · intro h
    rw [if_neg (by omega), if_neg (by omega)]
    rfl
  · intro h
    repeat' split
    all_goals first | rfl | (exfalso; omega)
def chainOK (a1 a2 : Int32) : Prop := ((a1.toInt = 0 ∨ a1.toInt = 3) ∧ 1 ≤ a2.toInt ∧ a2.toInt ≤ 7) ∨ ((a1.toInt = 1 ∨ a1.toInt = 2) ∧ a2.toInt = 0)
theorem isFilter_v (n : Nat) (a1 a2 : Int32) : (chainOK a1 a2 → f_Filters_isFilter n a1 a2 = some true) ∧ (¬ chainOK a1 a2 → f_Filters_isFilter n a1 a2 = some false) := by
  unfold f_Filters_isFilter f_Filters_isFilter_32 f_Filters_isFilter_49 chainOK
  simp only [i_lt, i_eq, v_0, v_1, v_2, v_3, v_7]
  constructor
  · intro h
    repeat' split
    all_goals first | rfl | (exfalso; omega)
  · intro h
    repeat' split
    all_goals first | rfl | (exfalso; omega)
def chX (μ : Mem) (c : Nat) (a1 a2 : Int32) : Mem := wi (wi (wi μ 16 c a1) 17 c a2) 15 2 (nI c + 1)
def chM (μ : Mem) (c : Nat) (a1 a2 : Int32) : Mem := wi (wi (wi μ 12 c a1) 13 c a2) 0 17 (nI c + 1)
theorem chain_x (n : Nat) (μ : Mem) (a1 a2 : Int32) (c : Nat) (hc : c ≤ 6) (h0 : μ.1 15 2 = nI c) : (a1 = -1 → f_X_chain n μ a1 a2 = some (true, wi μ 15 2 0)) ∧ (¬ a1 = -1 → chainOK a1 a2 ∧ c < 6 → f_X_chain n μ a1 a2 = some (true, chX μ c a1 a2)) ∧ (¬ a1 = -1 → ¬ (chainOK a1 a2 ∧ c < 6) → f_X_chain n μ a1 a2 = some (false, μ)) := by
  have hci : (nI c).toInt = c := nI_toInt (by omega)
  refine ⟨fun h => ?_, fun h h1 => ?_, fun h h1 => ?_⟩
  · unfold f_X_chain
    rw [if_pos h]
    rfl
  · unfold f_X_chain f_Filters_append
    rw [if_neg h, h0, if_neg (by rw [i_le, v_6, hci]; omega), (isFilter_v n a1 a2).1 h1.1]
    simp only [cl_s, bz_0, Bool.true_eq_false, if_false, Bool.false_eq_true, reduceCtorEq]
    rw [gd_i (by rw [hci]; omega)]
    simp only [bd]
    have e1 : (wi μ 16 (nI c).toNatClampNeg a1).1 15 2 = nI c := h0
    rw [e1, gd_i (by rw [hci]; omega)]
    have e2 : (wi (wi μ 16 (nI c).toNatClampNeg a1) 17 (nI c).toNatClampNeg a2).1 15 2 = nI c := h0
    rw [e2, cl2_s, nI_clamp (by omega)]
    rfl
  · unfold f_X_chain f_Filters_append
    rw [if_neg h, h0]
    by_cases h6 : c < 6
    · rw [if_neg (by rw [i_le, v_6, hci]; omega), (isFilter_v n a1 a2).2 (fun z => h1 ⟨z, h6⟩)]
      rfl
    · rw [if_pos (by rw [i_le, v_6, hci]; omega)]
      rfl
theorem chain_m (n : Nat) (μ : Mem) (a1 a2 : Int32) (c : Nat) (hc : c ≤ 6) (h0 : μ.1 0 17 = nI c) : (a1 = -1 → f_Mo_chain n μ a1 a2 = some (true, wi μ 0 17 0)) ∧ (¬ a1 = -1 → chainOK a1 a2 ∧ c < 6 → f_Mo_chain n μ a1 a2 = some (true, chM μ c a1 a2)) ∧ (¬ a1 = -1 → ¬ (chainOK a1 a2 ∧ c < 6) → f_Mo_chain n μ a1 a2 = some (false, μ)) := by
  have hci : (nI c).toInt = c := nI_toInt (by omega)
  have key : ∀ s0 : Bool, f_Mo_chain_50 n μ a1 a2 s0 = if s0 = true ∧ c < 6 then some (true, chM μ c a1 a2) else some (false, μ) := by
    intro s0
    unfold f_Mo_chain_50
    rw [h0]
    cases s0
    · simp [bz_0]
    · by_cases h6 : c < 6
      · rw [if_neg (by rw [bz_0]; decide), if_pos (by rw [i_lt, v_6, hci]; omega), if_pos ⟨rfl, h6⟩, gd_i (by rw [hci]; omega)]
        simp only [bd]
        have e1 : (wi μ 12 (nI c).toNatClampNeg a1).1 0 17 = nI c := h0
        rw [e1, gd_i (by rw [hci]; omega)]
        have e2 : (wi (wi μ 12 (nI c).toNatClampNeg a1) 13 (nI c).toNatClampNeg a2).1 0 17 = nI c := h0
        rw [e2, nI_clamp (by omega)]
        rfl
      · rw [if_neg (by rw [bz_0]; decide), if_neg (by rw [i_lt, v_6, hci]; omega), if_neg (fun z => h6 z.2)]
  have k21 : f_Mo_chain_21 n μ a1 a2 = if (1 ≤ a2.toInt ∧ a2.toInt ≤ 7) ∧ c < 6 then some (true, chM μ c a1 a2) else some (false, μ) := by
    unfold f_Mo_chain_21
    rw [in_v, cl_s, key, v_1, v_7]
    simp only [decide_eq_true_eq]
  have k49 : f_Mo_chain_49 n μ a1 a2 = some (false, μ) := by
    unfold f_Mo_chain_49
    rw [key]
    simp
  have k41 : f_Mo_chain_41 n μ a1 a2 = if a2.toInt = 0 ∧ c < 6 then some (true, chM μ c a1 a2) else some (false, μ) := by
    unfold f_Mo_chain_41
    rw [k49, key]
    simp only [i_eq a2, v_0]
    by_cases h2 : a2.toInt = 0
    · simp [h2]
    · simp [h2]
  refine ⟨fun h => ?_, fun h h1 => ?_, fun h h1 => ?_⟩
  · unfold f_Mo_chain
    rw [if_pos h]
    rfl
  · unfold f_Mo_chain
    rw [if_neg h, k21, k41, k49]
    unfold chainOK at h1
    simp only [i_eq a1, v_0, v_1, v_2, v_3]
    repeat' split
    all_goals first | rfl | (exfalso; omega)
  · unfold f_Mo_chain
    rw [if_neg h, k21, k41, k49]
    unfold chainOK at h1
    simp only [i_eq a1, v_0, v_1, v_2, v_3]
    repeat' split
    all_goals first | rfl | (exfalso; omega)
