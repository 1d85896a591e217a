/-! PURE: drop and open -/
theorem tb_or {a d : Nat} (i : Nat) : (a ||| 2 ^ d).testBit i = (a.testBit i || decide (d = i)) := by rw [Nat.testBit_or, Nat.testBit_two_pow]
/-- what drop and open leave as it was: cells of the class but 41, cells of the reference but 36, 37, 39 -/
def ShF (μ μ' ν ν' : Mem) : Prop := μ'.1 = μ.1 ∧ (∀ q, q ≠ 41 → μ'.2 q = μ.2 q) ∧ ν'.2 = ν.2 ∧ (∀ q, q ≠ 36 → q ≠ 37 → q ≠ 39 → ν'.1 q = ν.1 q)
theorem ShF.rf (μ ν : Mem) : ShF μ μ ν ν := ⟨rfl, fun _ _ => rfl, rfl, fun _ _ _ _ => rfl⟩
theorem st_drop {μ ν : Mem} {c k w dp sn : Nat} {z : Nat → Nat} (h : ShP μ ν c k w dp sn z) (a : Int32) : ∃ (r : Bool) (μ' ν' : Mem), f_X_drop 0 μ a = some (r, μ') ∧ f_Mo_drop 0 ν a = some (r, ν') ∧ (∃ w' dp', ShP μ' ν' c k w' dp' sn z) ∧ ShF μ μ' ν ν' := by
  obtain ⟨⟨hc, hk, hw, hdp, hsn, hz⟩, ⟨x1, x2, x3, x4, x5, x6⟩, ⟨m1, m2, m3⟩, hs, hd⟩ := id h
  have hci : (nI c).toInt = c := nI_toInt (by omega)
  have hin : f_Mo_in 0 a 0 (nI c - 1) = some (decide (0 ≤ a.toInt ∧ a.toInt < c)) := by
    rw [in_v, v_0, show (1 : Int32) = nI 1 from rfl, pk_sub_toInt (by omega) (by decide)]
    congr 1
    apply decide_eq_decide.mpr
    constructor <;> intro q <;> omega
  by_cases h1 : 0 ≤ a.toInt ∧ a.toInt < c
  · obtain ⟨d, hd40, rfl⟩ := nI_of2 (M := 40) (n := 40) (by decide) (x := a) (by rw [i_lt, v_0]; omega) (by rw [i_le, v_40]; omega)
    rw [nI_toInt (by omega)] at h1
    have hdc : d < c := by omega
    have eX : f_X_drop 0 μ (nI d) = if dp.testBit d = true then some (false, μ) else some (true, wl (wl μ 41 3 (lN (dp ||| 2 ^ d))) 41 2 (lN w &&& (lN (dp ||| 2 ^ d) ^^^ (-1 : Int64)))) := by
      unfold f_X_drop f_Shelf_discard
      rw [if_neg (nI_pos (by omega)), x1, if_neg (nI_ge hdc (by omega)), x4, holds_v (lt64 hdp hc) (by omega), cl_s]
      cases hb : dp.testBit d with
      | true => rfl
      | false =>
        rw [if_pos bzf, or_b (lt64 hdp hc) (by omega), bd_e, bd_e]
        show cl2 (some (true, wl (wl μ 41 3 (lN (dp ||| 2 ^ d))) 41 2 (μ.2 41 2 &&& (lN (dp ||| 2 ^ d) ^^^ (-1 : Int64))))) _ = _
        rw [x3]
        rfl
    have eM : f_Mo_drop 0 ν (nI d) = if dp.testBit d = true then some (false, ν) else some (true, wi (wi ν 37 d 1) 36 d 0) := by
      unfold f_Mo_drop
      rw [m1, hin, cl_s, if_neg (by rw [bz_0, decide_eq_false_iff_not, nI_toInt (by omega)]; omega), gd_i (by rw [nI_toInt (by omega)]; omega), nI_clamp (by omega), (m3 d (by omega)).2.1]
      cases hb : dp.testBit d with
      | true => rfl
      | false =>
        rw [if_pos bzf, gd_i (by rw [nI_toInt (by omega)]; omega), bd_e, gd_i (by rw [nI_toInt (by omega)]; omega), bd_e]
        rfl
    rw [eX, eM]
    by_cases hb : dp.testBit d = true
    · rw [if_pos hb, if_pos hb]
      exact ⟨false, μ, ν, rfl, rfl, ⟨w, dp, h⟩, ShF.rf μ ν⟩
    · rw [if_neg hb, if_neg hb]
      have hp2 : 2 ^ d < 2 ^ c := Nat.pow_lt_pow_right (by decide) hdc
      have hor : dp ||| 2 ^ d < 2 ^ c := Nat.or_lt_two_pow hdp hp2
      obtain ⟨w', w1, w2, w3, w4⟩ := andn_b (lt64 hw hc) (lt64 hor hc)
      refine ⟨true, _, _, rfl, rfl, ⟨w', dp ||| 2 ^ d, ⟨hc, hk, Nat.lt_of_le_of_lt w2 hw, hor, hsn, hz⟩, ⟨x1, x2, w3, rfl, x5, x6⟩, ⟨m1, m2, fun q hq => ?_⟩, hs, fun q hq => ?_⟩, rfl, fun q hq => ?_, rfl, fun q q1 q2 q3 => ?_⟩
      · obtain ⟨g1, g2, g3⟩ := m3 q hq
        refine ⟨?_, ?_, g3⟩
        · rw [wi_g, wi_g, w4, tb_or]
          by_cases e : q = d
          · subst e; simp [bz]
          · rw [if_neg (by omega), if_neg (by omega), g1]
            have e2 : decide (d = q) = false := by simp; omega
            rw [e2, Bool.or_false]
            cases hwq : w.testBit q with
            | false => rfl
            | true => rw [(hd q hwq).1]; rfl
        · rw [wi_g, if_neg (by omega), wi_g, tb_or]
          by_cases e : q = d
          · subst e; simp [bz]
          · rw [if_neg (by omega), g2]
            have e2 : decide (d = q) = false := by simp; omega
            rw [e2, Bool.or_false]
      · rw [w4] at hq
        simp only [Bool.and_eq_true, Bool.not_eq_true'] at hq
        exact ⟨hq.2, (hd q hq.1).2⟩
      · unfold wl
        simp [hq]
      · unfold wi
        simp [q1, q2]
  · refine ⟨false, μ, ν, ?_, ?_, ⟨w, dp, h⟩, ShF.rf μ ν⟩
    · unfold f_X_drop f_Shelf_discard
      rw [x1]
      by_cases h3 : a < 0
      · rw [if_pos h3, cl2_s]
      · rw [if_neg h3, if_pos (by rw [i_le, hci]; rw [i_lt, v_0] at h3; omega), cl2_s]
    · unfold f_Mo_drop
      rw [m1, hin, cl_s, if_pos (by rw [bz_0, decide_eq_false_iff_not]; exact h1)]
