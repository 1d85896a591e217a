/-! PURE: word of the reference; the dictionary behind it -/
/-- what the reference's word leaves: from character k on the surface, and the entry's numbers -/
def WmD (ν ν' : Mem) (ne s k : Nat) (c : Nat → Nat) (a1 a2 a3 a4 : Int32) : Prop :=
  (∀ q, ν'.1 2 q = if 8 * ne + k ≤ q ∧ q < 8 * ne + s then nI (c (q - 8 * ne)) else ν.1 2 q) ∧ ν'.1 3 = upd (ν.1 3) ne (nI s) ∧ ν'.1 4 = upd (ν.1 4) ne a1 ∧ ν'.1 5 = upd (ν.1 5) ne a2 ∧ ν'.1 6 = upd (ν.1 6) ne a3 ∧ ν'.1 7 = upd (ν.1 7) ne a4 ∧ ν'.1 0 = upd (ν.1 0) 8 (nI (ne + 1)) ∧ (∀ q, q ≠ 0 → q ≠ 2 → q ≠ 3 → q ≠ 4 → q ≠ 5 → q ≠ 6 → q ≠ 7 → ν'.1 q = ν.1 q) ∧ ν'.2 = ν.2
theorem wordM_l {ne s : Nat} {c : Nat → Nat} {a1 a2 a3 a4 : Int32} (hs : s ≤ 8) (hne : ne < 40) : ∀ j k n (ν : Mem), k + j = s → j < n → ν.1 0 1 = nI s → ν.1 0 8 = nI ne → (∀ i, i < s → ν.1 1 i = nI (c i)) → ∃ ν', f_Mo_word_103 n ν a1 a2 a3 a4 (nI k) = some (nI ne, ν') ∧ WmD ν ν' ne s k c a1 a2 a3 a4 := by
  intro j
  induction j with
  | zero =>
    intro k n ν hk hn h1 h8 hc
    obtain ⟨n, rfl⟩ : ∃ z, n = z + 1 := ⟨n - 1, by omega⟩
    have hg : ∀ {x : Option (Int32 × Mem)}, gd (inb (nI ne) 40) x = x := gd_i (by rw [nI_toInt (by omega)]; omega)
    refine ⟨wi (wi (wi (wi (wi (wi ν 3 ne (nI s)) 4 ne a1) 5 ne a2) 6 ne a3) 7 ne a4) 0 8 (nI ne + 1), ?_, ?_⟩
    · have e1 : (wi ν 3 ne (nI s)).1 0 8 = nI ne := h8
      have e2 : (wi (wi ν 3 ne (nI s)) 4 ne a1).1 0 8 = nI ne := h8
      have e3 : (wi (wi (wi ν 3 ne (nI s)) 4 ne a1) 5 ne a2).1 0 8 = nI ne := h8
      have e4 : (wi (wi (wi (wi ν 3 ne (nI s)) 4 ne a1) 5 ne a2) 6 ne a3).1 0 8 = nI ne := h8
      have e5 : (wi (wi (wi (wi (wi ν 3 ne (nI s)) 4 ne a1) 5 ne a2) 6 ne a3) 7 ne a4).1 0 8 = nI ne := h8
      have hcn : (nI ne).toNatClampNeg = ne := nI_clamp (by omega)
      rw [f_Mo_word_103, h1, if_pos (nI_le (by omega) (by omega)), h8, hg, hcn, bd_e, e1, hg, hcn, bd_e, e2, hg, hcn, bd_e, e3, hg, hcn, bd_e, e4, hg, hcn, bd_e, e5, bd_e]
      have e6 : (wi (wi (wi (wi (wi (wi ν 3 ne (nI s)) 4 ne a1) 5 ne a2) 6 ne a3) 7 ne a4) 0 8 (nI ne + 1)).1 0 8 - 1 = nI ne := by
        rw [wi_g, if_pos ⟨rfl, rfl⟩, nI_1, nI_pred]
      rw [e6]
    · refine ⟨fun q => ?_, rfl, rfl, rfl, rfl, rfl, ?_, fun q q0 q2 q3 q4 q5 q6 q7 => ?_, rfl⟩
      · rw [if_neg (by omega)]; rfl
      · rw [← nI_1]; rfl
      · unfold wi; simp [q0, q3, q4, q5, q6, q7]
  | succ j ih =>
    intro k n ν hk hn h1 h8 hc
    obtain ⟨n, rfl⟩ : ∃ z, n = z + 1 := ⟨n - 1, by omega⟩
    have e8 : (8 : Int32) * nI ne + nI k = nI (8 * ne + k) := by rw [show (8 : Int32) = nI 8 from by decide, pk_mul, nI_add]
    obtain ⟨ν', r1, ⟨w1, w2, w3, w4, w5, w6, w7, w8, w9⟩⟩ := ih (k + 1) n (wi ν 2 (8 * ne + k) (nI (c k))) (by omega) (by omega) h1 h8 hc
    refine ⟨ν', ?_, ⟨fun q => ?_, w2, w3, w4, w5, w6, w7, fun q q0 q2 q3 q4 q5 q6 q7 => ?_, w9⟩⟩
    · rw [f_Mo_word_103, h1, if_neg (nI_ge (by omega) (by omega)), gd_i (by rw [nI_toInt (by omega)]; omega), h8, e8, gd_i (by rw [nI_toInt (by omega)]; omega), nI_clamp (by omega), nI_clamp (by omega), hc k (by omega), bd_e, bd_e, nI_1]
      exact r1
    · rw [w1 q, wi_g]
      by_cases e : q = 8 * ne + k
      · rw [if_neg (by omega), if_pos ⟨rfl, e⟩, if_pos (by omega), e, Nat.add_sub_cancel_left]
      · rw [if_neg (show ¬ (2 = 2 ∧ q = 8 * ne + k) from fun z => e z.2)]
        by_cases e2 : 8 * ne + (k + 1) ≤ q ∧ q < 8 * ne + s
        · rw [if_pos e2, if_pos (by omega)]
        · rw [if_neg e2, if_neg (by omega)]
    · rw [w8 q q0 q2 q3 q4 q5 q6 q7]; unfold wi; simp [q2]
theorem word_m {μ ν : Mem} {ne s : Nat} {le : Nat → Nat} {sf : Nat → Nat → Nat} {c : Nat → Nat} {a1 a2 a3 a4 : Int32} {n : Nat} (hx : LxP μ ν ne le sf) (hs : s ≤ 24) (h0 : ν.1 0 1 = nI s) (hd : ∀ j, j < s → (1 ≤ c j ∧ c j ≤ 255) ∧ ν.1 1 j = nI (c j)) (hn : 60 < n) :
    (wordOK s ne (cnt (fun e => decide (tv (sf e) (le e) = tv c s)) ne) a1 a2 a3 a4 → ∃ ν', f_Mo_word n ν a1 a2 a3 a4 = some (nI ne, ν') ∧ WmD ν ν' ne s 0 c a1 a2 a3 a4) ∧ (¬ wordOK s ne (cnt (fun e => decide (tv (sf e) (le e) = tv c s)) ne) a1 a2 a3 a4 → f_Mo_word n ν a1 a2 a3 a4 = some (-1, ν)) := by
  have hne := hx.1.1
  have hnei : (nI ne).toInt = ne := nI_toInt (by omega)
  have hsi : (nI s).toInt = s := nI_toInt (by omega)
  have hcl := cnt_le (fun e => decide (tv (sf e) (le e) = tv c s)) ne
  have h1i : (nI ne - 1).toInt = (ne : Int) - 1 := pk_sub_toInt (a := ne) (b := 1) (by omega) (by decide)
  have h90 : s ≤ 8 → f_Mo_word_90 n ν a1 a2 a3 a4 = if cnt (fun e => decide (tv (sf e) (le e) = tv c s)) ne < 3 then f_Mo_word_103 n ν a1 a2 a3 a4 0 else some (-1, ν) := by
    intro h8
    unfold f_Mo_word_90 f_Mo_sameSurface
    have e := same_m hx h8 h0 hd ne 0 n (by omega) (by omega)
    have e : f_Mo_sameSurface_4 ν n 0 0 = some (nI (cnt (fun e => decide (tv (sf e) (le e) = tv c s)) ne)) := e
    rw [e, cl_s]
    by_cases h3 : cnt (fun e => decide (tv (sf e) (le e) = tv c s)) ne < 3
    · rw [if_pos (show nI _ < 3 from nI_lt (b := 3) h3 (by decide)), if_pos h3]
    · rw [if_neg (show ¬ nI _ < 3 from nI_nlt (b := 3) (by omega) (by omega)), if_neg h3]
  unfold f_Mo_word
  rw [h0, hx.1.2.2, in_v, in_v, in_v, in_v]
  simp only [cl_s, bz_0, decide_eq_false_iff_not, i_lt, i_le, hsi, hnei, h1i, v_1, v_7, v_8, v_m1, v_10k, v_m10k, v_40, v_0, bd_e]
  unfold wordOK cutsOK
  constructor
  · rintro ⟨g1, g2, g3, g4, g5, g6, g7, g8⟩
    obtain ⟨ν', r1, r2⟩ := wordM_l (a1 := a1) (a2 := a2) (a3 := a3) (a4 := a4) g1.2 g5 s 0 n ν (by omega) (by omega) h0 hx.1.2.2 (fun i hi => (hd i hi).2)
    have r1 : f_Mo_word_103 n ν a1 a2 a3 a4 0 = some (nI ne, ν') := r1
    refine ⟨ν', ?_, r2⟩
    rw [if_neg (by omega), if_neg (by omega), if_neg (by omega), if_neg (by omega), if_pos (by omega), if_pos g4, h90 g1.2, if_pos g8, r1]
    by_cases k : a3 = 0
    · rw [if_pos k]
    · rw [if_neg k, if_neg (by have := g7.resolve_left k; omega)]
  · intro h
    by_cases k1 : 1 ≤ (s : Int) ∧ (s : Int) ≤ 8
    case neg => rw [if_pos k1]
    rw [if_neg (fun z => z k1)]
    by_cases k2 : 1 ≤ a1.toInt ∧ a1.toInt ≤ 7
    case neg => rw [if_pos k2]
    rw [if_neg (fun z => z k2)]
    by_cases k3 : -10000 ≤ a2.toInt ∧ a2.toInt ≤ 10000
    case neg => rw [if_pos k3]
    rw [if_neg (fun z => z k3)]
    by_cases k4 : -1 ≤ a4.toInt ∧ a4.toInt ≤ (ne : Int) - 1
    case neg => rw [if_pos k4]
    rw [if_neg (fun z => z k4)]
    by_cases k5 : (ne : Int) < 40
    case neg => rw [if_neg k5]
    rw [if_pos k5]
    by_cases k6 : (a3 &&& ((((1 : Int32) <<< (nI s &&& 31)) - 2) ^^^ (-1))) = 0
    case neg => rw [if_neg k6]
    rw [if_pos k6, h90 (by omega)]
    by_cases k7 : cnt (fun e => decide (tv (sf e) (le e) = tv c s)) ne < 3
    · by_cases k8 : a3 = 0
      · exact absurd ⟨⟨by omega, by omega⟩, k2, k3, k6, by omega, by omega, Or.inl k8, k7⟩ h
      · rw [if_neg k8]
        by_cases k9 : 0 ≤ a4.toInt
        · rw [if_pos k9]
        · exact absurd ⟨⟨by omega, by omega⟩, k2, k3, k6, by omega, by omega, Or.inr (by omega), k7⟩ h
    · rw [if_neg k7]
      repeat' split
      all_goals rfl
