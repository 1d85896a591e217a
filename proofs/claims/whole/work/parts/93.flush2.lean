/-! PURE: merging, and flush as a step of both sides -/
theorem mg50_x {δ : Dx} {ν : Mem} {c M : Nat} (hc : c ≤ 40) (hD : DJ δ ν c) (hM : M < 2 ^ 64) : ∀ j x5 x4 n (μ : Mem), x5 + j = 4 → x4 < x5 → j + 50 < n → μ.1 41 6 = nI 4 → μ.1 41 1 = nI c → ∃ μ', f_Shelf_mergeAt_50 δ n μ (lN M) (nI x4) (nI x5) = some (nI (smB (pnM ν) M c), μ') ∧ μ'.1 41 6 = nI (x4 + j) ∧ (∀ i, i ≠ 6 → μ'.1 41 i = μ.1 41 i) ∧ (∀ q, q ≠ 41 → μ'.1 q = μ.1 q) ∧ (∀ q, q ≠ 43 → μ'.2 q = μ.2 q) ∧ (∀ q, μ'.2 43 q = if x4 ≤ q ∧ q < x4 + j then μ.2 43 (q - x4 + x5) else μ.2 43 q) := by
  intro j
  induction j with
  | zero =>
    intro x5 x4 n μ h1 h2 hn h6 h41
    obtain ⟨n, rfl⟩ : ∃ n', n = n' + 1 := ⟨n - 1, by omega⟩
    refine ⟨wi μ 41 6 (nI x4), ?_, ?_, ?_, ?_, fun _ _ => rfl, ?_⟩
    · unfold f_Shelf_mergeAt_50
      rw [h6, if_pos (nI_le (by omega) (by omega)), bd_e, pofv_x (ν := ν) hc (by rw [wi_g, if_neg (by omega)]; exact h41) hD hM (by omega), cl_s]
    · rw [wi_g, if_pos ⟨rfl, rfl⟩, Nat.add_zero]
    · intro i hi; rw [wi_g, if_neg (by omega)]
    · intro q hq; exact wi_o hq
    · intro q; rw [if_neg (by omega)]; rfl
  | succ j ih =>
    intro x5 x4 n μ h1 h2 hn h6 h41
    obtain ⟨n, rfl⟩ : ∃ n', n = n' + 1 := ⟨n - 1, by omega⟩
    obtain ⟨μ', a1, a2, a3, a4, a5, a6⟩ := ih (x5 + 1) (x4 + 1) n (wl μ 43 x4 (μ.2 43 x5)) (by omega) (by omega) (by omega) h6 h41
    refine ⟨μ', ?_, ?_, a3, a4, fun q hq => (a5 q hq).trans (wl_o hq), ?_⟩
    · rw [← a1]
      show (if (μ.1 41 6) ≤ nI x5 then _ else (gd (inb (nI x5) 4) (gd (inb (nI x4) 4) (bd (wl μ 43 (nI x4).toNatClampNeg (μ.2 43 (nI x5).toNatClampNeg)) (fun μ3 => bd (nI x4 + 1) (fun v4 => bd (nI x5 + 1) (fun v5 => (f_Shelf_mergeAt_50 δ n) μ3 (lN M) v4 v5))))))) = _
      rw [h6, if_neg (nI_ge (by omega) (by omega)), gd_i (by rw [nI_toInt (by omega)]; omega), gd_i (by rw [nI_toInt (by omega)]; omega), nI_clamp (show x4 < 2 ^ 31 by omega), nI_clamp (show x5 < 2 ^ 31 by omega), bd_e, bd_e, bd_e, nI_1, nI_1]
    · rw [a2]; congr 1; omega
    · intro q
      rw [a6 q, wl_g, wl_g]
      by_cases q1 : x4 + 1 ≤ q ∧ q < x4 + 1 + j
      · rw [if_pos q1, if_neg (by omega), if_pos (by omega), show q - (x4 + 1) + (x5 + 1) = q - x4 + x5 by omega]
      · rw [if_neg q1]
        by_cases q2 : q = x4
        · subst q2
          rw [if_pos ⟨rfl, rfl⟩, if_pos (by omega), Nat.sub_self, Nat.zero_add]
        · rw [if_neg (by omega), if_neg (by omega)]
/-- the segments after a merge of a and a + 1 into M -/
def zM (z : Nat → Nat) (a M i : Nat) : Nat := if i < a then z i else if M = 0 then z (i + 2) else if i = a then M else z (i + 1)
theorem mg_x {δ : Dx} {μ ν : Mem} {c M a dp n : Nat} {z : Nat → Nat} (hc : c ≤ 40) (hD : DJ δ ν c) (ha : a ≤ 2) (hz : ∀ i, i < 4 → z i < 2 ^ c) (h6 : μ.1 41 6 = nI 4) (h41 : μ.1 41 1 = nI c) (h3 : μ.2 41 3 = lN dp) (h43 : ∀ i, i < 4 → μ.2 43 i = lN (z i)) (hM : M < 2 ^ 64) (eM : lN (z a ||| z (a + 1)) &&& (lN dp ^^^ (-1 : Int64)) = lN M) (hn : 60 < n) : ∃ μ', f_Shelf_mergeAt n δ μ (nI a) = some (nI (smB (pnM ν) M c), μ') ∧ μ'.1 41 6 = nI (if M = 0 then 2 else 3) ∧ (∀ i, i ≠ 6 → μ'.1 41 i = μ.1 41 i) ∧ (∀ q, q ≠ 41 → μ'.1 q = μ.1 q) ∧ (∀ q, q ≠ 43 → μ'.2 q = μ.2 q) ∧ (∀ i, i < (if M = 0 then 2 else 3) → μ'.2 43 i = lN (zM z a M i)) := by
  have z64 : ∀ i, i < 4 → z i < 2 ^ 64 := fun i hi => lt64 (hz i hi) hc
  unfold f_Shelf_mergeAt
  rw [gd_i (by rw [nI_toInt (by omega)]; omega), show nI a + 1 = nI (a + 1) from nI_1 a, gd_i (by rw [nI_toInt (by omega)]; omega), nI_clamp (by omega), nI_clamp (by omega), h43 a (by omega), h43 (a + 1) (by omega), h3, wb_or (z64 a (by omega)) (z64 (a + 1) (by omega)), eM, bd_e]
  unfold f_Shelf_mergeAt_45
  by_cases c0 : M = 0
  · rw [if_pos ((lcZ hM).mpr c0), bd_e, show nI a + 2 = nI (a + 2) from nI_add a 2]
    obtain ⟨μ', a1, a2, a3, a4, a5, a6⟩ := mg50_x (M := M) hc hD hM (2 - a) (a + 2) a n μ (by omega) (by omega) (by omega) h6 h41
    refine ⟨μ', a1, ?_, a3, a4, a5, fun i hi => ?_⟩
    · rw [a2, if_pos c0]; congr 1; omega
    · rw [if_pos c0] at hi
      rw [a6 i]
      unfold zM
      by_cases q : i < a
      · rw [if_neg (by omega), if_pos q, h43 i (by omega)]
      · rw [if_pos (by omega), if_neg q, if_pos c0, show i - a + (a + 2) = i + 2 by omega, h43 (i + 2) (by omega)]
  · rw [if_neg (fun h => c0 ((lcZ hM).mp h)), gd_i (by rw [nI_toInt (by omega)]; omega), bd_e, bd_e, bd_e, show nI a + 2 = nI (a + 2) from nI_add a 2]
    obtain ⟨μ', a1, a2, a3, a4, a5, a6⟩ := mg50_x (M := M) hc hD hM (2 - a) (a + 2) (a + 1) n (wl μ 43 a (lN M)) (by omega) (by omega) (by omega) h6 h41
    refine ⟨μ', a1, ?_, a3, a4, fun q hq => (a5 q hq).trans (wl_o hq), fun i hi => ?_⟩
    · rw [a2, if_neg c0]; congr 1; omega
    · rw [if_neg c0] at hi
      rw [a6 i, wl_g, wl_g]
      unfold zM
      by_cases q : i < a
      · rw [if_neg (by omega), if_neg (by omega), if_pos q, h43 i (by omega)]
      · rw [if_neg q, if_neg c0]
        by_cases q2 : i = a
        · subst q2
          rw [if_neg (by omega), if_pos ⟨rfl, rfl⟩, if_pos rfl]
        · rw [if_pos (by omega), if_neg (by omega), if_neg q2, show i - (a + 1) + (a + 2) = i + 1 by omega, h43 (i + 1) (by omega)]
/-- where a document lies after the first pass of a merge -/
def mgF (a : Nat) (v : Int32) (g : Bool) : Int32 := if v = nI a ∨ v = nI (a + 1) then (if g = true then -1 else nI a) else if v ≤ nI (a + 1) then v else v - 1
def inM (a : Nat) (v : Int32) (g : Bool) : Bool := decide ((v = nI a ∨ v = nI (a + 1)) ∧ g = false)
theorem mg7_m {ν : Mem} {c a dp M : Nat} (hc : c ≤ 40) (hp : ∀ d, d < c → ν.1 35 d = nI (pnM ν d)) (h50 : ν.1 0 50 = nI c) (h37 : ∀ d, d < 40 → ν.1 37 d = bz (dp.testBit d)) (hM : ∀ d, d < c → M.testBit d = inM a (ν.1 38 d) (dp.testBit d)) : ∀ j d n (ν1 : Mem), d + j = c → j < n → FsF ν ν1 → ν1.1 0 51 = ν.1 0 51 → (∀ q, ν1.1 38 q = if q < d then mgF a (ν.1 38 q) (dp.testBit q) else ν.1 38 q) → (ν1.1 36 = ν.1 36) → ∃ n' ν', n ≤ n' + j ∧ f_Mo_merge_7 n ν1 (nI a) (nI (smB (pnM ν) M d)) (nI (cnt M.testBit d)) (nI d) = f_Mo_merge_7 n' ν' (nI a) (nI (smB (pnM ν) M c)) (nI (cnt M.testBit c)) (nI c) ∧ FsF ν ν' ∧ ν'.1 0 51 = ν.1 0 51 ∧ (∀ q, ν'.1 38 q = if q < c then mgF a (ν.1 38 q) (dp.testBit q) else ν.1 38 q) ∧ ν'.1 36 = ν.1 36 := by
  intro j
  induction j with
  | zero =>
    intro d n ν1 hd hn hf h1 h3 h36
    have e : d = c := by omega
    rw [e] at h3 ⊢
    exact ⟨n, ν1, by omega, rfl, hf, h1, h3, h36⟩
  | succ j ih =>
    intro d n ν1 hd hn hf h1 h3 h36
    obtain ⟨n, rfl⟩ : ∃ n', n = n' + 1 := ⟨n - 1, by omega⟩
    have e0 : smB (pnM ν) M (d + 1) = smB (pnM ν) M d + (if M.testBit d = true then pnM ν d else 0) := rfl
    have e1 : cnt M.testBit (d + 1) = cnt M.testBit d + (if M.testBit d = true then 1 else 0) := rfl
    have h50' : ν1.1 0 50 = nI c := by rw [hf.2.1 50 (by omega)]; exact h50
    have h38 : ν1.1 38 d = ν.1 38 d := by rw [h3 d, if_neg (by omega)]
    have g40 : inb (nI d) 40 = true := inb_iff.mpr (by rw [nI_toInt (by omega)]; omega)
    have hMd := hM d (by omega)
    have h37d := h37 d (by omega)
    have h37' : ν1.1 37 d = bz (dp.testBit d) := by rw [hf.1 37 (by omega) (by omega) (by omega)]; exact h37d
    have h35' : ν1.1 35 d = nI (pnM ν d) := by rw [hf.1 35 (by omega) (by omega) (by omega)]; exact hp d (by omega)
    have nx : ∀ (ν2 : Mem) (x2 x3 : Int32), FsF ν ν2 → ν2.1 0 51 = ν.1 0 51 → (∀ q, ν2.1 38 q = if q < d + 1 then mgF a (ν.1 38 q) (dp.testBit q) else ν.1 38 q) → ν2.1 36 = ν.1 36 → x2 = nI (smB (pnM ν) M (d + 1)) → x3 = nI (cnt M.testBit (d + 1)) → ∃ n' ν', n + 1 ≤ n' + (j + 1) ∧ f_Mo_merge_131 (f_Mo_merge_7 n) n ν2 (nI a) x2 x3 (nI d) = f_Mo_merge_7 n' ν' (nI a) (nI (smB (pnM ν) M c)) (nI (cnt M.testBit c)) (nI c) ∧ FsF ν ν' ∧ ν'.1 0 51 = ν.1 0 51 ∧ (∀ q, ν'.1 38 q = if q < c then mgF a (ν.1 38 q) (dp.testBit q) else ν.1 38 q) ∧ ν'.1 36 = ν.1 36 := by
      intro ν2 x2 x3 k1 k2 k3 k4 k5 k6
      obtain ⟨n', ν', y1, y2, y3⟩ := ih (d + 1) n ν2 (by omega) (by omega) k1 k2 k3 k4
      refine ⟨n', ν', by omega, ?_, y3⟩
      unfold f_Mo_merge_131
      rw [bd_e, nI_1, k5, k6]
      exact y2
    have up38 : ∀ (v : Int32), v = mgF a (ν.1 38 d) (dp.testBit d) → ∀ q, (wi ν1 38 d v).1 38 q = if q < d + 1 then mgF a (ν.1 38 q) (dp.testBit q) else ν.1 38 q := by
      intro v hv q
      rw [wi_g]
      by_cases c1 : q = d
      · subst c1; rw [if_pos ⟨rfl, rfl⟩, if_pos (by omega), hv]
      · rw [if_neg (by omega), h3 q]
        by_cases c2 : q < d
        · rw [if_pos c2, if_pos (by omega)]
        · rw [if_neg c2, if_neg (by omega)]
    have m40 : (ν.1 38 d = nI a ∨ ν.1 38 d = nI (a + 1)) → ∃ n' ν', n + 1 ≤ n' + (j + 1) ∧ f_Mo_merge_40 (f_Mo_merge_7 n) n ν1 (nI a) (nI (smB (pnM ν) M d)) (nI (cnt M.testBit d)) (nI d) = f_Mo_merge_7 n' ν' (nI a) (nI (smB (pnM ν) M c)) (nI (cnt M.testBit c)) (nI c) ∧ FsF ν ν' ∧ ν'.1 0 51 = ν.1 0 51 ∧ (∀ q, ν'.1 38 q = if q < c then mgF a (ν.1 38 q) (dp.testBit q) else ν.1 38 q) ∧ ν'.1 36 = ν.1 36 := by
      intro hin
      unfold f_Mo_merge_40 f_Mo_merge_61 f_Mo_merge_78 f_Mo_merge_102
      simp only [g40, gd_t, bd_e]
      rw [nI_clamp (by omega)]
      have z37 : ∀ v : Int32, (wi ν1 38 d v).1 37 d = bz (dp.testBit d) := fun v => by rw [wi_o (by omega)]; exact h37'
      have z35 : ∀ v : Int32, (wi ν1 38 d v).1 35 d = nI (pnM ν d) := fun v => by rw [wi_o (by omega)]; exact h35'
      rw [h37', z37, z37, z35]
      cases hb : dp.testBit d with
      | false =>
        have hMt : M.testBit d = true := by rw [hMd, hb]; unfold inM; rw [decide_eq_true_eq]; exact ⟨hin, rfl⟩
        rw [if_pos (by decide), if_pos (by decide)]
        refine nx _ _ _ (hf.tr (FsF.w (by omega))) (by rw [wi_o (by omega)]; exact h1) (up38 _ ?_) (by rw [wi_o (by omega)]; exact h36) ?_ ?_
        · unfold mgF; rw [if_pos hin, hb, if_neg (by decide)]
        · rw [nI_add, e0, hMt, if_pos rfl]
        · rw [e1, hMt, if_pos rfl, show bz true = nI 1 from rfl, nI_add]
      | true =>
        have hMt : M.testBit d = false := by rw [hMd, hb]; unfold inM; rw [decide_eq_false_iff_not]; exact fun h => by cases h.2
        rw [if_neg (by decide), if_neg (by decide), if_neg (by decide)]
        refine nx _ _ _ (hf.tr (FsF.w (by omega))) (by rw [wi_o (by omega)]; exact h1) (up38 _ ?_) (by rw [wi_o (by omega)]; exact h36) ?_ ?_
        · unfold mgF; rw [if_pos hin, hb, if_pos rfl]
        · rw [e0, hMt, show (0 : Int32) = nI 0 from rfl, nI_add]; simp
        · rw [e1, hMt, show bz false = nI 0 from rfl, nI_add]; simp
    have st : f_Mo_merge_7 (n + 1) ν1 (nI a) (nI (smB (pnM ν) M d)) (nI (cnt M.testBit d)) (nI d) = (if (ν1.1 0 50) ≤ nI d then _ else (gd (inb (nI d) 40) ((if (ν1.1 38 (nI d).toNatClampNeg) = nI a then (f_Mo_merge_40 (f_Mo_merge_7 n) n ν1 (nI a) (nI (smB (pnM ν) M d)) (nI (cnt M.testBit d)) (nI d)) else (gd (inb (nI d) 40) ((if (ν1.1 38 (nI d).toNatClampNeg) = (nI a + (1 : Int32)) then (f_Mo_merge_40 (f_Mo_merge_7 n) n ν1 (nI a) (nI (smB (pnM ν) M d)) (nI (cnt M.testBit d)) (nI d)) else (gd (inb (nI d) 40) ((if (ν1.1 38 (nI d).toNatClampNeg) ≤ (nI a + (1 : Int32)) then (f_Mo_merge_131 (f_Mo_merge_7 n) n ν1 (nI a) (nI (smB (pnM ν) M d)) (nI (cnt M.testBit d)) (nI d)) else (gd (inb (nI d) 40) (gd (inb (nI d) 40) (bd (wi ν1 38 (nI d).toNatClampNeg ((ν1.1 38 (nI d).toNatClampNeg) - (1 : Int32))) (fun μ2 => f_Mo_merge_131 (f_Mo_merge_7 n) n μ2 (nI a) (nI (smB (pnM ν) M d)) (nI (cnt M.testBit d)) (nI d))))))))))))))) := rfl
    rw [st, h50', if_neg (nI_ge (by omega) (by omega))]
    simp only [g40, gd_t, bd_e]
    rw [nI_clamp (by omega), h38, show nI a + 1 = nI (a + 1) from nI_1 a]
    by_cases c1 : ν.1 38 d = nI a
    · rw [if_pos c1]; exact m40 (Or.inl c1)
    · rw [if_neg c1]
      by_cases c2 : ν.1 38 d = nI (a + 1)
      · rw [if_pos c2]; exact m40 (Or.inr c2)
      · have hMt : M.testBit d = false := by rw [hMd]; unfold inM; rw [decide_eq_false_iff_not]; exact fun h => h.1.elim c1 c2
        have q0 : nI (smB (pnM ν) M d) = nI (smB (pnM ν) M (d + 1)) := by rw [e0, hMt]; simp
        have q1 : nI (cnt M.testBit d) = nI (cnt M.testBit (d + 1)) := by rw [e1, hMt]; simp
        rw [if_neg c2]
        by_cases c3 : ν.1 38 d ≤ nI (a + 1)
        · rw [if_pos c3]
          refine nx ν1 _ _ hf h1 (fun q => ?_) h36 q0 q1
          rw [h3 q]
          by_cases c4 : q = d
          · subst c4
            rw [if_neg (by omega), if_pos (by omega)]
            unfold mgF
            rw [if_neg (fun h => h.elim c1 c2), if_pos c3]
          · by_cases c5 : q < d
            · rw [if_pos c5, if_pos (by omega)]
            · rw [if_neg c5, if_neg (by omega)]
        · rw [if_neg c3]
          refine nx _ _ _ (hf.tr (FsF.w (by omega))) (by rw [wi_o (by omega)]; exact h1) (up38 _ ?_) (by rw [wi_o (by omega)]; exact h36) q0 q1
          unfold mgF
          rw [if_neg (fun h => h.elim c1 c2), if_neg c3]
def mg2F (a : Nat) (v : Int32) : Int32 := if v ≤ nI a then v else v - 1
theorem mg154_m {ν : Mem} {c a : Nat} {x2 : Int32} (hc : c ≤ 40) (h50 : ν.1 0 50 = nI c) : ∀ j d n (ν1 : Mem), d + j = c → j < n → FsF ν ν1 → ν1.1 0 51 = ν.1 0 51 → (∀ q, ν1.1 38 q = if q < d then mg2F a (ν.1 38 q) else ν.1 38 q) → ν1.1 36 = ν.1 36 → ∃ ν', f_Mo_merge_154 n ν1 (nI a) x2 (nI d) = some (x2, ν') ∧ FsF ν ν' ∧ ν'.1 0 51 = ν.1 0 51 - 1 ∧ (∀ q, ν'.1 38 q = if q < c then mg2F a (ν.1 38 q) else ν.1 38 q) ∧ ν'.1 36 = ν.1 36 := by
  intro j
  induction j with
  | zero =>
    intro d n ν1 hd hn hf h1 h3 h36
    obtain ⟨n, rfl⟩ : ∃ n', n = n' + 1 := ⟨n - 1, by omega⟩
    have e : d = c := by omega
    rw [e] at h3 ⊢
    refine ⟨wi ν1 0 51 (ν1.1 0 51 - 1), ?_, hf.tr (FsF.w (by omega)), ?_, ?_, ?_⟩
    · unfold f_Mo_merge_154
      rw [hf.2.1 50 (by omega), h50, if_pos (nI_le (Nat.le_refl _) (by omega)), bd_e]
    · rw [wi_g, if_pos ⟨rfl, rfl⟩, h1]
    · intro q; rw [wi_o (by omega)]; exact h3 q
    · rw [wi_o (by omega)]; exact h36
  | succ j ih =>
    intro d n ν1 hd hn hf h1 h3 h36
    obtain ⟨n, rfl⟩ : ∃ n', n = n' + 1 := ⟨n - 1, by omega⟩
    have h50' : ν1.1 0 50 = nI c := by rw [hf.2.1 50 (by omega)]; exact h50
    have h38 : ν1.1 38 d = ν.1 38 d := by rw [h3 d, if_neg (by omega)]
    have g40 : inb (nI d) 40 = true := inb_iff.mpr (by rw [nI_toInt (by omega)]; omega)
    obtain ⟨ν', y1, y2⟩ := ih (d + 1) n (wi ν1 38 d (mg2F a (ν.1 38 d))) (by omega) (by omega) (hf.tr (FsF.w (by omega))) (by rw [wi_o (by omega)]; exact h1) (by
      intro q
      rw [wi_g]
      by_cases c1 : q = d
      · subst c1; rw [if_pos ⟨rfl, rfl⟩, if_pos (by omega)]
      · rw [if_neg (by omega), h3 q]
        by_cases c2 : q < d
        · rw [if_pos c2, if_pos (by omega)]
        · rw [if_neg c2, if_neg (by omega)]) (by rw [wi_o (by omega)]; exact h36)
    refine ⟨ν', ?_, y2⟩
    rw [← y1]
    show (if (ν1.1 0 50) ≤ nI d then _ else (gd (inb (nI d) 40) (gd (inb (nI d) 40) ((if (ν1.1 38 (nI d).toNatClampNeg) ≤ nI a then (f_Mo_merge_187 (f_Mo_merge_154 n) n ν1 (nI a) x2 (nI d) (nI d) (ν1.1 38 (nI d).toNatClampNeg) false) else (f_Mo_merge_187 (f_Mo_merge_154 n) n ν1 (nI a) x2 (nI d) (nI d) (ν1.1 38 (nI d).toNatClampNeg) true)))))) = _
    rw [h50', if_neg (nI_ge (by omega) (by omega))]
    unfold f_Mo_merge_187
    simp only [g40, gd_t, bd_e]
    rw [nI_clamp (by omega), h38, nI_1]
    unfold mg2F
    by_cases c1 : ν.1 38 d ≤ nI a
    · rw [if_pos c1, if_pos c1, show ν.1 38 d - bz false = ν.1 38 d from Int32.sub_zero _]
    · rw [if_neg c1, if_neg c1]; rfl
theorem Sg.merge {ν ν' : Mem} {c a dp M : Nat} {z : Nat → Nat} (h : Sg ν c 4 z) (ha : a ≤ 2) (hM : ∀ d, M.testBit d = (((z a).testBit d || (z (a + 1)).testBit d) && !dp.testBit d)) (h38 : ∀ q, q < c → ν'.1 38 q = if M = 0 then mg2F a (mgF a (ν.1 38 q) (dp.testBit q)) else mgF a (ν.1 38 q) (dp.testBit q)) (hz0 : M = 0 → ∀ d, M.testBit d = false) : Sg ν' c (if M = 0 then 2 else 3) (zM z a M) := by
  intro d hd
  rw [h38 d hd]
  have hMd := hM d
  have hzi := (h d hd).1
  have lek : ∀ i j : Nat, i < 10 → j < 10 → (nI i ≤ nI j ↔ i ≤ j) := fun i j hi hj => nI_leI (by omega) (by omega)
  have eqk : ∀ i j : Nat, i < 10 → j < 10 → (nI i = nI j ↔ i = j) := fun i j hi hj => nI_eq (by omega) (by omega)
  have m1 : ∀ i : Nat, i < 10 → ¬ nI i = -1 := fun i hi => nI_nem1 (by omega)
  have m1' : ∀ i : Nat, i < 10 → ¬ (-1 : Int32) = nI i := fun i hi e => nI_nem1 (by omega) e.symm
  have le1 : ∀ i : Nat, i < 10 → (-1 : Int32) ≤ nI i := fun i hi => by rw [i_le, v_m1, nI_toInt (by omega)]; omega
  have pr : ∀ i : Nat, i < 10 → nI (i + 1) - 1 = nI i := fun i _ => nI_pred i
  rcases h.cs hd with ⟨v1, b1⟩ | ⟨i, i1, v1, b1⟩
  · -- nowhere
    have e1 : mgF a (ν.1 38 d) (dp.testBit d) = -1 := by
      unfold mgF
      rw [v1, if_neg (fun q => q.elim (m1' a (by omega)) (m1' (a + 1) (by omega))), if_pos (le1 (a + 1) (by omega))]
    have e2 : mg2F a (-1) = -1 := by unfold mg2F; rw [if_pos (le1 a (by omega))]
    have eM : M.testBit d = false := by rw [hMd, b1 a (by omega), b1 (a + 1) (by omega)]; rfl
    rw [e1, e2]
    have ev : (if M = 0 then (-1 : Int32) else -1) = -1 := by by_cases q : M = 0 <;> simp [q]
    rw [ev]
    refine ⟨fun j hj => ⟨fun hh => ?_, fun hh => absurd hh (m1' j (by by_cases q : M = 0 <;> simp [q] at hj <;> omega))⟩, fun _ => rfl⟩
    exfalso
    unfold zM at hh
    by_cases q1 : j < a
    · rw [if_pos q1, b1 j (by omega)] at hh; cases hh
    · rw [if_neg q1] at hh
      by_cases q2 : M = 0
      · rw [if_pos q2] at hh hj
        rw [b1 (j + 2) (by omega)] at hh; cases hh
      · rw [if_neg q2] at hh hj
        by_cases q3 : j = a
        · rw [if_pos q3, eM] at hh; cases hh
        · rw [if_neg q3, b1 (j + 1) (by omega)] at hh; cases hh
  · -- in segment i
    have bo : ∀ j, j < 4 → ((z j).testBit d = true ↔ j = i) := by
      intro j hj
      rw [hzi j hj, v1, eqk i j (by omega) (by omega)]
      exact ⟨fun e => e.symm, fun e => e.symm⟩
    have bof : ∀ j, j < 4 → j ≠ i → (z j).testBit d = false := by
      intro j hj hne
      cases hb : (z j).testBit d with
      | false => rfl
      | true => exact absurd ((bo j hj).mp hb) hne
    by_cases ci : i = a ∨ i = a + 1
    · have hor : ((z a).testBit d || (z (a + 1)).testBit d) = true := by
        rcases ci with ci | ci
        · rw [← ci, b1]; rfl
        · rw [← ci, b1, Bool.or_true]
      rw [hor, Bool.true_and] at hMd
      have vin : ν.1 38 d = nI a ∨ ν.1 38 d = nI (a + 1) := by
        rw [v1]
        rcases ci with ci | ci
        · exact Or.inl (by rw [ci])
        · exact Or.inr (by rw [ci])
      cases hb : dp.testBit d with
      | true =>
        have e1 : mgF a (ν.1 38 d) true = -1 := by unfold mgF; rw [if_pos vin, if_pos rfl]
        have e2 : mg2F a (-1) = -1 := by unfold mg2F; rw [if_pos (le1 a (by omega))]
        have eM : M.testBit d = false := by rw [hMd, hb]; rfl
        rw [e1, e2]
        have ev : (if M = 0 then (-1 : Int32) else -1) = -1 := by by_cases q : M = 0 <;> simp [q]
        rw [ev]
        refine ⟨fun j hj => ⟨fun hh => ?_, fun hh => absurd hh (m1' j (by by_cases q : M = 0 <;> simp [q] at hj <;> omega))⟩, fun _ => rfl⟩
        exfalso
        unfold zM at hh
        by_cases q1 : j < a
        · rw [if_pos q1, bof j (by omega) (by omega)] at hh; cases hh
        · rw [if_neg q1] at hh
          by_cases q2 : M = 0
          · rw [if_pos q2] at hh hj
            rw [bof (j + 2) (by omega) (by omega)] at hh; cases hh
          · rw [if_neg q2] at hh hj
            by_cases q3 : j = a
            · rw [if_pos q3, eM] at hh; cases hh
            · rw [if_neg q3, bof (j + 1) (by omega) (by omega)] at hh; cases hh
      | false =>
        have eM : M.testBit d = true := by rw [hMd, hb]; rfl
        have hM0 : ¬ M = 0 := fun e => by rw [hz0 e d] at eM; cases eM
        have e1 : mgF a (ν.1 38 d) false = nI a := by unfold mgF; rw [if_pos vin, if_neg (by decide)]
        rw [e1, if_neg hM0, if_neg hM0]
        refine ⟨fun j hj => ?_, fun hh => absurd rfl (hh a (by omega))⟩
        unfold zM
        rw [eqk a j (by omega) (by omega), if_neg hM0]
        by_cases q1 : j < a
        · rw [if_pos q1, bof j (by omega) (by omega)]
          exact ⟨fun h => (by cases h), fun h => by omega⟩
        · rw [if_neg q1]
          by_cases q3 : j = a
          · rw [if_pos q3, eM]; exact ⟨fun _ => q3.symm, fun _ => rfl⟩
          · rw [if_neg q3, bof (j + 1) (by omega) (by omega)]
            exact ⟨fun h => (by cases h), fun h => absurd h.symm q3⟩
    · have na : ¬ (ν.1 38 d = nI a ∨ ν.1 38 d = nI (a + 1)) := by
        rw [v1, eqk i a (by omega) (by omega), eqk i (a + 1) (by omega) (by omega)]
        exact ci
      have eM : M.testBit d = false := by rw [hMd, bof a (by omega) (by omega), bof (a + 1) (by omega) (by omega)]; rfl
      by_cases lo : i < a
      · have e1 : mgF a (ν.1 38 d) (dp.testBit d) = nI i := by
          unfold mgF
          rw [if_neg na, v1, if_pos ((lek i (a + 1) (by omega) (by omega)).mpr (by omega))]
        have e2 : mg2F a (nI i) = nI i := by unfold mg2F; rw [if_pos ((lek i a (by omega) (by omega)).mpr (by omega))]
        rw [e1, e2]
        have ev : (if M = 0 then nI i else nI i) = nI i := by by_cases q : M = 0 <;> simp [q]
        rw [ev]
        refine ⟨fun j hj => ?_, fun hh => absurd rfl (hh i (by by_cases q : M = 0 <;> simp [q] <;> omega))⟩
        unfold zM
        by_cases q1 : j < a
        · rw [if_pos q1, bo j (by omega), eqk i j (by omega) (by omega)]
          exact ⟨fun e => e.symm, fun e => e.symm⟩
        · rw [if_neg q1]
          by_cases q2 : M = 0
          · rw [if_pos q2] at hj ⊢
            rw [bof (j + 2) (by omega) (by omega), eqk i j (by omega) (by omega)]
            exact ⟨fun h => (by cases h), fun h => by omega⟩
          · rw [if_neg q2] at hj ⊢
            rw [eqk i j (by omega) (by omega)]
            by_cases q3 : j = a
            · rw [if_pos q3, eM]; exact ⟨fun h => (by cases h), fun h => by omega⟩
            · rw [if_neg q3, bof (j + 1) (by omega) (by omega)]
              exact ⟨fun h => (by cases h), fun h => by omega⟩
      · obtain ⟨i', rfl⟩ : ∃ i', i = i' + 1 := ⟨i - 1, by omega⟩
        have e1 : mgF a (ν.1 38 d) (dp.testBit d) = nI i' := by
          unfold mgF
          rw [if_neg na, v1, if_neg (fun q => by have := (lek (i' + 1) (a + 1) (by omega) (by omega)).mp q; omega), pr i' (by omega)]
        rw [e1]
        by_cases q2 : M = 0
        · obtain ⟨i'', rfl⟩ : ∃ i'', i' = i'' + 1 := ⟨i' - 1, by omega⟩
          have e2 : mg2F a (nI (i'' + 1)) = nI i'' := by unfold mg2F; rw [if_neg (fun q => by have := (lek (i'' + 1) a (by omega) (by omega)).mp q; omega), pr i'' (by omega)]
          rw [if_pos q2, if_pos q2, e2]
          refine ⟨fun j hj => ?_, fun hh => absurd rfl (hh i'' (by omega))⟩
          unfold zM
          rw [eqk i'' j (by omega) (by omega)]
          by_cases q1 : j < a
          · rw [if_pos q1, bof j (by omega) (by omega)]
            exact ⟨fun h => (by cases h), fun h => by omega⟩
          · rw [if_neg q1, if_pos q2, bo (j + 2) (by omega)]
            exact ⟨fun h => by omega, fun h => by omega⟩
        · rw [if_neg q2, if_neg q2]
          refine ⟨fun j hj => ?_, fun hh => absurd rfl (hh i' (by omega))⟩
          unfold zM
          rw [eqk i' j (by omega) (by omega)]
          by_cases q1 : j < a
          · rw [if_pos q1, bof j (by omega) (by omega)]
            exact ⟨fun h => (by cases h), fun h => by omega⟩
          · rw [if_neg q1, if_neg q2]
            by_cases q3 : j = a
            · rw [if_pos q3, eM]; exact ⟨fun h => (by cases h), fun h => by omega⟩
            · rw [if_neg q3, bo (j + 1) (by omega)]
              exact ⟨fun h => by omega, fun h => by omega⟩
