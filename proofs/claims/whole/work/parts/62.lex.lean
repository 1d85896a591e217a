/-! PURE: the dictionary; standsAt, sameSurface(s) -/
def cutsOK (a : Int32) (s : Nat) : Prop := (a &&& ((((1 : Int32) <<< (nI s &&& 31)) - 2) ^^^ (-1))) = 0
/-- ne entries: lengths le, surfaces sf; parts, costs, cuts and bases are the same numbers on both sides -/
def LxP (μ ν : Mem) (ne : Nat) (le : Nat → Nat) (sf : Nat → Nat → Nat) : Prop :=
  (ne ≤ 40 ∧ μ.1 3 6 = nI ne ∧ ν.1 0 8 = nI ne) ∧
  (∀ e, e < ne → (1 ≤ le e ∧ le e ≤ 8) ∧ (∀ k, k < le e → (1 ≤ sf e k ∧ sf e k ≤ 255) ∧ ν.1 2 (8 * e + k) = nI (sf e k)) ∧ μ.1 5 e = nI (le e) ∧ ν.1 3 e = nI (le e) ∧ μ.2 4 e = lN (tv (sf e) (le e))) ∧
  (∀ e, e < ne → (μ.1 6 e = ν.1 4 e ∧ 1 ≤ (μ.1 6 e).toInt ∧ (μ.1 6 e).toInt ≤ 7) ∧ (μ.1 7 e = ν.1 5 e ∧ -10000 ≤ (μ.1 7 e).toInt ∧ (μ.1 7 e).toInt ≤ 10000) ∧ (μ.1 8 e = ν.1 6 e ∧ cutsOK (μ.1 8 e) (le e)) ∧ (μ.1 9 e = ν.1 7 e ∧ -1 ≤ (μ.1 9 e).toInt ∧ (μ.1 9 e).toInt < e)) ∧
  (∀ x, cnt (fun e => decide (tv (sf e) (le e) = x)) ne ≤ 3)
theorem stands_l {ν : Mem} {ne s p e : Nat} {le : Nat → Nat} {sf : Nat → Nat → Nat} {c : Nat → Nat} (he : e < 40) (hl : le e ≤ 8) (h3 : ν.1 3 e = nI (le e)) (h2 : ∀ k, k < le e → (1 ≤ sf e k ∧ sf e k ≤ 255) ∧ ν.1 2 (8 * e + k) = nI (sf e k)) (hs : s ≤ 24) (hd : ∀ j, j < s → c j ≤ 255 ∧ ν.1 1 j = nI (c j)) (hp : p + le e ≤ s) :
    ∀ j k n, k + j = le e → j < n → (∀ q, q < k → sf e q = c (p + q)) → f_Mo_standsAt_19 ν n (nI e) (nI p) (nI k) = some (decide (∀ q, q < le e → sf e q = c (p + q))) := by
  intro j
  induction j with
  | zero =>
    intro k n hk hn hq
    obtain ⟨n, rfl⟩ : ∃ z, n = z + 1 := ⟨n - 1, by omega⟩
    rw [f_Mo_standsAt_19, gd_i (by rw [nI_toInt (by omega)]; omega), nI_clamp (by omega), h3, if_pos (nI_le (by omega) (by omega)), decide_eq_true (fun q h => hq q (by omega))]
  | succ j ih =>
    intro k n hk hn hq
    obtain ⟨n, rfl⟩ : ∃ z, n = z + 1 := ⟨n - 1, by omega⟩
    have e8 : (8 : Int32) * nI e + nI k = nI (8 * e + k) := by rw [show (8 : Int32) = nI 8 from by decide, pk_mul, nI_add]
    have hk2 := h2 k (by omega)
    have hc := hd (p + k) (by omega)
    rw [f_Mo_standsAt_19, gd_i (by rw [nI_toInt (by omega)]; omega), nI_clamp (by omega : e < 2 ^ 31), h3, if_neg (nI_ge (by omega) (by omega)), e8, nI_add, gd_i (by rw [nI_toInt (by omega)]; omega), gd_i (by rw [nI_toInt (by omega)]; omega), nI_clamp (by omega), nI_clamp (by omega), hk2.2, hc.2]
    by_cases h : sf e k = c (p + k)
    · rw [if_pos (by rw [h]), bd_e, nI_1]
      exact ih (k + 1) n (by omega) (by omega) (fun q hq2 => by
        by_cases e9 : q = k
        · rw [e9]; exact h
        · exact hq q (by omega))
    · rw [if_neg (fun z => h ((nI_eq (by omega) (by omega)).mp z)), decide_eq_false (fun z => h (z k (by omega)))]
/-- standsAt: the entry's surface stands in the draft at place p -/
theorem stands_v {μ ν : Mem} {ne s p e n : Nat} {le : Nat → Nat} {sf : Nat → Nat → Nat} {c : Nat → Nat} (hx : LxP μ ν ne le sf) (he : e < ne) (hs : s ≤ 24) (h0 : ν.1 0 1 = nI s) (hd : ∀ j, j < s → c j ≤ 255 ∧ ν.1 1 j = nI (c j)) (hp : p ≤ 24) (hn : 8 < n) : f_Mo_standsAt n ν (nI e) (nI p) = some (decide (p + le e ≤ s ∧ ∀ q, q < le e → sf e q = c (p + q))) := by
  have hne := hx.1.1
  obtain ⟨⟨l1, l2⟩, g2, g3, g4, g5⟩ := hx.2.1 e he
  unfold f_Mo_standsAt
  rw [gd_i (by rw [nI_toInt (by omega)]; omega), nI_clamp (by omega), g4, nI_add, h0]
  by_cases h : p + le e ≤ s
  · rw [if_pos (nI_le h (by omega))]
    have e1 := stands_l (ne := ne) (by omega) l2 g4 g2 hs hd h (le e) 0 n (by omega) (by omega) (fun q hq => by omega)
    have e1 : f_Mo_standsAt_19 ν n (nI e) (nI p) 0 = _ := e1
    rw [e1]
    congr 1
    apply decide_eq_decide.mpr
    exact ⟨fun z => ⟨h, z⟩, fun z => z.2⟩
  · rw [if_neg (nI_ge (by omega) (by omega)), decide_eq_false (fun z => h z.1)]
theorem same_x {μ ν : Mem} {ne x : Nat} {le : Nat → Nat} {sf : Nat → Nat → Nat} (hx : LxP μ ν ne le sf) (hx64 : x < 2 ^ 64) : ∀ j e n, e + j = ne → j < n → f_Lexicon_sameSurfaces_5 μ n (lN x) (nI (cnt (fun e => decide (tv (sf e) (le e) = x)) e)) (nI e) = some (nI (cnt (fun e => decide (tv (sf e) (le e) = x)) ne)) := by
  have hne := hx.1.1
  intro j
  induction j with
  | zero =>
    intro e n he hn
    obtain ⟨n, rfl⟩ : ∃ z, n = z + 1 := ⟨n - 1, by omega⟩
    rw [f_Lexicon_sameSurfaces_5, hx.1.2.1, if_pos (nI_le (by omega) (by omega)), show e = ne by omega]
  | succ j ih =>
    intro e n he hn
    obtain ⟨n, rfl⟩ : ∃ z, n = z + 1 := ⟨n - 1, by omega⟩
    obtain ⟨⟨l1, l2⟩, g2, g3, g4, g5⟩ := hx.2.1 e (by omega)
    have i1 := ih (e + 1) n (by omega) (by omega)
    have t64 := tv64 l2 (fun k hk => (g2 k hk).1.2)
    rw [f_Lexicon_sameSurfaces_5, hx.1.2.1, if_neg (nI_ge (by omega) (by omega)), gd_i (by rw [nI_toInt (by omega)]; omega), nI_clamp (by omega), g5]
    unfold f_Lexicon_sameSurfaces_29
    by_cases h : tv (sf e) (le e) = x
    · have e2 : cnt (fun e => decide (tv (sf e) (le e) = x)) (e + 1) = cnt (fun e => decide (tv (sf e) (le e) = x)) e + 1 := by
        show _ + (if decide (tv (sf e) (le e) = x) = true then 1 else 0) = _
        rw [if_pos (by simp [h])]
      rw [if_pos ((lc_0 _ _).mpr ((lN_inj t64 hx64).mpr h)), bd_e, bd_e, nI_1, nI_1, ← i1, e2]
    · have e2 : cnt (fun e => decide (tv (sf e) (le e) = x)) (e + 1) = cnt (fun e => decide (tv (sf e) (le e) = x)) e := by
        show _ + (if decide (tv (sf e) (le e) = x) = true then 1 else 0) = _
        rw [if_neg (by simp [h])]
        rfl
      rw [if_neg (fun z => h ((lN_inj t64 hx64).mp ((lc_0 _ _).mp z))), bd_e, nI_1, ← i1, e2]
theorem same_m {μ ν : Mem} {ne s : Nat} {le : Nat → Nat} {sf : Nat → Nat → Nat} {c : Nat → Nat} (hx : LxP μ ν ne le sf) (hs : s ≤ 8) (h0 : ν.1 0 1 = nI s) (hd : ∀ j, j < s → (1 ≤ c j ∧ c j ≤ 255) ∧ ν.1 1 j = nI (c j)) : ∀ j e n, e + j = ne → j + 10 < n → f_Mo_sameSurface_4 ν n (nI (cnt (fun e => decide (tv (sf e) (le e) = tv c s)) e)) (nI e) = some (nI (cnt (fun e => decide (tv (sf e) (le e) = tv c s)) ne)) := by
  have hne := hx.1.1
  intro j
  induction j with
  | zero =>
    intro e n he hn
    obtain ⟨n, rfl⟩ : ∃ z, n = z + 1 := ⟨n - 1, by omega⟩
    rw [f_Mo_sameSurface_4, hx.1.2.2, if_pos (nI_le (by omega) (by omega)), show e = ne by omega]
  | succ j ih =>
    intro e n he hn
    obtain ⟨n, rfl⟩ : ∃ z, n = z + 1 := ⟨n - 1, by omega⟩
    obtain ⟨⟨l1, l2⟩, g2, g3, g4, g5⟩ := hx.2.1 e (by omega)
    have i1 := ih (e + 1) n (by omega) (by omega)
    have ti := tv_inj l2 hs (fun k hk => (g2 k hk).1) (fun k hk => (hd k hk).1)
    have sv := stands_v (p := 0) (n := n) hx (show e < ne by omega) (show s ≤ 24 by omega) h0 (fun j hj => ⟨(hd j hj).1.2, (hd j hj).2⟩) (by omega) (by omega)
    have sv : f_Mo_standsAt n ν (nI e) 0 = _ := sv
    have key : (le e = s ∧ (0 + le e ≤ s ∧ ∀ q, q < le e → sf e q = c (0 + q))) ↔ tv (sf e) (le e) = tv c s := by
      rw [ti]
      constructor
      · rintro ⟨a, -, b⟩; exact ⟨a, fun k hk => by have := b k hk; rw [Nat.zero_add] at this; exact this⟩
      · rintro ⟨a, b⟩; exact ⟨a, by omega, fun k hk => by rw [Nat.zero_add]; exact b k hk⟩
    rw [f_Mo_sameSurface_4, hx.1.2.2, if_neg (nI_ge (by omega) (by omega)), gd_i (by rw [nI_toInt (by omega)]; omega), nI_clamp (by omega), g4, h0]
    have yes : tv (sf e) (le e) = tv c s → cnt (fun e => decide (tv (sf e) (le e) = tv c s)) (e + 1) = cnt (fun e => decide (tv (sf e) (le e) = tv c s)) e + 1 := by
      intro h
      show _ + (if decide (tv (sf e) (le e) = tv c s) = true then 1 else 0) = _
      rw [if_pos (by simp [h])]
    have no : ¬ tv (sf e) (le e) = tv c s → cnt (fun e => decide (tv (sf e) (le e) = tv c s)) (e + 1) = cnt (fun e => decide (tv (sf e) (le e) = tv c s)) e := by
      intro h
      show _ + (if decide (tv (sf e) (le e) = tv c s) = true then 1 else 0) = _
      rw [if_neg (by simp [h])]
      rfl
    unfold f_Mo_sameSurface_37
    by_cases h : le e = s
    · rw [if_pos (by rw [h]), sv, cl_s]
      by_cases h2 : tv (sf e) (le e) = tv c s
      · have h3 := (key.mpr h2).2
        rw [if_neg (by rw [bz_0, decide_eq_false_iff_not]; exact fun z => z h3), bd_e, bd_e, nI_1, nI_1, ← i1, yes h2]
      · rw [if_pos (by rw [bz_0, decide_eq_false_iff_not]; exact fun z => h2 (key.mp ⟨h, z⟩)), bd_e, nI_1, ← i1, no h2]
    · have h2 : ¬ tv (sf e) (le e) = tv c s := fun z => h (ti.mp z).1
      rw [if_neg (fun z => h ((nI_eq (by omega) (by omega)).mp z)), bd_e, nI_1, ← i1, no h2]
