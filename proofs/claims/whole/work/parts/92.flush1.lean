/-! PURE: flush, both sides -/
def smB (pn : Nat → Nat) (x : Nat) : Nat → Nat
  | 0 => 0
  | d + 1 => smB pn x d + (if x.testBit d = true then pn d else 0)
/-- how many postings a document has -/
def pnM (ν : Mem) (d : Nat) : Nat := (ν.1 35 d).toNatClampNeg
theorem DJ.pn {δ : Dx} {ν : Mem} {c d : Nat} (h : DJ δ ν c) (hd : d < c) : ∃ q, δ d = some q ∧ q.2.2.2 = nI (pnM ν d) ∧ ν.1 35 d = nI (pnM ν d) := by
  obtain ⟨q, nt, tt, cc, a1, a2, a3, a4, a5⟩ := h.1 d hd
  have e : pnM ν d = (psL tt cc nt).length := by
    unfold pnM
    have := a5.2.1
    rw [a5.1, nI_clamp (by omega)]
  exact ⟨q, a1, by rw [e]; exact a2.2.2, by rw [e]; exact a5.1⟩
theorem pof_x {δ : Dx} {μ ν : Mem} {c x : Nat} (hc : c ≤ 40) (h1 : μ.1 41 1 = nI c) (hD : DJ δ ν c) (hx : x < 2 ^ 64) : ∀ j d n, d + j = c → j < n → f_Shelf_postingsOf_5 δ μ n (lN x) (nI (smB (pnM ν) x d)) (nI d) = some (nI (smB (pnM ν) x c)) := by
  intro j
  induction j with
  | zero =>
    intro d n hd hn
    obtain ⟨n, rfl⟩ : ∃ n', n = n' + 1 := ⟨n - 1, by omega⟩
    unfold f_Shelf_postingsOf_5
    rw [h1, if_pos (nI_le (by omega) (by omega)), show d = c by omega]
  | succ j ih =>
    intro d n hd hn
    obtain ⟨n, rfl⟩ : ∃ n', n = n' + 1 := ⟨n - 1, by omega⟩
    have nx := ih (d + 1) n (by omega) (by omega)
    obtain ⟨q, q1, q2, q3⟩ := hD.pn (show d < c by omega)
    have e0 : smB (pnM ν) x (d + 1) = smB (pnM ν) x d + (if x.testBit d = true then pnM ν d else 0) := rfl
    rw [e0] at nx
    unfold f_Shelf_postingsOf_5
    rw [h1, if_neg (nI_ge (by omega) (by omega)), gd_i (by rw [nI_toInt (by omega)]; omega), nI_clamp (by omega), q1]
    show cl (f_Shelf_holds n (lN x) (nI d)) (fun v4 => (if (bz v4) = 0 then (f_Shelf_postingsOf_45 (f_Shelf_postingsOf_5 δ μ n) δ μ n (lN x) (nI (smB (pnM ν) x d)) (nI d)) else (cl (f_Document_postings n q.1 (dmem q μ)) (fun v5 => bd (nI (smB (pnM ν) x d) + v5) (fun v6 => f_Shelf_postingsOf_45 (f_Shelf_postingsOf_5 δ μ n) δ μ n (lN x) v6 (nI d)))))) = _
    rw [holds_v hx (by omega), cl_s]
    unfold f_Shelf_postingsOf_45 f_Document_postings
    cases hb : x.testBit d with
    | true =>
      rw [hb, if_pos rfl] at nx
      rw [if_neg (by decide), cl_s, show (dmem q μ).1 0 2 = nI (pnM ν d) from q2, nI_add, bd_e, bd_e, nI_1]
      exact nx
    | false =>
      rw [hb, if_neg (by decide), Nat.add_zero] at nx
      rw [if_pos (by decide), bd_e, nI_1]
      exact nx
theorem pofv_x {δ : Dx} {μ ν : Mem} {c x n : Nat} (hc : c ≤ 40) (h1 : μ.1 41 1 = nI c) (hD : DJ δ ν c) (hx : x < 2 ^ 64) (hn : 41 < n) : f_Shelf_postingsOf n δ μ (lN x) = some (nI (smB (pnM ν) x c)) := pof_x hc h1 hD hx c 0 n (by omega) (by omega)
def FsF (ν ν' : Mem) : Prop := (∀ q, q ≠ 0 → q ≠ 36 → q ≠ 38 → ν'.1 q = ν.1 q) ∧ (∀ i, i ≠ 51 → ν'.1 0 i = ν.1 0 i) ∧ ν'.2 = ν.2
theorem FsF.rf (ν : Mem) : FsF ν ν := ⟨fun _ _ _ _ => rfl, fun _ _ => rfl, rfl⟩
theorem FsF.tr {ν ν1 ν2 : Mem} (h1 : FsF ν ν1) (h2 : FsF ν1 ν2) : FsF ν ν2 := ⟨fun q a b e => (h2.1 q a b e).trans (h1.1 q a b e), fun i a => (h2.2.1 i a).trans (h1.2.1 i a), h2.2.2.trans h1.2.2⟩
theorem FsF.w {ν : Mem} {q j : Nat} {v : Int32} (h : q = 36 ∨ q = 38 ∨ (q = 0 ∧ j = 51)) : FsF ν (wi ν q j v) := by
  refine ⟨fun r a b e => wi_o (by omega), fun i hi => ?_, rfl⟩
  rw [wi_g, if_neg (by omega)]
theorem fl6_m {ν : Mem} {c k w : Nat} (hc : c ≤ 40) (hp : ∀ d, d < c → ν.1 35 d = nI (pnM ν d)) (h50 : ν.1 0 50 = nI c) (h51 : ν.1 0 51 = nI k) : ∀ j d n (ν1 : Mem), d + j = c → j < n → FsF ν ν1 → ν1.1 0 51 = nI k → (∀ q, q < 40 → ν1.1 36 q = if q < d then 0 else bz (w.testBit q)) → (∀ q, ν1.1 38 q = if q < d ∧ w.testBit q = true then nI k else ν.1 38 q) → ∃ n' ν', n ≤ n' + j ∧ f_Mo_flush_6 n ν1 (nI (smB (pnM ν) w d)) (nI (cnt w.testBit d)) (nI d) = f_Mo_flush_6 n' ν' (nI (smB (pnM ν) w c)) (nI (cnt w.testBit c)) (nI c) ∧ FsF ν ν' ∧ ν'.1 0 51 = nI k ∧ (∀ q, q < 40 → ν'.1 36 q = if q < c then 0 else bz (w.testBit q)) ∧ (∀ q, ν'.1 38 q = if q < c ∧ w.testBit q = true then nI k else ν.1 38 q) := by
  intro j
  induction j with
  | zero =>
    intro d n ν1 hd hn hf h1 h2 h3
    have e : d = c := by omega
    rw [e] at h2 h3 ⊢
    exact ⟨n, ν1, by omega, rfl, hf, h1, h2, h3⟩
  | succ j ih =>
    intro d n ν1 hd hn hf h1 h2 h3
    obtain ⟨n, rfl⟩ : ∃ n', n = n' + 1 := ⟨n - 1, by omega⟩
    have e0 : smB (pnM ν) w (d + 1) = smB (pnM ν) w d + (if w.testBit d = true then pnM ν d else 0) := rfl
    have e1 : cnt w.testBit (d + 1) = cnt w.testBit d + (if w.testBit d = true then 1 else 0) := rfl
    have h50' : ν1.1 0 50 = nI c := by rw [hf.2.1 50 (by omega)]; exact h50
    have h36 := h2 d (by omega)
    rw [if_neg (by omega)] at h36
    have g40 : inb (nI d) 40 = true := inb_iff.mpr (by rw [nI_toInt (by omega)]; omega)
    have st : f_Mo_flush_6 (n + 1) ν1 (nI (smB (pnM ν) w d)) (nI (cnt w.testBit d)) (nI d) = (if (ν1.1 0 50) ≤ nI d then _ else (gd (inb (nI d) 40) ((if (ν1.1 36 (nI d).toNatClampNeg) = 0 then (f_Mo_flush_52 (f_Mo_flush_6 n) n ν1 (nI (smB (pnM ν) w d)) (nI (cnt w.testBit d)) (nI d)) else (gd (inb (nI d) 40) (bd (wi ν1 36 (nI d).toNatClampNeg (0 : Int32)) (fun μ2 => gd (inb (nI d) 40) (bd (wi μ2 38 (nI d).toNatClampNeg (μ2.1 0 51)) (fun μ3 => gd (inb (nI d) 40) (bd (nI (smB (pnM ν) w d) + (μ3.1 35 (nI d).toNatClampNeg)) (fun v4 => bd (nI (cnt w.testBit d) + 1) (fun v5 => f_Mo_flush_52 (f_Mo_flush_6 n) n μ3 v4 v5 (nI d)))))))))))) ) := rfl
    rw [st, h50', if_neg (nI_ge (by omega) (by omega)), g40, gd_t, nI_clamp (by omega), h36]
    simp only [gd_t, bd_e]
    unfold f_Mo_flush_52
    rw [bd_e, bd_e, nI_1]
    cases hb : w.testBit d with
    | false =>
      have e0 : smB (pnM ν) w (d + 1) = smB (pnM ν) w d := by rw [e0, hb]; simp
      have e1 : cnt w.testBit (d + 1) = cnt w.testBit d := by rw [e1, hb]; simp
      rw [if_pos (by decide), ← e0, ← e1]
      refine (ih (d + 1) n ν1 (by omega) (by omega) hf h1 (fun q hq => ?_) (fun q => ?_)).imp fun n' hh => ?_
      · rw [h2 q hq]
        by_cases c1 : q < d
        · rw [if_pos c1, if_pos (by omega)]
        · rw [if_neg c1]
          by_cases c2 : q = d
          · subst c2; rw [hb, if_pos (by omega)]; rfl
          · rw [if_neg (by omega)]
      · rw [h3 q]
        by_cases c1 : q < d ∧ w.testBit q = true
        · rw [if_pos c1, if_pos ⟨by omega, c1.2⟩]
        · rw [if_neg c1]
          by_cases c2 : q = d
          · subst c2; rw [hb, if_neg (fun h => by cases h.2)]
          · rw [if_neg (fun h => c1 ⟨by omega, h.2⟩)]
      · obtain ⟨ν', k1, k2⟩ := hh
        exact ⟨ν', by omega, k2⟩
    | true =>
      rw [hb, if_pos rfl] at e0 e1
      have k35 : (wi (wi ν1 36 d 0) 38 d ((wi ν1 36 d 0).1 0 51)).1 35 d = nI (pnM ν d) := by
        rw [wi_o (by omega), wi_o (by omega), hf.1 35 (by omega) (by omega) (by omega)]
        exact hp d (by omega)
      have k51 : (wi ν1 36 d 0).1 0 51 = nI k := by rw [wi_o (by omega)]; exact h1
      rw [if_neg (by decide), k35, nI_add, nI_1, ← e0, ← e1, k51]
      refine (ih (d + 1) n (wi (wi ν1 36 d 0) 38 d (nI k)) (by omega) (by omega) (hf.tr ((FsF.w (by omega)).tr (FsF.w (by omega)))) ?_ (fun q hq => ?_) (fun q => ?_)).imp fun n' hh => ?_
      · rw [wi_o (by omega)]; exact k51
      · rw [wi_o (by omega), wi_g]
        by_cases c2 : q = d
        · rw [if_pos ⟨rfl, c2⟩, if_pos (by omega)]
        · rw [if_neg (by omega), h2 q hq]
          by_cases c1 : q < d
          · rw [if_pos c1, if_pos (by omega)]
          · rw [if_neg c1, if_neg (by omega)]
      · rw [wi_g, wi_o (show (38 : Nat) ≠ 36 by omega)]
        by_cases c2 : q = d
        · subst c2
          rw [if_pos ⟨rfl, rfl⟩, if_pos ⟨by omega, hb⟩]
        · rw [if_neg (by omega), h3 q]
          by_cases c1 : q < d ∧ w.testBit q = true
          · rw [if_pos c1, if_pos ⟨by omega, c1.2⟩]
          · rw [if_neg c1, if_neg (fun h => c1 ⟨by omega, h.2⟩)]
      · obtain ⟨ν', q1, q2⟩ := hh
        exact ⟨ν', by omega, q2⟩
/-- which segment each document lies in -/
def Sg (ν : Mem) (c k : Nat) (z : Nat → Nat) : Prop := ∀ d, d < c → (∀ i, i < k → ((z i).testBit d = true ↔ ν.1 38 d = nI i)) ∧ ((∀ i, i < k → ¬ ν.1 38 d = nI i) → ν.1 38 d = -1)
theorem Sg.cs {ν : Mem} {c k d : Nat} {z : Nat → Nat} (h : Sg ν c k z) (hd : d < c) : (ν.1 38 d = -1 ∧ ∀ i, i < k → (z i).testBit d = false) ∨ ∃ i, i < k ∧ ν.1 38 d = nI i ∧ (z i).testBit d = true := by
  by_cases q : ∃ i, i < k ∧ ν.1 38 d = nI i
  · obtain ⟨i, i1, i2⟩ := q
    exact Or.inr ⟨i, i1, i2, ((h d hd).1 i i1).mpr i2⟩
  · refine Or.inl ⟨(h d hd).2 (fun i hi e => q ⟨i, hi, e⟩), fun i hi => ?_⟩
    cases hb : (z i).testBit d with
    | false => rfl
    | true => exact absurd ⟨i, hi, ((h d hd).1 i hi).mp hb⟩ q
theorem Sg.size {ν : Mem} {c k i : Nat} {z : Nat → Nat} (h : Sg ν c k z) (hc : c ≤ 40) (hz : z i < 2 ^ c) (hi : i < k) : pc 64 (z i) = cnt (fun d => decide (ν.1 38 d = nI i)) c := by
  rw [pc_cnt, cnt_up (fun d hd => tb_hi hz hd) 64 (by omega)]
  refine cnt_eq c (fun d hd => ?_)
  have e := (h d hd).1 i hi
  by_cases q : ν.1 38 d = nI i
  · simp [e.mpr q, q]
  · have : (z i).testBit d = false := by
      cases hz : (z i).testBit d with
      | false => rfl
      | true => exact absurd (e.mp hz) q
    simp [this, q]
theorem Sg.store {ν ν' : Mem} {c k w : Nat} {z : Nat → Nat} (h : Sg ν c k z) (hk : k ≤ 3) (hw : ∀ d, w.testBit d = true → ∀ i, i < k → (z i).testBit d = false) (h38 : ∀ q, ν'.1 38 q = if q < c ∧ w.testBit q = true then nI k else ν.1 38 q) : Sg ν' c (k + 1) (fun i => if i = k then w else z i) := by
  intro d hd
  rw [h38 d]
  cases hb : w.testBit d with
  | true =>
    rw [if_pos ⟨hd, rfl⟩]
    refine ⟨fun i hi => ?_, fun hh => absurd rfl (hh k (by omega))⟩
    by_cases q : i = k
    · subst q
      show (if i = i then w else z i).testBit d = true ↔ _
      rw [if_pos rfl]; exact ⟨fun _ => rfl, fun _ => hb⟩
    · show (if i = k then w else z i).testBit d = true ↔ _
      rw [if_neg q, hw d hb i (by omega), nI_eq (by omega) (by omega)]
      exact ⟨fun h => (by cases h), fun h => absurd h.symm q⟩
  | false =>
    rw [if_neg (fun h => by cases h.2)]
    refine ⟨fun i hi => ?_, fun hh => (h d hd).2 (fun i hi => hh i (by omega))⟩
    by_cases q : i = k
    · subst q
      show (if i = i then w else z i).testBit d = true ↔ _
      rw [if_pos rfl, hb]
      refine ⟨fun h => (by cases h), fun e => ?_⟩
      rcases h.cs hd with ⟨h1, _⟩ | ⟨i', h1, h2, _⟩
      · rw [h1] at e; exact absurd e.symm (nI_nem1 (by omega))
      · rw [h2] at e
        have := (nI_eq (by omega) (by omega)).mp e
        omega
    · show (if i = k then w else z i).testBit d = true ↔ _
      rw [if_neg q]
      exact (h d hd).1 i (by omega)
theorem segS_x {μ : Mem} {c k i n : Nat} {z : Nat → Nat} (hc : c ≤ 40) (hk : k ≤ 4) (h6 : μ.1 41 6 = nI k) (h43 : ∀ i, i < k → μ.2 43 i = lN (z i)) (hz : z i < 2 ^ c) (hi : i < k) : f_Shelf_segmentSize n μ (nI i) = some (nI (pc 64 (z i))) := by
  unfold f_Shelf_segmentSize
  rw [if_neg (nI_pos (by omega)), h6, if_pos (nI_lt hi (by omega)), gd_i (by rw [nI_toInt (by omega)]; omega), nI_clamp (by omega), h43 i hi, bitCount_v (lt64 hz hc), cl_s]
/-- the smaller of two neighbouring pairs, the earlier one where they are equal -/
def bstP (S : Nat → Nat) (a b : Nat) : Nat := if S a + S (a + 1) ≤ S b + S (b + 1) then a else b
theorem bstP_lt {S : Nat → Nat} {a b m : Nat} (ha : a ≤ m) (hb : b ≤ m) : bstP S a b ≤ m := by
  unfold bstP
  by_cases c : S a + S (a + 1) ≤ S b + S (b + 1)
  · rw [if_pos c]; exact ha
  · rw [if_neg c]; exact hb
theorem pc_64 (m : Nat) : pc 64 m ≤ 64 := by rw [pc_cnt]; exact cnt_le _ _
theorem pair_x {μ : Mem} {c n : Nat} {z : Nat → Nat} (hc : c ≤ 40) (h6 : μ.1 41 6 = nI 4) (h43 : ∀ i, i < 4 → μ.2 43 i = lN (z i)) (hz : ∀ i, i < 4 → z i < 2 ^ c) (hn : 5 < n) : f_Shelf_smallestPair n μ = some (nI (bstP (fun i => pc 64 (z i)) (bstP (fun i => pc 64 (z i)) 0 1) 2)) := by
  have ps : ∀ m i, i < 3 → f_Shelf_pairSize m μ (nI i) = some (nI (pc 64 (z i) + pc 64 (z (i + 1)))) := by
    intro m i hi
    unfold f_Shelf_pairSize
    rw [segS_x hc (by omega) h6 h43 (hz i (by omega)) (by omega), cl_s, show nI i + 1 = nI (i + 1) from nI_1 i, segS_x hc (by omega) h6 h43 (hz (i + 1) (by omega)) (by omega), cl_s, nI_add]
  have stp : ∀ m a b, a < 3 → b < 3 → f_Shelf_smallestPair_4 μ (m + 1) (nI a) (nI b) = f_Shelf_smallestPair_4 μ m (nI (bstP (fun i => pc 64 (z i)) a b)) (nI (b + 1)) := by
    intro m a b ha hb
    have l1 := pc_64 (z a)
    have l2 := pc_64 (z (a + 1))
    have l3 := pc_64 (z b)
    have l4 := pc_64 (z (b + 1))
    show (if (μ.1 41 6) ≤ (nI b + (1 : Int32)) then _ else (cl (f_Shelf_pairSize m μ (nI b)) (fun v1 => cl (f_Shelf_pairSize m μ (nI a)) (fun v2 => (if v2 ≤ v1 then (f_Shelf_smallestPair_29 (f_Shelf_smallestPair_4 μ m) μ m (nI a) (nI b)) else (f_Shelf_smallestPair_29 (f_Shelf_smallestPair_4 μ m) μ m (nI b) (nI b))))))) = _
    rw [h6, show nI b + 1 = nI (b + 1) from nI_1 b, if_neg (nI_ge (by omega) (by omega)), ps m b hb, cl_s, ps m a ha, cl_s]
    unfold f_Shelf_smallestPair_29 bstP
    rw [bd_e, bd_e, show nI b + 1 = nI (b + 1) from nI_1 b]
    by_cases q : pc 64 (z a) + pc 64 (z (a + 1)) ≤ pc 64 (z b) + pc 64 (z (b + 1))
    · rw [if_pos (nI_le q (by omega)), if_pos q]
    · rw [if_neg (nI_ge (by omega) (by omega)), if_neg q]
  obtain ⟨n, rfl⟩ : ∃ n', n = n' + 3 := ⟨n - 3, by omega⟩
  unfold f_Shelf_smallestPair
  rw [show (0 : Int32) = nI 0 from rfl, show (1 : Int32) = nI 1 from rfl, stp (n + 2) 0 1 (by omega) (by omega), stp (n + 1) _ 2 (by have := bstP_lt (S := fun i => pc 64 (z i)) (a := 0) (b := 1) (m := 1) (by omega) (by omega); omega) (by omega)]
  show (if (μ.1 41 6) ≤ (nI 3 + (1 : Int32)) then _ else _) = _
  rw [h6, if_pos (by decide)]
theorem pair_m {ν : Mem} {c n : Nat} {S : Nat → Nat} {x1 : Int32} (hc : c ≤ 40) (h50 : ν.1 0 50 = nI c) (hS : ∀ i, i < 4 → cnt (fun d => decide (ν.1 38 d = nI i)) c = S i) (hn : 60 < n) : ∃ n', n ≤ n' + 4 ∧ f_Mo_flush_89 n ν x1 0 1 = cl2 (f_Mo_merge n' ν (nI (bstP S (bstP S 0 1) 2))) (fun v1 μ2 => some (x1 + v1, μ2)) := by
  have ly : ∀ m i, 41 < m → i < 4 → f_Mo_lying m ν (nI i) = some (nI (S i)) := by
    intro m i hm hi
    have := lying_v (i := i) hc h50 c 0 m (by omega) (by omega)
    rw [hS i hi] at this
    exact this
  have hSl : ∀ i, i < 4 → S i ≤ 40 := fun i hi => by rw [← hS i hi]; have := cnt_le (fun d => decide (ν.1 38 d = nI i)) c; omega
  have stp : ∀ m a b, 41 < m → a < 3 → b < 3 → f_Mo_flush_89 (m + 1) ν x1 (nI a) (nI b) = f_Mo_flush_89 m ν x1 (nI (bstP S a b)) (nI (b + 1)) := by
    intro m a b hm ha hb
    have l1 := hSl a (by omega)
    have l2 := hSl (a + 1) (by omega)
    have l3 := hSl b (by omega)
    have l4 := hSl (b + 1) (by omega)
    show (if (3 : Int32) ≤ nI b then _ else (cl (f_Mo_lying m ν (nI b)) (fun v3 => cl (f_Mo_lying m ν (nI b + (1 : Int32))) (fun v4 => bd (v3 + v4) (fun v5 => cl (f_Mo_lying m ν (nI a)) (fun v6 => cl (f_Mo_lying m ν (nI a + (1 : Int32))) (fun v7 => bd (v6 + v7) (fun v8 => (if v8 ≤ v5 then (f_Mo_flush_140 (f_Mo_flush_89 m) m ν x1 (nI b) (nI a)) else (f_Mo_flush_140 (f_Mo_flush_89 m) m ν x1 (nI b) (nI b))))))))))) = _
    rw [if_neg (by rw [show (3 : Int32) = nI 3 from rfl]; exact nI_ge (by omega) (by omega)), ly m b hm (by omega), cl_s, show nI b + 1 = nI (b + 1) from nI_1 b, ly m (b + 1) hm (by omega), cl_s, bd_e, ly m a hm (by omega), cl_s, show nI a + 1 = nI (a + 1) from nI_1 a, ly m (a + 1) hm (by omega), cl_s, bd_e, nI_add, nI_add]
    unfold f_Mo_flush_140 bstP
    rw [bd_e, bd_e, show nI b + 1 = nI (b + 1) from nI_1 b]
    by_cases q : S a + S (a + 1) ≤ S b + S (b + 1)
    · rw [if_pos (nI_le q (by omega)), if_pos q]
    · rw [if_neg (nI_ge (by omega) (by omega)), if_neg q]
  obtain ⟨n, rfl⟩ : ∃ n', n = n' + 3 := ⟨n - 3, by omega⟩
  refine ⟨n, by omega, ?_⟩
  rw [show (0 : Int32) = nI 0 from rfl, show (1 : Int32) = nI 1 from rfl, stp (n + 2) 0 1 (by omega) (by omega) (by omega), stp (n + 1) _ 2 (by omega) (by have := bstP_lt (S := S) (a := 0) (b := 1) (m := 1) (by omega) (by omega); omega) (by omega)]
  show (if (3 : Int32) ≤ nI 3 then _ else _) = _
  rw [if_pos (by decide)]
