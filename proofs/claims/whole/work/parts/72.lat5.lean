/-! PURE: the unknown nodes at a place, both sides -/
def unF (P : Nat → Bool) (p : Nat) : Nat → List Nd
  | 0 => []
  | n + 1 => unF P p n ++ (if P (n + 1) = true then [(p, n + 1, 40)] else [])
theorem unF_le {P : Nat → Bool} {p : Nat} : ∀ j e, (unF P p e).length ≤ (unF P p (e + j)).length := by
  intro j
  induction j with
  | zero => intro e; exact Nat.le_refl _
  | succ j ih =>
    intro e
    have := ih e
    show _ ≤ (unF P p (e + j) ++ _).length
    rw [List.length_append]
    omega
/-- is an unknown node of length n to be made? F: the flags, run: the run's length -/
def unP (F run n : Nat) : Bool := decide (n ≤ F / 4 ∨ (n = run ∧ ¬ (nI F &&& 2 = 0)))
theorem unF_gap {F run p lo : Nat} (hlo : lo = F / 4) : ∀ j, lo + j < run → unF (unP F run) p (lo + j) = unF (unP F run) p lo := by
  intro j
  induction j with
  | zero => intro _; rfl
  | succ j ih =>
    intro h
    show unF (unP F run) p (lo + j) ++ (if unP F run (lo + j + 1) = true then [(p, lo + j + 1, 40)] else []) = _
    have hf : ¬ unP F run (lo + j + 1) = true := by
      unfold unP
      rw [decide_eq_true_iff]
      omega
    rw [if_neg hf, List.append_nil, ih (by omega)]
theorem unF_tail {F run p lo : Nat} (hlo : lo = min (F / 4) run) : unF (unP F run) p run = unF (unP F run) p lo ++ (if ¬ (nI F &&& 2 = 0) ∧ lo < run then [(p, run, 40)] else []) := by
  by_cases h : lo < run
  · obtain ⟨r, rfl⟩ : ∃ r, run = r + 1 := ⟨run - 1, by omega⟩
    have hr : unF (unP F (r + 1)) p r = unF (unP F (r + 1)) p lo := by
      have := unF_gap (F := F) (run := r + 1) (p := p) (lo := lo) (by omega) (r - lo) (by omega)
      rw [show lo + (r - lo) = r by omega] at this
      exact this
    show unF (unP F (r + 1)) p r ++ (if unP F (r + 1) (r + 1) = true then [(p, r + 1, 40)] else []) = _
    rw [hr]
    have hq : unP F (r + 1) (r + 1) = true ↔ (¬ (nI F &&& 2 = 0) ∧ lo < r + 1) := by
      unfold unP
      rw [decide_eq_true_iff]
      constructor
      · intro z
        rcases z with z | z
        · omega
        · exact ⟨z.2, h⟩
      · intro z
        exact Or.inr ⟨rfl, z.1⟩
    by_cases g : unP F (r + 1) (r + 1) = true
    · rw [if_pos g, if_pos (hq.mp g)]
    · rw [if_neg g, if_neg (fun z => g (hq.mpr z))]
  · have : lo = run := by omega
    subst this
    rw [if_neg (fun z => h z.2), List.append_nil]
theorem unkOf_x {μ : Mem} {c : Nat → Nat} {L : List Nd} {s p l n : Nat} (hs : s ≤ 24) (hd : ∀ j, j < s → c j ≤ 255 ∧ μ.1 2 j = nI (c j)) (hp : p < s) (h : ArrX μ c L) (hm : L.length < 696) : ∃ μ', f_Lattice_putUnknownOf n μ (nI p) (nI l) = some μ' ∧ ArrX μ' c (L ++ [(p, l, 40)]) ∧ LatF μ μ' := by
  obtain ⟨μ', r1, r2, r3⟩ := putL_x (n := n) (b := p) (l := l) (e := 40) h hm
  have hpt : ptX μ c (p, l, 40) = μ.1 12 (c p / 64) := if_pos rfl
  have hct : ctX μ c (p, l, 40) = μ.1 13 (c p / 64) := if_pos rfl
  have hen : enX 40 = -1 := if_pos rfl
  rw [hpt, hct, hen] at r1
  have hk := (hd p hp).1
  refine ⟨μ', ?_, r2, r3⟩
  have hg4 : ∀ {x : Option Int32}, gd (inb (nI (c p / 64)) 4) x = x := gd_i (by rw [nI_toInt (by omega)]; omega)
  unfold f_Lattice_putUnknownOf f_Grammar_unknownPart f_Grammar_unknownPrice
  rw [classAt_v hs hd hp, cl_s, hg4, cl_s, hg4, cl_s, nI_clamp (by omega), r1, cl_s]
theorem unk_x {c : Nat → Nat} {L : List Nd} {s p F run lo : Nat} (hs : s ≤ 24) (hp : p < s) (hrun : run ≤ 8) (hF : F ≤ 19) (hlo : lo = min (F / 4) run) (hb : (L ++ unF (unP F run) p run).length ≤ 696) : ∀ j i n (μ : Mem), i + j = lo → j < n → (∀ j, j < s → c j ≤ 255 ∧ μ.1 2 j = nI (c j)) → μ.1 11 (c p / 64) = nI F → ArrX μ c (L ++ unF (unP F run) p i) → ∃ μ', f_Lattice_putUnknown_53 n μ (nI p) (nI (c p / 64)) (nI run) (nI lo) (nI (i + 1)) = some μ' ∧ ArrX μ' c (L ++ unF (unP F run) p run) ∧ LatF μ μ' := by
  intro j
  induction j with
  | zero =>
    intro i n μ hi hn hd hf ha
    obtain ⟨n, rfl⟩ : ∃ z, n = z + 1 := ⟨n - 1, by omega⟩
    have hk := (hd p hp).1
    have e : i = lo := by omega
    subst e
    have hg4 : ∀ {x : Option Bool}, gd (inb (nI (c p / 64)) 4) x = x := gd_i (by rw [nI_toInt (by omega)]; omega)
    have ht := unF_tail (p := p) hlo
    rw [f_Lattice_putUnknown_53, if_pos (nI_lt (by omega) (by omega))]
    unfold f_Grammar_groups
    rw [hg4, nI_clamp (by omega), hf]
    by_cases g : nI F &&& 2 = 0
    · rw [if_pos g, cl_s, if_pos bzf]
      rw [if_neg (fun z => z.1 g), List.append_nil] at ht
      exact ⟨μ, rfl, by rw [ht]; exact ha, LatF.rf μ⟩
    · rw [if_neg g, cl_s, if_neg (show ¬ bz true = 0 by decide)]
      by_cases hr : i < run
      · rw [if_pos ⟨g, hr⟩] at ht
        rw [if_neg (nI_ge (by omega) (by omega))]
        rw [ht, List.length_append, List.length_append] at hb
        have h1 : ([(p, run, 40)] : List Nd).length = 1 := rfl
        obtain ⟨μ1, r1, r2, r3⟩ := unkOf_x (n := n) (l := run) hs hd hp ha (by rw [List.length_append]; omega)
        rw [List.append_assoc, ← ht] at r2
        exact ⟨μ1, by rw [r1, cl_s], r2, r3⟩
      · rw [if_neg (fun z => hr z.2), List.append_nil] at ht
        rw [if_pos (nI_le (by omega) (by omega))]
        exact ⟨μ, rfl, by rw [ht]; exact ha, LatF.rf μ⟩
  | succ j ih =>
    intro i n μ hi hn hd hf ha
    obtain ⟨n, rfl⟩ : ∃ z, n = z + 1 := ⟨n - 1, by omega⟩
    have hP : unP F run (i + 1) = true := by
      unfold unP
      rw [decide_eq_true_iff]
      exact Or.inl (by omega)
    have hu : unF (unP F run) p (i + 1) = unF (unP F run) p i ++ [(p, i + 1, 40)] := by
      show unF (unP F run) p i ++ (if unP F run (i + 1) = true then [(p, i + 1, 40)] else []) = _
      rw [if_pos hP]
    have hl := unF_le (P := unP F run) (p := p) (run - (i + 1)) (i + 1)
    rw [show i + 1 + (run - (i + 1)) = run by omega, hu, List.length_append] at hl
    rw [List.length_append] at hb
    have h1 : ([(p, i + 1, 40)] : List Nd).length = 1 := rfl
    obtain ⟨μ1, r1, r2, r3⟩ := unkOf_x (n := n) (l := i + 1) hs hd hp ha (by rw [List.length_append]; omega)
    rw [List.append_assoc, ← hu] at r2
    obtain ⟨μ2, t1, t2, t3⟩ := ih (i + 1) n μ1 (by omega) (by omega) (fun q hq => by rw [r3.1 2 (by omega)]; exact hd q hq) (by rw [r3.1 11 (by omega)]; exact hf) r2
    refine ⟨μ2, ?_, t2, r3.tr t3⟩
    rw [f_Lattice_putUnknown_53, if_neg (show ¬ nI lo < nI (i + 1) from nI_nlt (by omega) (by omega)), r1, cl_s, bd_e, nI_1]
    exact t1
theorem unk_m {c : Nat → Nat} {L : List Nd} {s p F run : Nat} {full : Bool} {x3 : Int32} (hs : s ≤ 24) (hp : p + run ≤ s) (hr1 : 1 ≤ run) (hrun : run ≤ 8) (hF : F ≤ 19) (hb : (L ++ unF (unP F run) p run).length ≤ 696) : ∀ j i n (ν : Mem), i + j = run → j + 20 < n → (∀ j, j < s → c j ≤ 255 ∧ ν.1 1 j = nI (c j)) → ArrM ν c full (L ++ unF (unP F run) p i) → ∃ n' ν', n ≤ n' + j + 1 ∧ f_Mo_nodesAt_89 n ν (nI p) (bz full) x3 (nI F) (nI run) (nI (i + 1)) = f_Mo_nodesAt_135 n' ν' (nI p) (bz full) x3 ∧ ArrM ν' c full (L ++ unF (unP F run) p run) ∧ MatF ν ν' := by
  intro j
  induction j with
  | zero =>
    intro i n ν hi hn hd ha
    obtain ⟨n, rfl⟩ : ∃ z, n = z + 1 := ⟨n - 1, by omega⟩
    have e : i = run := by omega
    subst e
    refine ⟨n, ν, by omega, ?_, ha, MatF.rf ν⟩
    rw [f_Mo_nodesAt_89, if_pos (nI_lt (by omega) (by omega))]
  | succ j ih =>
    intro i n ν hi hn hd ha
    obtain ⟨n, rfl⟩ : ∃ z, n = z + 1 := ⟨n - 1, by omega⟩
    have hu : unF (unP F run) p (i + 1) = unF (unP F run) p i ++ (if unP F run (i + 1) = true then [(p, i + 1, 40)] else []) := rfl
    have hd4 : nI F / (4 : Int32) = nI (F / 4) := by rw [show (4 : Int32) = nI 4 from by decide, pk_div (by omega) (by decide) (by decide)]
    have hl := unF_le (P := unP F run) (p := p) (run - (i + 1)) (i + 1)
    rw [show i + 1 + (run - (i + 1)) = run by omega, hu, List.length_append] at hl
    rw [List.length_append] at hb
    rw [f_Mo_nodesAt_89, if_neg (show ¬ nI run < nI (i + 1) from nI_nlt (by omega) (by omega)), hd4]
    by_cases hP : unP F run (i + 1) = true
    · rw [if_pos hP] at hu hl
      have h1 : ([(p, i + 1, 40)] : List Nd).length = 1 := rfl
      obtain ⟨ν1, r1, r2, r3⟩ := nodeL_m (n := n) (b := p) (l := i + 1) (e := 40) ha (by rw [List.length_append]; omega) hs hd (by omega) (by omega) (by omega) (by omega) (by omega)
      rw [List.append_assoc, ← hu] at r2
      obtain ⟨n', ν2, t1, t2, t3, t4⟩ := ih (i + 1) n ν1 (by omega) (by omega) (fun q hq => by rw [r3.1 1 (by decide) (by omega)]; exact hd q hq) r2
      refine ⟨n', ν2, by omega, ?_, t3, r3.tr t4⟩
      have h119 : f_Mo_nodesAt_119 (f_Mo_nodesAt_89 n) n ν (nI p) (bz full) x3 (nI F) (nI run) (nI (i + 1)) = f_Mo_nodesAt_135 n' ν2 (nI p) (bz full) x3 := by
        unfold f_Mo_nodesAt_119 f_Mo_nodesAt_129
        rw [show (40 : Int32) = nI 40 from by decide, r1, cl_s, bd_e, nI_1]
        exact t2
      have hP2 := of_decide_eq_true hP
      by_cases q1 : i + 1 ≤ F / 4
      · rw [if_pos (nI_le q1 (by omega))]
        exact h119
      · rw [if_neg (nI_ge (by omega) (by omega))]
        have q2 : i + 1 = run ∧ ¬ (nI F &&& 2 = 0) := hP2.resolve_left q1
        rw [if_pos (by rw [q2.1]), if_neg q2.2]
        exact h119
    · rw [if_neg hP, List.append_nil] at hu
      obtain ⟨n', ν2, t1, t2, t3, t4⟩ := ih (i + 1) n ν (by omega) (by omega) hd (by rw [hu]; exact ha)
      refine ⟨n', ν2, by omega, ?_, t3, t4⟩
      have h129 : f_Mo_nodesAt_129 (f_Mo_nodesAt_89 n) n ν (nI p) (bz full) x3 (nI F) (nI run) (nI (i + 1)) = f_Mo_nodesAt_135 n' ν2 (nI p) (bz full) x3 := by
        unfold f_Mo_nodesAt_129
        rw [bd_e, nI_1]
        exact t2
      have hP2 : ¬ (i + 1 ≤ F / 4 ∨ (i + 1 = run ∧ ¬ (nI F &&& 2 = 0))) := fun z => hP (decide_eq_true z)
      rw [if_neg (nI_ge (by omega) (by omega))]
      by_cases q1 : i + 1 = run
      · have q2 : nI F &&& 2 = 0 := Classical.byContradiction fun z => hP2 (Or.inr ⟨q1, z⟩)
        rw [if_pos (by rw [q1]), if_pos q2]
        exact h129
      · rw [if_neg (fun z => q1 ((nI_eq (by omega) (by omega)).mp z))]
        exact h129
