/-! PURE: the loops over all places, the charges, and what is known of the list of nodes -/
def ndOK (s ne : Nat) (d : Nd) : Prop := 1 ≤ d.2.1 ∧ d.2.1 ≤ 8 ∧ d.1 + d.2.1 ≤ s ∧ (d.2.2 < ne ∨ d.2.2 = 40)
theorem knL_mem {μ ν : Mem} {ne s p : Nat} {le : Nat → Nat} {sf : Nat → Nat → Nat} {c : Nat → Nat} (hx : LxP μ ν ne le sf) : ∀ e, e ≤ ne → ∀ d, d ∈ knL p le (stB s c le sf p) e → d.1 = p ∧ ndOK s ne d ∧ d.2.2 < e := by
  intro e
  induction e with
  | zero => intro _ d hd; cases hd
  | succ e ih =>
    intro he d hd
    rw [show knL p le (stB s c le sf p) (e + 1) = knL p le (stB s c le sf p) e ++ (if stB s c le sf p e = true then [(p, le e, e)] else []) from rfl, List.mem_append] at hd
    rcases hd with hd | hd
    · obtain ⟨h1, h2, h3⟩ := ih (by omega) d hd
      exact ⟨h1, h2, by omega⟩
    · by_cases h : stB s c le sf p e = true
      · rw [if_pos h] at hd
        have : d = (p, le e, e) := List.mem_singleton.mp hd
        subst this
        obtain ⟨⟨l1, l2⟩, -⟩ := hx.2.1 e (by omega)
        have hs := of_decide_eq_true h
        exact ⟨rfl, ⟨l1, l2, hs.1, Or.inl (show e < ne by omega)⟩, Nat.lt_succ_self e⟩
      · rw [if_neg h] at hd
        cases hd
theorem unF_mem {P : Nat → Bool} {p : Nat} : ∀ n d, d ∈ unF P p n → d.1 = p ∧ 1 ≤ d.2.1 ∧ d.2.1 ≤ n ∧ d.2.2 = 40 := by
  intro n
  induction n with
  | zero => intro d hd; cases hd
  | succ n ih =>
    intro d hd
    rw [show unF P p (n + 1) = unF P p n ++ (if P (n + 1) = true then [(p, n + 1, 40)] else []) from rfl, List.mem_append] at hd
    rcases hd with hd | hd
    · obtain ⟨h1, h2, h3, h4⟩ := ih d hd
      exact ⟨h1, h2, by omega, h4⟩
    · split at hd
      · have : d = (p, n + 1, 40) := List.mem_singleton.mp hd
        subst this
        exact ⟨rfl, by show 1 ≤ n + 1; omega, Nat.le_refl _, rfl⟩
      · cases hd
theorem unU_mem {F run p : Nat} {K : List Nd} {d : Nd} (h : d ∈ unU F run p K) : d.1 = p ∧ 1 ≤ d.2.1 ∧ d.2.1 ≤ run ∧ d.2.2 = 40 := by
  unfold unU at h
  split at h
  · exact unF_mem run d h
  · cases h
theorem plL_mem {μ ν : Mem} {ne s p F : Nat} {le : Nat → Nat} {sf : Nat → Nat → Nat} {c : Nat → Nat} (hx : LxP μ ν ne le sf) (hp : p < s) {d : Nd} (h : d ∈ plL F (rnF s c p) p (knL p le (stB s c le sf p) ne)) : d.1 = p ∧ ndOK s ne d := by
  obtain ⟨q1, q2, q3⟩ := rnF_b (c := c) hp
  unfold plL at h
  split at h
  · have : d = (p, 1, 40) := List.mem_singleton.mp h
    subst this
    exact ⟨rfl, Nat.le_refl _, by show 1 ≤ 8; omega, by show p + 1 ≤ s; omega, Or.inr rfl⟩
  · rcases List.mem_append.mp h with h | h
    · obtain ⟨h1, h2, h3⟩ := knL_mem hx ne (Nat.le_refl _) d h
      exact ⟨h1, h2⟩
    · obtain ⟨h1, h2, h3, h4⟩ := unU_mem h
      exact ⟨h1, h2, by omega, by omega, Or.inr h4⟩
theorem ndL_mem {μ ν : Mem} {ne s : Nat} {le : Nat → Nat} {sf : Nat → Nat → Nat} {c : Nat → Nat} {fl : Nat → Nat} (hx : LxP μ ν ne le sf) : ∀ p, p ≤ s → ∀ d, d ∈ ndL s c ne le sf fl p → d.1 < p ∧ ndOK s ne d := by
  intro p
  induction p with
  | zero => intro _ d hd; cases hd
  | succ p ih =>
    intro hp d hd
    rw [ndL, List.mem_append] at hd
    rcases hd with hd | hd
    · obtain ⟨h1, h2⟩ := ih (by omega) d hd
      exact ⟨by omega, h2⟩
    · obtain ⟨h1, h2⟩ := plL_mem hx (by omega) hd
      exact ⟨by omega, h2⟩
/-- the order of the nodes -/
def ndR (a b : Nd) : Prop := a.1 < b.1 ∨ (a.1 = b.1 ∧ a.2.2 ≤ b.2.2)
theorem knL_pw {μ ν : Mem} {ne s p : Nat} {le : Nat → Nat} {sf : Nat → Nat → Nat} {c : Nat → Nat} (hx : LxP μ ν ne le sf) : ∀ e, e ≤ ne → (knL p le (stB s c le sf p) e).Pairwise ndR := by
  intro e
  induction e with
  | zero => intro _; exact List.Pairwise.nil
  | succ e ih =>
    intro he
    rw [show knL p le (stB s c le sf p) (e + 1) = knL p le (stB s c le sf p) e ++ (if stB s c le sf p e = true then [(p, le e, e)] else []) from rfl, List.pairwise_append]
    refine ⟨ih (by omega), by split <;> simp, fun a ha b hb => ?_⟩
    obtain ⟨h1, h2, h3⟩ := knL_mem hx e (by omega) a ha
    split at hb
    · have : b = (p, le e, e) := List.mem_singleton.mp hb
      subst this
      exact Or.inr ⟨h1, by show a.2.2 ≤ e; omega⟩
    · cases hb
theorem pw_40 {p : Nat} : ∀ (L : List Nd), (∀ d, d ∈ L → d.1 = p ∧ d.2.2 = 40) → L.Pairwise ndR := by
  intro L
  induction L with
  | nil => intro _; exact List.Pairwise.nil
  | cons x L ih =>
    intro h
    rw [List.pairwise_cons]
    refine ⟨fun a ha => ?_, ih (fun d hd => h d (List.mem_cons_of_mem _ hd))⟩
    have h1 := h x (List.mem_cons_self)
    have h2 := h a (List.mem_cons_of_mem _ ha)
    exact Or.inr ⟨by omega, by omega⟩
theorem plL_pw {μ ν : Mem} {ne s p F : Nat} {le : Nat → Nat} {sf : Nat → Nat → Nat} {c : Nat → Nat} (hx : LxP μ ν ne le sf) : (plL F (rnF s c p) p (knL p le (stB s c le sf p) ne)).Pairwise ndR := by
  have hne := hx.1.1
  unfold plL
  split
  · simp
  · rw [List.pairwise_append]
    refine ⟨knL_pw hx ne (Nat.le_refl _), pw_40 (p := p) _ (fun d hd => ?_), fun a ha b hb => ?_⟩
    · obtain ⟨h1, h2, h3, h4⟩ := unU_mem hd
      exact ⟨h1, h4⟩
    · obtain ⟨h1, h2, h3⟩ := knL_mem hx ne (Nat.le_refl _) a ha
      obtain ⟨g1, g2, g3, g4⟩ := unU_mem hb
      exact Or.inr ⟨by omega, by omega⟩
theorem ndL_pw {μ ν : Mem} {ne s : Nat} {le : Nat → Nat} {sf : Nat → Nat → Nat} {c : Nat → Nat} {fl : Nat → Nat} (hx : LxP μ ν ne le sf) : ∀ p, p ≤ s → (ndL s c ne le sf fl p).Pairwise ndR := by
  intro p
  induction p with
  | zero => intro _; exact List.Pairwise.nil
  | succ p ih =>
    intro hp
    rw [ndL, List.pairwise_append]
    refine ⟨ih (by omega), plL_pw hx, fun a ha b hb => ?_⟩
    have h1 := (ndL_mem hx p (by omega) a ha).1
    have h2 := (plL_mem hx (by omega) hb).1
    exact Or.inl (by omega)
theorem plL_ne {F run p : Nat} {K : List Nd} : plL F run p K ≠ [] := by
  unfold plL
  split
  · simp
  · assumption
theorem ndL_each {μ ν : Mem} {ne s : Nat} {le : Nat → Nat} {sf : Nat → Nat → Nat} {c : Nat → Nat} {fl : Nat → Nat} (hx : LxP μ ν ne le sf) : ∀ p, p ≤ s → ∀ q, q < p → ∃ d, d ∈ ndL s c ne le sf fl p ∧ d.1 = q := by
  intro p
  induction p with
  | zero => intro _ q hq; omega
  | succ p ih =>
    intro hp q hq
    by_cases h : q < p
    · obtain ⟨d, h1, h2⟩ := ih (by omega) q h
      exact ⟨d, by rw [ndL, List.mem_append]; exact Or.inl h1, h2⟩
    · obtain ⟨d, hd⟩ := List.exists_mem_of_ne_nil _ (plL_ne (F := fl (c p / 64)) (run := rnF s c p) (p := p) (K := knL p le (stB s c le sf p) ne))
      exact ⟨d, by rw [ndL, List.mem_append]; exact Or.inr hd, by rw [(plL_mem hx (by omega) hd).1]; omega⟩
def isBL (b l : Nat) (d : Nd) : Bool := decide (d.1 = b ∧ d.2.1 = l)
theorem knL_3 {μ ν : Mem} {ne s p b l : Nat} {le : Nat → Nat} {sf : Nat → Nat → Nat} {c : Nat → Nat} (hx : LxP μ ν ne le sf) : (knL p le (stB s c le sf p) ne).countP (isBL b l) ≤ 3 := by
  refine Nat.le_trans ?_ (hx.2.2.2 (tv (fun q => c (p + q)) l))
  have key : ∀ n, (knL p le (stB s c le sf p) n).countP (isBL b l) ≤ cnt (fun e => decide (tv (sf e) (le e) = tv (fun q => c (p + q)) l)) n := by
    intro n
    induction n with
    | zero => exact Nat.le_refl _
    | succ n ih =>
      rw [show knL p le (stB s c le sf p) (n + 1) = knL p le (stB s c le sf p) n ++ (if stB s c le sf p n = true then [(p, le n, n)] else []) from rfl, List.countP_append]
      show _ ≤ cnt _ n + (if decide (tv (sf n) (le n) = tv (fun q => c (p + q)) l) = true then 1 else 0)
      by_cases h : stB s c le sf p n = true
      · rw [if_pos h]
        have hs := of_decide_eq_true h
        by_cases hl : le n = l
        · have h1 : List.countP (isBL b l) [(p, le n, n)] ≤ 1 := List.countP_le_length
          rw [if_pos (decide_eq_true (by rw [← hl]; exact tv_eq (le n) hs.2))]
          omega
        · have h0 : List.countP (isBL b l) [(p, le n, n)] = 0 := List.countP_eq_zero.mpr (fun a ha => by
            rw [List.mem_singleton.mp ha]
            unfold isBL
            rw [decide_eq_true_iff]
            exact fun z => hl z.2)
          omega
      · rw [if_neg h]
        have h0 : List.countP (isBL b l) ([] : List Nd) = 0 := rfl
        omega
  exact key ne
theorem unF_1 {P : Nat → Bool} {p b l : Nat} : ∀ n, (unF P p n).countP (isBL b l) ≤ (if l ≤ n then 1 else 0) := by
  intro n
  induction n with
  | zero => exact Nat.zero_le _
  | succ n ih =>
    rw [show unF P p (n + 1) = unF P p n ++ (if P (n + 1) = true then [(p, n + 1, 40)] else []) from rfl, List.countP_append]
    by_cases hl : l = n + 1
    · rw [if_neg (show ¬ l ≤ n by omega)] at ih
      rw [if_pos (show l ≤ n + 1 by omega)]
      have h1 : List.countP (isBL b l) (if P (n + 1) = true then [(p, n + 1, 40)] else []) ≤ 1 := Nat.le_trans List.countP_le_length (by split <;> simp)
      omega
    · have h0 : List.countP (isBL b l) (if P (n + 1) = true then [(p, n + 1, 40)] else []) = 0 := List.countP_eq_zero.mpr (fun a ha => by
        split at ha
        · rw [List.mem_singleton.mp ha]
          unfold isBL
          rw [decide_eq_true_iff]
          exact fun z => hl z.2.symm
        · cases ha)
      rw [h0]
      by_cases h2 : l ≤ n
      · rw [if_pos h2] at ih
        rw [if_pos (show l ≤ n + 1 by omega)]
        omega
      · rw [if_neg h2] at ih
        omega
theorem ndL_4 {μ ν : Mem} {ne s b l : Nat} {le : Nat → Nat} {sf : Nat → Nat → Nat} {c : Nat → Nat} {fl : Nat → Nat} (hx : LxP μ ν ne le sf) : ∀ p, p ≤ s → (ndL s c ne le sf fl p).countP (isBL b l) ≤ 4 := by
  intro p
  induction p with
  | zero => intro _; exact Nat.zero_le _
  | succ p ih =>
    intro hp
    rw [ndL, List.countP_append]
    by_cases hb : b = p
    · have h0 : List.countP (isBL b l) (ndL s c ne le sf fl p) = 0 := List.countP_eq_zero.mpr (fun a ha => by
        have := (ndL_mem hx p (by omega) a ha).1
        unfold isBL
        rw [decide_eq_true_iff]
        omega)
      rw [h0]
      unfold plL
      split
      · have := List.countP_le_length (p := isBL b l) (l := [((p, 1, 40) : Nd)])
        have h1 : ([(p, 1, 40)] : List Nd).length = 1 := rfl
        omega
      · rw [List.countP_append]
        have h3 := knL_3 (s := s) (p := p) (b := b) (l := l) (c := c) hx
        have h1 : (unU (fl (c p / 64)) (rnF s c p) p (knL p le (stB s c le sf p) ne)).countP (isBL b l) ≤ 1 := by
          unfold unU
          split
          · refine Nat.le_trans (unF_1 _) ?_
            split <;> omega
          · exact Nat.zero_le _
        omega
    · have h0 : List.countP (isBL b l) (plL (fl (c p / 64)) (rnF s c p) p (knL p le (stB s c le sf p) ne)) = 0 := List.countP_eq_zero.mpr (fun a ha => by
        have := (plL_mem hx (by omega) ha).1
        unfold isBL
        rw [decide_eq_true_iff]
        omega)
      have := ih (by omega)
      omega
theorem nodes_x {ν : Mem} {c : Nat → Nat} {s ne : Nat} {le : Nat → Nat} {sf : Nat → Nat → Nat} {fl : Nat → Nat} (hs : s ≤ 24) (hc : ∀ j, j < s → 1 ≤ c j ∧ c j ≤ 255) (hf : ∀ k, k < 4 → fl k ≤ 19) : ∀ j p n (μ : Mem), p + j = s → j + 100 < n → LxP μ ν ne le sf → μ.1 1 1 = nI s → (∀ j, j < s → c j ≤ 255 ∧ μ.1 2 j = nI (c j)) → (∀ k, k < 4 → μ.1 11 k = nI (fl k)) → ArrX μ c (ndL s c ne le sf fl p) → ∃ n' μ', n ≤ n' + j ∧ f_Lattice_rebuild_7 n μ (nI p) = f_Lattice_rebuild_7 n' μ' (nI s) ∧ ArrX μ' c (ndL s c ne le sf fl s) ∧ LatF μ μ' := by
  intro j
  induction j with
  | zero =>
    intro p n μ hp hn hx h0 hd hfl ha
    have : p = s := by omega
    subst this
    exact ⟨n, μ, by omega, rfl, ha, LatF.rf μ⟩
  | succ j ih =>
    intro p n μ hp hn hx h0 hd hfl ha
    obtain ⟨n, rfl⟩ : ∃ z, n = z + 1 := ⟨n - 1, by omega⟩
    have hk := (hc p (by omega)).2
    have h29 := ndL_29 hx hf (fun j hj => (hc j hj).2) p (by omega)
    obtain ⟨μ1, r1, r2, r3⟩ := place_x (n := n) hx hs h0 hc hd (show p < s by omega) (hf (c p / 64) (by omega)) (hfl _ (by omega)) (by omega) ha (by omega)
    obtain ⟨n', μ2, t1, t2, t3, t4⟩ := ih (p + 1) n μ1 (by omega) (by omega) (hx.lat r3) (by rw [r3.1 1 (by omega)]; exact h0) (fun q hq => by rw [r3.1 2 (by omega)]; exact hd q hq) (fun k hk => by rw [r3.1 11 (by omega)]; exact hfl k hk) r2
    exact ⟨n', μ2, by omega, by rw [r1]; exact t2, t3, r3.tr t4⟩
theorem nodes_m {μ : Mem} {c : Nat → Nat} {s ne : Nat} {le : Nat → Nat} {sf : Nat → Nat → Nat} {fl : Nat → Nat} {full : Bool} (hs : s ≤ 24) (hc : ∀ j, j < s → 1 ≤ c j ∧ c j ≤ 255) (hf : ∀ k, k < 4 → fl k ≤ 19) : ∀ j p n (ν : Mem), p + j = s → j + 120 < n → LxP μ ν ne le sf → ν.1 0 1 = nI s → (∀ j, j < s → c j ≤ 255 ∧ ν.1 1 j = nI (c j)) → (∀ k, k < 4 → ν.1 8 k = nI (fl k)) → ArrM ν c full (ndL s c ne le sf fl p) → ∃ n' ν', n ≤ n' + j + 1 ∧ f_Mo_work_7 n ν (bz full) (nI p) = f_Mo_work_29 n' ν' 0 ∧ ArrM ν' c full (ndL s c ne le sf fl s) ∧ MatF ν ν' := by
  intro j
  induction j with
  | zero =>
    intro p n ν hp hn hx h0 hd hfl ha
    obtain ⟨n, rfl⟩ : ∃ z, n = z + 1 := ⟨n - 1, by omega⟩
    have : p = s := by omega
    subst this
    refine ⟨n, ν, by omega, ?_, ha, MatF.rf ν⟩
    rw [f_Mo_work_7, h0, if_pos (nI_le (Nat.le_refl _) (by omega))]
  | succ j ih =>
    intro p n ν hp hn hx h0 hd hfl ha
    obtain ⟨n, rfl⟩ : ∃ z, n = z + 1 := ⟨n - 1, by omega⟩
    have hk := (hc p (by omega)).2
    have h29 := ndL_29 hx hf (fun j hj => (hc j hj).2) p (by omega)
    obtain ⟨ν1, r1, r2, r3⟩ := place_m (n := n) hx hs h0 hd (show p < s by omega) (hf (c p / 64) (by omega)) (hfl _ (by omega)) (by omega) ha (by omega)
    obtain ⟨n', ν2, t1, t2, t3, t4⟩ := ih (p + 1) n ν1 (by omega) (by omega) (hx.mat r3) (by rw [r3.2.1 1 (by decide)]; exact h0) (fun q hq => by rw [r3.1 1 (by decide) (by omega)]; exact hd q hq) (fun k hk => by rw [r3.1 8 (by decide) (by omega)]; exact hfl k hk) r2
    refine ⟨n', ν2, by omega, ?_, t3, r3.tr t4⟩
    rw [f_Mo_work_7, h0, if_neg (nI_ge (by omega) (by omega)), r1, cl_s, bd_e, nI_1]
    exact t2
/-- the charge of a node in the class -/
def crX (μ : Mem) (c : Nat → Nat) (d : Nd) : Int32 := if d.2.2 = 40 ∨ μ.1 8 d.2.2 = 0 then chg (μ.1 10 4) (μ.1 10 5) c d.1 d.2.1 else 0
theorem charge_v {μ : Mem} {c : Nat → Nat} {L : List Nd} {s ne i n : Nat} {d : Nd} (hs : s ≤ 24) (h0 : μ.1 1 1 = nI s) (hc : ∀ j, j < s → 1 ≤ c j ∧ c j ≤ 255) (hd : ∀ j, j < s → c j ≤ 255 ∧ μ.1 2 j = nI (c j)) (hne : ne ≤ 40) (hi : i < 696) (ha : ArrX μ c L) (hL : L[i]? = some d) (ok : ndOK s ne d) (hn : 10 < n) : f_Lattice_charge n μ (nI i) = some (crX μ c d) := by
  obtain ⟨a1, a2, a3, a4, a5⟩ := ha.2 i d hL
  obtain ⟨k1, k2, k3, k4⟩ := ok
  have hg : ∀ {β : Type} {x : Option β}, gd (inb (nI i) 696) x = x := gd_i (by rw [nI_toInt (by omega)]; omega)
  have hv : f_Lexicon_cuts n μ (enX d.2.2) = some (if d.2.2 = 40 then 0 else μ.1 8 d.2.2) := by
    unfold f_Lexicon_cuts enX
    by_cases h : d.2.2 = 40
    · rw [if_pos h, if_pos h, if_pos rfl]
    · rw [if_neg h, if_neg h, if_neg (show ¬ nI d.2.2 = -1 from fun z => by have := congrArg Int32.toInt z; rw [nI_toInt (by omega)] at this; have v := v_m1; omega), gd_i (by rw [nI_toInt (by omega)]; omega), nI_clamp (by omega)]
  have hrest : gd (inb (nI i) 696) (bd (μ.1 20 (nI i).toNatClampNeg) (fun v2 => gd (inb (nI i) 696) (cl (f_Draft_text n μ (μ.1 19 (nI i).toNatClampNeg) v2) (fun v3 => cl (f_Texts_isAllOf n (1 : Int32) v3 v2) (fun v4 => cl (f_Grammar_charge n μ v2 (bz v4)) (fun v5 => some v5)))))) = some (chg (μ.1 10 4) (μ.1 10 5) c d.1 d.2.1) := by
    rw [hg, bd_e, hg, nI_clamp (by omega), a1, a2, text_v h0 hd hs (by omega) (by omega) (by omega), cl_s, show min (min d.2.1 8) (s - d.1) = d.2.1 by omega, allH_x hc k3 k2 (by omega), cl_s, chargeX_v k2, cl_s]
  unfold f_Lattice_charge crX
  rw [hg, hrest, nI_clamp (by omega), a5, hv, cl_s]
  by_cases h : d.2.2 = 40
  · rw [if_pos h, if_pos rfl, if_pos (Or.inl h)]
  · rw [if_neg h]
    by_cases h2 : μ.1 8 d.2.2 = 0
    · rw [if_pos h2, if_pos (Or.inr h2)]
    · rw [if_neg h2, if_neg (fun z => z.elim h h2)]
theorem charges_x {c : Nat → Nat} {L : List Nd} {s ne : Nat} (hs : s ≤ 24) (hc : ∀ j, j < s → 1 ≤ c j ∧ c j ≤ 255) (hne : ne ≤ 40) (hm : L.length ≤ 696) (hok : ∀ d, d ∈ L → ndOK s ne d) : ∀ j i n (μ : Mem), i + j = L.length → j + 12 < n → μ.1 1 1 = nI s → (∀ j, j < s → c j ≤ 255 ∧ μ.1 2 j = nI (c j)) → ArrX μ c L → (∀ q d, q < i → L[q]? = some d → μ.1 23 q = crX μ c d) → ∃ μ', f_Lattice_rebuild_68 n μ (nI i) = some μ' ∧ ArrX μ' c L ∧ (∀ q d, L[q]? = some d → μ'.1 23 q = crX μ c d) ∧ LatF μ μ' := by
  intro j
  induction j with
  | zero =>
    intro i n μ hi hn h0 hd ha hch
    obtain ⟨n, rfl⟩ : ∃ z, n = z + 1 := ⟨n - 1, by omega⟩
    refine ⟨μ, ?_, ha, fun q d hq => hch q d (by have := (List.getElem?_eq_some_iff.mp hq).1; omega) hq, LatF.rf μ⟩
    rw [f_Lattice_rebuild_68, ha.1, if_pos (nI_le (by omega) (by omega))]
  | succ j ih =>
    intro i n μ hi hn h0 hd ha hch
    obtain ⟨n, rfl⟩ : ∃ z, n = z + 1 := ⟨n - 1, by omega⟩
    have hil : i < L.length := by omega
    have hLi : L[i]? = some L[i] := List.getElem?_eq_getElem hil
    have hcv := charge_v (n := n) hs h0 hc hd hne (by omega) ha hLi (hok _ (List.getElem_mem hil)) (by omega)
    have hF : LatF μ (wi μ 23 i (crX μ c L[i])) := by
      refine ⟨fun q hq => ?_, rfl⟩
      unfold wi
      simp [show q ≠ 23 by omega]
    have hcx : ∀ d, crX (wi μ 23 i (crX μ c L[i])) c d = crX μ c d := fun d => rfl
    obtain ⟨μ2, t1, t2, t3, t4⟩ := ih (i + 1) n (wi μ 23 i (crX μ c L[i])) (by omega) (by omega) h0 hd (by
      refine ⟨ha.1, fun q d hq => ?_⟩
      exact ha.2 q d hq) (fun q d hq hq2 => by
      rw [hcx, wi_g]
      by_cases e : q = i
      · subst e
        rw [if_pos ⟨rfl, rfl⟩]
        rw [hLi] at hq2
        rw [Option.some.inj hq2]
      · rw [if_neg (fun z => e z.2)]
        exact hch q d (by omega) hq2)
    refine ⟨μ2, ?_, t2, fun q d hq => by rw [t3 q d hq, hcx], hF.tr t4⟩
    rw [f_Lattice_rebuild_68, ha.1, if_neg (nI_ge (by omega) (by omega)), hcv, cl_s, gd_i (by rw [nI_toInt (by omega)]; omega), bd_e, bd_e, nI_1, nI_clamp (by omega)]
    exact t1
