/-! PURE: all nodes of a place, and the list of all nodes -/
def rnF (s : Nat) (c : Nat → Nat) (p : Nat) : Nat := runF c p (min 8 (s - p) - 1) 1
theorem rnF_b {s : Nat} {c : Nat → Nat} {p : Nat} (hp : p < s) : 1 ≤ rnF s c p ∧ rnF s c p ≤ 8 ∧ p + rnF s c p ≤ s := by
  have := runF_le c p (min 8 (s - p) - 1) 1
  unfold rnF
  omega
def unU (F run p : Nat) (K : List Nd) : List Nd := if K = [] ∨ ¬ (nI F &&& 1 = 0) then unF (unP F run) p run else []
def plL (F run p : Nat) (K : List Nd) : List Nd := if K ++ unU F run p K = [] then [(p, 1, 40)] else K ++ unU F run p K
def ndL (s : Nat) (c : Nat → Nat) (ne : Nat) (le : Nat → Nat) (sf : Nat → Nat → Nat) (fl : Nat → Nat) : Nat → List Nd
  | 0 => []
  | p + 1 => ndL s c ne le sf fl p ++ plL (fl (c p / 64)) (rnF s c p) p (knL p le (stB s c le sf p) ne)
theorem unF_len {P : Nat → Bool} {p : Nat} : ∀ n, (unF P p n).length ≤ n := by
  intro n
  induction n with
  | zero => exact Nat.le_refl _
  | succ n ih =>
    show (unF P p n ++ _).length ≤ _
    rw [List.length_append]
    have : (if P (n + 1) = true then [(p, n + 1, 40)] else [] : List Nd).length ≤ 1 := by split <;> simp
    omega
theorem unF_5 {F run p : Nat} (hF : F ≤ 19) : (unF (unP F run) p run).length ≤ 5 := by
  rw [unF_tail (F := F) (run := run) (p := p) rfl, List.length_append]
  have h1 := unF_len (P := unP F run) (p := p) (min (F / 4) run)
  have h2 : (if ¬ (nI F &&& 2 = 0) ∧ min (F / 4) run < run then [(p, run, 40)] else [] : List Nd).length ≤ 1 := by split <;> simp
  omega
theorem unU_5 {F run p : Nat} {K : List Nd} (hF : F ≤ 19) : (unU F run p K).length ≤ 5 := by
  unfold unU
  split
  · exact unF_5 hF
  · simp
theorem plL_29 {F run p : Nat} {K : List Nd} (hF : F ≤ 19) (hK : K.length ≤ 24) : (plL F run p K).length ≤ 29 := by
  have := unU_5 (run := run) (p := p) (K := K) hF
  unfold plL
  split
  · simp
  · rw [List.length_append]; omega
theorem ndL_29 {μ ν : Mem} {s ne : Nat} {c : Nat → Nat} {le : Nat → Nat} {sf : Nat → Nat → Nat} {fl : Nat → Nat} (hx : LxP μ ν ne le sf) (hf : ∀ k, k < 4 → fl k ≤ 19) (hc : ∀ j, j < s → c j ≤ 255) : ∀ p, p ≤ s → (ndL s c ne le sf fl p).length ≤ 29 * p := by
  intro p
  induction p with
  | zero => intro _; exact Nat.le_refl _
  | succ p ih =>
    intro hp
    have := ih (by omega)
    have hk := hc p (by omega)
    have h2 := plL_29 (F := fl (c p / 64)) (run := rnF s c p) (p := p) (hf _ (by omega)) (knL_24 (s := s) (p := p) (c := c) hx)
    show (ndL s c ne le sf fl p ++ plL _ _ _ _).length ≤ _
    rw [List.length_append]
    omega
/-- putUnknown on the class's side -/
theorem unkU_x {μ : Mem} {c : Nat → Nat} {L K : List Nd} {s p F n : Nat} {kn : Bool} (hs : s ≤ 24) (h0 : μ.1 1 1 = nI s) (hd : ∀ j, j < s → c j ≤ 255 ∧ μ.1 2 j = nI (c j)) (hp : p < s) (hF : F ≤ 19) (h11 : μ.1 11 (c p / 64) = nI F) (hkn : kn = true ↔ K ≠ []) (hb : (L ++ K).length + 5 ≤ 696) (ha : ArrX μ c (L ++ K)) (hn : 10 < n) : ∃ μ', f_Lattice_putUnknown n μ (nI p) (bz kn) = some μ' ∧ ArrX μ' c (L ++ K ++ unU F (rnF s c p) p K) ∧ LatF μ μ' := by
  obtain ⟨q1, q2, q3⟩ := rnF_b (c := c) hp
  have hk := (hd p hp).1
  have hg4 : ∀ {β : Type} {x : Option β}, gd (inb (nI (c p / 64)) 4) x = x := gd_i (by rw [nI_toInt (by omega)]; omega)
  have hd4 : nI F / (4 : Int32) = nI (F / 4) := by rw [show (4 : Int32) = nI 4 from by decide, pk_div (by omega) (by decide) (by decide)]
  have u5 := unF_5 (run := rnF s c p) (p := p) hF
  have h25 : ∃ μ', f_Lattice_putUnknown_25 n μ (nI p) (nI (c p / 64)) = some μ' ∧ ArrX μ' c (L ++ K ++ unF (unP F (rnF s c p)) p (rnF s c p)) ∧ LatF μ μ' := by
    obtain ⟨μ1, r1, r2, r3⟩ := unk_x (L := L ++ K) (lo := min (F / 4) (rnF s c p)) hs hp q2 hF rfl (by rw [List.length_append]; omega) (min (F / 4) (rnF s c p)) 0 n μ (by omega) (by omega) hd h11 (by show ArrX μ c (L ++ K ++ []); rw [List.append_nil]; exact ha)
    refine ⟨μ1, ?_, r2, r3⟩
    unfold f_Lattice_putUnknown_25 f_Grammar_lengths
    have hrun := runAt_x (n := n) hs h0 hd hp (by omega)
    have hrun2 : f_Draft_runAt n μ (nI p) = some (nI (rnF s c p)) := hrun
    rw [hrun2, cl_s, hg4, nI_clamp (by omega), h11, hd4, cl_s, bd_e]
    have hmin : (if nI (rnF s c p) < nI (F / 4) then nI (rnF s c p) else nI (F / 4)) = nI (min (F / 4) (rnF s c p)) := by
      by_cases h : rnF s c p < F / 4
      · rw [if_pos (nI_lt h (by omega)), Nat.min_eq_right (by omega)]
      · rw [if_neg (nI_nlt (by omega) (by omega)), Nat.min_eq_left (by omega)]
    rw [hmin]
    exact r1
  unfold f_Lattice_putUnknown f_Grammar_invokes unU
  rw [classAt_v hs hd hp, cl_s, hg4, nI_clamp (by omega), h11]
  cases kn with
  | false =>
    have hK : K = [] := Classical.byContradiction fun z => absurd (hkn.mpr z) (by decide)
    rw [if_pos bzf, if_pos (Or.inl hK)]
    exact h25
  | true =>
    rw [if_neg (show ¬ bz true = 0 by decide)]
    have hK := hkn.mp rfl
    by_cases g : nI F &&& 1 = 0
    · rw [if_pos g, cl_s, if_pos bzf, if_neg (show ¬ (K = [] ∨ ¬ (nI F &&& 1 = 0)) from fun z => z.elim hK (fun y => y g)), List.append_nil]
      exact ⟨μ, rfl, ha, LatF.rf μ⟩
    · rw [if_neg g, cl_s, if_neg (show ¬ bz true = 0 by decide), if_pos (Or.inr g)]
      exact h25
theorem place_x {μ ν : Mem} {c : Nat → Nat} {L : List Nd} {s p ne F n : Nat} {le : Nat → Nat} {sf : Nat → Nat → Nat} (hx : LxP μ ν ne le sf) (hs : s ≤ 24) (h0 : μ.1 1 1 = nI s) (hc : ∀ j, j < s → 1 ≤ c j ∧ c j ≤ 255) (hd : ∀ j, j < s → c j ≤ 255 ∧ μ.1 2 j = nI (c j)) (hp : p < s) (hF : F ≤ 19) (h11 : μ.1 11 (c p / 64) = nI F) (hL : L.length + 29 ≤ 696) (ha : ArrX μ c L) (hn : 60 < n) : ∃ μ', f_Lattice_rebuild_7 (n + 1) μ (nI p) = f_Lattice_rebuild_7 n μ' (nI (p + 1)) ∧ ArrX μ' c (L ++ plL F (rnF s c p) p (knL p le (stB s c le sf p) ne)) ∧ LatF μ μ' := by
  have k24 := knL_24 (s := s) (p := p) (c := c) hx
  generalize hK : knL p le (stB s c le sf p) ne = K at k24 ⊢
  have hne := hx.1.1
  obtain ⟨μ1, r1, r2, r3⟩ := known_x (L := L) hc (show p ≤ s by omega) (by rw [List.length_append, hK]; omega) ne 0 n μ (by omega) (by omega) hx (by show ArrX μ c (L ++ []); rw [List.append_nil]; exact ha)
  rw [hK] at r2
  have hput : f_Lattice_putKnown n μ (nI p) = some μ1 := by
    unfold f_Lattice_putKnown
    rw [show (8 : Int32) = nI 8 from by decide, text_v h0 hd hs (by omega) (by omega) (by omega), cl_s, Nat.min_self]
    exact r1
  have c1 : μ1.1 18 9 = nI (L.length + K.length) := by rw [r2.1, List.length_append]
  have step : ∀ kn : Bool, (kn = true ↔ K ≠ []) → ∃ μ', f_Lattice_rebuild_43 (f_Lattice_rebuild_7 n) n μ1 (nI p) (nI L.length) (nI p) kn = f_Lattice_rebuild_7 n μ' (nI (p + 1)) ∧ ArrX μ' c (L ++ plL F (rnF s c p) p K) ∧ LatF μ1 μ' := by
    intro kn hkn
    obtain ⟨μ2, t1, t2, t3⟩ := unkU_x (n := n) (kn := kn) hs (by rw [r3.1 1 (by omega)]; exact h0) (fun q hq => by rw [r3.1 2 (by omega)]; exact hd q hq) hp hF (by rw [r3.1 11 (by omega)]; exact h11) hkn (by rw [List.length_append]; omega) r2 (by omega)
    have u5 := unU_5 (run := rnF s c p) (p := p) (K := K) hF
    have c2 : μ2.1 18 9 = nI (L.length + (K ++ unU F (rnF s c p) p K).length) := by rw [t2.1, List.append_assoc, List.length_append]
    have lb : (K ++ unU F (rnF s c p) p K).length ≤ 29 := by rw [List.length_append]; omega
    unfold f_Lattice_rebuild_43 f_Lattice_rebuild_60
    rw [t1, cl_s, c2]
    by_cases hz : K ++ unU F (rnF s c p) p K = []
    · rw [hz, List.length_nil, Nat.add_zero, if_pos rfl]
      rw [List.append_assoc, hz, List.append_nil] at t2
      obtain ⟨μ3, v1, v2, v3⟩ := unkOf_x (n := n) (l := 1) (p := p) hs (fun q hq => by rw [t3.1 2 (by omega), r3.1 2 (by omega)]; exact hd q hq) hp t2 (by omega)
      refine ⟨μ3, ?_, ?_, t3.tr v3⟩
      · rw [show (1 : Int32) = nI 1 from by decide, v1, cl_s, bd_e, show nI 1 = 1 from by decide, nI_1]
      · unfold plL
        rw [if_pos hz]
        exact v2
    · have hl : 0 < (K ++ unU F (rnF s c p) p K).length := List.length_pos_iff.mpr hz
      rw [if_neg (fun z => by have := (nI_eq (by omega) (by omega)).mp z; omega)]
      refine ⟨μ2, by rw [bd_e, nI_1], ?_, t3⟩
      unfold plL
      rw [if_neg hz, ← List.append_assoc]
      exact t2
  rw [f_Lattice_rebuild_7]
  unfold f_Draft_size
  rw [h0, cl_s, if_neg (nI_ge hp (by omega)), bd_e, hput, cl_s, ha.1, c1]
  by_cases hz : K = []
  · obtain ⟨μ2, t1, t2, t3⟩ := step false (by simp [hz])
    rw [if_pos (nI_le (by rw [hz]; exact Nat.le_refl _) (by omega)), t1]
    exact ⟨μ2, rfl, t2, r3.tr t3⟩
  · obtain ⟨μ2, t1, t2, t3⟩ := step true (by simp [hz])
    have hl : 0 < K.length := List.length_pos_iff.mpr hz
    rw [if_neg (nI_ge (by omega) (by omega)), t1]
    exact ⟨μ2, rfl, t2, r3.tr t3⟩
theorem place_m {μ ν : Mem} {c : Nat → Nat} {L : List Nd} {s p ne F n : Nat} {le : Nat → Nat} {sf : Nat → Nat → Nat} {full : Bool} (hx : LxP μ ν ne le sf) (hs : s ≤ 24) (h0 : ν.1 0 1 = nI s) (hd : ∀ j, j < s → c j ≤ 255 ∧ ν.1 1 j = nI (c j)) (hp : p < s) (hF : F ≤ 19) (h8 : ν.1 8 (c p / 64) = nI F) (hL : L.length + 29 ≤ 696) (ha : ArrM ν c full L) (hn : 100 < n) : ∃ ν', f_Mo_nodesAt n ν (nI p) (bz full) = some ν' ∧ ArrM ν' c full (L ++ plL F (rnF s c p) p (knL p le (stB s c le sf p) ne)) ∧ MatF ν ν' := by
  have k24 := knL_24 (s := s) (p := p) (c := c) hx
  have hne := hx.1.1
  obtain ⟨n1, ν1, r1, r2, r3, r4⟩ := known_m (L := L) (full := full) (x3 := nI L.length) hs hp (by rw [List.length_append]; omega) ne 0 n ν (by omega) (by omega) hx h0 hd (by show ArrM ν c full (L ++ []); rw [List.append_nil]; exact ha)
  generalize hK : knL p le (stB s c le sf p) ne = K at k24 r3 ⊢
  obtain ⟨q1, q2, q3⟩ := rnF_b (c := c) hp
  have hk := (hd p hp).1
  have hd1 : ∀ j, j < s → c j ≤ 255 ∧ ν1.1 1 j = nI (c j) := fun q hq => by rw [r4.1 1 (by decide) (by omega)]; exact hd q hq
  have hg24 : ∀ {β : Type} {x : Option β}, gd (inb (nI p) 24) x = x := gd_i (by rw [nI_toInt (by omega)]; omega)
  have hg4 : ∀ {β : Type} {x : Option β}, gd (inb (nI (c p / 64)) 4) x = x := gd_i (by rw [nI_toInt (by omega)]; omega)
  have c1 : ν1.1 0 23 = nI (L.length + K.length) := by rw [r3.1, List.length_append]
  have u5 := unF_5 (run := rnF s c p) (p := p) hF
  -- the last row: one unknown node where there is none
  have last : ∀ (n : Nat) (ν2 : Mem) (U : List Nd), 10 < n → (U.length ≤ 5) → (∀ j, j < s → c j ≤ 255 ∧ ν2.1 1 j = nI (c j)) → ArrM ν2 c full (L ++ K ++ U) → ∃ ν', f_Mo_nodesAt_135 n ν2 (nI p) (bz full) (nI L.length) = some ν' ∧ ArrM ν' c full (L ++ (if K ++ U = [] then [(p, 1, 40)] else K ++ U)) ∧ MatF ν2 ν' := by
    intro n ν2 U hn hU hd2 ha2
    have c2 : ν2.1 0 23 = nI (L.length + (K ++ U).length) := by rw [ha2.1, List.append_assoc, List.length_append]
    have lb : (K ++ U).length ≤ 29 := by rw [List.length_append]; omega
    unfold f_Mo_nodesAt_135
    rw [c2]
    by_cases hz : K ++ U = []
    · rw [List.append_assoc, hz, List.append_nil] at ha2
      rw [hz, List.length_nil, Nat.add_zero, if_pos rfl, if_pos rfl]
      obtain ⟨ν3, v1, v2, v3⟩ := nodeL_m (n := n) (b := p) (l := 1) (e := 40) ha2 (by omega) hs hd2 (by omega) (by omega) (by omega) (by omega) (by omega)
      exact ⟨ν3, by rw [show (1 : Int32) = nI 1 from by decide, show (40 : Int32) = nI 40 from by decide, v1, cl_s], v2, v3⟩
    · have hl : 0 < (K ++ U).length := List.length_pos_iff.mpr hz
      rw [if_neg (fun z => by have := (nI_eq (by omega) (by omega)).mp z; omega), if_neg hz, ← List.append_assoc]
      exact ⟨ν2, rfl, ha2, MatF.rf ν2⟩
  have h86 : ∀ n, 40 < n → ∃ ν', f_Mo_nodesAt_86 n ν1 (nI p) (bz full) (nI L.length) (nI F) (nI (rnF s c p)) = some ν' ∧ ArrM ν' c full (L ++ (if K ++ unF (unP F (rnF s c p)) p (rnF s c p) = [] then [(p, 1, 40)] else K ++ unF (unP F (rnF s c p)) p (rnF s c p))) ∧ MatF ν1 ν' := by
    intro n hn
    obtain ⟨n2, ν2, t1, t2, t3, t4⟩ := unk_m (L := L ++ K) (x3 := nI L.length) (full := full) hs q3 q1 q2 hF (by rw [List.length_append, List.length_append]; omega) (rnF s c p) 0 n ν1 (by omega) (by omega) hd1 (by show ArrM ν1 c full (L ++ K ++ []); rw [List.append_nil]; exact r3)
    obtain ⟨ν3, v1, v2, v3⟩ := last n2 ν2 _ (by omega) u5 (fun q hq => by rw [t4.1 1 (by decide) (by omega)]; exact hd1 q hq) t3
    refine ⟨ν3, ?_, v2, t4.tr v3⟩
    unfold f_Mo_nodesAt_86
    rw [show nI (0 + 1) = (1 : Int32) from by decide] at t2
    exact t2.trans v1
  obtain ⟨n1, rfl⟩ : ∃ z, n1 = z + 1 := ⟨n1 - 1, by omega⟩
  unfold f_Mo_nodesAt
  rw [bd_e, ha.1]
  have e0 : nI 0 = (0 : Int32) := by decide
  rw [e0] at r2
  rw [r2, f_Mo_nodesAt_8]
  have hrun : f_Mo_runAt n1 ν1 (nI p) = some (nI (rnF s c p)) := runAt_m hs (by rw [r4.2.1 1 (by decide)]; exact h0) hd1 hp (by omega)
  rw [r4.2.1 8 (by decide), hx.1.2.2, if_pos (nI_le (Nat.le_refl _) (by omega)), hg24, nI_clamp (show p < 2 ^ 31 by omega), (hd1 p hp).2, div64 hk, hg4, nI_clamp (by omega), r4.1 8 (by decide) (by omega), h8, bd_e, hrun, cl_s, c1]
  by_cases hz : K = []
  · obtain ⟨ν3, v1, v2, v3⟩ := h86 n1 (by omega)
    rw [if_pos (show nI (L.length + K.length) = nI L.length by rw [hz]; rfl), v1]
    refine ⟨ν3, rfl, ?_, r4.tr v3⟩
    unfold plL unU
    rw [if_pos (Or.inl hz)]
    exact v2
  · have hl : 0 < K.length := List.length_pos_iff.mpr hz
    rw [if_neg (fun z => by have := (nI_eq (by omega) (by omega)).mp z; omega)]
    by_cases g : nI F &&& 1 = 0
    · rw [if_pos g]
      obtain ⟨ν3, v1, v2, v3⟩ := last n1 ν1 [] (by omega) (by simp) hd1 (by rw [List.append_nil]; exact r3)
      rw [v1]
      refine ⟨ν3, rfl, ?_, r4.tr v3⟩
      unfold plL unU
      rw [if_neg (show ¬ (K = [] ∨ ¬ (nI F &&& 1 = 0)) from fun z => z.elim hz (fun y => y g))]
      exact v2
    · rw [if_neg g]
      obtain ⟨ν3, v1, v2, v3⟩ := h86 n1 (by omega)
      rw [v1]
      refine ⟨ν3, rfl, ?_, r4.tr v3⟩
      unfold plL unU
      rw [if_pos (Or.inr g)]
      exact v2
