/-! PURE: the known nodes at a place, both sides -/
/-- does entry e stand at place p? -/
def stB (s : Nat) (c : Nat → Nat) (le : Nat → Nat) (sf : Nat → Nat → Nat) (p e : Nat) : Bool := decide (p + le e ≤ s ∧ ∀ q, q < le e → sf e q = c (p + q))
/-- the nodes of the entries below e at place p -/
def knL (p : Nat) (le : Nat → Nat) (st : Nat → Bool) : Nat → List Nd
  | 0 => []
  | e + 1 => knL p le st e ++ (if st e = true then [(p, le e, e)] else [])
theorem knL_le {p : Nat} {le : Nat → Nat} {st : Nat → Bool} : ∀ j e, (knL p le st e).length ≤ (knL p le st (e + j)).length := by
  intro j
  induction j with
  | zero => intro e; exact Nat.le_refl _
  | succ j ih =>
    intro e
    have := ih e
    show _ ≤ (knL p le st (e + j) ++ _).length
    rw [List.length_append]
    omega
theorem LxP.lat {μ μ' ν : Mem} {ne : Nat} {le : Nat → Nat} {sf : Nat → Nat → Nat} (h : LxP μ ν ne le sf) (f : LatF μ μ') : LxP μ' ν ne le sf := by
  unfold LxP at h ⊢
  rw [f.1 3 (by omega), f.1 5 (by omega), f.1 6 (by omega), f.1 7 (by omega), f.1 8 (by omega), f.1 9 (by omega), f.2]
  exact h
theorem LxP.mat {μ ν ν' : Mem} {ne : Nat} {le : Nat → Nat} {sf : Nat → Nat → Nat} (h : LxP μ ν ne le sf) (f : MatF ν ν') : LxP μ ν' ne le sf := by
  unfold LxP at h ⊢
  rw [f.1 2 (by decide) (by omega), f.1 3 (by decide) (by omega), f.1 4 (by decide) (by omega), f.1 5 (by decide) (by omega), f.1 6 (by decide) (by omega), f.1 7 (by decide) (by omega), f.2.1 8 (by decide)]
  exact h
theorem known_x {ν : Mem} {ne s p : Nat} {le : Nat → Nat} {sf : Nat → Nat → Nat} {c : Nat → Nat} {L : List Nd} (hc : ∀ j, j < s → 1 ≤ c j ∧ c j ≤ 255) (hp : p ≤ s) (hb : (L ++ knL p le (stB s c le sf p) ne).length ≤ 696) : ∀ j e n (μ : Mem), e + j = ne → j < n → LxP μ ν ne le sf → ArrX μ c (L ++ knL p le (stB s c le sf p) e) → ∃ μ', f_Lattice_putKnown_14 n μ (nI p) (lN (tv (fun q => c (p + q)) (min 8 (s - p)))) (nI e) = some μ' ∧ ArrX μ' c (L ++ knL p le (stB s c le sf p) ne) ∧ LatF μ μ' := by
  intro j
  induction j with
  | zero =>
    intro e n μ he hn hx ha
    obtain ⟨n, rfl⟩ : ∃ z, n = z + 1 := ⟨n - 1, by omega⟩
    have hne := hx.1.1
    refine ⟨μ, ?_, by rw [show ne = e by omega]; exact ha, LatF.rf μ⟩
    rw [f_Lattice_putKnown_14]
    unfold f_Lexicon_count
    rw [cl_s, hx.1.2.1, if_pos (nI_le (by omega) (by omega))]
  | succ j ih =>
    intro e n μ he hn hx ha
    obtain ⟨n, rfl⟩ : ∃ z, n = z + 1 := ⟨n - 1, by omega⟩
    have hne := hx.1.1
    have hg : ∀ {x : Option Int32}, gd (inb (nI e) 40) x = x := gd_i (by rw [nI_toInt (by omega)]; omega)
    have hcn : (nI e).toNatClampNeg = e := nI_clamp (by omega)
    have hbv := begins_v (n := n) hx (show e < ne by omega) hc hp
    rw [f_Lattice_putKnown_14]
    unfold f_Lexicon_count
    rw [cl_s, hx.1.2.1, if_neg (nI_ge (by omega) (by omega)), hbv, cl_s]
    have hk : knL p le (stB s c le sf p) (e + 1) = knL p le (stB s c le sf p) e ++ (if stB s c le sf p e = true then [(p, le e, e)] else []) := rfl
    by_cases h : stB s c le sf p e = true
    · have hd : decide (p + le e ≤ s ∧ ∀ q, q < le e → sf e q = c (p + q)) = true := h
      have hl := knL_le (p := p) (le := le) (st := stB s c le sf p) j (e + 1)
      rw [show e + 1 + j = ne by omega, hk, if_pos h, List.length_append] at hl
      rw [List.length_append] at hb
      have hlt : (L ++ knL p le (stB s c le sf p) e).length < 696 := by
        rw [List.length_append]
        have : ([(p, le e, e)] : List Nd).length = 1 := rfl
        omega
      obtain ⟨μ1, r1, r2, r3⟩ := putL_x (n := n) (b := p) (l := le e) (e := e) ha hlt
      have hpt : ptX μ c (p, le e, e) = μ.1 6 e := if_neg (show ¬ e = 40 by omega)
      have hct : ctX μ c (p, le e, e) = μ.1 7 e := if_neg (show ¬ e = 40 by omega)
      have hen : enX e = nI e := if_neg (show ¬ e = 40 by omega)
      rw [hpt, hct, hen] at r1
      rw [List.append_assoc] at r2
      obtain ⟨μ2, t1, t2, t3⟩ := ih (e + 1) n μ1 (by omega) (by omega) (hx.lat r3) (by rw [hk, if_pos h]; exact r2)
      refine ⟨μ2, ?_, t2, r3.tr t3⟩
      unfold f_Lexicon_size f_Lexicon_part f_Lexicon_price f_Lattice_putKnown_73
      rw [hd, if_neg (show ¬ bz true = 0 by decide), hg, hcn, cl_s, hg, cl_s, hg, cl_s, (hx.2.1 e (by omega)).2.2.1, r1, cl_s, bd_e, nI_1]
      exact t1
    · have hd : decide (p + le e ≤ s ∧ ∀ q, q < le e → sf e q = c (p + q)) = false := by
        cases hq : decide (p + le e ≤ s ∧ ∀ q, q < le e → sf e q = c (p + q)) with
        | false => rfl
        | true => exact absurd hq h
      obtain ⟨μ2, t1, t2, t3⟩ := ih (e + 1) n μ (by omega) (by omega) hx (by rw [hk, if_neg h, List.append_nil]; exact ha)
      refine ⟨μ2, ?_, t2, t3⟩
      unfold f_Lattice_putKnown_73
      rw [hd, if_pos bzf, bd_e, nI_1]
      exact t1
