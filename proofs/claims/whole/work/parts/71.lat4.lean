/-! PURE: at most 24 known nodes at a place; the reference's known nodes -/
def sm8 (f : Nat → Nat) : Nat := f 1 + f 2 + f 3 + f 4 + f 5 + f 6 + f 7 + f 8
theorem sm8_1 {f : Nat → Nat} {l : Nat} (h1 : 1 ≤ l) (h8 : l ≤ 8) (hf : 1 ≤ f l) : 1 ≤ sm8 f := by
  unfold sm8
  have : l = 1 ∨ l = 2 ∨ l = 3 ∨ l = 4 ∨ l = 5 ∨ l = 6 ∨ l = 7 ∨ l = 8 := by omega
  rcases this with rfl | rfl | rfl | rfl | rfl | rfl | rfl | rfl <;> omega
theorem sm8_add (f g : Nat → Nat) : sm8 (fun l => f l + g l) = sm8 f + sm8 g := by
  unfold sm8
  dsimp only
  omega
theorem knL_len {p : Nat} {le : Nat → Nat} {st : Nat → Bool} : ∀ e, (knL p le st e).length = cnt st e := by
  intro e
  induction e with
  | zero => rfl
  | succ e ih =>
    show (knL p le st e ++ _).length = cnt st e + _
    rw [List.length_append, ih]
    split <;> rfl
theorem knL_24 {μ ν : Mem} {ne s p : Nat} {le : Nat → Nat} {sf : Nat → Nat → Nat} {c : Nat → Nat} (hx : LxP μ ν ne le sf) : (knL p le (stB s c le sf p) ne).length ≤ 24 := by
  rw [knL_len]
  have key : ∀ n, n ≤ ne → cnt (stB s c le sf p) n ≤ sm8 (fun l => cnt (fun e => decide (tv (sf e) (le e) = tv (fun q => c (p + q)) l)) n) := by
    intro n
    induction n with
    | zero => intro _; exact Nat.zero_le _
    | succ n ih =>
      intro hn
      have i1 := ih (by omega)
      have e1 : sm8 (fun l => cnt (fun e => decide (tv (sf e) (le e) = tv (fun q => c (p + q)) l)) (n + 1)) = sm8 (fun l => cnt (fun e => decide (tv (sf e) (le e) = tv (fun q => c (p + q)) l)) n) + sm8 (fun l => if decide (tv (sf n) (le n) = tv (fun q => c (p + q)) l) = true then 1 else 0) := sm8_add _ _
      rw [e1]
      show cnt (stB s c le sf p) n + (if stB s c le sf p n = true then 1 else 0) ≤ _
      by_cases h : stB s c le sf p n = true
      · rw [if_pos h]
        have hs := of_decide_eq_true h
        obtain ⟨⟨l1, l2⟩, -⟩ := hx.2.1 n (by omega)
        have := sm8_1 (f := fun l => if decide (tv (sf n) (le n) = tv (fun q => c (p + q)) l) = true then 1 else 0) l1 l2 (by
          show 1 ≤ (if decide (tv (sf n) (le n) = tv (fun q => c (p + q)) (le n)) = true then 1 else 0)
          rw [if_pos (decide_eq_true (tv_eq (le n) hs.2))]
          exact Nat.le_refl _)
        omega
      · rw [if_neg h]
        omega
  have k := key ne (Nat.le_refl _)
  have b : ∀ l, cnt (fun e => decide (tv (sf e) (le e) = tv (fun q => c (p + q)) l)) ne ≤ 3 := fun l => hx.2.2.2 _
  unfold sm8 at k
  dsimp only at k
  have b1 := b 1
  have b2 := b 2
  have b3 := b 3
  have b4 := b 4
  have b5 := b 5
  have b6 := b 6
  have b7 := b 7
  have b8 := b 8
  omega
theorem known_m {μ : Mem} {ne s p : Nat} {le : Nat → Nat} {sf : Nat → Nat → Nat} {c : Nat → Nat} {L : List Nd} {full : Bool} {x3 : Int32} (hs : s ≤ 24) (hp : p < s) (hb : (L ++ knL p le (stB s c le sf p) ne).length ≤ 696) : ∀ j e n (ν : Mem), e + j = ne → j + 20 < n → LxP μ ν ne le sf → ν.1 0 1 = nI s → (∀ j, j < s → c j ≤ 255 ∧ ν.1 1 j = nI (c j)) → ArrM ν c full (L ++ knL p le (stB s c le sf p) e) → ∃ n' ν', n ≤ n' + j ∧ f_Mo_nodesAt_8 n ν (nI p) (bz full) x3 (nI e) = f_Mo_nodesAt_8 n' ν' (nI p) (bz full) x3 (nI ne) ∧ ArrM ν' c full (L ++ knL p le (stB s c le sf p) ne) ∧ MatF ν ν' := by
  intro j
  induction j with
  | zero =>
    intro e n ν he hn hx h0 hd ha
    have e0 : e = ne := by omega
    subst e0
    exact ⟨n, ν, by omega, rfl, ha, MatF.rf ν⟩
  | succ j ih =>
    intro e n ν he hn hx h0 hd ha
    obtain ⟨n, rfl⟩ : ∃ z, n = z + 1 := ⟨n - 1, by omega⟩
    have hne := hx.1.1
    have hg : ∀ {x : Option Mem}, gd (inb (nI e) 40) x = x := gd_i (by rw [nI_toInt (by omega)]; omega)
    have hcn : (nI e).toNatClampNeg = e := nI_clamp (by omega)
    have hsv := stands_v (p := p) (n := n) hx (show e < ne by omega) hs h0 hd (by omega) (by omega)
    have hk : knL p le (stB s c le sf p) (e + 1) = knL p le (stB s c le sf p) e ++ (if stB s c le sf p e = true then [(p, le e, e)] else []) := rfl
    obtain ⟨⟨l1, l2⟩, g2, g3, g4, g5⟩ := hx.2.1 e (by omega)
    by_cases h : stB s c le sf p e = true
    · have hdt : decide (p + le e ≤ s ∧ ∀ q, q < le e → sf e q = c (p + q)) = true := h
      have hpl := (of_decide_eq_true h).1
      have hl := knL_le (p := p) (le := le) (st := stB s c le sf p) j (e + 1)
      rw [show e + 1 + j = ne by omega, hk, if_pos h, List.length_append] at hl
      rw [List.length_append] at hb
      have hlt : (L ++ knL p le (stB s c le sf p) e).length < 700 := by
        rw [List.length_append]
        omega
      obtain ⟨ν1, r1, r2, r3⟩ := nodeL_m (n := n) (b := p) (l := le e) (e := e) ha hlt hs hd hp hpl l2 (by omega) (by omega)
      rw [List.append_assoc] at r2
      obtain ⟨n', ν2, t1, t2, t3, t4⟩ := ih (e + 1) n ν1 (by omega) (by omega) (hx.mat r3) (by rw [r3.2.1 1 (by decide)]; exact h0) (fun q hq => by rw [r3.1 1 (by decide) (by omega)]; exact hd q hq) (by rw [hk, if_pos h]; exact r2)
      refine ⟨n', ν2, by omega, ?_, t3, r3.tr t4⟩
      rw [f_Mo_nodesAt_8, hx.1.2.2, if_neg (nI_ge (by omega) (by omega)), hsv, cl_s, hdt, if_neg (show ¬ bz true = 0 by decide), hg, hcn, g4, r1, cl_s]
      unfold f_Mo_nodesAt_42
      rw [bd_e, nI_1]
      exact t2
    · have hdt : decide (p + le e ≤ s ∧ ∀ q, q < le e → sf e q = c (p + q)) = false := by
        cases hq : decide (p + le e ≤ s ∧ ∀ q, q < le e → sf e q = c (p + q)) with
        | false => rfl
        | true => exact absurd hq h
      obtain ⟨n', ν2, t1, t2, t3, t4⟩ := ih (e + 1) n ν (by omega) (by omega) hx h0 hd (by rw [hk, if_neg h, List.append_nil]; exact ha)
      refine ⟨n', ν2, by omega, ?_, t3, t4⟩
      rw [f_Mo_nodesAt_8, hx.1.2.2, if_neg (nI_ge (by omega) (by omega)), hsv, cl_s, hdt, if_pos bzf]
      unfold f_Mo_nodesAt_42
      rw [bd_e, nI_1]
      exact t2
