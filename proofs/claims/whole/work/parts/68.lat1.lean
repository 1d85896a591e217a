/-! PURE: the lattice as a list of nodes: begin, length, entry (40: unknown) -/
abbrev Nd : Type := Nat × Nat × Nat
def ptX (μ : Mem) (c : Nat → Nat) (d : Nd) : Int32 := if d.2.2 = 40 then μ.1 12 (c d.1 / 64) else μ.1 6 d.2.2
def ctX (μ : Mem) (c : Nat → Nat) (d : Nd) : Int32 := if d.2.2 = 40 then μ.1 13 (c d.1 / 64) else μ.1 7 d.2.2
def enX (e : Nat) : Int32 := if e = 40 then -1 else nI e
/-- the class's lattice holds the nodes L -/
def ArrX (μ : Mem) (c : Nat → Nat) (L : List Nd) : Prop := μ.1 18 9 = nI L.length ∧ ∀ i d, L[i]? = some d → μ.1 19 i = nI d.1 ∧ μ.1 20 i = nI d.2.1 ∧ μ.1 21 i = ptX μ c d ∧ μ.1 22 i = ctX μ c d ∧ μ.1 24 i = enX d.2.2
/-- nothing but the lattice's cells has changed -/
def LatF (μ μ' : Mem) : Prop := (∀ q, q < 18 ∨ 24 < q → μ'.1 q = μ.1 q) ∧ μ'.2 = μ.2
theorem LatF.rf (μ : Mem) : LatF μ μ := ⟨fun _ _ => rfl, rfl⟩
theorem LatF.tr {μ μ1 μ2 : Mem} (h1 : LatF μ μ1) (h2 : LatF μ1 μ2) : LatF μ μ2 := ⟨fun q hq => (h2.1 q hq).trans (h1.1 q hq), h2.2.trans h1.2⟩
theorem LatF.pt {μ μ' : Mem} (h : LatF μ μ') (c : Nat → Nat) (d : Nd) : ptX μ' c d = ptX μ c d ∧ ctX μ' c d = ctX μ c d := by
  unfold ptX ctX
  rw [h.1 12 (by omega), h.1 6 (by omega), h.1 13 (by omega), h.1 7 (by omega)]
  exact ⟨rfl, rfl⟩
theorem app1 {α : Type} {L : List α} {x y : α} {i : Nat} (h : (L ++ [x])[i]? = some y) : (i < L.length ∧ L[i]? = some y) ∨ (i = L.length ∧ y = x) := by
  by_cases hl : i < L.length
  · rw [List.getElem?_append_left hl] at h
    exact Or.inl ⟨hl, h⟩
  · rw [List.getElem?_append_right (by omega)] at h
    have hz : i - L.length < 1 := (List.getElem?_eq_some_iff.mp h).1
    have e : i = L.length := by omega
    subst e
    rw [Nat.sub_self] at h
    cases h
    exact Or.inr ⟨rfl, rfl⟩
theorem putL_x {μ : Mem} {c : Nat → Nat} {L : List Nd} {b l e n : Nat} (h : ArrX μ c L) (hm : L.length < 696) : ∃ μ', f_Lattice_put n μ (nI b) (nI l) (ptX μ c (b, l, e)) (ctX μ c (b, l, e)) (enX e) = some μ' ∧ ArrX μ' c (L ++ [(b, l, e)]) ∧ LatF μ μ' := by
  have hg : ∀ {x : Option Mem}, gd (inb (nI L.length) 696) x = x := gd_i (by rw [nI_toInt (by omega)]; omega)
  have hcn : (nI L.length).toNatClampNeg = L.length := nI_clamp (by omega)
  generalize hp : ptX μ c (b, l, e) = p
  generalize hq : ctX μ c (b, l, e) = q
  generalize hE : enX e = x
  have h9 := h.1
  have e1 : (wi μ 19 L.length (nI b)).1 18 9 = nI L.length := h9
  have e2 : (wi (wi μ 19 L.length (nI b)) 20 L.length (nI l)).1 18 9 = nI L.length := h9
  have e3 : (wi (wi (wi μ 19 L.length (nI b)) 20 L.length (nI l)) 21 L.length p).1 18 9 = nI L.length := h9
  have e4 : (wi (wi (wi (wi μ 19 L.length (nI b)) 20 L.length (nI l)) 21 L.length p) 22 L.length q).1 18 9 = nI L.length := h9
  have e5 : (wi (wi (wi (wi (wi μ 19 L.length (nI b)) 20 L.length (nI l)) 21 L.length p) 22 L.length q) 24 L.length x).1 18 9 = nI L.length := h9
  have hF : LatF μ (wi (wi (wi (wi (wi (wi μ 19 L.length (nI b)) 20 L.length (nI l)) 21 L.length p) 22 L.length q) 24 L.length x) 18 9 (nI L.length + 1)) := by
    refine ⟨fun k hk => ?_, rfl⟩
    unfold wi
    simp [show k ≠ 18 by omega, show k ≠ 19 by omega, show k ≠ 20 by omega, show k ≠ 21 by omega, show k ≠ 22 by omega, show k ≠ 24 by omega]
  refine ⟨_, ?_, ?_, hF⟩
  · unfold f_Lattice_put
    rw [h9, if_pos (show nI L.length < 696 from nI_lt (b := 696) hm (by decide)), hg, hcn, bd_e, e1, hg, hcn, bd_e, e2, hg, hcn, bd_e, e3, hg, hcn, bd_e, e4, hg, hcn, bd_e, e5, bd_e]
  · refine ⟨?_, fun i d hd => ?_⟩
    · rw [wi_g, if_pos ⟨rfl, rfl⟩, nI_1, List.length_append]; rfl
    · rw [(hF.pt c d).1, (hF.pt c d).2]
      have r19 : (wi (wi (wi (wi (wi (wi μ 19 L.length (nI b)) 20 L.length (nI l)) 21 L.length p) 22 L.length q) 24 L.length x) 18 9 (nI L.length + 1)).1 19 = upd (μ.1 19) L.length (nI b) := rfl
      have r20 : (wi (wi (wi (wi (wi (wi μ 19 L.length (nI b)) 20 L.length (nI l)) 21 L.length p) 22 L.length q) 24 L.length x) 18 9 (nI L.length + 1)).1 20 = upd (μ.1 20) L.length (nI l) := rfl
      have r21 : (wi (wi (wi (wi (wi (wi μ 19 L.length (nI b)) 20 L.length (nI l)) 21 L.length p) 22 L.length q) 24 L.length x) 18 9 (nI L.length + 1)).1 21 = upd (μ.1 21) L.length p := rfl
      have r22 : (wi (wi (wi (wi (wi (wi μ 19 L.length (nI b)) 20 L.length (nI l)) 21 L.length p) 22 L.length q) 24 L.length x) 18 9 (nI L.length + 1)).1 22 = upd (μ.1 22) L.length q := rfl
      have r24 : (wi (wi (wi (wi (wi (wi μ 19 L.length (nI b)) 20 L.length (nI l)) 21 L.length p) 22 L.length q) 24 L.length x) 18 9 (nI L.length + 1)).1 24 = upd (μ.1 24) L.length x := rfl
      rw [r19, r20, r21, r22, r24]
      rcases app1 hd with ⟨h1, h2⟩ | ⟨h1, h2⟩
      · have hne : i ≠ L.length := by omega
        rw [up_n hne, up_n hne, up_n hne, up_n hne, up_n hne]
        exact h.2 i d h2
      · subst h1; subst h2
        rw [up_s, up_s, up_s, up_s, up_s, hp, hq, hE]
        exact ⟨rfl, rfl, rfl, rfl, rfl⟩
