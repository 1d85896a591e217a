/-! PURE: the reference's nodes -/
def ptM (ν : Mem) (c : Nat → Nat) (d : Nd) : Int32 := if d.2.2 = 40 then ν.1 9 (c d.1 / 64) else ν.1 4 d.2.2
def ctM (ν : Mem) (c : Nat → Nat) (d : Nd) : Int32 := if d.2.2 = 40 then ν.1 10 (c d.1 / 64) else ν.1 5 d.2.2
/-- the charge of a node in the reference: none where its entry has cuts, none on a plain run -/
def chE (ν : Mem) (c : Nat → Nat) (full : Bool) (d : Nd) : Int32 := if full = true ∧ (d.2.2 = 40 ∨ ν.1 6 d.2.2 = 0) then chg (ν.1 0 13) (ν.1 0 14) c d.1 d.2.1 else 0
/-- the reference's rows hold the nodes L -/
def ArrM (ν : Mem) (c : Nat → Nat) (full : Bool) (L : List Nd) : Prop := ν.1 0 23 = nI L.length ∧ ∀ i d, L[i]? = some d → ν.1 14 i = nI d.1 ∧ ν.1 15 i = nI d.2.1 ∧ ν.1 16 i = ptM ν c d ∧ ν.1 18 i = nI d.2.2 ∧ ν.1 17 i = ctM ν c d + chE ν c full d
def MatF (ν ν' : Mem) : Prop := (∀ q, q ≠ 0 → q < 14 ∨ 18 < q → ν'.1 q = ν.1 q) ∧ (∀ i, i ≠ 23 → ν'.1 0 i = ν.1 0 i) ∧ ν'.2 = ν.2
theorem MatF.rf (ν : Mem) : MatF ν ν := ⟨fun _ _ _ => rfl, fun _ _ => rfl, rfl⟩
theorem MatF.tr {ν ν1 ν2 : Mem} (h1 : MatF ν ν1) (h2 : MatF ν1 ν2) : MatF ν ν2 := ⟨fun q h0 hq => (h2.1 q h0 hq).trans (h1.1 q h0 hq), fun i hi => (h2.2.1 i hi).trans (h1.2.1 i hi), h2.2.2.trans h1.2.2⟩
theorem MatF.pt {ν ν' : Mem} (h : MatF ν ν') (c : Nat → Nat) (full : Bool) (d : Nd) : ptM ν' c d = ptM ν c d ∧ ctM ν' c d = ctM ν c d ∧ chE ν' c full d = chE ν c full d := by
  unfold ptM ctM chE
  rw [h.1 9 (by decide) (by omega), h.1 4 (by decide) (by omega), h.1 10 (by decide) (by omega), h.1 5 (by decide) (by omega), h.1 6 (by decide) (by omega), h.2.1 13 (by decide), h.2.1 14 (by decide)]
  exact ⟨rfl, rfl, rfl⟩
theorem chargeE_v {ν : Mem} {s b l e n : Nat} {c : Nat → Nat} {full : Bool} (hs : s ≤ 24) (hd : ∀ j, j < s → c j ≤ 255 ∧ ν.1 1 j = nI (c j)) (hb : b + l ≤ s) (hl : l ≤ 8) (he : e ≤ 40) (hn : 8 < n) : f_Mo_chargeOf n ν (nI b) (nI l) (nI e) (bz full) = some (chE ν c full (b, l, e)) := by
  unfold f_Mo_chargeOf chE
  rw [chargeM_v hs hd hb hl hn]
  cases full with
  | false => rw [if_pos bzf, if_neg (show ¬ (false = true ∧ ((b, l, e).2.2 = 40 ∨ ν.1 6 (b, l, e).2.2 = 0)) from fun z => absurd z.1 (by decide))]
  | true =>
    rw [if_neg (show ¬ bz true = 0 by decide)]
    by_cases h : e = 40
    · rw [if_pos (show nI e = 40 by rw [h]; rfl), if_pos ⟨rfl, Or.inl h⟩]
    · rw [if_neg (show ¬ nI e = 40 from fun z => h ((nI_eq (b := 40) (by omega) (by decide)).mp z)), gd_i (by rw [nI_toInt (by omega)]; omega), nI_clamp (by omega)]
      by_cases h2 : ν.1 6 e = 0
      · rw [if_pos h2, if_pos ⟨rfl, Or.inr h2⟩]
      · rw [if_neg h2, if_neg (show ¬ (true = true ∧ ((b, l, e).2.2 = 40 ∨ ν.1 6 (b, l, e).2.2 = 0)) from fun z => z.2.elim h h2)]
theorem node85_m {ν : Mem} {c : Nat → Nat} {L : List Nd} {s b l e n : Nat} {full : Bool} (h9 : ν.1 0 23 = nI L.length) (hm : L.length < 700) (hs : s ≤ 24) (hd : ∀ j, j < s → c j ≤ 255 ∧ ν.1 1 j = nI (c j)) (hb : b + l ≤ s) (hl : l ≤ 8) (he : e ≤ 40) (hn : 8 < n) (p q : Int32) :
    f_Mo_node_85 n ν (nI b) (nI l) (nI e) (bz full) q (nI L.length) p = some (wi (wi (wi (wi ν 16 L.length p) 18 L.length (nI e)) 17 L.length (q + chE ν c full (b, l, e))) 0 23 (nI L.length + 1)) := by
  have hg : ∀ {x : Option Mem}, gd (inb (nI L.length) 700) x = x := gd_i (by rw [nI_toInt (by omega)]; omega)
  have hcn : (nI L.length).toNatClampNeg = L.length := nI_clamp (by omega)
  have e1 : (wi ν 16 L.length p).1 0 23 = nI L.length := h9
  have e2 : (wi (wi ν 16 L.length p) 18 L.length (nI e)).1 0 23 = nI L.length := h9
  have ec := chargeE_v (ν := wi (wi ν 16 L.length p) 18 L.length (nI e)) (full := full) (n := n) hs hd hb hl he hn
  have ec2 : chE (wi (wi ν 16 L.length p) 18 L.length (nI e)) c full (b, l, e) = chE ν c full (b, l, e) := rfl
  rw [ec2] at ec
  have e3 : (wi (wi (wi ν 16 L.length p) 18 L.length (nI e)) 17 L.length (q + chE ν c full (b, l, e))).1 0 23 = nI L.length := h9
  unfold f_Mo_node_85
  rw [hg, hcn, bd_e, e1, hg, hcn, bd_e, ec, cl_s, e2, hg, hcn, bd_e, e3, bd_e]
theorem nodeL_m {ν : Mem} {c : Nat → Nat} {L : List Nd} {s b l e n : Nat} {full : Bool} (h : ArrM ν c full L) (hm : L.length < 700) (hs : s ≤ 24) (hd : ∀ j, j < s → c j ≤ 255 ∧ ν.1 1 j = nI (c j)) (hbs : b < s) (hb : b + l ≤ s) (hl : l ≤ 8) (he : e ≤ 40) (hn : 8 < n) : ∃ ν', f_Mo_node n ν (nI b) (nI l) (nI e) (bz full) = some ν' ∧ ArrM ν' c full (L ++ [(b, l, e)]) ∧ MatF ν ν' := by
  have hg : ∀ {x : Option Mem}, gd (inb (nI L.length) 700) x = x := gd_i (by rw [nI_toInt (by omega)]; omega)
  have hcn : (nI L.length).toNatClampNeg = L.length := nI_clamp (by omega)
  have h9 := h.1
  have hk := hd b hbs
  have e1 : (wi ν 14 L.length (nI b)).1 0 23 = nI L.length := h9
  have e2 : (wi (wi ν 14 L.length (nI b)) 15 L.length (nI l)).1 0 23 = nI L.length := h9
  have hF : ∀ p q r : Int32, MatF ν (wi (wi (wi (wi (wi (wi ν 14 L.length (nI b)) 15 L.length (nI l)) 16 L.length p) 18 L.length q) 17 L.length r) 0 23 (nI L.length + 1)) := by
    intro p q r
    refine ⟨fun k k0 hk => ?_, fun i hi => ?_, rfl⟩
    · unfold wi
      simp [k0, show k ≠ 14 by omega, show k ≠ 15 by omega, show k ≠ 16 by omega, show k ≠ 17 by omega, show k ≠ 18 by omega]
    · rw [wi_g, if_neg (fun z => hi z.2)]
      unfold wi
      simp
  have n85 := node85_m (ν := wi (wi ν 14 L.length (nI b)) 15 L.length (nI l)) (c := c) (full := full) (n := n) e2 hm hs hd hb hl he hn (ptM ν c (b, l, e)) (ctM ν c (b, l, e))
  have ec : chE (wi (wi ν 14 L.length (nI b)) 15 L.length (nI l)) c full (b, l, e) = chE ν c full (b, l, e) := rfl
  rw [ec] at n85
  refine ⟨wi (wi (wi (wi (wi (wi ν 14 L.length (nI b)) 15 L.length (nI l)) 16 L.length (ptM ν c (b, l, e))) 18 L.length (nI e)) 17 L.length (ctM ν c (b, l, e) + chE ν c full (b, l, e))) 0 23 (nI L.length + 1), ?_, ⟨?_, fun i d hi => ?_⟩, hF _ _ _⟩
  · unfold f_Mo_node f_Mo_node_33
    rw [gd_i (by rw [nI_toInt (by omega)]; omega), nI_clamp (by omega : b < 2 ^ 31), hk.2, div64 hk.1, bd_e, ← n85]
    by_cases h40 : e = 40
    · have hg4 : ∀ {x : Option Mem}, gd (inb (nI (c b / 64)) 4) x = x := gd_i (by rw [nI_toInt (by omega)]; omega)
      have h4 : nI e = 40 := by rw [h40]; rfl
      rw [if_pos h4, hg4, h9, hg, hcn, bd_e, e1, hg, hcn, bd_e, e2, if_pos h4, hg4, nI_clamp (by omega : c b / 64 < 2 ^ 31)]
      unfold ptM ctM
      rw [if_pos h40, if_pos h40]
      rfl
    · have hg40 : ∀ {x : Option Mem}, gd (inb (nI e) 40) x = x := gd_i (by rw [nI_toInt (by omega)]; omega)
      have hne : ¬ nI e = 40 := fun z => h40 ((nI_eq (b := 40) (by omega) (by decide)).mp z)
      rw [if_neg hne, hg40, h9, hg, hcn, bd_e, e1, hg, hcn, bd_e, e2, if_neg hne, hg40, nI_clamp (by omega : e < 2 ^ 31)]
      unfold ptM ctM
      rw [if_neg h40, if_neg h40]
      rfl
  · rw [wi_g, if_pos ⟨rfl, rfl⟩, nI_1, List.length_append]; rfl
  · obtain ⟨p1, p2, p3⟩ := (hF (ptM ν c (b, l, e)) (nI e) (ctM ν c (b, l, e) + chE ν c full (b, l, e))).pt c full d
    rw [p1, p2, p3]
    have r14 : (wi (wi (wi (wi (wi (wi ν 14 L.length (nI b)) 15 L.length (nI l)) 16 L.length (ptM ν c (b, l, e))) 18 L.length (nI e)) 17 L.length (ctM ν c (b, l, e) + chE ν c full (b, l, e))) 0 23 (nI L.length + 1)).1 14 = upd (ν.1 14) L.length (nI b) := rfl
    have r15 : (wi (wi (wi (wi (wi (wi ν 14 L.length (nI b)) 15 L.length (nI l)) 16 L.length (ptM ν c (b, l, e))) 18 L.length (nI e)) 17 L.length (ctM ν c (b, l, e) + chE ν c full (b, l, e))) 0 23 (nI L.length + 1)).1 15 = upd (ν.1 15) L.length (nI l) := rfl
    have r16 : (wi (wi (wi (wi (wi (wi ν 14 L.length (nI b)) 15 L.length (nI l)) 16 L.length (ptM ν c (b, l, e))) 18 L.length (nI e)) 17 L.length (ctM ν c (b, l, e) + chE ν c full (b, l, e))) 0 23 (nI L.length + 1)).1 16 = upd (ν.1 16) L.length (ptM ν c (b, l, e)) := rfl
    have r17 : (wi (wi (wi (wi (wi (wi ν 14 L.length (nI b)) 15 L.length (nI l)) 16 L.length (ptM ν c (b, l, e))) 18 L.length (nI e)) 17 L.length (ctM ν c (b, l, e) + chE ν c full (b, l, e))) 0 23 (nI L.length + 1)).1 17 = upd (ν.1 17) L.length (ctM ν c (b, l, e) + chE ν c full (b, l, e)) := rfl
    have r18 : (wi (wi (wi (wi (wi (wi ν 14 L.length (nI b)) 15 L.length (nI l)) 16 L.length (ptM ν c (b, l, e))) 18 L.length (nI e)) 17 L.length (ctM ν c (b, l, e) + chE ν c full (b, l, e))) 0 23 (nI L.length + 1)).1 18 = upd (ν.1 18) L.length (nI e) := rfl
    rw [r14, r15, r16, r17, r18]
    rcases app1 hi with ⟨h1, h2⟩ | ⟨h1, h2⟩
    · have hne : i ≠ L.length := by omega
      rw [up_n hne, up_n hne, up_n hne, up_n hne, up_n hne]
      exact h.2 i d h2
    · subst h1; subst h2
      rw [up_s, up_s, up_s, up_s, up_s]
      exact ⟨rfl, rfl, rfl, rfl, rfl⟩
