/-! PURE: what holds of the two memories between calls, and that each call keeps it -/
theorem AnX.g2 {μ μ' : Mem} {s ne : Nat} {c le : Nat → Nat} {sf : Nat → Nat → Nat} (h : AnX μ s c ne le sf) (f : ∀ q, (5 < q ∧ q < 15) ∨ (18 ≤ q ∧ q ≤ 40) → μ'.1 q = μ.1 q) (f25 : μ'.2 25 = μ.2 25) : AnX μ' s c ne le sf := by
  obtain ⟨x1, x2, x3, x4⟩ := AX_cong (μ := μ) (μ' := μ') (fun q h1 h2 => f q (by omega)) s c ne le sf
  have xP : ∀ chd, PX μ' s c ne le sf chd = PX μ s c ne le sf chd := fun chd => by unfold PX; rw [x2]
  have xT : TX μ' s c ne le sf = TX μ s c ne le sf := by unfold TX; rw [x2, x3, x4, xP]
  unfold AnX
  rw [x1, x2, x2, x4, xP, xT]
  refine ⟨?_, ?_, ?_, ?_⟩
  · unfold ArrX ptX ctX
    rw [f 18 (by omega), f 19 (by omega), f 20 (by omega), f 21 (by omega), f 22 (by omega), f 24 (by omega), f 12 (by omega), f 6 (by omega), f 13 (by omega), f 7 (by omega)]
    exact h.1
  · unfold RtE_B
    rw [f 25 (by omega), f 29 (by omega), f25]
    exact h.2.1
  · unfold TkY
    rw [f 35 (by omega), f 36 (by omega), f 37 (by omega), f 38 (by omega), f 39 (by omega)]
    exact h.2.2.1
  · unfold CpX
    rw [f 40 (by omega)]
    exact h.2.2.2
theorem LxP.mvv {μ μ' ν ν' : Mem} {ne : Nat} {le : Nat → Nat} {sf : Nat → Nat → Nat} (h : LxP μ ν ne le sf) (f : ∀ q, 3 ≤ q → q ≤ 9 → μ'.1 q = μ.1 q) (f4 : μ'.2 4 = μ.2 4) (g0 : ν'.1 0 8 = ν.1 0 8) (g : ∀ q, 2 ≤ q → q ≤ 7 → ν'.1 q = ν.1 q) : LxP μ' ν' ne le sf := by
  unfold LxP
  rw [f 3 (by omega) (by omega), f 5 (by omega) (by omega), f 6 (by omega) (by omega), f 7 (by omega) (by omega), f 8 (by omega) (by omega), f 9 (by omega) (by omega), f4, g0, g 2 (by omega) (by omega), g 3 (by omega) (by omega), g 4 (by omega) (by omega), g 5 (by omega) (by omega), g 6 (by omega) (by omega), g 7 (by omega) (by omega)]
  exact h
def JJ (_k : Nat) (μ : Mem) (δ : Dx) (ν : Mem) : Prop := ∃ (s : Nat) (c : Nat → Nat) (ne : Nat) (le : Nat → Nat) (sf : Nat → Nat → Nat) (nf cd k w dp sn : Nat) (z : Nat → Nat), RJ μ ν s c ne le sf nf ∧ ShP μ ν cd k w dp sn z ∧ DJ δ ν cd
theorem J_0 : JJ 0 mu0x (fun _ => none) mu0m := by
  refine ⟨0, fun _ => 0, 0, fun _ => 0, fun _ _ => 0, 0, 0, 0, 0, 0, 0, fun _ => 0, ⟨⟨⟨by omega, rfl, rfl, fun j hj => by omega⟩, ⟨fun k hk => ?_, fun i hi => ⟨rfl, show -10000 ≤ (0 : Int32).toInt by decide, show (0 : Int32).toInt ≤ 10000 by decide⟩, rfl, ⟨by decide, by decide⟩, rfl, ⟨by decide, by decide⟩⟩, ⟨⟨by omega, rfl, rfl⟩, fun e he => by omega, fun e he => by omega, fun x => by show 0 ≤ 3; omega⟩, ⟨by omega, rfl, rfl, fun i hi => by omega⟩⟩, rfl, rfl, fun h => absurd rfl h⟩, ⟨⟨by omega, by omega, by decide, by decide, by decide, fun i hi => by omega⟩, ⟨rfl, rfl, rfl, rfl, rfl, fun i hi => by omega⟩, ⟨rfl, rfl, fun d hd => ?_⟩, fun d hd => by omega, fun d hd => ?_⟩, ⟨fun d hd => by omega, fun d _ => rfl, fun d _ _ => rfl⟩⟩
  · have hF : ∀ k, k < 4 → F4 k = 1 := by decide
    refine ⟨rfl, rfl, rfl, ⟨show 0 ≤ (0 : Int32).toInt by decide, show (0 : Int32).toInt ≤ 19 by decide⟩, ?_, ⟨show -10000 ≤ (0 : Int32).toInt by decide, show (0 : Int32).toInt ≤ 10000 by decide⟩⟩
    show 1 ≤ (F4 k).toInt ∧ (F4 k).toInt ≤ 7
    rw [hF k hk]
    decide
  · rw [Nat.zero_testBit]; exact ⟨rfl, rfl, rfl⟩
  · rw [Nat.zero_testBit] at hd; cases hd
/-- after a call that only reads the analysis -/
theorem J_rd {μ μ' ν ν' : Mem} {δ : Dx} {k' s ne nf cd k w dp sn : Nat} {c le : Nat → Nat} {sf : Nat → Nat → Nat} {z : Nat → Nat} (hR : RJ μ' ν s c ne le sf nf) (hS : ShP μ ν cd k w dp sn z) (hD : DJ δ ν cd) (a3 : AnF μ μ') (b3 : AmF ν ν') : JJ k' μ' δ ν' := by
  refine ⟨s, c, ne, le, sf, nf, cd, k, w, dp, sn, z, hR.aj (hR.1.mvm b3), hS.mv (a3.1 41 (by omega) (by omega)) (a3.2.2.1 41 (by omega)) (a3.2.2.1 43 (by omega)) (b3.2.1 50 (by omega)) (b3.2.1 51 (by omega)) (fun q q1 q2 => b3.1 q (by omega) (by omega)), hD.mv (b3.1 35 (by omega) (by omega)) (b3.1 34 (by omega) (by omega)) (b3.2.2 33 (by omega))⟩
theorem J_cost {k : Nat} {μ : Mem} {δ : Dx} {ν : Mem} (h : JJ k μ δ ν) : ∃ (n1 n2 : Nat) (r : Int32) (μ' : Mem) (ν' : Mem), f_X_cost n1 μ = some (r, μ') ∧ f_Mo_cost n2 ν = some (r, ν') ∧ JJ (k + 1) μ' δ ν' := by
  obtain ⟨s, c, ne, le, sf, nf, cd, kk, w, dp, sn, z, hR, hS, hD⟩ := h
  obtain ⟨r, μ', ν', a1, a2, a3, a4, a5⟩ := st_cost hR
  exact ⟨_, _, r, μ', ν', a1, a2, J_rd a5 hS hD a3 a4⟩
theorem J_paths {k : Nat} {μ : Mem} {δ : Dx} {ν : Mem} (h : JJ k μ δ ν) : ∃ (n1 n2 : Nat) (r : Int64) (μ' : Mem) (ν' : Mem), f_X_paths n1 μ = some (r, μ') ∧ f_Mo_paths n2 ν = some (r, ν') ∧ JJ (k + 1) μ' δ ν' := by
  obtain ⟨s, c, ne, le, sf, nf, cd, kk, w, dp, sn, z, hR, hS, hD⟩ := h
  obtain ⟨r, μ', ν', a1, a2, a3, a4, a5⟩ := st_paths hR
  exact ⟨_, _, r, μ', ν', a1, a2, J_rd a5 hS hD a3 a4⟩
theorem J_nodes {k : Nat} {μ : Mem} {δ : Dx} {ν : Mem} (h : JJ k μ δ ν) : ∃ (n1 n2 : Nat) (r : Int32) (μ' : Mem) (ν' : Mem), f_X_nodes n1 μ = some (r, μ') ∧ f_Mo_nodes n2 ν = some (r, ν') ∧ JJ (k + 1) μ' δ ν' := by
  obtain ⟨s, c, ne, le, sf, nf, cd, kk, w, dp, sn, z, hR, hS, hD⟩ := h
  obtain ⟨r, μ', ν', a1, a2, a3, a4, a5⟩ := st_nodes hR
  exact ⟨_, _, r, μ', ν', a1, a2, J_rd a5 hS hD a3 a4⟩
theorem J_tokens {k : Nat} {μ : Mem} {δ : Dx} {ν : Mem} (h : JJ k μ δ ν) : ∃ (n1 n2 : Nat) (r : Int32) (μ' : Mem) (ν' : Mem), f_X_tokens n1 μ = some (r, μ') ∧ f_Mo_tokens n2 ν = some (r, ν') ∧ JJ (k + 1) μ' δ ν' := by
  obtain ⟨s, c, ne, le, sf, nf, cd, kk, w, dp, sn, z, hR, hS, hD⟩ := h
  obtain ⟨r, μ', ν', a1, a2, a3, a4, a5⟩ := st_tokens hR
  exact ⟨_, _, r, μ', ν', a1, a2, J_rd a5 hS hD a3 a4⟩
theorem J_token {k : Nat} {μ : Mem} {δ : Dx} {ν : Mem} (h : JJ k μ δ ν) (x y : Int32) : ∃ (n1 n2 : Nat) (r : Int32) (μ' : Mem) (ν' : Mem), f_X_token n1 μ x y = some (r, μ') ∧ f_Mo_token n2 ν x y = some (r, ν') ∧ JJ (k + 1) μ' δ ν' := by
  obtain ⟨s, c, ne, le, sf, nf, cd, kk, w, dp, sn, z, hR, hS, hD⟩ := h
  obtain ⟨r, μ', ν', a1, a2, a3, a4, a5⟩ := st_token hR x y
  exact ⟨_, _, r, μ', ν', a1, a2, J_rd a5 hS hD a3 a4⟩
theorem J_term {k : Nat} {μ : Mem} {δ : Dx} {ν : Mem} (h : JJ k μ δ ν) (x : Int32) : ∃ (n1 n2 : Nat) (r : Int64) (μ' : Mem) (ν' : Mem), f_X_term n1 μ x = some (r, μ') ∧ f_Mo_term n2 ν x = some (r, ν') ∧ JJ (k + 1) μ' δ ν' := by
  obtain ⟨s, c, ne, le, sf, nf, cd, kk, w, dp, sn, z, hR, hS, hD⟩ := h
  obtain ⟨r, μ', ν', a1, a2, a3, a4, a5⟩ := st_term hR x
  exact ⟨_, _, r, μ', ν', a1, a2, J_rd a5 hS hD a3 a4⟩
theorem J_add {k : Nat} {μ : Mem} {δ : Dx} {ν : Mem} (h : JJ k μ δ ν) : ∃ (n1 n2 : Nat) (r : Int32) (μ' : Mem) (δ' : Dx) (ν' : Mem), f_X_add n1 δ μ = some (r, μ', δ') ∧ f_Mo_add n2 ν = some (r, ν') ∧ JJ (k + 1) μ' δ' ν' := by
  obtain ⟨s, c, ne, le, sf, nf, cd, kk, w, dp, sn, z, hR, hS, hD⟩ := h
  obtain ⟨r, μ', δ', ν', a1, a2, a3, cd', w', a4, a5⟩ := st_add hR hS hD
  exact ⟨_, _, r, μ', δ', ν', a1, a2, s, c, ne, le, sf, nf, cd', kk, w', dp, sn, z, a3, a4, a5⟩
theorem J_match {k : Nat} {μ : Mem} {δ : Dx} {ν : Mem} (h : JJ k μ δ ν) (x : Int32) : ∃ (n1 n2 : Nat) (r : Int32) (μ' : Mem) (ν' : Mem), f_X_match n1 δ μ x = some (r, μ') ∧ f_Mo_match n2 ν x = some (r, ν') ∧ JJ (k + 1) μ' δ ν' := by
  obtain ⟨s, c, ne, le, sf, nf, cd, kk, w, dp, sn, z, hR, hS, hD⟩ := h
  obtain ⟨r, μ', ν', a1, a2, a3, a4, a5⟩ := st_match hR hS hD x
  exact ⟨_, _, r, μ', ν', a1, a2, s, c, ne, le, sf, nf, cd, kk, w, dp, sn, z, a3, a4, a5⟩
theorem J_places {k : Nat} {μ : Mem} {δ : Dx} {ν : Mem} (h : JJ k μ δ ν) (x : Int32) : ∃ (n1 n2 : Nat) (r : Int32) (μ' : Mem) (ν' : Mem), f_X_places n1 δ μ x = some (r, μ') ∧ f_Mo_places n2 ν x = some (r, ν') ∧ JJ (k + 1) μ' δ ν' := by
  obtain ⟨s, c, ne, le, sf, nf, cd, kk, w, dp, sn, z, hR, hS, hD⟩ := h
  obtain ⟨r, μ', ν', a1, a2, a3, a4, a5⟩ := st_places hR hS hD x
  exact ⟨_, _, r, μ', ν', a1, a2, s, c, ne, le, sf, nf, cd, kk, w, dp, sn, z, a3, a4, a5⟩
theorem J_flush {k : Nat} {μ : Mem} {δ : Dx} {ν : Mem} (h : JJ k μ δ ν) : ∃ (n1 n2 : Nat) (r : Int32) (μ' : Mem) (ν' : Mem), f_X_flush n1 δ μ = some (r, μ') ∧ f_Mo_flush n2 ν = some (r, ν') ∧ JJ (k + 1) μ' δ ν' := by
  obtain ⟨s, c, ne, le, sf, nf, cd, kk, w, dp, sn, z, hR, hS, hD⟩ := h
  obtain ⟨r, μ', ν', a1, a2, ⟨k', z', a3⟩, a4, a5⟩ := st_flush hS hD
  have R1 : RJ μ' ν s c ne le sf nf := hR.gx (fun q hq => a4.1 q (by omega)) (a4.2 4 (by omega) (by omega)) (a4.2 25 (by omega) (by omega))
  exact ⟨_, _, r, μ', ν', a1, a2, s, c, ne, le, sf, nf, cd, k', 0, dp, sn, z', R1.aj (R1.1.gm (fun q q1 q2 => a5.1 q (by omega) (by omega) (by omega)) (fun i hi => a5.2.1 i (by omega))), a3, hD.mv (a5.1 35 (by omega) (by omega) (by omega)) (a5.1 34 (by omega) (by omega) (by omega)) (by rw [a5.2.2])⟩
theorem J_shf {μ μ' ν ν' : Mem} {δ : Dx} {k' s ne nf cd k w dp sn : Nat} {c le : Nat → Nat} {sf : Nat → Nat → Nat} {z : Nat → Nat} (hR : RJ μ ν s c ne le sf nf) (hS : ShP μ' ν' cd k w dp sn z) (hD : DJ δ ν cd) (f : ShF μ μ' ν ν') : JJ k' μ' δ ν' := by
  have R1 : RJ μ' ν s c ne le sf nf := hR.gx (fun q hq => by rw [f.1]) (f.2.1 4 (by omega)) (f.2.1 25 (by omega))
  exact ⟨s, c, ne, le, sf, nf, cd, k, w, dp, sn, z, R1.aj (R1.1.gm (fun q q1 q2 => f.2.2.2 q (by omega) (by omega) (by omega)) (fun i hi => by rw [f.2.2.2 0 (by omega) (by omega) (by omega)])), hS, hD.mv (f.2.2.2 35 (by omega) (by omega) (by omega)) (f.2.2.2 34 (by omega) (by omega) (by omega)) (by rw [f.2.2.1])⟩
theorem J_drop {k : Nat} {μ : Mem} {δ : Dx} {ν : Mem} (h : JJ k μ δ ν) (x : Int32) : ∃ (n1 n2 : Nat) (r : Bool) (μ' : Mem) (ν' : Mem), f_X_drop n1 μ x = some (r, μ') ∧ f_Mo_drop n2 ν x = some (r, ν') ∧ JJ (k + 1) μ' δ ν' := by
  obtain ⟨s, c, ne, le, sf, nf, cd, kk, w, dp, sn, z, hR, hS, hD⟩ := h
  obtain ⟨r, μ', ν', a1, a2, ⟨w', dp', a3⟩, a4⟩ := st_drop hS x
  exact ⟨_, _, r, μ', ν', a1, a2, J_shf hR a3 hD a4⟩
theorem J_open {k : Nat} {μ : Mem} {δ : Dx} {ν : Mem} (h : JJ k μ δ ν) : ∃ (n1 n2 : Nat) (r : Int32) (μ' : Mem) (ν' : Mem), f_X_open n1 μ = some (r, μ') ∧ f_Mo_open n2 ν = some (r, ν') ∧ JJ (k + 1) μ' δ ν' := by
  obtain ⟨s, c, ne, le, sf, nf, cd, kk, w, dp, sn, z, hR, hS, hD⟩ := h
  obtain ⟨r, μ', ν', a1, a2, ⟨sn', a3⟩, a4⟩ := st_open hS
  exact ⟨_, _, r, μ', ν', a1, a2, J_shf hR a3 hD a4⟩
theorem J_segment {k : Nat} {μ : Mem} {δ : Dx} {ν : Mem} (h : JJ k μ δ ν) (x : Int32) : ∃ (n1 n2 : Nat) (r : Int32), f_X_segment n1 μ x = some r ∧ f_Mo_segment n2 ν x = some r ∧ JJ (k + 1) μ δ ν := by
  obtain ⟨s, c, ne, le, sf, nf, cd, kk, w, dp, sn, z, hR, hS, hD⟩ := id h
  obtain ⟨n1, n2, r, a1, a2⟩ := st_segment hS x
  exact ⟨n1, n2, r, a1, a2, h⟩
/-- after a call that changes draft, dictionary or grammar -/
theorem J_set {μ μ' ν ν' : Mem} {δ : Dx} {k' s ne nf cd k w dp sn : Nat} {c le : Nat → Nat} {sf : Nat → Nat → Nat} {z : Nat → Nat} (hA : AJ μ' ν' s c ne le sf nf) (h25 : μ.1 25 2 = 1) (h30 : μ.1 30 2 = 0) (h0 : μ'.1 0 10 = 0) (hS : ShP μ ν cd k w dp sn z) (hD : DJ δ ν cd) (f : ∀ q, 18 ≤ q → μ'.1 q = μ.1 q) (f2 : ∀ q, q ≠ 4 → μ'.2 q = μ.2 q) (g : ∀ q, 14 ≤ q → ν'.1 q = ν.1 q) (g0 : ∀ i, 18 ≤ i → ν'.1 0 i = ν.1 0 i) (g2 : ν'.2 = ν.2) : JJ k' μ' δ ν' := by
  refine ⟨s, c, ne, le, sf, nf, cd, k, w, dp, sn, z, ⟨hA, by rw [f 25 (by omega)]; exact h25, by rw [f 30 (by omega)]; exact h30, fun h => absurd h0 h⟩, hS.mv (f 41 (by omega)) (f2 41 (by omega)) (f2 43 (by omega)) (g0 50 (by omega)) (g0 51 (by omega)) (fun q q1 q2 => g q (by omega)), hD.mv (g 35 (by omega)) (g 34 (by omega)) (by rw [g2])⟩
theorem wi_s {μ : Mem} {k j : Nat} {v : Int32} : (wi μ k j v).1 k = upd (μ.1 k) j v := if_pos rfl
theorem J_rule {k : Nat} {μ : Mem} {δ : Dx} {ν : Mem} (h : JJ k μ δ ν) (a1 a2 a3 a4 : Int32) : ∃ (n1 n2 : Nat) (r : Bool) (μ' : Mem) (ν' : Mem), f_X_rule n1 μ a1 a2 a3 a4 = some (r, μ') ∧ f_Mo_rule n2 ν a1 a2 a3 a4 = some (r, ν') ∧ JJ (k + 1) μ' δ ν' := by
  by_cases ok : ruleOK a1 a2 a3 a4
  · obtain ⟨s, c, ne, le, sf, nf, cd, kk, w, dp, sn, z, hR, hS, hD⟩ := h
    refine ⟨0, 0, true, _, _, (rule_x 0 μ a1 a2 a3 a4).1 ok, (rule_m 0 ν a1 a2 a3 a4).1 ok, ?_⟩
    have X : ∀ q, q ≠ 0 → q ≠ 11 → q ≠ 12 → q ≠ 13 → (ruleX μ a1 a2 a3 a4).1 q = μ.1 q := fun q q0 q1 q2 q3 => by unfold ruleX; rw [wi_o q0, wi_o q3, wi_o q2, wi_o q1]
    have M : ∀ q, q ≠ 8 → q ≠ 9 → q ≠ 10 → (ruleM ν a1 a2 a3 a4).1 q = ν.1 q := fun q q1 q2 q3 => by unfold ruleM; rw [wi_o q3, wi_o q2, wi_o q1]
    refine J_set (μ := μ) (ν := ν) (s := s) (c := c) (ne := ne) (le := le) (sf := sf) (nf := nf) ⟨?_, ?_, ?_, ?_⟩ hR.2.1 hR.2.2.1 (by unfold ruleX; rw [wi_g, if_pos ⟨rfl, rfl⟩]) hS hD (fun q hq => X q (by omega) (by omega) (by omega) (by omega)) (fun q _ => rfl) (fun q hq => M q (by omega) (by omega) (by omega)) (fun i _ => by rw [M 0 (by omega) (by omega) (by omega)]) rfl
    · rw [X 1 (by omega) (by omega) (by omega) (by omega), X 2 (by omega) (by omega) (by omega) (by omega), M 0 (by omega) (by omega) (by omega), M 1 (by omega) (by omega) (by omega)]
      exact hR.1.1
    · have x11 : (ruleX μ a1 a2 a3 a4).1 11 = upd (μ.1 11) a1.toNatClampNeg a2 := by unfold ruleX; rw [wi_o (by omega), wi_o (by omega), wi_o (by omega), wi_s]
      have x12 : (ruleX μ a1 a2 a3 a4).1 12 = upd (μ.1 12) a1.toNatClampNeg a3 := by unfold ruleX; rw [wi_o (by omega), wi_o (by omega), wi_s, wi_o (by omega)]
      have x13 : (ruleX μ a1 a2 a3 a4).1 13 = upd (μ.1 13) a1.toNatClampNeg a4 := by unfold ruleX; rw [wi_o (by omega), wi_s, wi_o (by omega), wi_o (by omega)]
      have y8 : (ruleM ν a1 a2 a3 a4).1 8 = upd (ν.1 8) a1.toNatClampNeg a2 := by unfold ruleM; rw [wi_o (by omega), wi_o (by omega), wi_s]
      have y9 : (ruleM ν a1 a2 a3 a4).1 9 = upd (ν.1 9) a1.toNatClampNeg a3 := by unfold ruleM; rw [wi_o (by omega), wi_s, wi_o (by omega)]
      have y10 : (ruleM ν a1 a2 a3 a4).1 10 = upd (ν.1 10) a1.toNatClampNeg a4 := by unfold ruleM; rw [wi_s, wi_o (by omega), wi_o (by omega)]
      rw [x11, x12, x13, y8, y9, y10, X 14 (by omega) (by omega) (by omega) (by omega), X 10 (by omega) (by omega) (by omega) (by omega), M 11 (by omega) (by omega) (by omega), M 0 (by omega) (by omega) (by omega)]
      exact hR.1.2.1.rule ok _
    · exact hR.1.2.2.1.mvv (fun q q1 q2 => X q (by omega) (by omega) (by omega) (by omega)) rfl (by rw [M 0 (by omega) (by omega) (by omega)]) (fun q q1 q2 => M q (by omega) (by omega) (by omega))
    · rw [X 15 (by omega) (by omega) (by omega) (by omega), X 16 (by omega) (by omega) (by omega) (by omega), X 17 (by omega) (by omega) (by omega) (by omega), M 0 (by omega) (by omega) (by omega), M 12 (by omega) (by omega) (by omega), M 13 (by omega) (by omega) (by omega)]
      exact hR.1.2.2.2
  · exact ⟨0, 0, false, μ, ν, (rule_x 0 μ a1 a2 a3 a4).2 ok, (rule_m 0 ν a1 a2 a3 a4).2 ok, h⟩
theorem J_link {k : Nat} {μ : Mem} {δ : Dx} {ν : Mem} (h : JJ k μ δ ν) (a1 a2 a3 : Int32) : ∃ (n1 n2 : Nat) (r : Bool) (μ' : Mem) (ν' : Mem), f_X_link n1 μ a1 a2 a3 = some (r, μ') ∧ f_Mo_link n2 ν a1 a2 a3 = some (r, ν') ∧ JJ (k + 1) μ' δ ν' := by
  by_cases ok : linkOK a1 a2 a3
  · obtain ⟨s, c, ne, le, sf, nf, cd, kk, w, dp, sn, z, hR, hS, hD⟩ := h
    refine ⟨0, 0, true, _, _, (link_x 0 μ a1 a2 a3).1 ok, (link_m 0 ν a1 a2 a3).1 ok, ?_⟩
    have ix : a1 * 8 + a2 = 8 * a1 + a2 := by
      rw [i_eq, (ix8 ok.1 ok.2.1).1, (ix8 ok.1 ok.2.1).2]
    have X : ∀ q, q ≠ 0 → q ≠ 14 → (linkX μ a1 a2 a3).1 q = μ.1 q := fun q q0 q1 => by unfold linkX; rw [wi_o q0, wi_o q1]
    have M : ∀ q, q ≠ 11 → (linkM ν a1 a2 a3).1 q = ν.1 q := fun q q1 => by unfold linkM; rw [wi_o q1]
    refine J_set (μ := μ) (ν := ν) (s := s) (c := c) (ne := ne) (le := le) (sf := sf) (nf := nf) ⟨?_, ?_, ?_, ?_⟩ hR.2.1 hR.2.2.1 (by unfold linkX; rw [wi_g, if_pos ⟨rfl, rfl⟩]) hS hD (fun q hq => X q (by omega) (by omega)) (fun q _ => rfl) (fun q hq => M q (by omega)) (fun i _ => by rw [M 0 (by omega)]) rfl
    · rw [X 1 (by omega) (by omega), X 2 (by omega) (by omega), M 0 (by omega), M 1 (by omega)]
      exact hR.1.1
    · have x14 : (linkX μ a1 a2 a3).1 14 = upd (μ.1 14) (8 * a1 + a2).toNatClampNeg a3 := by unfold linkX; rw [wi_o (by omega), wi_s, ix]
      have y11 : (linkM ν a1 a2 a3).1 11 = upd (ν.1 11) (8 * a1 + a2).toNatClampNeg a3 := by unfold linkM; rw [wi_s]
      rw [x14, y11, X 11 (by omega) (by omega), X 12 (by omega) (by omega), X 13 (by omega) (by omega), X 10 (by omega) (by omega), M 8 (by omega), M 9 (by omega), M 10 (by omega), M 0 (by omega)]
      exact hR.1.2.1.link ok.2.2 _
    · exact hR.1.2.2.1.mvv (fun q q1 q2 => X q (by omega) (by omega)) rfl (by rw [M 0 (by omega)]) (fun q q1 q2 => M q (by omega))
    · rw [X 15 (by omega) (by omega), X 16 (by omega) (by omega), X 17 (by omega) (by omega), M 0 (by omega), M 12 (by omega), M 13 (by omega)]
      exact hR.1.2.2.2
  · exact ⟨0, 0, false, μ, ν, (link_x 0 μ a1 a2 a3).2 ok, (link_m 0 ν a1 a2 a3).2 ok, h⟩
theorem J_mode {k : Nat} {μ : Mem} {δ : Dx} {ν : Mem} (h : JJ k μ δ ν) (a1 a2 : Int32) : ∃ (n1 n2 : Nat) (r : Bool) (μ' : Mem) (ν' : Mem), f_X_mode n1 μ a1 a2 = some (r, μ') ∧ f_Mo_mode n2 ν a1 a2 = some (r, ν') ∧ JJ (k + 1) μ' δ ν' := by
  by_cases ok : modeOK a1 a2
  · obtain ⟨s, c, ne, le, sf, nf, cd, kk, w, dp, sn, z, hR, hS, hD⟩ := h
    refine ⟨0, 0, true, _, _, (mode_x 0 μ a1 a2).1 ok, (mode_m 0 ν a1 a2).1 ok, ?_⟩
    have X : ∀ q, q ≠ 0 → q ≠ 10 → (modeX μ a1 a2).1 q = μ.1 q := fun q q0 q1 => by unfold modeX; rw [wi_o q0, wi_o q1, wi_o q1]
    have M : ∀ q, q ≠ 0 → (modeM ν a1 a2).1 q = ν.1 q := fun q q1 => by unfold modeM; rw [wi_o q1, wi_o q1]
    have M0 : ∀ i, i ≠ 13 → i ≠ 14 → (modeM ν a1 a2).1 0 i = ν.1 0 i := fun i i1 i2 => by unfold modeM; rw [wi_g, if_neg (by omega), wi_g, if_neg (by omega)]
    refine J_set (μ := μ) (ν := ν) (s := s) (c := c) (ne := ne) (le := le) (sf := sf) (nf := nf) ⟨?_, ?_, ?_, ?_⟩ hR.2.1 hR.2.2.1 (by unfold modeX; rw [wi_g, if_pos ⟨rfl, rfl⟩]) hS hD (fun q hq => X q (by omega) (by omega)) (fun q _ => rfl) (fun q hq => M q (by omega)) (fun i hi => M0 i (by omega) (by omega)) rfl
    · rw [X 1 (by omega) (by omega), X 2 (by omega) (by omega), M0 1 (by omega) (by omega), M 1 (by omega)]
      exact hR.1.1
    · have x4 : (modeX μ a1 a2).1 10 4 = a1 := by unfold modeX; rw [wi_o (by omega), wi_g, if_neg (by omega), wi_g, if_pos ⟨rfl, rfl⟩]
      have x5 : (modeX μ a1 a2).1 10 5 = a2 := by unfold modeX; rw [wi_o (by omega), wi_g, if_pos ⟨rfl, rfl⟩]
      have y13 : (modeM ν a1 a2).1 0 13 = a1 := by unfold modeM; rw [wi_g, if_neg (by omega), wi_g, if_pos ⟨rfl, rfl⟩]
      have y14 : (modeM ν a1 a2).1 0 14 = a2 := by unfold modeM; rw [wi_g, if_pos ⟨rfl, rfl⟩]
      rw [x4, x5, y13, y14, X 11 (by omega) (by omega), X 12 (by omega) (by omega), X 13 (by omega) (by omega), X 14 (by omega) (by omega), M 8 (by omega), M 9 (by omega), M 10 (by omega), M 11 (by omega)]
      exact hR.1.2.1.mode ok
    · exact hR.1.2.2.1.mvv (fun q q1 q2 => X q (by omega) (by omega)) rfl (M0 8 (by omega) (by omega)) (fun q q1 q2 => M q (by omega))
    · rw [X 15 (by omega) (by omega), X 16 (by omega) (by omega), X 17 (by omega) (by omega), M0 17 (by omega) (by omega), M 12 (by omega), M 13 (by omega)]
      exact hR.1.2.2.2
  · exact ⟨0, 0, false, μ, ν, (mode_x 0 μ a1 a2).2 ok, (mode_m 0 ν a1 a2).2 ok, h⟩
/-- after a call that changes the filters -/
theorem J_fil {μ μ' ν ν' : Mem} {δ : Dx} {k' s ne nf nf' cd k w dp sn : Nat} {c le : Nat → Nat} {sf : Nat → Nat → Nat} {z : Nat → Nat} (hR : RJ μ ν s c ne le sf nf) (hF : FiP (μ'.1 15 2) (μ'.1 16) (μ'.1 17) (ν'.1 0 17) (ν'.1 12) (ν'.1 13) nf') (hS : ShP μ ν cd k w dp sn z) (hD : DJ δ ν cd) (f : ∀ q, q ≠ 15 → q ≠ 16 → q ≠ 17 → μ'.1 q = μ.1 q) (f2 : μ'.2 = μ.2) (g : ∀ q, q ≠ 0 → q ≠ 12 → q ≠ 13 → ν'.1 q = ν.1 q) (g0 : ∀ i, i ≠ 17 → ν'.1 0 i = ν.1 0 i) (g2 : ν'.2 = ν.2) : JJ k' μ' δ ν' := by
  refine ⟨s, c, ne, le, sf, nf', cd, k, w, dp, sn, z, ⟨⟨?_, ?_, ?_, hF⟩, by rw [f 25 (by omega) (by omega) (by omega)]; exact hR.2.1, by rw [f 30 (by omega) (by omega) (by omega)]; exact hR.2.2.1, fun h => ?_⟩, hS.mv (f 41 (by omega) (by omega) (by omega)) (by rw [f2]) (by rw [f2]) (g0 50 (by omega)) (g0 51 (by omega)) (fun q q1 q2 => g q (by omega) (by omega) (by omega)), hD.mv (g 35 (by omega) (by omega) (by omega)) (g 34 (by omega) (by omega) (by omega)) (by rw [g2])⟩
  · rw [f 1 (by omega) (by omega) (by omega), f 2 (by omega) (by omega) (by omega), g0 1 (by omega), g 1 (by omega) (by omega) (by omega)]
    exact hR.1.1
  · rw [f 11 (by omega) (by omega) (by omega), f 12 (by omega) (by omega) (by omega), f 13 (by omega) (by omega) (by omega), f 14 (by omega) (by omega) (by omega), f 10 (by omega) (by omega) (by omega), g 8 (by omega) (by omega) (by omega), g 9 (by omega) (by omega) (by omega), g 10 (by omega) (by omega) (by omega), g 11 (by omega) (by omega) (by omega), g0 13 (by omega), g0 14 (by omega)]
    exact hR.1.2.1
  · exact hR.1.2.2.1.mvv (fun q q1 q2 => f q (by omega) (by omega) (by omega)) (by rw [f2]) (g0 8 (by omega)) (fun q q1 q2 => g q (by omega) (by omega) (by omega))
  · rw [f 0 (by omega) (by omega) (by omega)] at h
    exact (hR.2.2.2 h).g2 (fun q hq => f q (by omega) (by omega) (by omega)) (by rw [f2])
theorem J_chain {k : Nat} {μ : Mem} {δ : Dx} {ν : Mem} (h : JJ k μ δ ν) (a1 a2 : Int32) : ∃ (n1 n2 : Nat) (r : Bool) (μ' : Mem) (ν' : Mem), f_X_chain n1 μ a1 a2 = some (r, μ') ∧ f_Mo_chain n2 ν a1 a2 = some (r, ν') ∧ JJ (k + 1) μ' δ ν' := by
  obtain ⟨s, c, ne, le, sf, nf, cd, kk, w, dp, sn, z, hR, hS, hD⟩ := id h
  obtain ⟨f1, f2, f3, f4⟩ := hR.1.2.2.2
  obtain ⟨x1, x2, x3⟩ := chain_x 0 μ a1 a2 nf f1 f2
  obtain ⟨m1, m2, m3⟩ := chain_m 0 ν a1 a2 nf f1 f3
  by_cases c1 : a1 = -1
  · refine ⟨0, 0, true, _, _, x1 c1, m1 c1, J_fil (nf' := 0) hR ?_ hS hD (fun q q1 _ _ => wi_o q1) rfl (fun q q0 _ _ => wi_o q0) (fun i hi => by rw [wi_g, if_neg (by omega)]) rfl⟩
    rw [wi_g, if_pos ⟨rfl, rfl⟩, wi_g, if_pos ⟨rfl, rfl⟩, wi_o (by omega), wi_o (by omega), wi_o (by omega), wi_o (by omega)]
    exact hR.1.2.2.2.clear
  · by_cases c2 : chainOK a1 a2 ∧ nf < 6
    · refine ⟨0, 0, true, _, _, x2 c1 c2, m2 c1 c2, J_fil (nf' := nf + 1) hR ?_ hS hD (fun q q1 q2 q3 => by unfold chX; rw [wi_o q1, wi_o q3, wi_o q2]) rfl (fun q q0 q1 q2 => by unfold chM; rw [wi_o q0, wi_o q2, wi_o q1]) (fun i hi => by unfold chM; rw [wi_g, if_neg (by omega), wi_o (by omega), wi_o (by omega)]) rfl⟩
      have e1 : (chX μ nf a1 a2).1 15 2 = nI nf + 1 := by unfold chX; rw [wi_g, if_pos ⟨rfl, rfl⟩]
      have e2 : (chX μ nf a1 a2).1 16 = upd (μ.1 16) nf a1 := by unfold chX; rw [wi_o (by omega), wi_o (by omega), wi_s]
      have e3 : (chX μ nf a1 a2).1 17 = upd (μ.1 17) nf a2 := by unfold chX; rw [wi_o (by omega), wi_s, wi_o (by omega)]
      have e4 : (chM ν nf a1 a2).1 0 17 = nI nf + 1 := by unfold chM; rw [wi_g, if_pos ⟨rfl, rfl⟩]
      have e5 : (chM ν nf a1 a2).1 12 = upd (ν.1 12) nf a1 := by unfold chM; rw [wi_o (by omega), wi_o (by omega), wi_s]
      have e6 : (chM ν nf a1 a2).1 13 = upd (ν.1 13) nf a2 := by unfold chM; rw [wi_o (by omega), wi_s, wi_o (by omega)]
      rw [e1, e2, e3, e4, e5, e6]
      exact hR.1.2.2.2.add c2.2 c2.1
    · exact ⟨0, 0, false, μ, ν, x3 c1 c2, m3 c1 c2, h⟩
theorem J_type {k : Nat} {μ : Mem} {δ : Dx} {ν : Mem} (h : JJ k μ δ ν) (a : Int64) : ∃ (n1 n2 : Nat) (r : Bool) (μ' : Mem) (ν' : Mem), f_X_type n1 μ a = some (r, μ') ∧ f_Mo_type n2 ν a = some (r, ν') ∧ JJ (k + 1) μ' δ ν' := by
  obtain ⟨s, c, ne, le, sf, nf, cd, kk, w, dp, sn, z, hR, hS, hD⟩ := id h
  obtain ⟨m, hm, rfl⟩ := wb_of a
  obtain ⟨x1, x2, x3⟩ := type_x (n := 20) hm hR.1.1.1 (by omega) μ hR.1.1.2.1
  obtain ⟨m1, m2, m3⟩ := type_m (n := 30) hm hR.1.1.1 (by omega) ν hR.1.1.2.2.1
  by_cases c0 : m = 0
  · refine ⟨_, _, true, _, _, x1 c0, m1 c0, ?_⟩
    refine J_set (μ := μ) (ν := ν) (s := 0) (c := c) (ne := ne) (le := le) (sf := sf) (nf := nf) ⟨?_, ?_, ?_, ?_⟩ hR.2.1 hR.2.2.1 (by rw [wi_g, if_pos ⟨rfl, rfl⟩]) hS hD (fun q hq => by rw [wi_o (by omega), wi_o (by omega)]) (fun q _ => rfl) (fun q hq => wi_o (by omega)) (fun i hi => by rw [wi_g, if_neg (by omega)]) rfl
    · rw [wi_o (show (1 : Nat) ≠ 0 by omega), wi_g, if_pos ⟨rfl, rfl⟩, wi_o (show (2 : Nat) ≠ 0 by omega), wi_o (show (2 : Nat) ≠ 1 by omega), wi_g, if_pos ⟨rfl, rfl⟩, wi_o (show (1 : Nat) ≠ 0 by omega)]
      exact hR.1.1.clear
    · have X : ∀ q, 2 ≤ q → (wi (wi μ 1 1 0) 0 10 0).1 q = μ.1 q := fun q hq => by rw [wi_o (by omega), wi_o (by omega)]
      rw [X 11 (by omega), X 12 (by omega), X 13 (by omega), X 14 (by omega), X 10 (by omega), wi_o (show (8 : Nat) ≠ 0 by omega), wi_o (show (9 : Nat) ≠ 0 by omega), wi_o (show (10 : Nat) ≠ 0 by omega), wi_o (show (11 : Nat) ≠ 0 by omega), wi_g, if_neg (by omega), wi_g, if_neg (by omega)]
      exact hR.1.2.1
    · exact hR.1.2.2.1.mvv (fun q q1 q2 => by rw [wi_o (by omega), wi_o (by omega)]) rfl (by rw [wi_g, if_neg (by omega)]) (fun q q1 q2 => wi_o (by omega))
    · have X : ∀ q, 2 ≤ q → (wi (wi μ 1 1 0) 0 10 0).1 q = μ.1 q := fun q hq => by rw [wi_o (by omega), wi_o (by omega)]
      rw [X 15 (by omega), X 16 (by omega), X 17 (by omega), wi_o (show (12 : Nat) ≠ 0 by omega), wi_o (show (13 : Nat) ≠ 0 by omega), wi_g, if_neg (by omega)]
      exact hR.1.2.2.2
  · by_cases c1 : typeOK m s
    · obtain ⟨μ1, y1, y2⟩ := x2 c0 c1
      obtain ⟨ν1, z1, z2⟩ := m2 c0 c1
      refine ⟨_, _, true, _, _, y1, z1, ?_⟩
      have X : ∀ q, 3 ≤ q → (wi μ1 0 10 0).1 q = μ.1 q := fun q hq => by
        rw [wi_o (by omega)]
        funext i
        exact y2.2.2.1 q i (by omega) (by omega)
      have M : ∀ q, 2 ≤ q → ν1.1 q = ν.1 q := fun q hq => by
        funext i
        exact z2.2.2.1 q i (by omega) (by omega)
      have M0 : ∀ i, i ≠ 1 → ν1.1 0 i = ν.1 0 i := fun i hi => z2.2.2.1 0 i (by omega) (by omega)
      refine J_set (μ := μ) (ν := ν) (s := s + szT m) (c := fun j => if j < s then c j else ch m (j - s)) (ne := ne) (le := le) (sf := sf) (nf := nf) ⟨?_, ?_, ?_, ?_⟩ hR.2.1 hR.2.2.1 (by rw [wi_g, if_pos ⟨rfl, rfl⟩]) hS hD (fun q hq => X q (by omega)) (fun q _ => by rw [wi_2, y2.2.2.2]) (fun q hq => M q (by omega)) (fun i hi => M0 i (by omega)) z2.2.2.2
      · rw [wi_o (show (1 : Nat) ≠ 0 by omega), wi_o (show (2 : Nat) ≠ 0 by omega)]
        exact hR.1.1.app c1.2 (fun i hi => szT_ne hi) y2 z2
      · rw [X 11 (by omega), X 12 (by omega), X 13 (by omega), X 14 (by omega), X 10 (by omega), M 8 (by omega), M 9 (by omega), M 10 (by omega), M 11 (by omega), M0 13 (by omega), M0 14 (by omega)]
        exact hR.1.2.1
      · exact hR.1.2.2.1.mvv (fun q q1 q2 => X q (by omega)) (by rw [wi_2, y2.2.2.2]) (M0 8 (by omega)) (fun q q1 q2 => M q (by omega))
      · rw [X 15 (by omega), X 16 (by omega), X 17 (by omega), M0 17 (by omega), M 12 (by omega), M 13 (by omega)]
        exact hR.1.2.2.2
    · exact ⟨_, _, false, μ, ν, x3 c0 c1, m3 c0 c1, h⟩
theorem J_word {k : Nat} {μ : Mem} {δ : Dx} {ν : Mem} (h : JJ k μ δ ν) (a1 a2 a3 a4 : Int32) : ∃ (n1 n2 : Nat) (r : Int32) (μ' : Mem) (ν' : Mem), f_X_word n1 μ a1 a2 a3 a4 = some (r, μ') ∧ f_Mo_word n2 ν a1 a2 a3 a4 = some (r, ν') ∧ JJ (k + 1) μ' δ ν' := by
  obtain ⟨s, c, ne, le, sf, nf, cd, kk, w, dp, sn, z, hR, hS, hD⟩ := id h
  obtain ⟨x1, x2⟩ := word_x (a1 := a1) (a2 := a2) (a3 := a3) (a4 := a4) (n := 60) hR.1.2.2.1 hR.1.1.1 hR.1.1.2.1 (fun j hj => ⟨hR.1.hc j hj, (hR.1.dx j hj).2⟩) (by omega)
  obtain ⟨m1, m2⟩ := word_m (a1 := a1) (a2 := a2) (a3 := a3) (a4 := a4) (n := 80) hR.1.2.2.1 hR.1.1.1 hR.1.1.2.2.1 (fun j hj => ⟨hR.1.hc j hj, (hR.1.dm j hj).2⟩) (by omega)
  by_cases ok : wordOK s ne (cnt (fun e => decide (tv (sf e) (le e) = tv c s)) ne) a1 a2 a3 a4
  · obtain ⟨ν1, y1, y2⟩ := m1 ok
    refine ⟨_, _, nI ne, _, _, x1 ok, y1, ?_⟩
    obtain ⟨w1, w2, w3, w4, w5, w6, w7, w8, w9⟩ := id y2
    have X : ∀ q, q ≠ 0 → q ≠ 3 → q ≠ 5 → q ≠ 6 → q ≠ 7 → q ≠ 8 → q ≠ 9 → (wordX μ ne s (tv c s) a1 a2 a3 a4).1 q = μ.1 q := fun q q0 q3 q5 q6 q7 q8 q9 => by
      unfold wordX
      rw [wi_o q3, wi_o q9, wi_o q8, wi_o q7, wi_o q6, wi_o q5, wl_1, wi_o q0]
    have M0 : ∀ i, i ≠ 8 → ν1.1 0 i = ν.1 0 i := fun i hi => by rw [w7, up_n hi]
    refine J_set (μ := μ) (ν := ν) (s := s) (c := c) (nf := nf) ⟨?_, ?_, hR.1.2.2.1.word ok hR.1.hc y2, ?_⟩ hR.2.1 hR.2.2.1 ?_ hS hD (fun q hq => X q (by omega) (by omega) (by omega) (by omega) (by omega) (by omega) (by omega)) (fun q hq => ?_) (fun q hq => w8 q (by omega) (by omega) (by omega) (by omega) (by omega) (by omega) (by omega)) (fun i hi => M0 i (by omega)) w9
    · rw [X 1 (by omega) (by omega) (by omega) (by omega) (by omega) (by omega) (by omega), X 2 (by omega) (by omega) (by omega) (by omega) (by omega) (by omega) (by omega), M0 1 (by omega), w8 1 (by omega) (by omega) (by omega) (by omega) (by omega) (by omega) (by omega)]
      exact hR.1.1
    · rw [X 11 (by omega) (by omega) (by omega) (by omega) (by omega) (by omega) (by omega), X 12 (by omega) (by omega) (by omega) (by omega) (by omega) (by omega) (by omega), X 13 (by omega) (by omega) (by omega) (by omega) (by omega) (by omega) (by omega), X 14 (by omega) (by omega) (by omega) (by omega) (by omega) (by omega) (by omega), X 10 (by omega) (by omega) (by omega) (by omega) (by omega) (by omega) (by omega), M0 13 (by omega), M0 14 (by omega), w8 8 (by omega) (by omega) (by omega) (by omega) (by omega) (by omega) (by omega), w8 9 (by omega) (by omega) (by omega) (by omega) (by omega) (by omega) (by omega), w8 10 (by omega) (by omega) (by omega) (by omega) (by omega) (by omega) (by omega), w8 11 (by omega) (by omega) (by omega) (by omega) (by omega) (by omega) (by omega)]
      exact hR.1.2.1
    · rw [X 15 (by omega) (by omega) (by omega) (by omega) (by omega) (by omega) (by omega), X 16 (by omega) (by omega) (by omega) (by omega) (by omega) (by omega) (by omega), X 17 (by omega) (by omega) (by omega) (by omega) (by omega) (by omega) (by omega), M0 17 (by omega), w8 12 (by omega) (by omega) (by omega) (by omega) (by omega) (by omega) (by omega), w8 13 (by omega) (by omega) (by omega) (by omega) (by omega) (by omega) (by omega)]
      exact hR.1.2.2.2
    · unfold wordX
      rw [wi_g, if_neg (by omega), wi_g, if_neg (by omega), wi_g, if_neg (by omega), wi_g, if_neg (by omega), wi_g, if_neg (by omega), wi_g, if_neg (by omega), wl_1, wi_g, if_pos ⟨rfl, rfl⟩]
    · unfold wordX
      simp only [wi_2]
      rw [wl_o hq, wi_2]
  · obtain ⟨μ1, y1, y2⟩ := x2 ok
    refine ⟨_, _, -1, μ1, ν, y1, m2 ok, ?_⟩
    rcases y2 with y2 | y2
    · rw [y2]; exact h
    · rw [y2]
      refine J_set (μ := μ) (ν := ν) (hR.1.gx (fun q q1 q2 => wi_o (by omega)) rfl) hR.2.1 hR.2.2.1 (by rw [wi_g, if_pos ⟨rfl, rfl⟩]) hS hD (fun q hq => wi_o (by omega)) (fun _ _ => rfl) (fun _ _ => rfl) (fun _ _ => rfl) rfl
