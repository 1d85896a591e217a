/-! PURE: add as a step of both sides -/
def DJ (δ : Dx) (ν : Mem) (c : Nat) : Prop := (∀ d, d < c → ∃ (q : Dox) (nt : Nat) (tt cc : Nat → Nat), δ d = some q ∧ DoX q nt tt cc ∧ nt ≤ 24 ∧ (∀ i, i < nt → tt i < 2 ^ 64 ∧ cc i < 2 ^ 64) ∧ PoM ν d (psL tt cc nt)) ∧ (∀ d, c ≤ d → δ d = none) ∧ (∀ d, c ≤ d → d < 40 → ν.1 35 d = 0)
theorem DJ.mv {δ : Dx} {ν ν' : Mem} {c : Nat} (h : DJ δ ν c) (h35 : ν'.1 35 = ν.1 35) (h34 : ν'.1 34 = ν.1 34) (h33 : ν'.2 33 = ν.2 33) : DJ δ ν' c := by
  unfold DJ PoM
  rw [h35, h34, h33]
  exact h
theorem ShP.mv {μ μ' ν ν' : Mem} {c k w dp sn : Nat} {z : Nat → Nat} (h : ShP μ ν c k w dp sn z) (x1 : μ'.1 41 = μ.1 41) (x2 : μ'.2 41 = μ.2 41) (x3 : μ'.2 43 = μ.2 43) (m0 : ν'.1 0 50 = ν.1 0 50) (m1 : ν'.1 0 51 = ν.1 0 51) (m2 : ∀ q, 36 ≤ q → q ≤ 39 → ν'.1 q = ν.1 q) : ShP μ' ν' c k w dp sn z := by
  unfold ShP
  rw [x1, x2, x3, m0, m1, m2 36 (by omega) (by omega), m2 37 (by omega) (by omega), m2 38 (by omega) (by omega), m2 39 (by omega) (by omega)]
  exact h
theorem AJ.gx {μ μ' ν : Mem} {s ne nf : Nat} {c le : Nat → Nat} {sf : Nat → Nat → Nat} (h : AJ μ ν s c ne le sf nf) (f : ∀ q, 1 ≤ q → q ≤ 17 → μ'.1 q = μ.1 q) (f4 : μ'.2 4 = μ.2 4) : AJ μ' ν s c ne le sf nf := by
  unfold AJ LxP
  rw [f 1 (by omega) (by omega), f 2 (by omega) (by omega), f 3 (by omega) (by omega), f 5 (by omega) (by omega), f 6 (by omega) (by omega), f 7 (by omega) (by omega), f 8 (by omega) (by omega), f 9 (by omega) (by omega), f 10 (by omega) (by omega), f 11 (by omega) (by omega), f 12 (by omega) (by omega), f 13 (by omega) (by omega), f 14 (by omega) (by omega), f 15 (by omega) (by omega), f 16 (by omega) (by omega), f 17 (by omega) (by omega), f4]
  exact h
theorem AJ.gm {μ ν ν' : Mem} {s ne nf : Nat} {c le : Nat → Nat} {sf : Nat → Nat → Nat} (h : AJ μ ν s c ne le sf nf) (f : ∀ q, 1 ≤ q → q ≤ 13 → ν'.1 q = ν.1 q) (f0 : ∀ i, i ≤ 17 → ν'.1 0 i = ν.1 0 i) : AJ μ ν' s c ne le sf nf := by
  unfold AJ LxP
  rw [f0 1 (by omega), f0 8 (by omega), f0 13 (by omega), f0 14 (by omega), f0 17 (by omega), f 1 (by omega) (by omega), f 2 (by omega) (by omega), f 3 (by omega) (by omega), f 4 (by omega) (by omega), f 5 (by omega) (by omega), f 6 (by omega) (by omega), f 7 (by omega) (by omega), f 8 (by omega) (by omega), f 9 (by omega) (by omega), f 10 (by omega) (by omega), f 11 (by omega) (by omega), f 12 (by omega) (by omega), f 13 (by omega) (by omega)]
  exact h
theorem AnX.gx {μ μ' : Mem} {s ne : Nat} {c le : Nat → Nat} {sf : Nat → Nat → Nat} (h : AnX μ s c ne le sf) (f : ∀ q, 1 ≤ q → q ≤ 40 → μ'.1 q = μ.1 q) (f25 : μ'.2 25 = μ.2 25) : AnX μ' s c ne le sf := by
  obtain ⟨x1, x2, x3, x4⟩ := AX_cong (μ := μ) (μ' := μ') (fun q h1 h2 => f q (by omega) (by omega)) s c ne le sf
  have xP : ∀ chd, PX μ' s c ne le sf chd = PX μ s c ne le sf chd := fun chd => by unfold PX; rw [x2]
  have xT : TX μ' s c ne le sf = TX μ s c ne le sf := by unfold TX; rw [x2, x3, x4, xP]
  unfold AnX
  rw [x1, x2, x2, x4, xP, xT]
  refine ⟨?_, ?_, ?_, ?_⟩
  · unfold ArrX ptX ctX
    rw [f 18 (by omega) (by omega), f 19 (by omega) (by omega), f 20 (by omega) (by omega), f 21 (by omega) (by omega), f 22 (by omega) (by omega), f 24 (by omega) (by omega), f 12 (by omega) (by omega), f 6 (by omega) (by omega), f 13 (by omega) (by omega), f 7 (by omega) (by omega)]
    exact h.1
  · unfold RtE_B
    rw [f 25 (by omega) (by omega), f 29 (by omega) (by omega), f25]
    exact h.2.1
  · unfold TkY
    rw [f 35 (by omega) (by omega), f 36 (by omega) (by omega), f 37 (by omega) (by omega), f 38 (by omega) (by omega), f 39 (by omega) (by omega)]
    exact h.2.2.1
  · unfold CpX
    rw [f 40 (by omega) (by omega)]
    exact h.2.2.2
theorem RJ.gx {μ μ' ν : Mem} {s ne nf : Nat} {c le : Nat → Nat} {sf : Nat → Nat → Nat} (h : RJ μ ν s c ne le sf nf) (f : ∀ q, q ≤ 40 → μ'.1 q = μ.1 q) (f4 : μ'.2 4 = μ.2 4) (f25 : μ'.2 25 = μ.2 25) : RJ μ' ν s c ne le sf nf := by
  refine ⟨h.1.gx (fun q _ h2 => f q (by omega)) f4, by rw [f 25 (by omega)]; exact h.2.1, by rw [f 30 (by omega)]; exact h.2.2.1, fun hc => ?_⟩
  rw [f 0 (by omega)] at hc
  exact (h.2.2.2 hc).gx (fun q _ h2 => f q h2) f25
theorem RJ.aj {μ ν ν' : Mem} {s ne nf : Nat} {c le : Nat → Nat} {sf : Nat → Nat → Nat} (h : RJ μ ν s c ne le sf nf) (h2 : AJ μ ν' s c ne le sf nf) : RJ μ ν' s c ne le sf nf := ⟨h2, h.2⟩
theorem room_x {μ ν : Mem} {c k w dp sn n : Nat} {z : Nat → Nat} (h : ShP μ ν c k w dp sn z) : f_Shelf_hasRoom n μ = some (decide (c < 40 ∧ cnt w.testBit c < 4)) := by
  have hc := h.1.1
  have hw := h.1.2.2.1
  have w64 := lt64 hw hc
  unfold f_Shelf_hasRoom
  rw [h.2.1.1, h.2.1.2.2.1]
  by_cases c1 : 40 ≤ c
  · rw [if_pos (by rw [show (40 : Int32) = nI 40 from rfl]; exact nI_le c1 (by omega)), decide_eq_false (by omega)]
  · have cl4 := cnt_le w.testBit c
    have ec : pc 64 w = cnt w.testBit c := by rw [pc_cnt]; exact cnt_up (fun d hd => tb_hi hw hd) 64 (by omega)
    rw [if_neg (by rw [show (40 : Int32) = nI 40 from rfl]; exact nI_ge (by omega) (by omega)), bitCount_v w64, cl_s, ec]
    by_cases c2 : 4 ≤ cnt w.testBit c
    · rw [if_pos (by rw [show (4 : Int32) = nI 4 from rfl]; exact nI_le c2 (by omega)), decide_eq_false (by omega)]
    · rw [if_neg (by rw [show (4 : Int32) = nI 4 from rfl]; exact nI_ge (by omega) (by omega)), decide_eq_true (by omega)]
theorem wait_m {ν : Mem} {c w : Nat} (hc : c ≤ 40) (h50 : ν.1 0 50 = nI c) (h36 : ∀ d, d < 40 → ν.1 36 d = bz (w.testBit d)) : ∀ j d n, d + j = c → j < n → ∃ n', n ≤ n' + j ∧ f_Mo_add_4 n ν (nI (cnt w.testBit d)) (nI d) = f_Mo_add_4 n' ν (nI (cnt w.testBit c)) (nI c) := by
  intro j
  induction j with
  | zero =>
    intro d n hd hn
    have e : d = c := by omega
    rw [e]
    exact ⟨n, by omega, rfl⟩
  | succ j ih =>
    intro d n hd hn
    obtain ⟨n, rfl⟩ : ∃ n', n = n' + 1 := ⟨n - 1, by omega⟩
    obtain ⟨n', a1, a2⟩ := ih (d + 1) n (by omega) (by omega)
    refine ⟨n', by omega, ?_⟩
    rw [← a2]
    have e0 : cnt w.testBit (d + 1) = cnt w.testBit d + (if w.testBit d = true then 1 else 0) := rfl
    show (if (ν.1 0 50) ≤ nI d then _ else (gd (inb (nI d) 40) ((if (ν.1 36 (nI d).toNatClampNeg) = 0 then (f_Mo_add_27 (f_Mo_add_4 n) n ν (nI d) (nI (cnt w.testBit d)) false) else (f_Mo_add_27 (f_Mo_add_4 n) n ν (nI d) (nI (cnt w.testBit d)) true))))) = _
    rw [h50, if_neg (nI_ge (by omega) (by omega)), gd_i (by rw [nI_toInt (by omega)]; omega), nI_clamp (by omega), h36 d (by omega), e0]
    unfold f_Mo_add_27
    cases w.testBit d with
    | true =>
      rw [if_neg (by decide), bd_e, bd_e, nI_1, if_pos rfl, show bz true = 1 from rfl, nI_1]
    | false =>
      rw [if_pos (by decide), bd_e, bd_e, nI_1, if_neg (by decide), show nI (cnt w.testBit d) + bz false = nI (cnt w.testBit d + 0) from by rw [show bz false = nI 0 from rfl, nI_add]]
theorem ShP.add {μ μ' ν ν' : Mem} {c k w dp sn : Nat} {z : Nat → Nat} (h : ShP μ ν c k w dp sn z) (hc : c < 40) (x0 : μ'.1 41 1 = nI (c + 1)) (x6 : μ'.1 41 6 = μ.1 41 6) (x2 : μ'.2 41 2 = lN (w ||| 2 ^ c)) (x3 : μ'.2 41 3 = μ.2 41 3) (x4 : μ'.2 41 4 = μ.2 41 4) (x43 : μ'.2 43 = μ.2 43) (m50 : ν'.1 0 50 = nI (c + 1)) (m51 : ν'.1 0 51 = ν.1 0 51) (m36 : ∀ d, ν'.1 36 d = if d = c then 1 else ν.1 36 d) (m38 : ∀ d, ν'.1 38 d = if d = c then -1 else ν.1 38 d) (m37 : ν'.1 37 = ν.1 37) (m39 : ν'.1 39 = ν.1 39) : ShP μ' ν' (c + 1) k (w ||| 2 ^ c) dp sn z := by
  obtain ⟨⟨a1, a2, a3, a4, a5, a6⟩, ⟨b1, b2, b3, b4, b5, b6⟩, ⟨c1, c2, c3⟩, d1, d2⟩ := h
  have p2 : 2 ^ c < 2 ^ (c + 1) := wb_lt2 (by omega)
  refine ⟨⟨by omega, a2, Nat.or_lt_two_pow (by omega) p2, by omega, by omega, fun i hi => by have := a6 i hi; omega⟩, ⟨x0, x6.trans b2, x2, x3.trans b4, x4.trans b5, fun i hi => by rw [x43]; exact b6 i hi⟩, ⟨m50, m51.trans c2, fun d hd => ?_⟩, fun d hd => ?_, fun d hd => ?_⟩
  · obtain ⟨e1, e2, e3⟩ := c3 d hd
    rw [m36, m37, m39, tb_or]
    refine ⟨?_, e2, e3⟩
    by_cases q : d = c
    · subst q
      rw [if_pos rfl, decide_eq_true rfl, Bool.or_true]; rfl
    · rw [if_neg q, e1, decide_eq_false (fun h => q h.symm), Bool.or_false]
  · rw [m38]
    by_cases q : d = c
    · subst q
      rw [if_pos rfl]
      refine ⟨fun i hi => ⟨fun hh => ?_, fun hh => ?_⟩, fun _ => rfl⟩
      · rw [tb_hi (a6 i hi) (Nat.le_refl _)] at hh; cases hh
      · exact absurd hh.symm (nI_nem1 (by omega))
    · rw [if_neg q]
      exact d1 d (by omega)
  · rw [tb_or] at hd
    by_cases q : c = d
    · subst q
      exact ⟨tb_hi a4 (Nat.le_refl _), fun i hi => tb_hi (a6 i hi) (Nat.le_refl _)⟩
    · rw [decide_eq_false q, Bool.or_false] at hd
      exact d2 d hd
theorem st_add {μ ν : Mem} {δ : Dx} {s ne nf cd k w dp sn : Nat} {c le : Nat → Nat} {sf : Nat → Nat → Nat} {z : Nat → Nat} (h : RJ μ ν s c ne le sf nf) (hS : ShP μ ν cd k w dp sn z) (hD : DJ δ ν cd) : ∃ (r : Int32) (μ' : Mem) (δ' : Dx) (ν' : Mem), f_X_add 4000 δ μ = some (r, μ', δ') ∧ f_Mo_add 5000 ν = some (r, ν') ∧ RJ μ' ν' s c ne le sf nf ∧ ∃ cd' w', ShP μ' ν' cd' k w' dp sn z ∧ DJ δ' ν' cd' := by
  have hs := h.1.1.1
  have hcd := hS.1.1
  have hx0 : μ.1 1 1 = 0 ↔ s = 0 := by rw [h.1.1.2.1]; exact nI_z (by omega)
  have hm0 : ν.1 0 1 = 0 ↔ s = 0 := by rw [h.1.1.2.2.1]; exact nI_z (by omega)
  obtain ⟨n1, a1, a2⟩ := wait_m (w := w) hcd hS.2.2.1.1 (fun d hd => (hS.2.2.1.2.2 d hd).1) cd 0 5000 (by omega) (by omega)
  obtain ⟨n1, rfl⟩ : ∃ k, n1 = k + 1 := ⟨n1 - 1, by omega⟩
  have hcl := cnt_le w.testBit cd
  have am : f_Mo_add 5000 ν = (if (ν.1 0 1) = 0 then (some ((-1 : Int32), ν)) else (if (40 : Int32) ≤ (ν.1 0 50) then (some ((-1 : Int32), ν)) else (if nI (cnt w.testBit cd) < (4 : Int32) then (cl (f_Mo_cut n1 ν) (fun μ2 => f_Mo_add_64 n1 μ2 (0 : Int32))) else (some ((-1 : Int32), ν))))) := by
    unfold f_Mo_add
    have : f_Mo_add_4 5000 ν (nI (cnt w.testBit 0)) (nI 0) = f_Mo_add_4 5000 ν 0 0 := rfl
    rw [← this, a2]
    show (if (ν.1 0 50) ≤ nI cd then _ else _) = _
    rw [hS.2.2.1.1, if_pos (nI_le (Nat.le_refl _) (by omega))]
  rw [am]
  unfold f_X_add
  by_cases c0 : s = 0
  · rw [if_pos (hx0.mpr c0), if_pos (hm0.mpr c0)]
    exact ⟨_, μ, δ, ν, rfl, rfl, h, cd, w, hS, hD⟩
  · rw [if_neg (fun q => c0 (hx0.mp q)), if_neg (fun q => c0 (hm0.mp q)), room_x hS, cl_s, hS.2.2.1.1]
    by_cases c1 : cd < 40 ∧ cnt w.testBit cd < 4
    · rw [decide_eq_true c1, if_neg (by decide), if_neg (by rw [show (40 : Int32) = nI 40 from rfl]; exact nI_ge (by omega) (by omega)), if_pos (by rw [show (4 : Int32) = nI 4 from rfl]; exact nI_lt (by omega) (by omega))]
      obtain ⟨μ1, b1, b2, b3, b4⟩ := h.an (n := 4000) (by omega)
      obtain ⟨ν1, d1, d2, d3⟩ := cut_m (n := n1) b4.1 (by omega)
      have h1 := b4.1.mvm d3
      have tl := cgT_len _ _ b4.1.tx
      have S1 : ShP μ1 ν1 cd k w dp sn z := hS.mv (b3.1 41 (by omega) (by omega)) (b3.2.2.1 41 (by omega)) (b3.2.2.1 43 (by omega)) (d3.2.1 50 (by omega)) (d3.2.1 51 (by omega)) (fun q h1 h2 => d3.1 q (by omega) (by omega))
      have D1 : DJ δ ν1 cd := hD.mv (d3.1 35 (by omega) (by omega)) (d3.1 34 (by omega) (by omega)) (d3.2.2 33 (by omega))
      rw [b1, cl_s, d1, cl_s, b2.2.2.1.1, gd_i (by rw [nI_toInt (by omega)]; omega), nI_clamp (by omega)]
      have tta : ∀ i, i < (TX μ1 s c ne le sf).length → ttA μ1 s c ne le sf nf i < 2 ^ 64 ∧ ccA μ1 s c ne le sf nf i < 2 ^ 64 ∧ (∀ n, 60 < n → f_X_tokenTerm n μ1 (nI i) = some (lN (ttA μ1 s c ne le sf nf i)) ∧ f_X_compoundTerm n μ1 (nI i) = some (lN (ccA μ1 s c ne le sf nf i))) ∧ (ccA μ1 s c ne le sf nf i ≠ 0 → ∃ k, k ∈ PX μ1 s c ne le sf false ∧ CmK (TX μ1 s c ne le sf) (GX μ1 s c ne le sf false) (ctL μ1 s c ne le sf) i k) := by
        intro i hi
        have eI : (TX μ1 s c ne le sf)[i]? = some (TX μ1 s c ne le sf)[i] := List.getElem?_eq_getElem hi
        have tti : ttA μ1 s c ne le sf nf i = tmK μ1 c le sf nf (TX μ1 s c ne le sf)[i] := by unfold ttA; rw [if_pos hi, getD_some eI]
        have cci : ccA μ1 s c ne le sf nf i = cmV μ1 s c ne le sf nf i := by unfold ccA; rw [if_pos hi]
        obtain ⟨z1, z2, z3, z4, z5⟩ := b4.1.tm eI
        rw [tti, cci]
        refine ⟨b4.1.tl z1 z2 z3 z4, (ctm_b (n := 100) (n2 := 100) b4.1 h1 b2 d2 hi (by omega) (by omega)).2.1, fun n hn => ⟨ttm_x b4.1 b2 eI (by omega), (ctm_b (n := n) (n2 := 100) b4.1 h1 b2 d2 hi hn (by omega)).1⟩, (ctm_b (n := 100) (n2 := 100) b4.1 h1 b2 d2 hi (by omega) (by omega)).2.2.2⟩
      have two : ∀ i, ccA μ1 s c ne le sf nf i ≠ 0 → ccA μ1 s c ne le sf nf (i + 1) = 0 := by
        intro i hi
        have il : i < (TX μ1 s c ne le sf).length := by
          by_cases q : i < (TX μ1 s c ne le sf).length
          · exact q
          · exact absurd (show ccA μ1 s c ne le sf nf i = 0 by unfold ccA; rw [if_neg q]) hi
        by_cases q : i + 1 < (TX μ1 s c ne le sf).length
        · by_cases q2 : ccA μ1 s c ne le sf nf (i + 1) = 0
          · exact q2
          · obtain ⟨k1, k2, k3⟩ := (tta i il).2.2.2 hi
            obtain ⟨k4, k5, k6⟩ := (tta (i + 1) q).2.2.2 q2
            exact (CmK_two (b4.1.lt false) b4.1.tx (b4.1.path false).2 k2 k5 k3 k6).elim
        · unfold ccA; rw [if_neg q]
      have hlen : ∀ i, i ≤ (TX μ1 s c ne le sf).length → (psL (ttA μ1 s c ne le sf nf) (ccA μ1 s c ne le sf nf) i).length ≤ 36 := fun i hi => by
        have := (psL_l (tt := ttA μ1 s c ne le sf nf) two i).1
        omega
      obtain ⟨dm, e1, e2, e3⟩ := addL_x (μ := μ1) (nt := (TX μ1 s c ne le sf).length) (by omega) (fun i hi => (tta i hi).2.2.1) (fun i hi => ⟨(tta i hi).1, (tta i hi).2.1⟩) (TX μ1 s c ne le sf).length 0 4000 z0 (by omega) (by omega) (fun q hq => by omega) (fun q _ => rfl) rfl
      rw [nI_0] at e1
      rw [e1, cl_s, room_x S1, cl_s, decide_eq_true c1, gd_t, S1.2.1.1, gd_i (by rw [nI_toInt (by omega)]; omega), nI_clamp (by omega)]
      have p0 : PoM ν1 cd (psL (ttA μ1 s c ne le sf nf) (ccA μ1 s c ne le sf nf) 0) := by
        refine ⟨?_, by show 0 ≤ 36; omega, fun j x hx => by cases hx⟩
        rw [D1.2.2 cd (Nat.le_refl _) c1.1]
        rfl
      obtain ⟨n2, ν2, g0, g1, g2, g3⟩ := add64_m (nf := nf) (d := cd) b2 c1.1 hlen (TX μ1 s c ne le sf).length 0 n1 ν1 (by omega) (by omega) h1 d2 S1.2.2.1.1 p0
      obtain ⟨n2, rfl⟩ : ∃ k, n2 = k + 1 := ⟨n2 - 1, by omega⟩
      rw [nI_0] at g1
      have m50 : ν2.1 0 50 = nI cd := by rw [g3.2.1 50 (by omega)]; exact S1.2.2.1.1
      have m37 : ν2.1 0 37 = nI (TX μ1 s c ne le sf).length := by rw [g3.2.1 37 (by omega)]; exact d2.1.1
      have fin : f_Mo_add_64 (n2 + 1) ν2 (nI (TX μ1 s c ne le sf).length) = some (nI cd, wi (wi (wi ν2 36 cd 1) 38 cd (-1)) 0 50 (nI (cd + 1))) := by
        unfold f_Mo_add_64
        rw [m37, if_pos (nI_le (Nat.le_refl _) (by omega)), m50, gd_i (by rw [nI_toInt (by omega)]; omega), nI_clamp (by omega), bd_e, show (wi ν2 36 cd 1).1 0 50 = nI cd by rw [wi_o (by omega)]; exact m50, gd_i (by rw [nI_toInt (by omega)]; omega), nI_clamp (by omega), bd_e, show (wi (wi ν2 36 cd 1) 38 cd (-1)).1 0 50 = nI cd by rw [wi_o (by omega), wi_o (by omega)]; exact m50, bd_e, wi_g, if_pos ⟨rfl, rfl⟩, nI_1, nI_pred]
      rw [g1, fin]
      have GA : ∀ q, q ≤ 40 → (putX μ1).1 q = μ1.1 q := fun q hq => by unfold putX; rw [wi_o (by omega), wl_1]
      have g3a : AJ μ1 ν2 s c ne le sf nf := g3.aj h1
      have FA : AJ μ1 (wi (wi (wi ν2 36 cd 1) 38 cd (-1)) 0 50 (nI (cd + 1))) s c ne le sf nf := by
        refine g3a.gm (fun q q1 q2 => ?_) (fun i hi => ?_)
        · rw [wi_o (by omega), wi_o (by omega), wi_o (by omega)]
        · rw [wi_g, if_neg (by omega), wi_o (by omega), wi_o (by omega)]
      have S2 : ShP μ1 ν2 cd k w dp sn z := S1.mv rfl rfl rfl (g3.2.1 50 (by omega)) (g3.2.1 51 (by omega)) (fun q q1 q2 => g3.1 q (by omega) (by omega) (by omega) (by omega))
      have S3 : ShP (putX μ1) (wi (wi (wi ν2 36 cd 1) 38 cd (-1)) 0 50 (nI (cd + 1))) (cd + 1) k (w ||| 2 ^ cd) dp sn z := by
        refine S2.add c1.1 ?_ ?_ ?_ ?_ ?_ ?_ ?_ ?_ ?_ ?_ ?_ ?_
        · unfold putX; rw [wi_g, if_pos ⟨rfl, rfl⟩, S2.2.1.1, nI_1]
        · unfold putX; rw [wi_g, if_neg (by omega), wl_1]
        · unfold putX; rw [wi_2, wl_g, if_pos ⟨rfl, rfl⟩, S2.2.1.1, S2.2.1.2.2.1, or_b (lt64 S2.1.2.2.1 hcd) (by omega)]
        · unfold putX; rw [wi_2, wl_g, if_neg (by omega)]
        · unfold putX; rw [wi_2, wl_g, if_neg (by omega)]
        · unfold putX; rw [wi_2, wl_o (by omega)]
        · rw [wi_g, if_pos ⟨rfl, rfl⟩]
        · rw [wi_g, if_neg (by omega), wi_o (by omega), wi_o (by omega)]
        · intro d
          rw [wi_o (by omega), wi_o (by omega), wi_g]
          by_cases q : d = cd
          · rw [if_pos ⟨rfl, q⟩, if_pos q]
          · rw [if_neg (by omega), if_neg q]
        · intro d
          rw [wi_o (by omega), wi_g, wi_o (by omega)]
          by_cases q : d = cd
          · rw [if_pos ⟨rfl, q⟩, if_pos q]
          · rw [if_neg (by omega), if_neg q]
        · rw [wi_o (by omega), wi_o (by omega), wi_o (by omega)]
        · rw [wi_o (by omega), wi_o (by omega), wi_o (by omega)]
      have K35 : (wi (wi (wi ν2 36 cd 1) 38 cd (-1)) 0 50 (nI (cd + 1))).1 35 = ν2.1 35 := by rw [wi_o (by omega), wi_o (by omega), wi_o (by omega)]
      have K34 : (wi (wi (wi ν2 36 cd 1) 38 cd (-1)) 0 50 (nI (cd + 1))).1 34 = ν2.1 34 := by rw [wi_o (by omega), wi_o (by omega), wi_o (by omega)]
      refine ⟨nI cd, putX μ1, _, _, rfl, rfl, (b4.gx GA (by unfold putX; rw [wi_2, wl_o (by omega)]) (by unfold putX; rw [wi_2, wl_o (by omega)])).aj (FA.gx (fun q q1 q2 => GA q (by omega)) (by unfold putX; rw [wi_2, wl_o (by omega)])), cd + 1, w ||| 2 ^ cd, S3, DJ.mv ?_ K35 K34 rfl⟩
      refine ⟨fun d hd => ?_, fun d hd => ?_, fun d hd hd4 => ?_⟩
      · by_cases q : d = cd
        · subst q
          refine ⟨_, (TX μ1 s c ne le sf).length, ttA μ1 s c ne le sf nf, ccA μ1 s c ne le sf nf, if_pos rfl, ⟨rfl, e2, e3⟩, by omega, fun i hi => ⟨(tta i hi).1, (tta i hi).2.1⟩, g2⟩
        · obtain ⟨x, nt, tt, cc, y1, y2, y3, y4, y5⟩ := D1.1 d (by omega)
          refine ⟨x, nt, tt, cc, (if_neg q).trans y1, y2, y3, y4, ?_⟩
          refine ⟨by rw [g3.2.2.2.1 d q]; exact y5.1, y5.2.1, fun j v hv => ?_⟩
          have hj : j < (psL tt cc nt).length := (List.getElem?_eq_some_iff.mp hv).1
          have hl := y5.2.1
          obtain ⟨w1, w2⟩ := g3.2.2.2.2 (36 * d + j) (by omega)
          rw [w1, w2]
          exact y5.2.2 j v hv
      · show (if d = cd then _ else δ d) = none
        rw [if_neg (by omega)]
        exact D1.2.1 d (by omega)
      · rw [g3.2.2.2.1 d (by omega)]
        exact D1.2.2 d (by omega) hd4
    · rw [decide_eq_false c1, if_pos (by decide)]
      refine ⟨-1, μ, δ, ν, rfl, ?_, h, cd, w, hS, hD⟩
      by_cases c2 : 40 ≤ cd
      · rw [if_pos (by rw [show (40 : Int32) = nI 40 from rfl]; exact nI_le c2 (by omega))]
      · rw [if_neg (by rw [show (40 : Int32) = nI 40 from rfl]; exact nI_ge (by omega) (by omega)), if_neg (by rw [show (4 : Int32) = nI 4 from rfl]; exact nI_nlt (by omega) (by omega))]
