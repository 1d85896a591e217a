/-! PURE: match and places as steps of both sides -/
theorem ttA_v {μ ν : Mem} {s ne nf i : Nat} {c le : Nat → Nat} {sf : Nat → Nat → Nat} (h : AJ μ ν s c ne le sf nf) (hi : i < (TX μ s c ne le sf).length) : ∃ t, (TX μ s c ne le sf)[i]? = some t ∧ ttA μ s c ne le sf nf i = tmK μ c le sf nf t ∧ ttA μ s c ne le sf nf i < 2 ^ 64 := by
  have eI : (TX μ s c ne le sf)[i]? = some (TX μ s c ne le sf)[i] := List.getElem?_eq_getElem hi
  have tti : ttA μ s c ne le sf nf i = tmK μ c le sf nf (TX μ s c ne le sf)[i] := by unfold ttA; rw [if_pos hi, getD_some eI]
  obtain ⟨z1, z2, z3, z4, z5⟩ := h.tm eI
  exact ⟨_, eI, tti, by rw [tti]; exact h.tl z1 z2 z3 z4⟩
theorem query_x {μ ν : Mem} {s ne nf : Nat} {c le : Nat → Nat} {sf : Nat → Nat → Nat} (h : RJ μ ν s c ne le sf nf) (a : AnX μ s c ne le sf) : ∀ j i n (μ1 : Mem), i + j = (TX μ s c ne le sf).length → j + 60 < n → μ1.1 = μ.1 → (∀ q, q ≠ 44 → μ1.2 q = μ.2 q) → (∀ q, q < i → μ1.2 44 q = lN (ttA μ s c ne le sf nf q)) → ∃ μ', f_X_readQuery_2 n μ1 (nI i) = some (nI (TX μ s c ne le sf).length, μ') ∧ μ'.1 = μ.1 ∧ (∀ q, q ≠ 44 → μ'.2 q = μ.2 q) ∧ (∀ q, q < (TX μ s c ne le sf).length → μ'.2 44 q = lN (ttA μ s c ne le sf nf q)) := by
  have tl := cgT_len _ _ h.1.tx
  have hs := h.1.1.1
  intro j
  induction j with
  | zero =>
    intro i n μ1 hi hn k1 k2 k3
    obtain ⟨n, rfl⟩ : ∃ n', n = n' + 1 := ⟨n - 1, by omega⟩
    refine ⟨μ1, ?_, k1, k2, fun q hq => k3 q (by omega)⟩
    unfold f_X_readQuery_2 f_TokenRow_count
    rw [cl_s, cl_s, k1, a.2.2.1.1, if_pos (nI_le (by omega) (by omega))]
  | succ j ih =>
    intro i n μ1 hi hn k1 k2 k3
    obtain ⟨n, rfl⟩ : ∃ n', n = n' + 1 := ⟨n - 1, by omega⟩
    obtain ⟨t, t1, t2, t3⟩ := ttA_v h.1 (show i < (TX μ s c ne le sf).length by omega)
    obtain ⟨x1, x2, x3, x4⟩ := AX_cong (μ := μ) (μ' := μ1) (fun q _ _ => by rw [k1]) s c ne le sf
    have xP : ∀ chd, PX μ1 s c ne le sf chd = PX μ s c ne le sf chd := fun chd => by unfold PX; rw [x2]
    have xT : TX μ1 s c ne le sf = TX μ s c ne le sf := by unfold TX; rw [x2, x3, x4, xP]
    have aj1 : AJ μ1 ν s c ne le sf nf := h.1.gx (fun q _ _ => by rw [k1]) (k2 4 (by omega))
    have an1 : AnX μ1 s c ne le sf := a.gx (fun q _ _ => by rw [k1]) (k2 25 (by omega))
    have tt1 : tmK μ1 c le sf nf t = tmK μ c le sf nf t := by unfold tmK tmV bsE; rw [k1]
    have tm := ttm_x (n := n) aj1 an1 (by rw [xT]; exact t1) (by omega)
    rw [tt1, ← t2] at tm
    obtain ⟨μ', y1, y2, y3, y4⟩ := ih (i + 1) n (wl μ1 44 i (lN (ttA μ s c ne le sf nf i))) (by omega) (by omega) (by rw [wl_1]; exact k1) (fun q hq => (wl_o hq).trans (k2 q hq)) (by
      intro q hq
      rw [wl_g]
      by_cases e : q = i
      · rw [if_pos ⟨rfl, e⟩, e]
      · rw [if_neg (by omega)]; exact k3 q (by omega))
    refine ⟨μ', ?_, y2, y3, y4⟩
    rw [← y1]
    show cl (f_TokenRow_count n μ1) (fun v1 => (if v1 ≤ nI i then _ else (cl (f_X_tokenTerm n μ1 (nI i)) (fun v3 => gd (inb (nI i) 24) (bd (wl μ1 44 (nI i).toNatClampNeg v3) (fun μ4 => bd (nI i + 1) (fun v5 => (f_X_readQuery_2 n) μ4 v5))))))) = _
    unfold f_TokenRow_count
    rw [cl_s, k1, a.2.2.1.1, if_neg (nI_ge (by omega) (by omega)), tm, cl_s, gd_i (by rw [nI_toInt (by omega)]; omega), nI_clamp (by omega), bd_e, bd_e, nI_1]
/-- what asking may change of the reference -/
def AkF (ν ν' : Mem) : Prop := (∀ q, q ≠ 0 → q < 14 ∨ 32 < q → ν'.1 q = ν.1 q) ∧ (∀ i, i < 23 ∨ 43 ≤ i → ν'.1 0 i = ν.1 0 i) ∧ (∀ q, q ≠ 20 → q ≠ 31 → ν'.2 q = ν.2 q)
theorem AmF.ak {ν ν' : Mem} (h : AmF ν ν') : AkF ν ν' := ⟨fun q a b => h.1 q a (by omega), fun i a => h.2.1 i (by omega), fun q a _ => h.2.2 q a⟩
theorem AkF.tr {ν ν1 ν2 : Mem} (h1 : AkF ν ν1) (h2 : AkF ν1 ν2) : AkF ν ν2 := ⟨fun q h0 hq => (h2.1 q h0 hq).trans (h1.1 q h0 hq), fun i hi => (h2.2.1 i hi).trans (h1.2.1 i hi), fun q a b => (h2.2.2 q a b).trans (h1.2.2 q a b)⟩
theorem AkF.aj {μ ν ν' : Mem} {s ne nf : Nat} {c le : Nat → Nat} {sf : Nat → Nat → Nat} (f : AkF ν ν') (h : AJ μ ν s c ne le sf nf) : AJ μ ν' s c ne le sf nf := h.gm (fun q a b => f.1 q (by omega) (by omega)) (fun i hi => f.2.1 i (by omega))
theorem ask_m {μ : Mem} {s ne nf : Nat} {c le : Nat → Nat} {sf : Nat → Nat → Nat} : ∀ j i n (ν : Mem), i + j = (TX μ s c ne le sf).length → j + 120 < n → AJ μ ν s c ne le sf nf → TkR ν (TX μ s c ne le sf) → AkM ν (akL (ttA μ s c ne le sf nf) i) → ∃ ν', f_Mo_ask_11 n ν (nI i) = some ν' ∧ AkM ν' (akL (ttA μ s c ne le sf nf) (TX μ s c ne le sf).length) ∧ AkF ν ν' := by
  intro j
  induction j with
  | zero =>
    intro i n ν hi hn h hT hA
    obtain ⟨n, rfl⟩ : ∃ n', n = n' + 1 := ⟨n - 1, by omega⟩
    have tl := cgT_len _ _ h.tx
    have hs := h.1.1
    have e : i = (TX μ s c ne le sf).length := by omega
    rw [e] at hA ⊢
    refine ⟨ν, ?_, hA, (AmF.rf ν).ak⟩
    unfold f_Mo_ask_11
    rw [hT.1, if_pos (nI_le (Nat.le_refl _) (by omega))]
  | succ j ih =>
    intro i n ν hi hn h hT hA
    obtain ⟨n, rfl⟩ : ∃ n', n = n' + 1 := ⟨n - 1, by omega⟩
    have tl := cgT_len _ _ h.tx
    have hs := h.1.1
    obtain ⟨t, t1, t2, t3⟩ := ttA_v h (show i < (TX μ s c ne le sf).length by omega)
    obtain ⟨ν1, a1, a2⟩ := tof_m (n := n) h hT t1 (by omega)
    rw [← t2] at a1
    have F1 := a2.am
    have hT1 : TkR ν1 (TX μ s c ne le sf) := by
      unfold TkR
      rw [a2.2.1 37 (by omega), a2.1 26 (by omega) (by omega), a2.1 27 (by omega) (by omega), a2.1 28 (by omega) (by omega), a2.1 29 (by omega) (by omega)]
      exact hT
    have hA1 : AkM ν1 (akL (ttA μ s c ne le sf nf) i) := by
      unfold AkM
      rw [a2.2.1 42 (by omega), a2.1 32 (by omega) (by omega), a2.2.2]
      exact hA
    have al := akL_l (tq := ttA μ s c ne le sf nf) i
    have e0 : akL (ttA μ s c ne le sf nf) (i + 1) = akL (ttA μ s c ne le sf nf) i ++ pA (ttA μ s c ne le sf nf) i := rfl
    have st : f_Mo_ask_11 (n + 1) ν (nI i) = (if (lg_cmp (lN (ttA μ s c ne le sf nf i)) (0 : Int64)) = 0 then (f_Mo_ask_61 (f_Mo_ask_11 n) n ν1 (nI i)) else (gd (inb (ν1.1 0 42) 24) (bd (wl ν1 31 (ν1.1 0 42).toNatClampNeg (lN (ttA μ s c ne le sf nf i))) (fun μ3 => gd (inb (μ3.1 0 42) 24) (bd (wi μ3 32 (μ3.1 0 42).toNatClampNeg (nI i)) (fun μ4 => bd (wi μ4 0 42 ((μ4.1 0 42) + (1 : Int32))) (fun μ5 => f_Mo_ask_61 (f_Mo_ask_11 n) n μ5 (nI i)))))))) := by
      show (if (ν.1 0 37) ≤ nI i then _ else (cl2 (f_Mo_termOf n ν (nI i)) _)) = _
      rw [hT.1, if_neg (nI_ge (by omega) (by omega)), a1, cl2_s]
    rw [st]
    unfold f_Mo_ask_61
    by_cases c0 : ttA μ s c ne le sf nf i = 0
    · have e1 : akL (ttA μ s c ne le sf nf) (i + 1) = akL (ttA μ s c ne le sf nf) i := by
        rw [e0]; unfold pA; rw [if_pos c0, List.append_nil]
      rw [if_pos ((lcZ t3).mpr c0), bd_e, nI_1]
      obtain ⟨ν', y1, y2, y3⟩ := ih (i + 1) n ν1 (by omega) (by omega) (h.mvm F1) hT1 (by rw [e1]; exact hA1)
      exact ⟨ν', y1, y2, F1.ak.tr y3⟩
    · have e1 : akL (ttA μ s c ne le sf nf) (i + 1) = akL (ttA μ s c ne le sf nf) i ++ [(ttA μ s c ne le sf nf i, i)] := by
        rw [e0]; unfold pA; rw [if_neg c0]
      have g24 : inb (nI (akL (ttA μ s c ne le sf nf) i).length) 24 = true := inb_iff.mpr (by rw [nI_toInt (by omega)]; omega)
      have k1 : (wl ν1 31 (akL (ttA μ s c ne le sf nf) i).length (lN (ttA μ s c ne le sf nf i))).1 0 42 = nI (akL (ttA μ s c ne le sf nf) i).length := hA1.1
      have k2 : (wi (wl ν1 31 (akL (ttA μ s c ne le sf nf) i).length (lN (ttA μ s c ne le sf nf i))) 32 (akL (ttA μ s c ne le sf nf) i).length (nI i)).1 0 42 = nI (akL (ttA μ s c ne le sf nf) i).length := by rw [wi_o (by omega)]; exact k1
      rw [if_neg (fun q => c0 ((lcZ t3).mp q)), hA1.1, g24, gd_t, nI_clamp (by omega), bd_e, k1, g24, gd_t, nI_clamp (by omega), bd_e, k2, bd_e, bd_e, nI_1, nI_1]
      have F2 : AkF ν1 (wi (wi (wl ν1 31 (akL (ttA μ s c ne le sf nf) i).length (lN (ttA μ s c ne le sf nf i))) 32 (akL (ttA μ s c ne le sf nf) i).length (nI i)) 0 42 (nI ((akL (ttA μ s c ne le sf nf) i).length + 1))) := by
        refine ⟨fun q a b => ?_, fun q a => ?_, fun q a b => ?_⟩
        · rw [wi_o a, wi_o (by omega), wl_1]
        · rw [wi_g, if_neg (by omega), wi_o (by omega), wl_1]
        · rw [wi_2, wi_2, wl_o b]
      obtain ⟨ν', y1, y2, y3⟩ := ih (i + 1) n _ (by omega) (by omega) (F2.aj (h.mvm F1)) (by
        unfold TkR
        rw [wi_g, if_neg (by omega)]
        rw [wi_o (show (0 : Nat) ≠ 32 by omega), wl_1, wi_o (show (26 : Nat) ≠ 0 by omega), wi_o (show (26 : Nat) ≠ 32 by omega), wi_o (show (27 : Nat) ≠ 0 by omega), wi_o (show (27 : Nat) ≠ 32 by omega), wi_o (show (28 : Nat) ≠ 0 by omega), wi_o (show (28 : Nat) ≠ 32 by omega), wi_o (show (29 : Nat) ≠ 0 by omega), wi_o (show (29 : Nat) ≠ 32 by omega)]
        exact hT1) (by
        rw [e1]
        refine ⟨?_, ?_, fun q x hx => ?_⟩
        · rw [wi_g, if_pos ⟨rfl, rfl⟩, List.length_append]; rfl
        · rw [List.length_append]; show _ + 1 ≤ 24; omega
        · rw [wi_2, wi_2, wl_g, wi_o (by omega), wi_g]
          rcases app1 hx with ⟨q1, q2⟩ | ⟨q1, q2⟩
          · rw [if_neg (by omega), if_neg (by omega)]
            exact hA1.2.2 q x q2
          · subst q2
            rw [q1, if_pos ⟨rfl, rfl⟩, if_pos ⟨rfl, rfl⟩]
            exact ⟨rfl, rfl, t3, by show i < 24; omega, c0⟩)
      exact ⟨ν', y1, y2, F1.ak.tr (F2.tr y3)⟩
/-- the query, both sides -/
theorem ask_b {μ ν : Mem} {s ne nf : Nat} {c le : Nat → Nat} {sf : Nat → Nat → Nat} (h : RJ μ ν s c ne le sf nf) : ∃ (μ1 μ' ν' : Mem) (nq : Nat) (tq : Nat → Nat), nq ≤ 24 ∧ f_X_analyse 4000 μ = some μ1 ∧ f_X_readQuery 4000 μ1 = some (nI nq, μ') ∧ f_Mo_ask 4000 ν = some ν' ∧ (∀ i, i < nq → μ'.2 44 i = lN (tq i) ∧ tq i < 2 ^ 64) ∧ AkM ν' (akL tq nq) ∧ AkF ν ν' ∧ RJ μ' ν' s c ne le sf nf ∧ μ'.1 41 = μ.1 41 ∧ μ'.2 41 = μ.2 41 ∧ μ'.2 43 = μ.2 43 := by
  obtain ⟨μ1, a1, a2, a3, a4⟩ := h.an (n := 4000) (by omega)
  obtain ⟨ν1, d1, d2, d3⟩ := cut_m (n := 4000) a4.1 (by omega)
  have tl := cgT_len _ _ a4.1.tx
  have hs := h.1.1.1
  obtain ⟨μ', b1, b2, b3, b4⟩ := query_x a4 a2 (TX μ1 s c ne le sf).length 0 4000 μ1 (by omega) (by omega) rfl (fun _ _ => rfl) (fun q hq => by omega)
  have W : AkF ν1 (wi ν1 0 42 0) := ⟨fun q a _ => wi_o a, fun i hi => by rw [wi_g, if_neg (by omega)], fun _ _ _ => rfl⟩
  obtain ⟨ν', e1, e2, e3⟩ := ask_m (nf := nf) (TX μ1 s c ne le sf).length 0 4000 (wi ν1 0 42 0) (by omega) (by omega) (W.aj (a4.1.mvm d3)) (by
    unfold TkR
    rw [wi_g, if_neg (by omega), wi_o (by omega), wi_o (by omega), wi_o (by omega), wi_o (by omega)]
    exact d2.1) ⟨by rw [wi_g, if_pos ⟨rfl, rfl⟩]; exact nI_0.symm, by show 0 ≤ 24; omega, fun j x hx => by cases hx⟩
  have FA := (d3.ak.tr W).tr e3
  refine ⟨μ1, μ', ν', (TX μ1 s c ne le sf).length, ttA μ1 s c ne le sf nf, by omega, a1, ?_, ?_, fun i hi => ⟨b4 i hi, ?_⟩, e2, FA, ?_, ?_, ?_, ?_⟩
  · rw [nI_0] at b1; exact b1
  · unfold f_Mo_ask
    rw [d1, cl_s, bd_e]
    rw [nI_0] at e1
    exact e1
  · obtain ⟨t, t1, t2, t3⟩ := ttA_v a4.1 hi
    exact t3
  · exact (a4.gx (fun q _ => by rw [b2]) (b3 4 (by omega)) (b3 25 (by omega))).aj (FA.aj (h.1.mvx a3 |>.gx (fun q _ _ => by rw [b2]) (b3 4 (by omega))))
  · rw [b2, a3.1 41 (by omega) (by omega)]
  · rw [b3 41 (by omega), a3.2.2.1 41 (by omega)]
  · rw [b3 43 (by omega), a3.2.2.1 43 (by omega)]
/-- how often the query stands in document d, if it is in the snapshot -/
theorem occIn_x {δ : Dx} {μ ν : Mem} {c k w dp sn nq n : Nat} {tq : Nat → Nat} {z : Nat → Nat} (hS : ShP μ ν c k w dp sn z) (hD : DJ δ ν c) (hq : nq ≤ 24) (ht : ∀ i, i < nq → μ.2 44 i = lN (tq i) ∧ tq i < 2 ^ 64) (hA : AkM ν (akL tq nq)) (hn : 300 < n) (a : Int32) : (∃ d v, d < c ∧ a = nI d ∧ sn.testBit d = true ∧ v ≤ 24 ∧ f_X_occurrencesIn n δ μ a (nI nq) = some (nI v) ∧ f_Mo_count n ν (nI d) = some (nI v)) ∨ (f_X_occurrencesIn n δ μ a (nI nq) = some 0 ∧ (∀ d, d < c → a = nI d → sn.testBit d = false)) := by
  have hc := hS.1.1
  have hsn := hS.1.2.2.2.2.1
  unfold f_X_occurrencesIn f_Shelf_inSnapshot
  rw [hS.2.1.1, hS.2.1.2.2.2.2.1]
  by_cases c1 : a < 0
  · rw [if_pos c1, cl_s]
    refine Or.inr ⟨rfl, fun d hd e => ?_⟩
    rw [e] at c1
    exact absurd c1 (nI_pos (by omega))
  · rw [if_neg c1]
    by_cases c2 : nI c ≤ a
    · rw [if_pos c2, cl_s]
      refine Or.inr ⟨rfl, fun d hd e => ?_⟩
      rw [e] at c2
      exact absurd c2 (nI_ge hd (by omega))
    · rw [if_neg c2]
      obtain ⟨d, hd, rfl⟩ : ∃ d, d < c ∧ a = nI d := by
        rw [i_lt, v_0] at c1
        rw [i_le, nI_toInt (by omega)] at c2
        exact ⟨a.toInt.toNat, by omega, by rw [i_eq, nI_toInt (by omega)]; omega⟩
      rw [holds_v (lt64 hsn hc) (by omega), cl_s]
      cases hb : sn.testBit d with
      | false =>
        rw [if_pos (by decide), cl_s]
        refine Or.inr ⟨rfl, fun d' hd' e => ?_⟩
        have : d' = d := ((nI_eq (by omega) (by omega)).mp e).symm
        rw [this]; exact hb
      | true =>
        obtain ⟨q, nt, tt, cc, y1, y2, y3, y4, y5⟩ := hD.1 d hd
        have dm : DmX (dmem q μ) nt tt cc nq tq := by
          refine ⟨y3, hq, fun i hi => ⟨?_, ?_, (y4 i hi).1, (y4 i hi).2⟩, fun i hi => ht i hi⟩
          · exact (y2.2.1 i hi).1
          · exact (y2.2.1 i hi).2
        have oc := occ_x (n := n) dm (by omega)
        have cm := cnt_m (n := n) hA y5 (by omega) y3 hq (by omega)
        refine Or.inl ⟨d, ocN tq nq tt cc nt, hd, rfl, hb, ?_, ?_, cm⟩
        · unfold ocN
          by_cases q1 : fsQ tq nq < nq
          · rw [if_pos q1]
            have := cnt_le (ocB tq nq (fsQ tq nq) tt cc nt) nt
            omega
          · rw [if_neg q1]; omega
        · rw [if_neg (by decide), gd_i (by rw [nI_toInt (by omega)]; omega), nI_clamp (by omega), y1]
          show cl (some true) (fun v1 => mt (dsel v1 (some q)) (some 0) (fun q2 => cl (f_Document_occurrences n q2.1 (dmem q2 μ) (nI nq)) (fun v4 => some v4))) = _
          rw [cl_s]
          show cl (f_Document_occurrences n q.1 (dmem q μ) (nI nq)) (fun v4 => some v4) = _
          rw [y2.1, oc, cl_s]
theorem st_places {δ : Dx} {μ ν : Mem} {s ne nf cd k w dp sn : Nat} {c le : Nat → Nat} {sf : Nat → Nat → Nat} {z : Nat → Nat} (h : RJ μ ν s c ne le sf nf) (hS : ShP μ ν cd k w dp sn z) (hD : DJ δ ν cd) (a : Int32) : ∃ (r : Int32) (μ' ν' : Mem), f_X_places 4000 δ μ a = some (r, μ') ∧ f_Mo_places 4000 ν a = some (r, ν') ∧ RJ μ' ν' s c ne le sf nf ∧ ShP μ' ν' cd k w dp sn z ∧ DJ δ ν' cd := by
  obtain ⟨μ1, μ', ν', nq, tq, q1, q2, q3, q4, q5, q6, q7, q8, q9, q10, q11⟩ := ask_b h
  have S' : ShP μ' ν' cd k w dp sn z := hS.mv q9 q10 q11 (q7.2.1 50 (by omega)) (q7.2.1 51 (by omega)) (fun q a b => q7.1 q (by omega) (by omega))
  have D' : DJ δ ν' cd := hD.mv (q7.1 35 (by omega) (by omega)) (q7.1 34 (by omega) (by omega)) (q7.2.2 33 (by omega) (by omega))
  have hc := S'.1.1
  unfold f_X_places f_Mo_places
  rw [q2, cl_s, q3, cl2_s, q4, cl_s]
  have inm : f_Mo_in 4000 a 0 (ν'.1 0 50 - 1) = some (decide (0 ≤ a.toInt ∧ a.toInt < cd)) := by
    rw [in_v, S'.2.2.1.1, v_0]
    congr 1
    rw [decide_eq_decide]
    have : (nI cd - 1).toInt = (cd : Int) - 1 := pk_sub_toInt (b := 1) (by omega) (by omega)
    rw [this]
    omega
  rw [inm, cl_s]
  rcases occIn_x (n := 4000) S' D' q1 q5 q6 (by omega) a with ⟨d, v, hd, rfl, hb, hv, o1, o2⟩ | ⟨o1, o2⟩
  · rw [o1, cl_s, decide_eq_true (by rw [nI_toInt (by omega)]; omega), if_neg (by decide), gd_i (by rw [nI_toInt (by omega)]; omega), nI_clamp (by omega), (S'.2.2.1.2.2 d (by omega)).2.2, hb, if_neg (by decide), o2, cl_s]
    exact ⟨_, μ', ν', rfl, rfl, q8, S', D'⟩
  · rw [o1, cl_s]
    by_cases hx : 0 ≤ a.toInt ∧ a.toInt < cd
    · obtain ⟨d, hd, rfl⟩ : ∃ d, d < cd ∧ a = nI d := ⟨a.toInt.toNat, by omega, by rw [i_eq, nI_toInt (by omega)]; omega⟩
      rw [decide_eq_true hx, if_neg (by decide), gd_i (by rw [nI_toInt (by omega)]; omega), nI_clamp (by omega), (S'.2.2.1.2.2 d (by omega)).2.2, o2 d hd rfl, if_pos (by decide)]
      exact ⟨_, μ', ν', rfl, rfl, q8, S', D'⟩
    · rw [decide_eq_false hx, if_pos (by decide)]
      exact ⟨_, μ', ν', rfl, rfl, q8, S', D'⟩
theorem match_b {δ : Dx} {μ ν : Mem} {c k w dp sn nq : Nat} {tq : Nat → Nat} {z : Nat → Nat} (hS : ShP μ ν c k w dp sn z) (hD : DJ δ ν c) (hq : nq ≤ 24) (ht : ∀ i, i < nq → μ.2 44 i = lN (tq i) ∧ tq i < 2 ^ 64) (hA : AkM ν (akL tq nq)) : ∀ j d n n2, d + j = 40 → j + 400 < n → j + 400 < n2 → ∃ r, f_X_match_15 δ n μ (nI nq) (nI d) = some (r, μ) ∧ f_Mo_match_14 n2 ν (nI d) = some (r, ν) := by
  have hc := hS.1.1
  intro j
  induction j with
  | zero =>
    intro d n n2 hd hn hn2
    obtain ⟨n, rfl⟩ : ∃ n', n = n' + 1 := ⟨n - 1, by omega⟩
    obtain ⟨n2, rfl⟩ : ∃ n', n2 = n' + 1 := ⟨n2 - 1, by omega⟩
    have e : d = 40 := by omega
    subst e
    refine ⟨-1, ?_, ?_⟩
    · unfold f_X_match_15; rw [if_pos (by decide)]
    · unfold f_Mo_match_14; rw [hS.2.2.1.1, if_pos (nI_le hc (by omega))]
  | succ j ih =>
    intro d n n2 hd hn hn2
    obtain ⟨n, rfl⟩ : ∃ n', n = n' + 1 := ⟨n - 1, by omega⟩
    obtain ⟨n2, rfl⟩ : ∃ n', n2 = n' + 1 := ⟨n2 - 1, by omega⟩
    obtain ⟨r, r1, r2⟩ := ih (d + 1) n n2 (by omega) (by omega) (by omega)
    have o := occIn_x (n := n) hS hD hq ht hA (by omega) (nI d)
    have o' := occIn_x (n := n2) hS hD hq ht hA (by omega) (nI d)
    have s1 : f_X_match_15 δ (n + 1) μ (nI nq) (nI d) = (if (40 : Int32) ≤ nI d then (some ((-1 : Int32), μ)) else (cl (f_X_occurrencesIn n δ μ (nI d) (nI nq)) (fun v1 => (if v1 ≤ 0 then (bd (nI d + 1) (fun v2 => (f_X_match_15 δ n) μ (nI nq) v2)) else (some (nI d, μ)))))) := rfl
    have s2 : f_Mo_match_14 (n2 + 1) ν (nI d) = (if (ν.1 0 50) ≤ nI d then (some ((-1 : Int32), ν)) else (gd (inb (nI d) 40) ((if (ν.1 39 (nI d).toNatClampNeg) = 0 then (f_Mo_match_41 (f_Mo_match_14 n2) n2 ν (nI d)) else (cl (f_Mo_count n2 ν (nI d)) (fun v1 => (if v1 ≤ 0 then (f_Mo_match_41 (f_Mo_match_14 n2) n2 ν (nI d)) else (some (nI d, ν))))))))) := rfl
    have n40 : ¬ (40 : Int32) ≤ nI d := by rw [show (40 : Int32) = nI 40 from rfl]; exact nI_ge (by omega) (by omega)
    rw [s1, s2, if_neg n40, hS.2.2.1.1]
    by_cases cd : c ≤ d
    · have ox : f_X_occurrencesIn n δ μ (nI d) (nI nq) = some 0 := by
        rcases o with ⟨d', v, hd', e, _⟩ | ⟨o1, _⟩
        · have := (nI_eq (by omega) (by omega)).mp e; omega
        · exact o1
      have rm : f_Mo_match_14 n2 ν (nI (d + 1)) = some (-1, ν) := by
        obtain ⟨n2, rfl⟩ : ∃ n', n2 = n' + 1 := ⟨n2 - 1, by omega⟩
        unfold f_Mo_match_14
        rw [hS.2.2.1.1, if_pos (nI_le (by omega) (by omega))]
      rw [rm] at r2
      rw [ox, cl_s, if_pos (by decide), bd_e, nI_1, if_pos (nI_le cd (by omega))]
      exact ⟨r, r1, r2⟩
    · have sb := (hS.2.2.1.2.2 d (by omega)).2.2
      rw [if_neg (nI_ge (by omega) (by omega)), gd_i (by rw [nI_toInt (by omega)]; omega), nI_clamp (by omega), sb]
      unfold f_Mo_match_41
      rw [bd_e, nI_1]
      cases hb : sn.testBit d with
      | false =>
        have ox : f_X_occurrencesIn n δ μ (nI d) (nI nq) = some 0 := by
          rcases o with ⟨d', v, hd', e, b, _⟩ | ⟨o1, _⟩
          · have := (nI_eq (by omega) (by omega)).mp e
            subst this
            rw [hb] at b; cases b
          · exact o1
        rw [ox, cl_s, if_pos (by decide), bd_e, if_pos (by decide)]
        exact ⟨r, r1, r2⟩
      | true =>
        rcases o with ⟨d1, v, hd1, e1, b1, hv, o1, o2⟩ | ⟨_, o2⟩
        · rcases o' with ⟨d2, v2, hd2, e2, b2, hv2, o3, o4⟩ | ⟨_, o4⟩
          · have z1 := (nI_eq (by omega) (by omega)).mp e1
            have z2 := (nI_eq (by omega) (by omega)).mp e2
            subst z1
            subst z2
            obtain ⟨q, nt, tt, cc, y1, y2, y3, y4, y5⟩ := hD.1 d (by omega)
            have c1 := cnt_m (n := n) hA y5 (by omega) y3 hq (by omega)
            have c2 := cnt_m (n := n2) hA y5 (by omega) y3 hq (by omega)
            rw [c1] at o2
            have ev : f_X_occurrencesIn n δ μ (nI d) (nI nq) = some (nI (ocN tq nq tt cc nt)) := by rw [o1, ← o2]
            have hl : ocN tq nq tt cc nt ≤ 24 := by
              unfold ocN
              by_cases q1 : fsQ tq nq < nq
              · rw [if_pos q1]
                have := cnt_le (ocB tq nq (fsQ tq nq) tt cc nt) nt
                omega
              · rw [if_neg q1]; omega
            rw [ev, cl_s, if_neg (show ¬ bz true = 0 by decide), c2, cl_s]
            by_cases p0 : ocN tq nq tt cc nt = 0
            · rw [p0, if_pos (by decide), bd_e, if_pos (by decide)]
              exact ⟨r, r1, r2⟩
            · rw [if_neg (nI_nle (by omega) (by omega)), if_neg (nI_nle (by omega) (by omega))]
              exact ⟨_, rfl, rfl⟩
          · have := o4 d (by omega) rfl
            rw [hb] at this; cases this
        · have := o2 d (by omega) rfl
          rw [hb] at this; cases this
theorem st_match {δ : Dx} {μ ν : Mem} {s ne nf cd k w dp sn : Nat} {c le : Nat → Nat} {sf : Nat → Nat → Nat} {z : Nat → Nat} (h : RJ μ ν s c ne le sf nf) (hS : ShP μ ν cd k w dp sn z) (hD : DJ δ ν cd) (a : Int32) : ∃ (r : Int32) (μ' ν' : Mem), f_X_match 4000 δ μ a = some (r, μ') ∧ f_Mo_match 4000 ν a = some (r, ν') ∧ RJ μ' ν' s c ne le sf nf ∧ ShP μ' ν' cd k w dp sn z ∧ DJ δ ν' cd := by
  obtain ⟨μ1, μ', ν', nq, tq, q1, q2, q3, q4, q5, q6, q7, q8, q9, q10, q11⟩ := ask_b h
  have S' : ShP μ' ν' cd k w dp sn z := hS.mv q9 q10 q11 (q7.2.1 50 (by omega)) (q7.2.1 51 (by omega)) (fun q a b => q7.1 q (by omega) (by omega))
  have D' : DJ δ ν' cd := hD.mv (q7.1 35 (by omega) (by omega)) (q7.1 34 (by omega) (by omega)) (q7.2.2 33 (by omega) (by omega))
  have hc := S'.1.1
  unfold f_X_match f_Mo_match f_Mo_match_13
  rw [q2, cl_s, q3, cl2_s, q4, cl_s, bd_e]
  have key : ∀ d, d ≤ 40 → ∃ r, f_X_match_15 δ 4000 μ' (nI nq) (nI d) = some (r, μ') ∧ f_Mo_match_14 4000 ν' (nI d) = some (r, ν') := fun d hd => match_b S' D' q1 q5 q6 (40 - d) d 4000 4000 (by omega) (by omega) (by omega)
  by_cases c1 : a < 0
  · rw [if_pos c1, if_neg (by rw [i_le, v_0]; rw [i_lt, v_0] at c1; omega)]
    obtain ⟨r, r1, r2⟩ := key 0 (by omega)
    exact ⟨r, μ', ν', r1, r2, q8, S', D'⟩
  · rw [if_neg c1, if_pos (by rw [i_le, v_0]; rw [i_lt, v_0] at c1; omega)]
    rw [i_lt, v_0] at c1
    by_cases c2 : a.toInt ≤ 40
    · obtain ⟨d, hd, rfl⟩ : ∃ d : Nat, d ≤ 40 ∧ a = nI d := ⟨a.toInt.toNat, by omega, by rw [i_eq, nI_toInt (by omega)]; omega⟩
      obtain ⟨r, r1, r2⟩ := key d hd
      exact ⟨r, μ', ν', r1, r2, q8, S', D'⟩
    · refine ⟨-1, μ', ν', ?_, ?_, q8, S', D'⟩
      · show (if (40 : Int32) ≤ a then _ else _) = _
        rw [if_pos (by rw [i_le, v_40]; omega)]
      · show (if (ν'.1 0 50) ≤ a then _ else _) = _
        rw [S'.2.2.1.1, if_pos (by rw [i_le, nI_toInt (by omega)]; omega)]
