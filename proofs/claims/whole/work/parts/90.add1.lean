/-! PURE: add, both sides -/
def csV (tt cc : Nat → Nat) (i : Nat) : Nat := if cc i = 0 ∨ cc i = tt i then 0 else cc i
def DoX (q : Dox) (nt : Nat) (tt cc : Nat → Nat) : Prop := q.1 = nt ∧ (∀ i, i < nt → q.2.1 i = lN (tt i) ∧ q.2.2.1 i = lN (csV tt cc i)) ∧ q.2.2.2 = nI (psL tt cc nt).length
theorem lcN {a b : Nat} (ha : a < 2 ^ 64) (hb : b < 2 ^ 64) : lg_cmp (lN a) (lN b) = 0 ↔ a = b := by rw [lc_0, lN_inj ha hb]
theorem lcZ {a : Nat} (ha : a < 2 ^ 64) : lg_cmp (lN a) 0 = 0 ↔ a = 0 := lcN (b := 0) ha (by decide)
theorem addL_x {μ : Mem} {nt : Nat} {tt cc : Nat → Nat} (h24 : nt ≤ 24) (ht : ∀ i, i < nt → ∀ n, 60 < n → f_X_tokenTerm n μ (nI i) = some (lN (tt i)) ∧ f_X_compoundTerm n μ (nI i) = some (lN (cc i))) (hb : ∀ i, i < nt → tt i < 2 ^ 64 ∧ cc i < 2 ^ 64) : ∀ j i n (dm : Mem), i + j = nt → j + 80 < n → (∀ q, q < i → dm.2 1 q = lN (tt q) ∧ dm.2 2 q = lN (csV tt cc q)) → (∀ q, i ≤ q → dm.2 2 q = 0) → dm.1 0 2 = nI (psL tt cc i).length → ∃ dm', addLoop nt μ (nI nt) n dm (nI i) = some dm' ∧ (∀ q, q < nt → dm'.2 1 q = lN (tt q) ∧ dm'.2 2 q = lN (csV tt cc q)) ∧ dm'.1 0 2 = nI (psL tt cc nt).length := by
  intro j
  induction j with
  | zero =>
    intro i n dm hi hn h1 h2 h3
    obtain ⟨n, rfl⟩ : ∃ n', n = n' + 1 := ⟨n - 1, by omega⟩
    have e : i = nt := by omega
    subst e
    refine ⟨dm, ?_, h1, h3⟩
    unfold addLoop
    rw [if_pos (nI_le (Nat.le_refl _) (by omega))]
  | succ j ih =>
    intro i n dm hi hn h1 h2 h3
    obtain ⟨n, rfl⟩ : ∃ n', n = n' + 1 := ⟨n - 1, by omega⟩
    obtain ⟨t1, t2⟩ := ht i (by omega) n (by omega)
    obtain ⟨b1, b2⟩ := hb i (by omega)
    have gI' : inb (nI i) nt = true := inb_iff.mpr (by rw [nI_toInt (by omega)]; omega)
    have e0 : (psL tt cc (i + 1)).length = (psL tt cc i).length + (pA tt i).length + (pB tt cc i).length := by
      show (psL tt cc i ++ pA tt i ++ pB tt cc i).length = _
      rw [List.length_append, List.length_append]
    have key : ∃ dm1, f_EDocument_post n nt dm (nI i) (lN (tt i)) (lN (cc i)) = some dm1 ∧ (∀ q, q < i + 1 → dm1.2 1 q = lN (tt q) ∧ dm1.2 2 q = lN (csV tt cc q)) ∧ (∀ q, i + 1 ≤ q → dm1.2 2 q = 0) ∧ dm1.1 0 2 = nI (psL tt cc (i + 1)).length := by
      have p37 : ∀ (dm2 : Mem) (L : Nat), (∀ q, q < i → dm2.2 1 q = lN (tt q) ∧ dm2.2 2 q = lN (csV tt cc q)) → dm2.2 1 i = lN (tt i) → (∀ q, i ≤ q → dm2.2 2 q = 0) → dm2.1 0 2 = nI L → ∃ dm1, f_EDocument_post_37 nt n dm2 (nI i) (lN (tt i)) (lN (cc i)) = some dm1 ∧ (∀ q, q < i + 1 → dm1.2 1 q = lN (tt q) ∧ dm1.2 2 q = lN (csV tt cc q)) ∧ (∀ q, i + 1 ≤ q → dm1.2 2 q = 0) ∧ dm1.1 0 2 = nI (L + (pB tt cc i).length) := by
        intro dm2 L k1 k2 k3 k4
        unfold f_EDocument_post_37
        by_cases c1 : cc i = 0
        · have cs0 : csV tt cc i = 0 := by unfold csV; rw [if_pos (Or.inl c1)]
          have pb : (pB tt cc i).length = 0 := by unfold pB; rw [if_pos (Or.inl c1)]; rfl
          rw [if_pos ((lcZ b2).mpr c1), pb]
          refine ⟨dm2, rfl, fun q hq => ?_, fun q hq => k3 q (by omega), k4⟩
          by_cases d : q = i
          · subst d; rw [cs0]; exact ⟨k2, k3 q (Nat.le_refl _)⟩
          · exact k1 q (by omega)
        · rw [if_neg (fun h => c1 ((lcZ b2).mp h))]
          by_cases c2 : cc i = tt i
          · have cs0 : csV tt cc i = 0 := by unfold csV; rw [if_pos (Or.inr c2)]
            have pb : (pB tt cc i).length = 0 := by unfold pB; rw [if_pos (Or.inr c2)]; rfl
            rw [if_pos ((lcN b2 b1).mpr c2), pb]
            refine ⟨dm2, rfl, fun q hq => ?_, fun q hq => k3 q (by omega), k4⟩
            by_cases d : q = i
            · subst d; rw [cs0]; exact ⟨k2, k3 q (Nat.le_refl _)⟩
            · exact k1 q (by omega)
          · have cs0 : csV tt cc i = cc i := by unfold csV; rw [if_neg (fun h => h.elim c1 c2)]
            have pb : (pB tt cc i).length = 1 := by unfold pB; rw [if_neg (fun h => h.elim c1 c2)]; rfl
            rw [if_neg (fun h => c2 ((lcN b2 b1).mp h)), gI', gd_t, nI_clamp (by omega), bd_e, wl_1, k4, bd_e, nI_1, pb]
            refine ⟨_, rfl, fun q hq => ?_, fun q hq => ?_, ?_⟩
            · rw [wi_2, wl_g, wl_g, if_neg (by omega)]
              by_cases d : q = i
              · subst d; rw [if_pos ⟨rfl, rfl⟩, cs0]; exact ⟨k2, rfl⟩
              · rw [if_neg (by omega)]; exact k1 q (by omega)
            · rw [wi_2, wl_g, if_neg (by omega)]; exact k3 q (by omega)
            · rw [wi_g, if_pos ⟨rfl, rfl⟩]
      unfold f_EDocument_post
      rw [if_neg (nI_pos (by omega)), if_pos (show nI i < Int32.ofNat nt from nI_lt (by omega) (by omega)), gI', gd_t, nI_clamp (by omega), bd_e]
      have K1 : ∀ q, q < i → (wl dm 1 i (lN (tt i))).2 1 q = lN (tt q) ∧ (wl dm 1 i (lN (tt i))).2 2 q = lN (csV tt cc q) := fun q hq => by rw [wl_g, if_neg (by omega), wl_g, if_neg (by omega)]; exact h1 q hq
      have K2 : (wl dm 1 i (lN (tt i))).2 1 i = lN (tt i) := by rw [wl_g, if_pos ⟨rfl, rfl⟩]
      have K3 : ∀ q, i ≤ q → (wl dm 1 i (lN (tt i))).2 2 q = 0 := fun q hq => by rw [wl_g, if_neg (by omega)]; exact h2 q hq
      by_cases c0 : tt i = 0
      · have pa : (pA tt i).length = 0 := by unfold pA; rw [if_pos c0]; rfl
        rw [if_pos ((lcZ b1).mpr c0), e0, pa]
        exact p37 _ _ K1 K2 K3 h3
      · have pa : (pA tt i).length = 1 := by unfold pA; rw [if_neg c0]; rfl
        rw [if_neg (fun h => c0 ((lcZ b1).mp h)), bd_e, wl_1, h3, nI_1, e0, pa]
        exact p37 _ _ K1 K2 K3 (by rw [wi_g, if_pos ⟨rfl, rfl⟩])
    obtain ⟨dm1, d1, d2, d3, d4⟩ := key
    obtain ⟨dm', f1, f2, f3⟩ := ih (i + 1) n dm1 (by omega) (by omega) d2 d3 d4
    refine ⟨dm', ?_, f2, f3⟩
    rw [← f1]
    show (if nI nt ≤ nI i then some dm else cl (f_X_tokenTerm n μ (nI i)) (fun t => cl (f_X_compoundTerm n μ (nI i)) (fun u => cl (f_EDocument_post n nt dm (nI i) t u) (fun dm1 => bd (nI i + 1) (fun i1 => addLoop nt μ (nI nt) n dm1 i1))))) = _
    rw [if_neg (nI_ge (by omega) (by omega)), t1, cl_s, t2, cl_s, d1, cl_s, bd_e, nI_1]
/-- what the reference's add may change besides the draft's cells -/
def AdF (ν ν' : Mem) (d : Nat) : Prop := (∀ q, q ≠ 0 → q ≠ 30 → q ≠ 34 → q ≠ 35 → ν'.1 q = ν.1 q) ∧ (∀ i, i ≠ 39 → ν'.1 0 i = ν.1 0 i) ∧ (∀ q, q ≠ 33 → ν'.2 q = ν.2 q) ∧ (∀ i, i ≠ d → ν'.1 35 i = ν.1 35 i) ∧ (∀ i, i < 36 * d ∨ 36 * d + 36 ≤ i → ν'.1 34 i = ν.1 34 i ∧ ν'.2 33 i = ν.2 33 i)
theorem AdF.rf (ν : Mem) (d : Nat) : AdF ν ν d := ⟨fun _ _ _ _ _ => rfl, fun _ _ => rfl, fun _ _ => rfl, fun _ _ => rfl, fun _ _ => ⟨rfl, rfl⟩⟩
theorem AdF.tr {ν ν1 ν2 : Mem} {d : Nat} (h1 : AdF ν ν1 d) (h2 : AdF ν1 ν2 d) : AdF ν ν2 d := ⟨fun q a b e f => (h2.1 q a b e f).trans (h1.1 q a b e f), fun i a => (h2.2.1 i a).trans (h1.2.1 i a), fun q a => (h2.2.2.1 q a).trans (h1.2.2.1 q a), fun i a => (h2.2.2.2.1 i a).trans (h1.2.2.2.1 i a), fun i a => ⟨((h2.2.2.2.2 i a).1).trans (h1.2.2.2.2 i a).1, ((h2.2.2.2.2 i a).2).trans (h1.2.2.2.2 i a).2⟩⟩
theorem FlF.ad {ν ν' : Mem} (h : FlF ν ν') (d : Nat) : AdF ν ν' d := ⟨fun q a b _ _ => h.1 q a b, h.2.1, fun q _ => by rw [h.2.2], fun i _ => by rw [h.1 35 (by omega) (by omega)], fun i _ => by rw [h.1 34 (by omega) (by omega), h.2.2]; exact ⟨rfl, rfl⟩⟩
theorem PoF.ad {ν ν' : Mem} {d : Nat} (h : PoF ν ν' d) : AdF ν ν' d := ⟨fun q _ _ a b => h.1 q a b, fun i _ => by rw [h.1 0 (by omega) (by omega)], h.2.1, h.2.2.1, h.2.2.2⟩
theorem AdF.cr {ν ν' : Mem} {d : Nat} {G : Lt} {en : Nat → Nat} {ct : Nat → Int32} {P : List Nat} {T : List Tk} (f : AdF ν ν' d) (h : CrM ν G en ct P T) : CrM ν' G en ct P T := by
  unfold CrM TkR PlM
  rw [f.2.1 37 (by omega), f.2.1 32 (by omega), f.1 26 (by omega) (by omega) (by omega) (by omega), f.1 27 (by omega) (by omega) (by omega) (by omega), f.1 28 (by omega) (by omega) (by omega) (by omega), f.1 29 (by omega) (by omega) (by omega) (by omega), f.1 22 (by omega) (by omega) (by omega) (by omega), f.1 23 (by omega) (by omega) (by omega) (by omega), f.1 24 (by omega) (by omega) (by omega) (by omega), f.1 25 (by omega) (by omega) (by omega) (by omega), f.1 6 (by omega) (by omega) (by omega) (by omega)]
  exact h
theorem AdF.aj {μ ν ν' : Mem} {s ne nf d : Nat} {c le : Nat → Nat} {sf : Nat → Nat → Nat} (f : AdF ν ν' d) (h : AJ μ ν s c ne le sf nf) : AJ μ ν' s c ne le sf nf := by
  unfold AJ LxP
  rw [f.2.1 1 (by omega), f.2.1 8 (by omega), f.2.1 13 (by omega), f.2.1 14 (by omega), f.2.1 17 (by omega), f.1 1 (by omega) (by omega) (by omega) (by omega), f.1 2 (by omega) (by omega) (by omega) (by omega), f.1 3 (by omega) (by omega) (by omega) (by omega), f.1 4 (by omega) (by omega) (by omega) (by omega), f.1 5 (by omega) (by omega) (by omega) (by omega), f.1 6 (by omega) (by omega) (by omega) (by omega), f.1 7 (by omega) (by omega) (by omega) (by omega), f.1 8 (by omega) (by omega) (by omega) (by omega), f.1 9 (by omega) (by omega) (by omega) (by omega), f.1 10 (by omega) (by omega) (by omega) (by omega), f.1 11 (by omega) (by omega) (by omega) (by omega), f.1 12 (by omega) (by omega) (by omega) (by omega), f.1 13 (by omega) (by omega) (by omega) (by omega)]
  exact h
def ttA (μ : Mem) (s : Nat) (c : Nat → Nat) (ne : Nat) (le : Nat → Nat) (sf : Nat → Nat → Nat) (nf i : Nat) : Nat := if i < (TX μ s c ne le sf).length then tmK μ c le sf nf ((TX μ s c ne le sf).getD i tk0) else 0
def ccA (μ : Mem) (s : Nat) (c : Nat → Nat) (ne : Nat) (le : Nat → Nat) (sf : Nat → Nat → Nat) (nf i : Nat) : Nat := if i < (TX μ s c ne le sf).length then cmV μ s c ne le sf nf i else 0
theorem add64_m {μ : Mem} {s ne nf d : Nat} {c le : Nat → Nat} {sf : Nat → Nat → Nat} (a : AnX μ s c ne le sf) (hd : d < 40) (hlen : ∀ i, i ≤ (TX μ s c ne le sf).length → (psL (ttA μ s c ne le sf nf) (ccA μ s c ne le sf nf) i).length ≤ 36) : ∀ j i n (ν : Mem), i + j = (TX μ s c ne le sf).length → j + 200 < n → AJ μ ν s c ne le sf nf → CrM ν (GX μ s c ne le sf false) (enL μ s c ne le sf) (ctL μ s c ne le sf) (PX μ s c ne le sf false) (TX μ s c ne le sf) → ν.1 0 50 = nI d → PoM ν d (psL (ttA μ s c ne le sf nf) (ccA μ s c ne le sf nf) i) → ∃ n' ν', n ≤ n' + j ∧ f_Mo_add_64 n ν (nI i) = f_Mo_add_64 n' ν' (nI (TX μ s c ne le sf).length) ∧ PoM ν' d (psL (ttA μ s c ne le sf nf) (ccA μ s c ne le sf nf) (TX μ s c ne le sf).length) ∧ AdF ν ν' d := by
  intro j
  induction j with
  | zero =>
    intro i n ν hi hn h hr h50 hp
    have e : i = (TX μ s c ne le sf).length := by omega
    rw [e] at hp ⊢
    exact ⟨n, ν, by omega, rfl, hp, AdF.rf ν d⟩
  | succ j ih =>
    intro i n ν hi hn h hr h50 hp
    obtain ⟨n, rfl⟩ : ∃ n', n = n' + 1 := ⟨n - 1, by omega⟩
    have tl := cgT_len _ _ h.tx
    have hs := h.1.1
    have hiT : i < (TX μ s c ne le sf).length := by omega
    have eI : (TX μ s c ne le sf)[i]? = some (TX μ s c ne le sf)[i] := List.getElem?_eq_getElem hiT
    have tti : ttA μ s c ne le sf nf i = tmK μ c le sf nf (TX μ s c ne le sf)[i] := by unfold ttA; rw [if_pos hiT, getD_some eI]
    have cci : ccA μ s c ne le sf nf i = cmV μ s c ne le sf nf i := by unfold ccA; rw [if_pos hiT]
    obtain ⟨z1, z2, z3, z4, z5⟩ := h.tm eI
    have tb : ttA μ s c ne le sf nf i < 2 ^ 64 := by rw [tti]; exact h.tl z1 z2 z3 z4
    obtain ⟨ν1, a1, a2⟩ := tof_m (n := n) h hr.1 eI (by omega)
    rw [← tti] at a1
    have f1 := a2.ad d
    have hp1 : PoM ν1 d (psL (ttA μ s c ne le sf nf) (ccA μ s c ne le sf nf) i) := by
      unfold PoM
      rw [a2.1 35 (by omega) (by omega), a2.1 34 (by omega) (by omega), a2.2.2]
      exact hp
    have e0 : psL (ttA μ s c ne le sf nf) (ccA μ s c ne le sf nf) (i + 1) = psL (ttA μ s c ne le sf nf) (ccA μ s c ne le sf nf) i ++ pA (ttA μ s c ne le sf nf) i ++ pB (ttA μ s c ne le sf nf) (ccA μ s c ne le sf nf) i := rfl
    have l1 := hlen (i + 1) (by omega)
    rw [e0, List.length_append, List.length_append] at l1
    have nin : (ttA μ s c ne le sf nf i, i) ∉ psL (ttA μ s c ne le sf nf) (ccA μ s c ne le sf nf) i := fun hm => by
      have := ((psL_m i _).mp hm).1
      have : i < i := this
      omega
    obtain ⟨ν2, b1, b2, b3⟩ := post_m (n := n) (x := ttA μ s c ne le sf nf i) (i := i) hp1 hd tb (by omega) (by omega) (fun h0 _ => by
      have : (pA (ttA μ s c ne le sf nf) i).length = 1 := by unfold pA; rw [if_neg h0]; rfl
      omega)
    have eA : (if ttA μ s c ne le sf nf i = 0 ∨ (ttA μ s c ne le sf nf i, i) ∈ psL (ttA μ s c ne le sf nf) (ccA μ s c ne le sf nf) i then psL (ttA μ s c ne le sf nf) (ccA μ s c ne le sf nf) i else psL (ttA μ s c ne le sf nf) (ccA μ s c ne le sf nf) i ++ [(ttA μ s c ne le sf nf i, i)]) = psL (ttA μ s c ne le sf nf) (ccA μ s c ne le sf nf) i ++ pA (ttA μ s c ne le sf nf) i := by
      unfold pA
      by_cases c0 : ttA μ s c ne le sf nf i = 0
      · rw [if_pos (Or.inl c0), if_pos c0, List.append_nil]
      · rw [if_neg (fun hh => hh.elim c0 nin), if_neg c0]
    rw [eA] at b2
    have f2 := f1.tr b3.ad
    have h2 := f2.aj h
    have hr2 := f2.cr hr
    have h50' : ν1.1 0 50 = nI d := by rw [f1.2.1 50 (by omega)]; exact h50
    obtain ⟨x1, x2, x3, x4⟩ := ctm_b (n := 100) (n2 := n) h h2 a hr2 hiT (by omega) (by omega)
    rw [← cci] at x2 x3
    have stp : f_Mo_add_64 (n + 1) ν (nI i) = cl (f_Mo_compound n ν2 (nI i)) (fun v8 => (if v8 < 0 then (f_Mo_add_145 (f_Mo_add_64 n) n ν2 (nI i)) else (gd (inb v8 24) (gd (inb v8 24) (gd (inb v8 24) (gd (inb v8 24) (cl2 (f_Mo_filtered n ν2 (ν2.1 22 v8.toNatClampNeg) (ν2.1 23 v8.toNatClampNeg) (ν2.1 24 v8.toNatClampNeg) (ν2.1 25 v8.toNatClampNeg)) (fun v9 μ10 => cl (f_Mo_post n μ10 (μ10.1 0 50) v9 (nI i)) (fun μ12 => f_Mo_add_145 (f_Mo_add_64 n) n μ12 (nI i))))))))))  := by
      show (if (ν.1 0 37) ≤ nI i then _ else (cl2 (f_Mo_termOf n ν (nI i)) (fun v4 μ5 => cl (f_Mo_post n μ5 (μ5.1 0 50) v4 (nI i)) _))) = _
      rw [hr.1.1, if_neg (nI_ge hiT (by omega)), a1, cl2_s, h50', b1, cl_s]
    have fin : ∀ ν3 : Mem, AdF ν ν3 d → PoM ν3 d (psL (ttA μ s c ne le sf nf) (ccA μ s c ne le sf nf) i ++ pA (ttA μ s c ne le sf nf) i ++ pB (ttA μ s c ne le sf nf) (ccA μ s c ne le sf nf) i) → ∃ n' ν', n + 1 ≤ n' + (j + 1) ∧ f_Mo_add_145 (f_Mo_add_64 n) n ν3 (nI i) = f_Mo_add_64 n' ν' (nI (TX μ s c ne le sf).length) ∧ PoM ν' d (psL (ttA μ s c ne le sf nf) (ccA μ s c ne le sf nf) (TX μ s c ne le sf).length) ∧ AdF ν ν' d := by
      intro ν3 g1 g2
      obtain ⟨n', ν', k1, k2, k3, k4⟩ := ih (i + 1) n ν3 (by omega) (by omega) (g1.aj h) (g1.cr hr) (by rw [g1.2.1 50 (by omega)]; exact h50) (by rw [e0]; exact g2)
      refine ⟨n', ν', by omega, ?_, k3, g1.tr k4⟩
      unfold f_Mo_add_145
      rw [bd_e, nI_1]
      exact k2
    rw [stp]
    rcases x3 with ⟨y1, y2⟩ | ⟨jj, ν3, y0, y1, y2, y3⟩
    · rw [y1, cl_s, if_pos (by decide)]
      refine fin ν2 f2 ?_
      have : pB (ttA μ s c ne le sf nf) (ccA μ s c ne le sf nf) i = [] := by unfold pB; rw [if_pos (Or.inl y2)]
      rw [this, List.append_nil]
      exact b2
    · have g24 : inb (nI jj) 24 = true := inb_iff.mpr (by rw [nI_toInt (by omega)]; omega)
      rw [y1, cl_s, if_neg (nI_pos (by omega))]
      simp only [g24, gd_t]
      rw [nI_clamp (by omega), y2, cl2_s]
      have f3 := f2.tr (y3.ad d)
      have hp3 : PoM ν3 d (psL (ttA μ s c ne le sf nf) (ccA μ s c ne le sf nf) i ++ pA (ttA μ s c ne le sf nf) i) := by
        unfold PoM
        rw [y3.1 35 (by omega) (by omega), y3.1 34 (by omega) (by omega), y3.2.2]
        exact b2
      have min : (ccA μ s c ne le sf nf i, i) ∈ psL (ttA μ s c ne le sf nf) (ccA μ s c ne le sf nf) i ++ pA (ttA μ s c ne le sf nf) i ↔ ccA μ s c ne le sf nf i = ttA μ s c ne le sf nf i ∧ ttA μ s c ne le sf nf i ≠ 0 := by
        rw [List.mem_append]
        constructor
        · rintro (hm | hm)
          · have := ((psL_m i _).mp hm).1
            have : i < i := this
            omega
          · obtain ⟨q1, q2⟩ := pA_m hm
            exact ⟨congrArg Prod.fst q1, q2⟩
        · rintro ⟨q1, q2⟩
          refine Or.inr ?_
          unfold pA
          rw [if_neg q2, q1]
          exact List.mem_singleton.mpr rfl
      obtain ⟨ν4, w1, w2, w3⟩ := post_m (n := n) (x := ccA μ s c ne le sf nf i) (i := i) hp3 hd x2 (by omega) (by omega) (fun h0 hm => by
        have : (pB (ttA μ s c ne le sf nf) (ccA μ s c ne le sf nf) i).length = 1 := by
          unfold pB
          rw [if_neg (fun hh => hh.elim h0 (fun q => hm (min.mpr ⟨q, by rw [← q]; exact h0⟩)))]
          rfl
        rw [List.length_append]
        omega)
      have eB : (if ccA μ s c ne le sf nf i = 0 ∨ (ccA μ s c ne le sf nf i, i) ∈ psL (ttA μ s c ne le sf nf) (ccA μ s c ne le sf nf) i ++ pA (ttA μ s c ne le sf nf) i then psL (ttA μ s c ne le sf nf) (ccA μ s c ne le sf nf) i ++ pA (ttA μ s c ne le sf nf) i else psL (ttA μ s c ne le sf nf) (ccA μ s c ne le sf nf) i ++ pA (ttA μ s c ne le sf nf) i ++ [(ccA μ s c ne le sf nf i, i)]) = psL (ttA μ s c ne le sf nf) (ccA μ s c ne le sf nf) i ++ pA (ttA μ s c ne le sf nf) i ++ pB (ttA μ s c ne le sf nf) (ccA μ s c ne le sf nf) i := by
        unfold pB
        by_cases c0 : ccA μ s c ne le sf nf i = 0
        · rw [if_pos (Or.inl c0), if_pos (Or.inl c0), List.append_nil]
        · by_cases c1 : ccA μ s c ne le sf nf i = ttA μ s c ne le sf nf i
          · rw [if_pos (Or.inr (min.mpr ⟨c1, by rw [← c1]; exact c0⟩)), if_pos (Or.inr c1), List.append_nil]
          · rw [if_neg (fun hh => hh.elim c0 (fun q => c1 (min.mp q).1)), if_neg (fun hh => hh.elim c0 c1)]
      rw [eB] at w2
      rw [f3.2.1 50 (by omega), h50, w1, cl_s]
      exact fin ν4 (f3.tr w3.ad) w2
