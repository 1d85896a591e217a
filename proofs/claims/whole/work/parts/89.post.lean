/-! PURE: terms of tokens and of compounds, postings, both sides -/
def tmK (μ : Mem) (c le : Nat → Nat) (sf : Nat → Nat → Nat) (nf : Nat) (t : Tk) : Nat := tmV μ c le sf nf t.1 t.2.1 t.2.2.1 t.2.2.2
theorem fltF_lt {K V : Nat → Int32} {pt : Int32} {base : Option Txt} (hb : ∀ b, base = some b → tOK b) : ∀ j i (t : Txt), (∀ q, q < i + j → chainOK (K q) (V q)) → tOK t → fltF K V pt base j i t < 2 ^ 64 := by
  intro j
  induction j with
  | zero => intro i t _ ht; exact tv64 ht.2.1 (fun k hk => (ht.2.2 k hk).2)
  | succ j ih =>
    intro i t hok ht
    have e0 : fltF K V pt base (j + 1) i t = if K i = 0 then (if pt = V i then 0 else fltF K V pt base j (i + 1) t) else fltF K V pt base j (i + 1) (fs1 (K i) (V i) base t) := rfl
    rw [e0]
    by_cases k0 : K i = 0
    · rw [if_pos k0]
      by_cases c : pt = V i
      · rw [if_pos c]; decide
      · rw [if_neg c]; exact ih (i + 1) t (fun q hq => hok q (by omega)) ht
    · rw [if_neg k0]
      refine ih (i + 1) _ (fun q hq => hok q (by omega)) (fs1_ok ht hb ?_)
      have ok := hok i (by omega)
      unfold chainOK at ok
      rw [i_eq, v_0] at k0
      rw [i_eq, i_eq, i_eq, v_1, v_2, v_3]
      omega
theorem AJ.tl {μ ν : Mem} {s ne nf b l p e : Nat} {c le : Nat → Nat} {sf : Nat → Nat → Nat} (h : AJ μ ν s c ne le sf nf) (hb : b + l ≤ s) (h1 : 1 ≤ l) (hl : l ≤ 8) (he : e < ne ∨ e = 40) : tmV μ c le sf nf b l p e < 2 ^ 64 := by
  obtain ⟨f1, f2, f3, f4⟩ := h.2.2.2
  exact fltF_lt (h.2.2.1.bo he) nf 0 _ (fun q hq => (f4 q (by omega)).2.2) ⟨h1, hl, fun k hk => h.hc (b + k) (by have : k < l := hk; omega)⟩
theorem ttm_x {μ ν : Mem} {s ne nf n i : Nat} {c le : Nat → Nat} {sf : Nat → Nat → Nat} {t : Tk} (h : AJ μ ν s c ne le sf nf) (a : AnX μ s c ne le sf) (hi : (TX μ s c ne le sf)[i]? = some t) (hn : 40 < n) : f_X_tokenTerm n μ (nI i) = some (lN (tmK μ c le sf nf t)) := by
  have tl := cgT_len _ _ h.tx
  have hs := h.1.1
  have il := (List.getElem?_eq_some_iff.mp hi).1
  obtain ⟨t1, t2, t3, t4⟩ := a.2.2.1.2 i t hi
  obtain ⟨k1, k2, k3, k4, k5⟩ := h.tm hi
  obtain ⟨x1, x2, x3⟩ := term_x (n := n) (p := t.2.2.1) h k1 k2 k3 k4 hn
  have g24 : inb (nI i) 24 = true := inb_iff.mpr (by rw [nI_toInt (by omega)]; omega)
  unfold f_X_tokenTerm f_TokenRow_begin f_TokenRow_length f_TokenRow_part f_TokenRow_entry
  simp only [g24, gd_t, cl_s]
  rw [nI_clamp (by omega), t1, t2, t3, t4, x1, cl_s, x2, cl_s, x3, cl_s]
  rfl
theorem tof_m {μ ν : Mem} {s ne nf n i : Nat} {c le : Nat → Nat} {sf : Nat → Nat → Nat} {t : Tk} (h : AJ μ ν s c ne le sf nf) (a : TkR ν (TX μ s c ne le sf)) (hi : (TX μ s c ne le sf)[i]? = some t) (hn : 80 < n) : ∃ ν', f_Mo_termOf n ν (nI i) = some (lN (tmK μ c le sf nf t), ν') ∧ FlF ν ν' := by
  have tl := cgT_len _ _ h.tx
  have hs := h.1.1
  have il := (List.getElem?_eq_some_iff.mp hi).1
  obtain ⟨t1, t2, t3, t4⟩ := a.2 i t hi
  obtain ⟨k1, k2, k3, k4, k5⟩ := h.tm hi
  obtain ⟨ν', x1, x2⟩ := term_m (n := n) (p := t.2.2.1) h k1 k2 k3 k4 hn
  have g24 : inb (nI i) 24 = true := inb_iff.mpr (by rw [nI_toInt (by omega)]; omega)
  refine ⟨ν', ?_, x2⟩
  unfold f_Mo_termOf
  simp only [g24, gd_t]
  rw [nI_clamp (by omega), t1, t2, t3, t4, x1, cl2_s]
  rfl
theorem st_term {μ ν : Mem} {s ne nf : Nat} {c le : Nat → Nat} {sf : Nat → Nat → Nat} (h : RJ μ ν s c ne le sf nf) (x : Int32) : ∃ (r : Int64) (μ' ν' : Mem), f_X_term 3000 μ x = some (r, μ') ∧ f_Mo_term 4000 ν x = some (r, ν') ∧ AnF μ μ' ∧ AmF ν ν' ∧ RJ μ' ν s c ne le sf nf := by
  obtain ⟨μ', a1, a2, a3, a4⟩ := h.an (n := 3000) (by omega)
  obtain ⟨ν1, b1, b2, b3⟩ := cut_m (n := 4000) a4.1 (by omega)
  have tl := cgT_len _ _ a4.1.tx
  have hs := h.1.1.1
  have TY := a2.2.2.1
  have h1 := a4.1.mvm b3
  unfold f_X_term f_Mo_term
  rw [a1, cl_s, b1, cl_s, has_x (m := (TX μ' s c ne le sf).length) (by omega) TY.1, cl_s, in_i (m := (TX μ' s c ne le sf).length) (by omega) b2.1.1, cl_s]
  by_cases hx : 0 ≤ x.toInt ∧ x.toInt < (TX μ' s c ne le sf).length
  · rw [decide_eq_true hx, if_neg (show ¬ bz true = 0 by decide), if_neg (show ¬ bz true = 0 by decide)]
    obtain ⟨i, hi, rfl⟩ : ∃ i, i < (TX μ' s c ne le sf).length ∧ x = nI i := ⟨x.toInt.toNat, by omega, by rw [i_eq, nI_toInt (by omega)]; omega⟩
    have eI : (TX μ' s c ne le sf)[i]? = some (TX μ' s c ne le sf)[i] := List.getElem?_eq_getElem hi
    obtain ⟨ν', d1, d2⟩ := tof_m (n := 4000) h1 b2.1 eI (by omega)
    rw [ttm_x (n := 3000) a4.1 a2 eI (by omega), cl_s, d1, cl2_s]
    exact ⟨_, μ', ν', rfl, rfl, a3, b3.tr d2.am, a4⟩
  · rw [decide_eq_false hx, if_pos (show bz false = 0 by decide), if_pos (show bz false = 0 by decide)]
    exact ⟨_, μ', ν1, rfl, rfl, a3, b3, a4⟩
/-- the term of the compound that begins with token i; 0 where there is none -/
def cmV (μ : Mem) (s : Nat) (c : Nat → Nat) (ne : Nat) (le : Nat → Nat) (sf : Nat → Nat → Nat) (nf i : Nat) : Nat := if μ.1 40 i = -1 then 0 else tmV μ c le sf nf ((LX μ s c ne le sf).getD (μ.1 40 i).toNatClampNeg nd0).1 ((LX μ s c ne le sf).getD (μ.1 40 i).toNatClampNeg nd0).2.1 (ptN μ c ((LX μ s c ne le sf).getD (μ.1 40 i).toNatClampNeg nd0)) ((LX μ s c ne le sf).getD (μ.1 40 i).toNatClampNeg nd0).2.2
theorem ctm_b {μ ν ν' : Mem} {s ne nf n n2 i : Nat} {c le : Nat → Nat} {sf : Nat → Nat → Nat} (h : AJ μ ν s c ne le sf nf) (h' : AJ μ ν' s c ne le sf nf) (a : AnX μ s c ne le sf) (b2 : CrM ν' (GX μ s c ne le sf false) (enL μ s c ne le sf) (ctL μ s c ne le sf) (PX μ s c ne le sf false) (TX μ s c ne le sf)) (hi : i < (TX μ s c ne le sf).length) (hn : 60 < n) (hn2 : 80 < n2) : f_X_compoundTerm n μ (nI i) = some (lN (cmV μ s c ne le sf nf i)) ∧ cmV μ s c ne le sf nf i < 2 ^ 64 ∧ ((f_Mo_compound n2 ν' (nI i) = some (-1) ∧ cmV μ s c ne le sf nf i = 0) ∨ ∃ j ν'', j < 24 ∧ f_Mo_compound n2 ν' (nI i) = some (nI j) ∧ f_Mo_filtered n2 ν' (ν'.1 22 j) (ν'.1 23 j) (ν'.1 24 j) (ν'.1 25 j) = some (lN (cmV μ s c ne le sf nf i), ν'') ∧ FlF ν' ν'') ∧ (cmV μ s c ne le sf nf i ≠ 0 → ∃ k, k ∈ PX μ s c ne le sf false ∧ CmK (TX μ s c ne le sf) (GX μ s c ne le sf false) (ctL μ s c ne le sf) i k) := by
  have tl := cgT_len _ _ h.tx
  have hs := h.1.1
  have g24 : inb (nI i) 24 = true := inb_iff.mpr (by rw [nI_toInt (by omega)]; omega)
  unfold f_X_compoundTerm f_TokenRow_compound
  simp only [g24, gd_t, cl_s]
  rw [nI_clamp (by omega)]
  rcases cmp_b (n := n2) h a (AnF.rf μ) b2 hi (by omega) with ⟨q1, q2, q3⟩ | ⟨k, j, d, q1, q2, q3, q4, q5, q6, q7, q8, q9, q10⟩
  · have cv : cmV μ s c ne le sf nf i = 0 := by unfold cmV; rw [if_pos q1]
    rw [q1, if_pos rfl, cv]
    exact ⟨rfl, by decide, Or.inl ⟨q2, rfl⟩, fun h => absurd rfl h⟩
  · have cv : cmV μ s c ne le sf nf i = tmV μ c le sf nf d.1 d.2.1 (ptN μ c d) d.2.2 := by
      unfold cmV
      rw [q1, if_neg (nI_nem1 (by omega)), nI_clamp (by omega), getD_some q7]
    obtain ⟨o1, o2⟩ := h.ok d q8
    have g696 : inb (nI k) 696 = true := inb_iff.mpr (by rw [nI_toInt (by omega)]; omega)
    obtain ⟨x1, x2, x3⟩ := term_x (n := n) (p := ptN μ c d) h o2.2.2.1 o2.1 o2.2.1 o2.2.2.2 (by omega)
    obtain ⟨ν'', y1, y2⟩ := term_m (n := n2) (p := ptN μ c d) h' o2.2.2.1 o2.1 o2.2.1 o2.2.2.2 (by omega)
    obtain ⟨w1, w2, w3, w4⟩ := q10
    obtain ⟨v1, v2, v3, v4⟩ := q9
    rw [q1, if_neg (nI_nem1 (by omega)), cv]
    unfold f_Lattice_begin f_Lattice_length f_Lattice_part f_Lattice_entry
    simp only [g696, gd_t, cl_s]
    rw [nI_clamp (by omega), v1, v2, v3, v4, x1, cl_s, x2, cl_s, x3, cl_s]
    refine ⟨rfl, h.tl o2.2.2.1 o2.1 o2.2.1 o2.2.2.2, Or.inr ⟨j, ν'', q5, q2, ?_, y2⟩, fun _ => ⟨k, q3, q4⟩⟩
    rw [w1, w2, w3, w4]
    exact y1
/-! postings -/
def pA (tt : Nat → Nat) (i : Nat) : List (Nat × Nat) := if tt i = 0 then [] else [(tt i, i)]
def pB (tt cc : Nat → Nat) (i : Nat) : List (Nat × Nat) := if cc i = 0 ∨ cc i = tt i then [] else [(cc i, i)]
def psL (tt cc : Nat → Nat) : Nat → List (Nat × Nat)
  | 0 => []
  | i + 1 => psL tt cc i ++ pA tt i ++ pB tt cc i
theorem pA_m {tt : Nat → Nat} {i : Nat} {y : Nat × Nat} (h : y ∈ pA tt i) : y = (tt i, i) ∧ tt i ≠ 0 := by
  unfold pA at h
  by_cases c : tt i = 0
  · rw [if_pos c] at h; cases h
  · rw [if_neg c] at h; exact ⟨List.mem_singleton.mp h, c⟩
theorem pB_m {tt cc : Nat → Nat} {i : Nat} {y : Nat × Nat} (h : y ∈ pB tt cc i) : y = (cc i, i) ∧ cc i ≠ 0 ∧ cc i ≠ tt i := by
  unfold pB at h
  by_cases c : cc i = 0 ∨ cc i = tt i
  · rw [if_pos c] at h; cases h
  · rw [if_neg c] at h; exact ⟨List.mem_singleton.mp h, fun h => c (Or.inl h), fun h => c (Or.inr h)⟩
theorem psL_m {tt cc : Nat → Nat} : ∀ n y, y ∈ psL tt cc n ↔ (y.2 < n ∧ y.1 ≠ 0 ∧ (y.1 = tt y.2 ∨ y.1 = cc y.2)) := by
  intro n
  induction n with
  | zero => intro y; exact ⟨(fun h => by cases h), (fun h => by omega)⟩
  | succ n ih =>
    intro y
    show y ∈ psL tt cc n ++ pA tt n ++ pB tt cc n ↔ _
    rw [List.mem_append, List.mem_append, ih]
    constructor
    · rintro ((⟨a, b, d⟩ | h) | h)
      · exact ⟨by omega, b, d⟩
      · obtain ⟨e1, e2⟩ := pA_m h
        rw [e1]
        exact ⟨by show n < n + 1; omega, e2, Or.inl rfl⟩
      · obtain ⟨e1, e2, e3⟩ := pB_m h
        rw [e1]
        exact ⟨by show n < n + 1; omega, e2, Or.inr rfl⟩
    · rintro ⟨a, b, d⟩
      by_cases c : y.2 < n
      · exact Or.inl (Or.inl ⟨c, b, d⟩)
      · have e : y.2 = n := by omega
        rw [e] at d
        obtain ⟨y1, y2⟩ := y
        have e : y2 = n := e
        have b : y1 ≠ 0 := b
        have d : y1 = tt n ∨ y1 = cc n := d
        subst e
        by_cases c2 : y1 = tt y2
        · refine Or.inl (Or.inr ?_)
          unfold pA
          rw [if_neg (by omega), ← c2]
          exact List.mem_singleton.mpr rfl
        · have d := d.resolve_left c2
          refine Or.inr ?_
          unfold pB
          rw [if_neg (by omega), ← d]
          exact List.mem_singleton.mpr rfl
theorem psL_l {tt cc : Nat → Nat} (h : ∀ i, cc i ≠ 0 → cc (i + 1) = 0) : ∀ n, (psL tt cc n).length ≤ n + (n + 1) / 2 ∧ (n ≠ 0 → cc (n - 1) = 0 → (psL tt cc n).length ≤ n + n / 2) := by
  intro n
  have a1 : ∀ i, (pA tt i).length ≤ 1 := fun i => by
    unfold pA
    by_cases c : tt i = 0
    · rw [if_pos c]; show 0 ≤ 1; omega
    · rw [if_neg c]; show 1 ≤ 1; omega
  have b1 : ∀ i, (pB tt cc i).length ≤ 1 ∧ (cc i = 0 → (pB tt cc i).length = 0) := fun i => by
    unfold pB
    by_cases c : cc i = 0 ∨ cc i = tt i
    · rw [if_pos c]; exact ⟨by show 0 ≤ 1; omega, fun _ => rfl⟩
    · rw [if_neg c]; exact ⟨by show 1 ≤ 1; omega, fun h => absurd (Or.inl h) c⟩
  induction n with
  | zero => exact ⟨by show 0 ≤ _; omega, fun h => absurd rfl h⟩
  | succ n ih =>
    have e : (psL tt cc (n + 1)).length = (psL tt cc n).length + (pA tt n).length + (pB tt cc n).length := by
      show (psL tt cc n ++ pA tt n ++ pB tt cc n).length = _
      rw [List.length_append, List.length_append]
    rw [e]
    have a := a1 n
    have b := b1 n
    by_cases z : cc n = 0
    · have b2 := b.2 z
      have i1 := ih.1
      exact ⟨by omega, fun _ _ => by omega⟩
    · refine ⟨?_, fun _ h2 => absurd h2 (by rw [show n + 1 - 1 = n by omega]; exact z)⟩
      by_cases n0 : n = 0
      · subst n0
        have : (psL tt cc 0).length = 0 := rfl
        omega
      · have z2 : cc (n - 1) = 0 := by
          by_cases q : cc (n - 1) = 0
          · exact q
          · have := h (n - 1) q
            rw [show n - 1 + 1 = n by omega] at this
            exact absurd this z
        have i2 := ih.2 n0 z2
        omega
/-- the reference's postings of document d -/
def PoM (ν : Mem) (d : Nat) (L : List (Nat × Nat)) : Prop := ν.1 35 d = nI L.length ∧ L.length ≤ 36 ∧ ∀ (j : Nat) (x : Nat × Nat), L[j]? = some x → ν.2 33 (36 * d + j) = lN x.1 ∧ ν.1 34 (36 * d + j) = nI x.2 ∧ x.1 < 2 ^ 64 ∧ x.2 < 24
theorem slot36 (d j : Nat) : 36 * nI d + nI j = nI (36 * d + j) := by
  rw [show (36 : Int32) = nI 36 from rfl, pk_mul, nI_add]
theorem posted_l {ν : Mem} {d x : Nat} {L : List (Nat × Nat)} {a4 : Int32} (h : PoM ν d L) (hd : d < 40) (hx : x < 2 ^ 64) : ∀ j q n, q + j = L.length → j < n → ∃ r, f_Mo_posted_3 ν n (nI d) (lN x) a4 (nI q) = some r ∧ (r = true ↔ ∃ (p : Nat) (y : Nat × Nat), q ≤ p ∧ L[p]? = some y ∧ y.1 = x ∧ nI y.2 = a4) := by
  have hl := h.2.1
  intro j
  induction j with
  | zero =>
    intro q n hq hn
    obtain ⟨n, rfl⟩ : ∃ n', n = n' + 1 := ⟨n - 1, by omega⟩
    refine ⟨false, ?_, ⟨fun h => (by cases h), fun ⟨p, y, h1, h2, _⟩ => by have := (List.getElem?_eq_some_iff.mp h2).1; omega⟩⟩
    unfold f_Mo_posted_3
    rw [gd_i (by rw [nI_toInt (by omega)]; omega), nI_clamp (by omega), h.1, if_pos (nI_le (by omega) (by omega))]
  | succ j ih =>
    intro q n hq hn
    obtain ⟨n, rfl⟩ : ∃ n', n = n' + 1 := ⟨n - 1, by omega⟩
    have e : L[q]? = some L[q] := List.getElem?_eq_getElem (by omega)
    obtain ⟨a1, a2, a3, a5⟩ := h.2.2 q _ e
    generalize L[q] = y at *
    obtain ⟨r, r1, r2⟩ := ih (q + 1) n (by omega) (by omega)
    have nx : ¬ (y.1 = x ∧ nI y.2 = a4) → ∃ r, f_Mo_posted_50 (f_Mo_posted_3 ν n) ν n (nI d) (lN x) a4 (nI q) = some r ∧ (r = true ↔ ∃ (p : Nat) (y : Nat × Nat), q ≤ p ∧ L[p]? = some y ∧ y.1 = x ∧ nI y.2 = a4) := by
      intro hne
      refine ⟨r, ?_, r2.trans ⟨?_, ?_⟩⟩
      · unfold f_Mo_posted_50; rw [bd_e, nI_1]; exact r1
      · rintro ⟨p, z, p1, p2, p3⟩; exact ⟨p, z, by omega, p2, p3⟩
      · rintro ⟨p, z, p1, p2, p3⟩
        refine ⟨p, z, ?_, p2, p3⟩
        by_cases c : p = q
        · subst c
          rw [e] at p2
          rw [← Option.some.inj p2] at p3
          exact absurd p3 hne
        · omega
    unfold f_Mo_posted_3
    rw [gd_i (by rw [nI_toInt (by omega)]; omega), nI_clamp (by omega), h.1, if_neg (nI_ge (by omega) (by omega)), slot36, gd_i (by rw [nI_toInt (by omega)]; omega), nI_clamp (by omega), a1]
    have z1 : lg_cmp (lN y.1) (lN x) = 0 ↔ y.1 = x := by rw [lc_0, lN_inj a3 hx]
    by_cases c1 : y.1 = x
    · rw [if_pos (z1.mpr c1), gd_i (by rw [nI_toInt (by omega)]; omega), a2]
      by_cases c2 : nI y.2 = a4
      · rw [if_pos c2]
        exact ⟨true, rfl, ⟨fun _ => ⟨q, y, Nat.le_refl _, e, c1, c2⟩, fun _ => rfl⟩⟩
      · rw [if_neg c2]; exact nx (fun h => c2 h.2)
    · rw [if_neg (fun h => c1 (z1.mp h))]; exact nx (fun h => c1 h.1)
def PoF (ν ν' : Mem) (d : Nat) : Prop := (∀ q, q ≠ 34 → q ≠ 35 → ν'.1 q = ν.1 q) ∧ (∀ q, q ≠ 33 → ν'.2 q = ν.2 q) ∧ (∀ i, i ≠ d → ν'.1 35 i = ν.1 35 i) ∧ (∀ i, i < 36 * d ∨ 36 * d + 36 ≤ i → ν'.1 34 i = ν.1 34 i ∧ ν'.2 33 i = ν.2 33 i)
theorem PoF.rf (ν : Mem) (d : Nat) : PoF ν ν d := ⟨fun _ _ _ => rfl, fun _ _ => rfl, fun _ _ => rfl, fun _ _ => ⟨rfl, rfl⟩⟩
theorem PoF.tr {ν ν1 ν2 : Mem} {d : Nat} (h1 : PoF ν ν1 d) (h2 : PoF ν1 ν2 d) : PoF ν ν2 d := ⟨fun q a b => (h2.1 q a b).trans (h1.1 q a b), fun q a => (h2.2.1 q a).trans (h1.2.1 q a), fun i a => (h2.2.2.1 i a).trans (h1.2.2.1 i a), fun i a => ⟨((h2.2.2.2 i a).1).trans (h1.2.2.2 i a).1, ((h2.2.2.2 i a).2).trans (h1.2.2.2 i a).2⟩⟩
/-- a posting is written unless it is empty or stands there -/
theorem post_m {ν : Mem} {d x i n : Nat} {L : List (Nat × Nat)} (h : PoM ν d L) (hd : d < 40) (hx : x < 2 ^ 64) (hi : i < 24) (hn : 60 < n) (hl : x ≠ 0 → (x, i) ∉ L → L.length < 36) : ∃ ν', f_Mo_post n ν (nI d) (lN x) (nI i) = some ν' ∧ PoM ν' d (if x = 0 ∨ (x, i) ∈ L then L else L ++ [(x, i)]) ∧ PoF ν ν' d := by
  have h36 := h.2.1
  unfold f_Mo_post
  have z0 : lg_cmp (lN x) 0 = 0 ↔ x = 0 := by rw [lc_0, show (0 : Int64) = lN 0 from rfl, lN_inj hx (by decide)]
  by_cases c0 : x = 0
  · rw [if_pos (z0.mpr c0), if_pos (Or.inl c0)]
    exact ⟨ν, rfl, h, PoF.rf ν d⟩
  · rw [if_neg (fun hh => c0 (z0.mp hh))]
    obtain ⟨r, r1, r2⟩ := posted_l (a4 := nI i) h hd hx L.length 0 n (by omega) (by omega)
    rw [nI_0] at r1
    unfold f_Mo_posted
    rw [r1, cl_s]
    have r3 : r = true ↔ (x, i) ∈ L := by
      rw [r2]
      constructor
      · rintro ⟨p, y, _, p2, p3, p4⟩
        have := (h.2.2 p y p2).2.2.2
        have e2 : y.2 = i := (nI_eq (by omega) (by omega)).mp p4
        have : y = (x, i) := Prod.ext p3 e2
        rw [← this]
        exact List.mem_of_getElem? p2
      · intro hm
        obtain ⟨p, p1, p2⟩ := List.getElem_of_mem hm
        exact ⟨p, (x, i), by omega, List.getElem?_eq_some_iff.mpr ⟨p1, p2⟩, rfl, rfl⟩
    by_cases c1 : (x, i) ∈ L
    · have : r = true := r3.mpr c1
      subst this
      rw [if_neg (by decide), if_pos (Or.inr c1)]
      exact ⟨ν, rfl, h, PoF.rf ν d⟩
    · have : r = false := by
        cases r with
        | true => exact absurd (r3.mp rfl) c1
        | false => rfl
      subst this
      have h35 := hl c0 c1
      rw [if_pos (by decide), if_neg (show ¬ (x = 0 ∨ (x, i) ∈ L) from fun hh => hh.elim c0 c1)]
      have g40 : inb (nI d) 40 = true := inb_iff.mpr (by rw [nI_toInt (by omega)]; omega)
      have gS : inb (nI (36 * d + L.length)) 1440 = true := inb_iff.mpr (by rw [nI_toInt (by omega)]; omega)
      have k1 : (wl ν 33 (36 * d + L.length) (lN x)).1 35 d = nI L.length := h.1
      have k2 : (wi (wl ν 33 (36 * d + L.length) (lN x)) 34 (36 * d + L.length) (nI i)).1 35 d = nI L.length := by rw [wi_o (by omega)]; exact h.1
      simp only [g40, gd_t, bd_e]
      rw [nI_clamp (show d < 2 ^ 31 by omega), h.1, slot36]
      simp only [gS, gd_t]
      rw [nI_clamp (show 36 * d + L.length < 2 ^ 31 by omega), k1, slot36]
      simp only [gS, gd_t]
      rw [nI_clamp (show 36 * d + L.length < 2 ^ 31 by omega), k2, nI_1]
      refine ⟨_, rfl, ⟨?_, ?_, ?_⟩, ?_, ?_, ?_, ?_⟩
      · rw [wi_g, if_pos ⟨rfl, rfl⟩, List.length_append]; rfl
      · rw [List.length_append]; show L.length + 1 ≤ 36; omega
      · intro j y hy
        rw [wi_2, wi_2, wl_g, wi_o (by omega), wi_g]
        rcases app1 hy with ⟨h1, h2⟩ | ⟨h1, h2⟩
        · rw [if_neg (by omega), if_neg (by omega)]
          exact h.2.2 j y h2
        · subst h2
          rw [h1, if_pos ⟨rfl, rfl⟩, if_pos ⟨rfl, rfl⟩]
          exact ⟨rfl, rfl, hx, hi⟩
      · intro q q1 q2
        rw [wi_o (by omega), wi_o (by omega), wl_1]
      · intro q q1
        rw [wi_2, wi_2, wl_o q1]
      · intro q q1
        rw [wi_g, if_neg (by omega), wi_o (by omega), wl_1]
      · intro q q1
        rw [wi_o (by omega), wi_g, if_neg (by omega), wl_1, wi_2, wi_2, wl_g, if_neg (by omega)]
        exact ⟨rfl, rfl⟩
