/-! PURE: where a query's terms stand in a document, both sides -/
def hsB (tt cc : Nat → Nat) (nt x : Nat) (p : Int) : Bool := decide (0 ≤ p ∧ p < nt ∧ (tt p.toNat = x ∨ cc p.toNat = x))
def ocB (tq : Nat → Nat) (nq F : Nat) (tt cc : Nat → Nat) (nt x5 : Nat) : Bool := decide (∀ i, i < nq → tq i ≠ 0 → hsB tt cc nt (tq i) ((i : Int) + x5 - F) = true)
/-- a document's memory of terms, with the query's terms beside it -/
def DmX (dm : Mem) (nt : Nat) (tt cc : Nat → Nat) (nq : Nat) (tq : Nat → Nat) : Prop := nt ≤ 24 ∧ nq ≤ 24 ∧ (∀ i, i < nt → dm.2 1 i = lN (tt i) ∧ dm.2 2 i = lN (csV tt cc i) ∧ tt i < 2 ^ 64 ∧ cc i < 2 ^ 64) ∧ ∀ i, i < nq → dm.2 3 i = lN (tq i) ∧ tq i < 2 ^ 64
theorem csV_lt {tt cc : Nat → Nat} {i : Nat} (h : cc i < 2 ^ 64) : csV tt cc i < 2 ^ 64 := by
  unfold csV
  by_cases c : cc i = 0 ∨ cc i = tt i
  · rw [if_pos c]; decide
  · rw [if_neg c]; exact h
theorem hasD_x {dm : Mem} {nt nq n x : Nat} {tt cc tq : Nat → Nat} {p : Int} (h : DmX dm nt tt cc nq tq) (hx : x < 2 ^ 64) (x0 : x ≠ 0) (hp : -1000 ≤ p ∧ p ≤ 1000) : f_Document_has n nt dm (lN x) (iI p) = some (hsB tt cc nt x p) := by
  have h24 := h.1
  unfold f_Document_has hsB
  by_cases c1 : p < 0
  · rw [if_pos (by rw [i_lt, iI_t (by omega) (by omega), v_0]; exact c1), decide_eq_false (by omega)]
  · rw [if_neg (by rw [i_lt, iI_t (by omega) (by omega), v_0]; exact c1)]
    obtain ⟨j, rfl⟩ : ∃ j : Nat, p = (j : Int) := ⟨p.toNat, by omega⟩
    rw [iI_nat (by omega)]
    by_cases c2 : j < nt
    · obtain ⟨a1, a2, a3, a4⟩ := h.2.2.1 j c2
      have gj : inb (nI j) nt = true := inb_iff.mpr (by rw [nI_toInt (by omega)]; omega)
      rw [if_pos (show nI j < Int32.ofNat nt from nI_lt c2 (by omega)), gj, gd_t, nI_clamp (by omega), a1, gd_t, a2]
      unfold f_Document_has_37
      have e : ((j : Int)).toNat = j := by omega
      rw [e]
      by_cases q1 : tt j = x
      · rw [if_pos ((lcN a3 hx).mpr q1), decide_eq_true ⟨by omega, by omega, Or.inl q1⟩]
      · rw [if_neg (fun hh => q1 ((lcN a3 hx).mp hh))]
        have q : csV tt cc j = x ↔ cc j = x := by
          unfold csV
          by_cases q2 : cc j = 0 ∨ cc j = tt j
          · rw [if_pos q2]
            constructor
            · intro hh; exact absurd hh.symm x0
            · intro hh
              rcases q2 with q2 | q2
              · omega
              · omega
          · rw [if_neg q2]
        by_cases q3 : cc j = x
        · rw [if_pos ((lcN (csV_lt a4) hx).mpr (q.mpr q3)), decide_eq_true ⟨by omega, by omega, Or.inr q3⟩]
        · rw [if_neg (fun hh => q3 (q.mp ((lcN (csV_lt a4) hx).mp hh))), decide_eq_false (fun hh => hh.2.2.elim q1 q3)]
    · rw [if_neg (show ¬ nI j < Int32.ofNat nt from nI_nlt (by omega) (by omega)), decide_eq_false (by omega)]
theorem occA_x {dm : Mem} {nt nq x5 F : Nat} {tt cc tq : Nat → Nat} (h : DmX dm nt tt cc nq tq) (h5 : x5 ≤ 24) (hF : F ≤ 24) : ∀ j i n, i + j = nq → j < n → (∀ q, q < i → tq q ≠ 0 → hsB tt cc nt (tq q) ((q : Int) + x5 - F) = true) → f_Document_occursAt_3 nt dm n (iI ((x5 : Int) - F)) (nI nq) (nI i) = some (ocB tq nq F tt cc nt x5) := by
  have hq := h.2.1
  intro j
  induction j with
  | zero =>
    intro i n hi hn hh
    obtain ⟨n, rfl⟩ : ∃ n', n = n' + 1 := ⟨n - 1, by omega⟩
    unfold f_Document_occursAt_3 ocB
    rw [if_pos (nI_le (by omega) (by omega)), decide_eq_true (fun q hq => hh q (by omega))]
  | succ j ih =>
    intro i n hi hn hh
    obtain ⟨n, rfl⟩ : ∃ n', n = n' + 1 := ⟨n - 1, by omega⟩
    obtain ⟨a1, a2⟩ := h.2.2.2 i (by omega)
    have g24 : inb (nI i) 24 = true := inb_iff.mpr (by rw [nI_toInt (by omega)]; omega)
    unfold f_Document_occursAt_3
    rw [if_neg (nI_ge (by omega) (by omega)), g24, gd_t, nI_clamp (by omega), a1, gd_t]
    unfold f_Document_occursAt_35
    rw [bd_e, nI_1]
    by_cases c0 : tq i = 0
    · rw [if_pos ((lcZ a2).mpr c0)]
      exact ih (i + 1) n (by omega) (by omega) (fun q hq1 hq2 => by
        by_cases e : q = i
        · subst e; exact absurd c0 hq2
        · exact hh q (by omega) hq2)
    · rw [if_neg (fun q => c0 ((lcZ a2).mp q)), ← iI_nat (show i < 2 ^ 31 by omega), iI_add, show (i : Int) + ((x5 : Int) - F) = (i : Int) + x5 - F by omega, hasD_x h a2 c0 (by omega), cl_s]
      cases hb : hsB tt cc nt (tq i) ((i : Int) + x5 - F) with
      | true =>
        rw [if_neg (by decide)]
        exact ih (i + 1) n (by omega) (by omega) (fun q hq1 hq2 => by
          by_cases e : q = i
          · subst e; exact hb
          · exact hh q (by omega) hq2)
      | false =>
        rw [if_pos (by decide)]
        unfold ocB
        rw [decide_eq_false (fun q => by have := q i (by omega) c0; rw [hb] at this; cases this)]
theorem occ34_x {dm : Mem} {nt nq F : Nat} {tt cc tq : Nat → Nat} (h : DmX dm nt tt cc nq tq) (hF : F ≤ 24) : ∀ j i n, i + j = nt → j + 40 < n → f_Document_occurrences_34 nt dm n (nI nq) (nI F) (nI (cnt (ocB tq nq F tt cc nt) i)) (nI i) = some (nI (cnt (ocB tq nq F tt cc nt) nt)) := by
  have h24 := h.1
  have hq := h.2.1
  intro j
  induction j with
  | zero =>
    intro i n hi hn
    obtain ⟨n, rfl⟩ : ∃ n', n = n' + 1 := ⟨n - 1, by omega⟩
    unfold f_Document_occurrences_34
    rw [if_pos (show Int32.ofNat nt ≤ nI i from nI_le (by omega) (by omega)), show i = nt by omega]
  | succ j ih =>
    intro i n hi hn
    obtain ⟨n, rfl⟩ : ∃ n', n = n' + 1 := ⟨n - 1, by omega⟩
    have nx := ih (i + 1) n (by omega) (by omega)
    have e1 : cnt (ocB tq nq F tt cc nt) (i + 1) = cnt (ocB tq nq F tt cc nt) i + (if ocB tq nq F tt cc nt i = true then 1 else 0) := rfl
    have oc := occA_x (x5 := i) h (by omega) hF nq 0 n (by omega) (by omega) (fun q hq _ => by omega)
    rw [nI_0] at oc
    unfold f_Document_occurrences_34 f_Document_occursAt
    rw [if_neg (show ¬ Int32.ofNat nt ≤ nI i from nI_ge (by omega) (by omega)), show nI i - nI F = iI ((i : Int) - F) by rw [← iI_nat (show i < 2 ^ 31 by omega), ← iI_nat (show F < 2 ^ 31 by omega), iI_sub], oc, cl_s]
    unfold f_Document_occurrences_60
    rw [bd_e, bd_e, bd_e, nI_1, nI_1]
    cases hb : ocB tq nq F tt cc nt i with
    | true =>
      rw [hb, if_pos rfl] at e1
      rw [if_neg (by decide), ← e1]; exact nx
    | false =>
      have e1 : cnt (ocB tq nq F tt cc nt) (i + 1) = cnt (ocB tq nq F tt cc nt) i := by rw [e1, hb]; simp
      rw [if_pos (by decide), ← e1]; exact nx
/-- the first of the query's terms that is not empty -/
def nzF (tq : Nat → Nat) (i : Nat) : Bool := decide (tq i ≠ 0)
def fsQ (tq : Nat → Nat) (nq : Nat) : Nat := fsF (nzF tq) nq 0
/-- how often the query stands in a document -/
def ocN (tq : Nat → Nat) (nq : Nat) (tt cc : Nat → Nat) (nt : Nat) : Nat := if fsQ tq nq < nq then cnt (ocB tq nq (fsQ tq nq) tt cc nt) nt else 0
theorem occ_x {dm : Mem} {nt nq n : Nat} {tt cc tq : Nat → Nat} (h : DmX dm nt tt cc nq tq) (hn : 200 < n) : f_Document_occurrences n nt dm (nI nq) = some (nI (ocN tq nq tt cc nt)) := by
  have h24 := h.1
  have hq := h.2.1
  have key : ∀ j i n, i + j = nq → j + 100 < n → fsF (nzF tq) j i = fsQ tq nq → f_Document_occurrences_2 nt dm n (nI nq) (nI i) = some (nI (ocN tq nq tt cc nt)) := by
    intro j
    induction j with
    | zero =>
      intro i n hi hn he
      obtain ⟨n, rfl⟩ : ∃ n', n = n' + 1 := ⟨n - 1, by omega⟩
      have he : i = fsQ tq nq := he
      unfold f_Document_occurrences_2 f_Document_occurrences_21 ocN
      rw [if_pos (nI_le (by omega) (by omega)), if_neg (nI_nlt (by omega) (by omega)), if_neg (by omega)]
      rfl
    | succ j ih =>
      intro i n hi hn he
      obtain ⟨n, rfl⟩ : ∃ n', n = n' + 1 := ⟨n - 1, by omega⟩
      obtain ⟨a1, a2⟩ := h.2.2.2 i (by omega)
      have g24 : inb (nI i) 24 = true := inb_iff.mpr (by rw [nI_toInt (by omega)]; omega)
      have e0 : fsF (nzF tq) (j + 1) i = if nzF tq i = true then i else fsF (nzF tq) j (i + 1) := rfl
      unfold f_Document_occurrences_2
      rw [if_neg (nI_ge (by omega) (by omega)), g24, gd_t, nI_clamp (by omega), a1]
      by_cases c0 : tq i = 0
      · have nz : nzF tq i = false := by unfold nzF; rw [decide_eq_false_iff_not]; exact fun q => q c0
        rw [e0, nz, if_neg (by decide)] at he
        rw [if_pos ((lcZ a2).mpr c0), bd_e, nI_1]
        exact ih (i + 1) n (by omega) (by omega) he
      · have nz : nzF tq i = true := by unfold nzF; rw [decide_eq_true_eq]; exact c0
        rw [e0, nz, if_pos rfl] at he
        rw [if_neg (fun q => c0 ((lcZ a2).mp q))]
        unfold f_Document_occurrences_21 ocN
        rw [if_pos (nI_lt (by omega) (by omega)), ← he, if_pos (by omega)]
        have := occ34_x (F := i) h (by omega) nt 0 n (by omega) (by omega)
        exact this
  exact key nq 0 n (by omega) (by omega) rfl
/-! the reference -/
def akL (tq : Nat → Nat) : Nat → List (Nat × Nat)
  | 0 => []
  | i + 1 => akL tq i ++ pA tq i
theorem akL_m {tq : Nat → Nat} : ∀ n y, y ∈ akL tq n ↔ (y.2 < n ∧ y.1 = tq y.2 ∧ y.1 ≠ 0) := by
  intro n
  induction n with
  | zero => intro y; exact ⟨(fun h => by cases h), (fun h => by omega)⟩
  | succ n ih =>
    intro y
    show y ∈ akL tq n ++ pA tq n ↔ _
    rw [List.mem_append, ih]
    constructor
    · rintro (⟨a, b, d⟩ | h)
      · exact ⟨by omega, b, d⟩
      · obtain ⟨e1, e2⟩ := pA_m h
        rw [e1]
        exact ⟨by show n < n + 1; omega, rfl, e2⟩
    · rintro ⟨a, b, d⟩
      by_cases c : y.2 < n
      · exact Or.inl ⟨c, b, d⟩
      · obtain ⟨y1, y2⟩ := y
        have e : y2 = n := by have : y2 < n + 1 := a; have : ¬ y2 < n := c; omega
        subst e
        have b : y1 = tq y2 := b
        refine Or.inr ?_
        unfold pA
        rw [if_neg (show ¬ tq y2 = 0 from by rw [← b]; exact d), ← b]
        exact List.mem_singleton.mpr rfl
theorem akL_l {tq : Nat → Nat} : ∀ n, (akL tq n).length ≤ n := by
  intro n
  induction n with
  | zero => exact Nat.le_refl 0
  | succ n ih =>
    show (akL tq n ++ pA tq n).length ≤ _
    rw [List.length_append]
    have : (pA tq n).length ≤ 1 := by
      unfold pA
      by_cases c : tq n = 0
      · rw [if_pos c]; show 0 ≤ 1; omega
      · rw [if_neg c]; show 1 ≤ 1; omega
    omega
/-- the first one asked for is the first that is not empty -/
theorem akL_0 {tq : Nat → Nat} : ∀ n, (fsQ tq n = n → akL tq n = []) ∧ (fsQ tq n < n → (akL tq n)[0]? = some (tq (fsQ tq n), fsQ tq n)) := by
  intro n
  obtain ⟨r1, r2, r3, r4⟩ := fsF_r (P := nzF tq) n 0
  have f0 : ∀ q, q < fsQ tq n → tq q = 0 := by
    intro q hq
    have := r4 q (by omega) hq
    unfold nzF at this
    rw [decide_eq_false_iff_not] at this
    by_cases e : tq q = 0
    · exact e
    · exact absurd e this
  have z : ∀ m, m ≤ fsQ tq n → akL tq m = [] := by
    intro m
    induction m with
    | zero => intro _; rfl
    | succ m ih =>
      intro hm
      show akL tq m ++ pA tq m = []
      rw [ih (by omega)]
      unfold pA
      rw [if_pos (f0 m (by omega))]
      rfl
  refine ⟨fun h => z n (by omega), fun h => ?_⟩
  have fn : tq (fsQ tq n) ≠ 0 := by
    have := r3 (by have : fsF (nzF tq) n 0 < n := h; omega)
    unfold nzF at this
    rw [decide_eq_true_eq] at this
    exact this
  have g : ∀ j, (akL tq (fsQ tq n + 1 + j))[0]? = some (tq (fsQ tq n), fsQ tq n) := by
    intro j
    induction j with
    | zero =>
      show (akL tq (fsQ tq n) ++ pA tq (fsQ tq n))[0]? = _
      rw [z _ (Nat.le_refl _)]
      unfold pA
      rw [if_neg fn]
      rfl
    | succ j ih =>
      show (akL tq (fsQ tq n + 1 + j) ++ pA tq (fsQ tq n + 1 + j))[0]? = _
      have hl : 0 < (akL tq (fsQ tq n + 1 + j)).length := (List.getElem?_eq_some_iff.mp ih).1
      rw [List.getElem?_append_left hl]
      exact ih
  have := g (n - (fsQ tq n + 1))
  rw [show fsQ tq n + 1 + (n - (fsQ tq n + 1)) = n by omega] at this
  exact this
def AkM (ν : Mem) (A : List (Nat × Nat)) : Prop := ν.1 0 42 = nI A.length ∧ A.length ≤ 24 ∧ ∀ (j : Nat) (x : Nat × Nat), A[j]? = some x → ν.2 31 j = lN x.1 ∧ ν.1 32 j = nI x.2 ∧ x.1 < 2 ^ 64 ∧ x.2 < 24 ∧ x.1 ≠ 0
/-- is x posted for document d at p? -/
theorem pstd_m {ν : Mem} {d x nt n : Nat} {tt cc : Nat → Nat} {p : Int} (h : PoM ν d (psL tt cc nt)) (hd : d < 40) (hx : x < 2 ^ 64) (x0 : x ≠ 0) (hnt : nt ≤ 24) (hp : -1000 ≤ p ∧ p ≤ 1000) (hn : 60 < n) : f_Mo_posted n ν (nI d) (lN x) (iI p) = some (hsB tt cc nt x p) := by
  have h36 := h.2.1
  obtain ⟨r, r1, r2⟩ := posted_l (a4 := iI p) h hd hx (psL tt cc nt).length 0 n (by omega) (by omega)
  rw [nI_0] at r1
  unfold f_Mo_posted
  rw [r1]
  congr 1
  unfold hsB
  rw [Bool.eq_iff_iff, r2, decide_eq_true_eq]
  constructor
  · rintro ⟨q, y, _, q2, q3, q4⟩
    obtain ⟨m1, m2, m3⟩ := (psL_m nt y).mp (List.mem_of_getElem? q2)
    rw [← iI_nat (by omega), iI_eq (by omega) (by omega) (by omega) (by omega)] at q4
    have e : p.toNat = y.2 := by omega
    rw [e]
    refine ⟨by omega, by omega, ?_⟩
    rcases m3 with m3 | m3
    · exact Or.inl (by omega)
    · exact Or.inr (by omega)
  · rintro ⟨q1, q2, q3⟩
    have hm : (x, p.toNat) ∈ psL tt cc nt := by
      rw [psL_m]
      refine ⟨by show p.toNat < nt; omega, x0, ?_⟩
      rcases q3 with q3 | q3
      · exact Or.inl q3.symm
      · exact Or.inr q3.symm
    obtain ⟨j, j1, j2⟩ := List.getElem_of_mem hm
    refine ⟨j, (x, p.toNat), by omega, List.getElem?_eq_some_iff.mpr ⟨j1, j2⟩, rfl, ?_⟩
    show nI p.toNat = iI p
    rw [← iI_nat (by omega)]
    congr 1
    omega
theorem occ_m {ν : Mem} {d nt nq x2 : Nat} {tt cc tq : Nat → Nat} (hA : AkM ν (akL tq nq)) (hP : PoM ν d (psL tt cc nt)) (hd : d < 40) (hnt : nt ≤ 24) (hq : nq ≤ 24) (h2 : x2 < 24) (hF : fsQ tq nq < nq) : ∀ j i n, i + j = (akL tq nq).length → j + 70 < n → (∀ q y, q < i → (akL tq nq)[q]? = some y → hsB tt cc nt y.1 ((y.2 : Int) + x2 - fsQ tq nq) = true) → f_Mo_occurs_2 ν n (nI d) (nI x2) (nI i) = some (ocB tq nq (fsQ tq nq) tt cc nt x2) := by
  have hl := hA.2.1
  have h0 := (akL_0 (tq := tq) nq).2 hF
  have hlen : 0 < (akL tq nq).length := (List.getElem?_eq_some_iff.mp h0).1
  obtain ⟨_, b2, _, _, _⟩ := hA.2.2 0 _ h0
  have b2 : ν.1 32 0 = nI (fsQ tq nq) := b2
  intro j
  induction j with
  | zero =>
    intro i n hi hn hh
    obtain ⟨n, rfl⟩ : ∃ n', n = n' + 1 := ⟨n - 1, by omega⟩
    unfold f_Mo_occurs_2 ocB
    rw [hA.1, if_pos (nI_le (by omega) (by omega)), if_neg (nI_nle hlen (by omega)), decide_eq_true]
    intro i1 h1 h2'
    have hm : (tq i1, i1) ∈ akL tq nq := (akL_m nq _).mpr ⟨h1, rfl, h2'⟩
    obtain ⟨q, q1, q2⟩ := List.getElem_of_mem hm
    exact hh q (tq i1, i1) (by omega) (List.getElem?_eq_some_iff.mpr ⟨q1, q2⟩)
  | succ j ih =>
    intro i n hi hn hh
    obtain ⟨n, rfl⟩ : ∃ n', n = n' + 1 := ⟨n - 1, by omega⟩
    have e : (akL tq nq)[i]? = some (akL tq nq)[i] := List.getElem?_eq_getElem (by omega)
    obtain ⟨a1, a2, a3, a4, a5⟩ := hA.2.2 i _ e
    have am := (akL_m nq _).mp (List.mem_of_getElem? e)
    generalize (akL tq nq)[i] = y at *
    have g24 : inb (nI i) 24 = true := inb_iff.mpr (by rw [nI_toInt (by omega)]; omega)
    have g0 : inb (0 : Int32) 24 = true := by decide
    unfold f_Mo_occurs_2
    rw [hA.1, if_neg (nI_ge (by omega) (by omega))]
    simp only [g24, g0, gd_t, bd_e]
    rw [nI_clamp (by omega), a1, a2, show (0 : Int32).toNatClampNeg = 0 from rfl, b2, nI_add]
    have ev : nI (x2 + y.2) - nI (fsQ tq nq) = iI ((y.2 : Int) + x2 - fsQ tq nq) := by
      rw [← iI_nat (show x2 + y.2 < 2 ^ 31 by omega), ← iI_nat (show fsQ tq nq < 2 ^ 31 by omega), iI_sub]
      congr 1
      omega
    rw [ev, pstd_m hP hd a3 a5 hnt (by omega) (by omega), cl_s]
    cases hb : hsB tt cc nt y.1 ((y.2 : Int) + x2 - fsQ tq nq) with
    | true =>
      rw [if_neg (by decide), nI_1]
      refine ih (i + 1) n (by omega) (by omega) (fun q z hq hz => ?_)
      by_cases c : q = i
      · subst c
        rw [e] at hz
        rw [← Option.some.inj hz]
        exact hb
      · exact hh q z (by omega) hz
    | false =>
      rw [if_pos (by decide)]
      unfold ocB
      rw [decide_eq_false]
      intro q
      have := q y.2 am.1 (by rw [← am.2.1]; exact am.2.2)
      rw [← am.2.1, hb] at this
      cases this
theorem cnt_m {ν : Mem} {d nt nq n : Nat} {tt cc tq : Nat → Nat} (hA : AkM ν (akL tq nq)) (hP : PoM ν d (psL tt cc nt)) (hd : d < 40) (hnt : nt ≤ 24) (hq : nq ≤ 24) (hn : 200 < n) : f_Mo_count n ν (nI d) = some (nI (ocN tq nq tt cc nt)) := by
  have hl := hA.2.1
  have fr := fsF_r (P := nzF tq) nq 0
  by_cases hF : fsQ tq nq < nq
  · have fn : tq (fsQ tq nq) ≠ 0 := by
      have := fr.2.2.1 (by have : fsF (nzF tq) nq 0 < nq := hF; omega)
      unfold nzF at this
      rw [decide_eq_true_eq] at this
      exact this
    have key : ∀ j i n, i + j = 24 → j + 100 < n → f_Mo_count_4 ν n (nI d) (nI (cnt (ocB tq nq (fsQ tq nq) tt cc nt) i)) (nI i) = some (nI (cnt (ocB tq nq (fsQ tq nq) tt cc nt) 24)) := by
      intro j
      induction j with
      | zero =>
        intro i n hi hn
        obtain ⟨n, rfl⟩ : ∃ n', n = n' + 1 := ⟨n - 1, by omega⟩
        have e : i = 24 := by omega
        subst e
        unfold f_Mo_count_4
        rw [if_pos (by decide)]
      | succ j ih =>
        intro i n hi hn
        obtain ⟨n, rfl⟩ : ∃ n', n = n' + 1 := ⟨n - 1, by omega⟩
        have nx := ih (i + 1) n (by omega) (by omega)
        have e1 : cnt (ocB tq nq (fsQ tq nq) tt cc nt) (i + 1) = cnt (ocB tq nq (fsQ tq nq) tt cc nt) i + (if ocB tq nq (fsQ tq nq) tt cc nt i = true then 1 else 0) := rfl
        have oc := occ_m (x2 := i) hA hP hd hnt hq (by omega) hF (akL tq nq).length 0 n (by omega) (by omega) (fun q y hq _ => by omega)
        rw [nI_0] at oc
        unfold f_Mo_count_4 f_Mo_occurs
        rw [if_neg (by rw [show (24 : Int32) = nI 24 from rfl]; exact nI_ge (by omega) (by omega)), oc, cl_s]
        unfold f_Mo_count_25
        rw [bd_e, bd_e, bd_e, bd_e, nI_1]
        cases hb : ocB tq nq (fsQ tq nq) tt cc nt i with
        | true =>
          rw [hb, if_pos rfl] at e1
          rw [if_neg (by decide), show nI (cnt (ocB tq nq (fsQ tq nq) tt cc nt) i) + bz true = nI (cnt (ocB tq nq (fsQ tq nq) tt cc nt) (i + 1)) by rw [e1]; exact nI_1 _]
          exact nx
        | false =>
          have e1 : cnt (ocB tq nq (fsQ tq nq) tt cc nt) (i + 1) = cnt (ocB tq nq (fsQ tq nq) tt cc nt) i := by rw [e1, hb]; simp
          rw [if_pos (by decide), show nI (cnt (ocB tq nq (fsQ tq nq) tt cc nt) i) + bz false = nI (cnt (ocB tq nq (fsQ tq nq) tt cc nt) (i + 1)) by rw [e1]; exact nI_add _ 0]
          exact nx
    have := key 24 0 n (by omega) (by omega)
    unfold f_Mo_count ocN
    rw [if_pos hF]
    rw [cnt_up (c := nt) (p := ocB tq nq (fsQ tq nq) tt cc nt) (fun q hq => ?_) 24 hnt] at this
    · exact this
    · unfold ocB
      rw [decide_eq_false]
      intro hh
      have := hh (fsQ tq nq) hF fn
      unfold hsB at this
      rw [decide_eq_true_eq] at this
      omega
  · have e : fsQ tq nq = nq := by have : fsF (nzF tq) nq 0 ≤ 0 + nq := fr.2.1; have : fsQ tq nq ≤ 0 + nq := this; omega
    have en := (akL_0 (tq := tq) nq).1 e
    have h42 := hA.1
    rw [en] at h42
    have key : ∀ j i n, i + j = 24 → j + 10 < n → f_Mo_count_4 ν n (nI d) 0 (nI i) = some 0 := by
      intro j
      induction j with
      | zero =>
        intro i n hi hn
        obtain ⟨n, rfl⟩ : ∃ n', n = n' + 1 := ⟨n - 1, by omega⟩
        have e : i = 24 := by omega
        subst e
        unfold f_Mo_count_4
        rw [if_pos (by decide)]
      | succ j ih =>
        intro i n hi hn
        obtain ⟨n, rfl⟩ : ∃ n', n = n' + 1 := ⟨n - 1, by omega⟩
        have nx := ih (i + 1) n (by omega) (by omega)
        obtain ⟨m, rfl⟩ : ∃ m, n = m + 1 := ⟨n - 1, by omega⟩
        have oc : f_Mo_occurs (m + 1) ν (nI d) (nI i) = some false := by
          unfold f_Mo_occurs
          show (if (ν.1 0 42) ≤ 0 then (if (ν.1 0 42) ≤ 0 then (some false) else (some true)) else _) = _
          rw [h42, if_pos (by decide), if_pos (by decide)]
        have st : f_Mo_count_4 ν (m + 1 + 1) (nI d) 0 (nI i) = (if (24 : Int32) ≤ nI i then (some 0) else (cl (f_Mo_occurs (m + 1) ν (nI d) (nI i)) (fun v1 => (if (bz v1) = 0 then (f_Mo_count_25 (f_Mo_count_4 ν (m + 1)) ν (m + 1) (nI d) (nI i) 0 false) else (f_Mo_count_25 (f_Mo_count_4 ν (m + 1)) ν (m + 1) (nI d) (nI i) 0 true))))) := rfl
        rw [st, if_neg (by rw [show (24 : Int32) = nI 24 from rfl]; exact nI_ge (by omega) (by omega)), oc, cl_s, if_pos (by decide)]
        unfold f_Mo_count_25
        rw [bd_e, bd_e, nI_1, show (0 : Int32) + bz false = 0 from rfl]
        exact nx
    unfold f_Mo_count ocN
    rw [if_neg hF]
    exact key 24 0 n (by omega) (by omega)
