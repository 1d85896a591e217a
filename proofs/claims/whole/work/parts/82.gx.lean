/-! PURE: the nodes of the draft as a row of least costs, both sides -/
def nd0 : Nd := (0, 0, 0)
def ndG (L : List Nd) (pt : Nd → Nat) (pr : Nd → Int) (lk : Nat → Nat → Int) : Lt := (L.length, fun k => (L.getD k nd0).1, fun k => (L.getD k nd0).2.1, fun k => pt (L.getD k nd0), fun k => pr (L.getD k nd0), lk)
theorem getD_some {α : Type} {L : List α} {k : Nat} {d x : α} (h : L[k]? = some x) : L.getD k d = x := by rw [List.getD_eq_getElem?_getD, h]; rfl
theorem get_ex {α : Type} {L : List α} {k : Nat} (h : k < L.length) : ∃ x, L[k]? = some x ∧ x ∈ L := ⟨L[k], List.getElem?_eq_getElem h, List.getElem_mem h⟩
theorem cnt_countP {α : Type} {P : α → Bool} {d : α} : ∀ (L : List α), cnt (fun i => P (L.getD i d)) L.length = L.countP P := by
  intro L
  have key : ∀ n, n ≤ L.length → cnt (fun i => P (L.getD i d)) n = (L.take n).countP P := by
    intro n
    induction n with
    | zero => intro _; rw [List.take_zero]; rfl
    | succ n ih =>
      intro hn
      show cnt (fun i => P (L.getD i d)) n + (if P (L.getD n d) = true then 1 else 0) = _
      rw [ih (by omega), List.take_succ, List.getElem?_eq_getElem (show n < L.length by omega), List.countP_append]
      rw [getD_some (List.getElem?_eq_getElem (show n < L.length by omega))]
      show _ = _ + [L[n]].countP P
      rw [List.countP_singleton]
  have := key L.length (Nat.le_refl _)
  rw [List.take_length] at this
  exact this
theorem pw_get {α : Type} {R : α → α → Prop} {L : List α} (h : L.Pairwise R) {i j : Nat} {x y : α} (hi : L[i]? = some x) (hj : L[j]? = some y) (hij : i < j) : R x y := by
  obtain ⟨hj1, hj2⟩ := List.getElem?_eq_some_iff.mp hj
  obtain ⟨hi1, hi2⟩ := List.getElem?_eq_some_iff.mp hi
  rw [← hi2, ← hj2]
  exact List.pairwise_iff_getElem.mp h i j hi1 hj1 hij
theorem ndG_ok {L : List Nd} {pt : Nd → Nat} {pr : Nd → Int} {lk : Nat → Nat → Int} {s ne : Nat} (hs : s ≤ 24) (hok : ∀ d, d ∈ L → ndOK s ne d) (hpt : ∀ d, d ∈ L → pt d < 8) (hpr : ∀ d, d ∈ L → -70000 ≤ pr d ∧ pr d ≤ 70000) (hlk : ∀ a p, a < 8 → p < 8 → -10000 ≤ lk a p ∧ lk a p ≤ 10000) (hpw : L.Pairwise ndR) (he : ∀ q, q < s → ∃ d, d ∈ L ∧ d.1 = q) : LtOK (ndG L pt pr lk) s := by
  refine ⟨hs, ?_, ?_, hlk, ?_, ?_⟩
  · intro k hk
    obtain ⟨x, h1, h2⟩ := get_ex (L := L) hk
    have o := hok x h2
    show (L.getD k nd0).1 + (L.getD k nd0).2.1 ≤ s ∧ 1 ≤ (L.getD k nd0).2.1 ∧ pt (L.getD k nd0) < 8
    rw [getD_some h1]
    exact ⟨o.2.2.1, o.1, hpt x h2⟩
  · intro k hk
    obtain ⟨x, h1, h2⟩ := get_ex (L := L) hk
    show -70000 ≤ pr (L.getD k nd0) ∧ pr (L.getD k nd0) ≤ 70000
    rw [getD_some h1]
    exact hpr x h2
  · intro i j hij hj
    show (L.getD i nd0).1 ≤ (L.getD j nd0).1
    by_cases e : i = j
    · rw [e]; exact Nat.le_refl _
    · obtain ⟨x, h1, h2⟩ := get_ex (L := L) (show i < L.length from Nat.lt_of_le_of_lt hij hj)
      obtain ⟨y, h3, h4⟩ := get_ex (L := L) hj
      rw [getD_some h1, getD_some h3]
      have := pw_get hpw h1 h3 (by omega)
      unfold ndR at this
      omega
  · intro q hq
    obtain ⟨d, h1, h2⟩ := he q hq
    obtain ⟨k, hk, h3⟩ := List.getElem_of_mem h1
    refine ⟨k, hk, ?_⟩
    show (L.getD k nd0).1 = q
    rw [getD_some (List.getElem?_eq_some_iff.mpr ⟨hk, h3⟩), h2]
theorem ndG_4 {L : List Nd} {pt : Nd → Nat} {pr : Nd → Int} {lk : Nat → Nat → Int} (h : ∀ b l, L.countP (isBL b l) ≤ 4) (b l : Nat) : cnt (BL (ndG L pt pr lk) b l) (ndG L pt pr lk).m ≤ 4 := by
  have e := cnt_countP (P := isBL b l) (d := nd0) L
  have := h b l
  have e2 : cnt (BL (ndG L pt pr lk) b l) L.length = cnt (fun i => isBL b l (L.getD i nd0)) L.length := cnt_eq _ (fun _ _ => rfl)
  show cnt (BL (ndG L pt pr lk) b l) L.length ≤ 4
  omega
theorem ndG_en {L : List Nd} {pt : Nd → Nat} {pr : Nd → Int} {lk : Nat → Nat → Int} (hpw : L.Pairwise ndR) : ∀ i j, i < j → j < (ndG L pt pr lk).m → (ndG L pt pr lk).b i = (ndG L pt pr lk).b j → (L.getD i nd0).2.2 ≤ (L.getD j nd0).2.2 := by
  intro i j hij hj he
  have he : (L.getD i nd0).1 = (L.getD j nd0).1 := he
  obtain ⟨x, h1, h2⟩ := get_ex (L := L) (show i < L.length from Nat.lt_trans hij hj)
  obtain ⟨y, h3, h4⟩ := get_ex (L := L) hj
  rw [getD_some h1, getD_some h3] at he ⊢
  have := pw_get hpw h1 h3 hij
  unfold ndR at this
  omega
def ptN (μ : Mem) (c : Nat → Nat) (d : Nd) : Nat := (ptX μ c d).toInt.toNat
def prN (μ : Mem) (c : Nat → Nat) (chd : Bool) (d : Nd) : Int := (ctX μ c d).toInt + (if chd = true then (crX μ c d).toInt else 0)
def lkN (μ : Mem) (a p : Nat) : Int := (μ.1 14 (8 * a + p)).toInt
def flN (μ : Mem) (k : Nat) : Nat := (μ.1 11 k).toInt.toNat
def LX (μ : Mem) (s : Nat) (c : Nat → Nat) (ne : Nat) (le : Nat → Nat) (sf : Nat → Nat → Nat) : List Nd := ndL s c ne le sf (flN μ) s
def GX (μ : Mem) (s : Nat) (c : Nat → Nat) (ne : Nat) (le : Nat → Nat) (sf : Nat → Nat → Nat) (chd : Bool) : Lt := ndG (LX μ s c ne le sf) (ptN μ c) (prN μ c chd) (lkN μ)
/-- the two sides' draft, grammar, filters, dictionary -/
def AJ (μ ν : Mem) (s : Nat) (c : Nat → Nat) (ne : Nat) (le : Nat → Nat) (sf : Nat → Nat → Nat) (nf : Nat) : Prop :=
  DrP (μ.1 1 1) (μ.1 2) (ν.1 0 1) (ν.1 1) s c ∧ GrP (μ.1 11) (μ.1 12) (μ.1 13) (μ.1 14) (μ.1 10 4) (μ.1 10 5) (ν.1 8) (ν.1 9) (ν.1 10) (ν.1 11) (ν.1 0 13) (ν.1 0 14) ∧ LxP μ ν ne le sf ∧ FiP (μ.1 15 2) (μ.1 16) (μ.1 17) (ν.1 0 17) (ν.1 12) (ν.1 13) nf
theorem AJ.hc {μ ν : Mem} {s ne nf : Nat} {c le : Nat → Nat} {sf : Nat → Nat → Nat} (h : AJ μ ν s c ne le sf nf) : ∀ j, j < s → 1 ≤ c j ∧ c j ≤ 255 := fun j hj => ⟨(h.1.2.2.2 j hj).1, (h.1.2.2.2 j hj).2.1⟩
theorem AJ.dx {μ ν : Mem} {s ne nf : Nat} {c le : Nat → Nat} {sf : Nat → Nat → Nat} (h : AJ μ ν s c ne le sf nf) : ∀ j, j < s → c j ≤ 255 ∧ μ.1 2 j = nI (c j) := fun j hj => ⟨(h.1.2.2.2 j hj).2.1, (h.1.2.2.2 j hj).2.2.1⟩
theorem AJ.dm {μ ν : Mem} {s ne nf : Nat} {c le : Nat → Nat} {sf : Nat → Nat → Nat} (h : AJ μ ν s c ne le sf nf) : ∀ j, j < s → c j ≤ 255 ∧ ν.1 1 j = nI (c j) := fun j hj => ⟨(h.1.2.2.2 j hj).2.1, (h.1.2.2.2 j hj).2.2.2⟩
theorem AJ.fl {μ ν : Mem} {s ne nf : Nat} {c le : Nat → Nat} {sf : Nat → Nat → Nat} (h : AJ μ ν s c ne le sf nf) : ∀ k, k < 4 → flN μ k ≤ 19 ∧ μ.1 11 k = nI (flN μ k) ∧ ν.1 8 k = nI (flN μ k) := by
  intro k hk
  obtain ⟨h1, h2, h3, h4, h5, h6⟩ := h.2.1.1 k hk
  have e : μ.1 11 k = nI (flN μ k) := by
    rw [i_eq]
    unfold flN
    rw [nI_toInt (by omega)]
    omega
  refine ⟨by unfold flN; omega, e, h1.symm.trans e⟩
theorem AJ.ok {μ ν : Mem} {s ne nf : Nat} {c le : Nat → Nat} {sf : Nat → Nat → Nat} (h : AJ μ ν s c ne le sf nf) : ∀ d, d ∈ LX μ s c ne le sf → d.1 < s ∧ ndOK s ne d := ndL_mem h.2.2.1 s (Nat.le_refl _)
theorem AJ.len {μ ν : Mem} {s ne nf : Nat} {c le : Nat → Nat} {sf : Nat → Nat → Nat} (h : AJ μ ν s c ne le sf nf) : (LX μ s c ne le sf).length ≤ 696 := by
  have := ndL_29 (s := s) (c := c) (fl := flN μ) h.2.2.1 (fun k hk => (h.fl k hk).1) (fun j hj => (h.hc j hj).2) s (Nat.le_refl _)
  have hs := h.1.1
  unfold LX
  omega
theorem AJ.pt {μ ν : Mem} {s ne nf : Nat} {c le : Nat → Nat} {sf : Nat → Nat → Nat} (h : AJ μ ν s c ne le sf nf) {d : Nd} (hd : d ∈ LX μ s c ne le sf) : ptX μ c d = ptM ν c d ∧ (1 ≤ (ptX μ c d).toInt ∧ (ptX μ c d).toInt ≤ 7) ∧ ctX μ c d = ctM ν c d ∧ (-10000 ≤ (ctX μ c d).toInt ∧ (ctX μ c d).toInt ≤ 10000) := by
  obtain ⟨h1, h2⟩ := h.ok d hd
  have hcc := h.hc d.1 h1
  unfold ptX ptM ctX ctM
  by_cases e : d.2.2 = 40
  · rw [if_pos e, if_pos e, if_pos e, if_pos e]
    obtain ⟨a1, a2, a3, a4, a5, a6⟩ := h.2.1.1 (c d.1 / 64) (by omega)
    exact ⟨a2, a5, a3, a6⟩
  · rw [if_neg e, if_neg e, if_neg e, if_neg e]
    obtain ⟨a1, a2, a3, a4⟩ := h.2.2.1.2.2.1 d.2.2 (h2.2.2.2.resolve_right e)
    exact ⟨a1.1, a1.2, a2.1, a2.2⟩
theorem mulI {x : Int32} {k : Nat} (hx : 0 ≤ x.toInt ∧ x.toInt ≤ 10000) (hk : k ≤ 8) : (x * nI k).toInt = x.toInt * k := by
  obtain ⟨j, hj, e⟩ : ∃ j : Nat, j ≤ 10000 ∧ x = nI j := ⟨x.toInt.toNat, by omega, by rw [i_eq, nI_toInt (by omega)]; omega⟩
  subst e
  have hb : j * k ≤ 10000 * 8 := Nat.mul_le_mul hj hk
  rw [pk_mul, nI_toInt (by omega), nI_toInt (by omega)]
  exact Int.natCast_mul j k
theorem chg_b {ha ot : Int32} {c : Nat → Nat} {b l : Nat} (h1 : 0 ≤ ha.toInt ∧ ha.toInt ≤ 10000) (h2 : 0 ≤ ot.toInt ∧ ot.toInt ≤ 10000) (hl : l ≤ 8) : 0 ≤ (chg ha ot c b l).toInt ∧ (chg ha ot c b l).toInt ≤ 60000 := by
  unfold chg
  by_cases a : allH c b l = true ∧ 2 < l
  · rw [if_pos a, show nI l - 2 = nI (l - 2) from pk_sub (b := 2) (by omega), mulI h1 (by omega)]
    have : ((l - 2 : Nat) : Int) ≤ 6 := by omega
    refine ⟨Int.mul_nonneg h1.1 (by omega), Int.le_trans (Int.mul_le_mul h1.2 this (by omega) (by omega)) (by omega)⟩
  · rw [if_neg a]
    by_cases a2 : 4 < l
    · rw [if_pos a2, show nI l - 4 = nI (l - 4) from pk_sub (b := 4) (by omega), mulI h2 (by omega)]
      have : ((l - 4 : Nat) : Int) ≤ 6 := by omega
      refine ⟨Int.mul_nonneg h2.1 (by omega), Int.le_trans (Int.mul_le_mul h2.2 this (by omega) (by omega)) (by omega)⟩
    · rw [if_neg a2]; exact ⟨by decide, by decide⟩
theorem AJ.cr {μ ν : Mem} {s ne nf : Nat} {c le : Nat → Nat} {sf : Nat → Nat → Nat} (h : AJ μ ν s c ne le sf nf) {d : Nd} (hd : d ∈ LX μ s c ne le sf) : crX μ c d = chE ν c true d ∧ 0 ≤ (crX μ c d).toInt ∧ (crX μ c d).toInt ≤ 60000 := by
  obtain ⟨h1, h2⟩ := h.ok d hd
  obtain ⟨g1, g2, g3, g4, g5, g6⟩ := h.2.1
  have cb := chg_b (c := c) (b := d.1) (l := d.2.1) g4 g6 h2.2.1
  unfold crX chE
  rw [← g3, ← g5]
  have e : (d.2.2 = 40 ∨ μ.1 8 d.2.2 = 0) ↔ (true = true ∧ (d.2.2 = 40 ∨ ν.1 6 d.2.2 = 0)) := by
    by_cases e : d.2.2 = 40
    · simp [e]
    · have := (h.2.2.1.2.2.1 d.2.2 (h2.2.2.2.resolve_right e)).2.2.1.1
      rw [this]; simp
  by_cases q : d.2.2 = 40 ∨ μ.1 8 d.2.2 = 0
  · rw [if_pos q, if_pos (e.mp q)]; exact ⟨rfl, cb⟩
  · rw [if_neg q, if_neg (fun z => q (e.mpr z))]; exact ⟨rfl, by decide, by decide⟩
theorem AJ.lt {μ ν : Mem} {s ne nf : Nat} {c le : Nat → Nat} {sf : Nat → Nat → Nat} (h : AJ μ ν s c ne le sf nf) (chd : Bool) : LtOK (GX μ s c ne le sf chd) s := by
  refine ndG_ok h.1.1 (fun d hd => (h.ok d hd).2) ?_ ?_ ?_ (ndL_pw h.2.2.1 s (Nat.le_refl _)) (fun q hq => ndL_each h.2.2.1 s (Nat.le_refl _) q hq)
  · intro d hd
    have := (h.pt hd).2.1
    unfold ptN
    omega
  · intro d hd
    have h1 := (h.pt hd).2.2.2
    have h2 := (h.cr hd).2
    unfold prN
    cases chd with
    | true => rw [if_pos rfl]; omega
    | false => rw [if_neg (by decide)]; omega
  · intro a p ha hp
    have := (h.2.1.2.1 (8 * a + p) (by omega)).2
    exact this
theorem AJ.h4 {μ ν : Mem} {s ne nf : Nat} {c le : Nat → Nat} {sf : Nat → Nat → Nat} (h : AJ μ ν s c ne le sf nf) (chd : Bool) : ∀ b l, cnt (BL (GX μ s c ne le sf chd) b l) (GX μ s c ne le sf chd).m ≤ 4 := ndG_4 (fun b l => ndL_4 h.2.2.1 s (Nat.le_refl _))
theorem AJ.ei {μ ν : Mem} {s ne nf : Nat} {c le : Nat → Nat} {sf : Nat → Nat → Nat} (h : AJ μ ν s c ne le sf nf) {d : Nd} (hd : d ∈ LX μ s c ne le sf) : ptX μ c d = nI (ptN μ c d) ∧ ctX μ c d = iI (prN μ c false d) ∧ ctX μ c d + crX μ c d = iI (prN μ c true d) := by
  have h1 := (h.pt hd).2.1
  refine ⟨?_, ?_, ?_⟩
  · rw [i_eq]
    unfold ptN
    rw [nI_toInt (by omega)]
    omega
  · unfold prN
    rw [if_neg (by decide), Int.add_zero, iI_of]
  · unfold prN
    rw [if_pos rfl, ← iI_add, iI_of, iI_of]
theorem AJ.gmx {μ ν μ' : Mem} {s ne nf : Nat} {c le : Nat → Nat} {sf : Nat → Nat → Nat} (h : AJ μ ν s c ne le sf nf) (f : LatF μ μ') (ha : ArrX μ' c (LX μ s c ne le sf)) (h23 : ∀ q d, (LX μ s c ne le sf)[q]? = some d → μ'.1 23 q = crX μ c d) (chd : Bool) : GmX μ' (GX μ s c ne le sf chd) s (bz chd) := by
  refine ⟨?_, ha.1, h.len, ?_, ?_⟩
  · rw [f.1 1 (by omega)]; exact h.1.2.1
  · intro k hk
    obtain ⟨x, h1, h2⟩ := get_ex (L := LX μ s c ne le sf) hk
    obtain ⟨a1, a2, a3, a4, a5⟩ := ha.2 k x h1
    obtain ⟨e1, e2, e3⟩ := h.ei h2
    obtain ⟨p1, p2⟩ := f.pt c x
    show μ'.1 19 k = nI ((LX μ s c ne le sf).getD k nd0).1 ∧ μ'.1 20 k = nI ((LX μ s c ne le sf).getD k nd0).2.1 ∧ μ'.1 21 k = nI (ptN μ c ((LX μ s c ne le sf).getD k nd0)) ∧ (if bz chd = 0 then μ'.1 22 k else μ'.1 22 k + μ'.1 23 k) = iI (prN μ c chd ((LX μ s c ne le sf).getD k nd0))
    rw [getD_some h1]
    refine ⟨a1, a2, ?_, ?_⟩
    · rw [a3, p1, e1]
    · cases chd with
      | true => rw [if_neg (by decide), a4, p2, h23 k x h1, e3]
      | false => rw [if_pos (by decide), a4, p2, e2]
  · intro a p _ _
    rw [f.1 14 (by omega)]
    show _ = iI (lkN μ a p)
    unfold lkN
    rw [iI_of]
def enL (μ : Mem) (s : Nat) (c : Nat → Nat) (ne : Nat) (le : Nat → Nat) (sf : Nat → Nat → Nat) (k : Nat) : Nat := ((LX μ s c ne le sf).getD k nd0).2.2
theorem AJ.gmm {μ ν ν' : Mem} {s ne nf : Nat} {c le : Nat → Nat} {sf : Nat → Nat → Nat} (h : AJ μ ν s c ne le sf nf) (f : MatF ν ν') (chd : Bool) (ha : ArrM ν' c chd (LX μ s c ne le sf)) : GmM ν' (GX μ s c ne le sf chd) s (enL μ s c ne le sf) := by
  refine ⟨?_, ha.1, h.len, ?_, ?_⟩
  · rw [f.2.1 1 (by omega)]; exact h.1.2.2.1
  · intro k hk
    obtain ⟨x, h1, h2⟩ := get_ex (L := LX μ s c ne le sf) hk
    obtain ⟨a1, a2, a3, a4, a5⟩ := ha.2 k x h1
    obtain ⟨e1, e2, e3⟩ := h.ei h2
    obtain ⟨p1, p2, p3⟩ := f.pt c chd x
    obtain ⟨t1, t2, t3, t4⟩ := h.pt h2
    have ok := (h.ok x h2).2.2.2.2
    have hne := h.2.2.1.1.1
    show ν'.1 14 k = nI ((LX μ s c ne le sf).getD k nd0).1 ∧ ν'.1 15 k = nI ((LX μ s c ne le sf).getD k nd0).2.1 ∧ ν'.1 16 k = nI (ptN μ c ((LX μ s c ne le sf).getD k nd0)) ∧ ν'.1 17 k = iI (prN μ c chd ((LX μ s c ne le sf).getD k nd0)) ∧ ν'.1 18 k = nI ((LX μ s c ne le sf).getD k nd0).2.2 ∧ ((LX μ s c ne le sf).getD k nd0).2.2 ≤ 40
    rw [getD_some h1]
    refine ⟨a1, a2, ?_, ?_, a4, by omega⟩
    · rw [a3, p1, ← t1, e1]
    · rw [a5, p2, p3, ← t3]
      cases chd with
      | true => rw [← (h.cr h2).1, e3]
      | false =>
        have : chE ν c false x = 0 := by unfold chE; rw [if_neg (fun z => by cases z.1)]
        rw [this, ← e2]
        exact Int32.add_zero _
  · intro a p ha hp
    rw [f.1 11 (by omega) (by omega), ← (h.2.1.2.1 (8 * a + p) (by omega)).1]
    show _ = iI (lkN μ a p)
    unfold lkN
    rw [iI_of]
theorem AJ.hen {μ ν : Mem} {s ne nf : Nat} {c le : Nat → Nat} {sf : Nat → Nat → Nat} (h : AJ μ ν s c ne le sf nf) (chd : Bool) : ∀ i j, i < j → j < (GX μ s c ne le sf chd).m → (GX μ s c ne le sf chd).b i = (GX μ s c ne le sf chd).b j → enL μ s c ne le sf i ≤ enL μ s c ne le sf j := ndG_en (ndL_pw h.2.2.1 s (Nat.le_refl _))
/-- the class's nodes and charges -/
theorem lat_x {μ ν : Mem} {s ne nf n : Nat} {c le : Nat → Nat} {sf : Nat → Nat → Nat} (h : AJ μ ν s c ne le sf nf) (hn : 1000 < n) : ∃ μ', f_Lattice_rebuild n μ = some μ' ∧ ArrX μ' c (LX μ s c ne le sf) ∧ (∀ q d, (LX μ s c ne le sf)[q]? = some d → μ'.1 23 q = crX μ c d) ∧ LatF μ μ' := by
  have hs := h.1.1
  have F0 : LatF μ (wi μ 18 9 0) := ⟨fun q hq => wi_o (by omega), rfl⟩
  have a0 : ArrX (wi μ 18 9 0) c (ndL s c ne le sf (flN μ) 0) := by
    refine ⟨?_, fun i d hd => ?_⟩
    · rw [wi_g, if_pos ⟨rfl, rfl⟩]; exact nI_0.symm
    · have : ndL s c ne le sf (flN μ) 0 = [] := rfl
      rw [this] at hd; cases hd
  obtain ⟨n1, μ1, b0, b1, b2, b3⟩ := nodes_x (ν := ν) (c := c) (s := s) (ne := ne) (le := le) (sf := sf) (fl := flN μ) hs h.hc (fun k hk => (h.fl k hk).1) s 0 n (wi μ 18 9 0) (by omega) (by omega) (h.2.2.1.lat F0) (by rw [wi_g, if_neg (by omega)]; exact h.1.2.1) (fun j hj => by rw [wi_g, if_neg (by omega)]; exact h.dx j hj) (fun k hk => by rw [wi_g, if_neg (by omega)]; exact (h.fl k hk).2.1) a0
  have F1 := F0.tr b3
  obtain ⟨n1, rfl⟩ : ∃ k, n1 = k + 1 := ⟨n1 - 1, by omega⟩
  have hl := h.len
  obtain ⟨μ', c1, c2, c3, c4⟩ := charges_x (c := c) (L := LX μ s c ne le sf) (s := s) (ne := ne) hs h.hc h.2.2.1.1.1 hl (fun d hd => (h.ok d hd).2) (LX μ s c ne le sf).length 0 n1 μ1 (by omega) (by omega) (by rw [F1.1 1 (by omega)]; exact h.1.2.1) (fun j hj => by rw [F1.1 2 (by omega)]; exact h.dx j hj) b2 (fun q d hq _ => by omega)
  refine ⟨μ', ?_, c2, ?_, F1.tr c4⟩
  · unfold f_Lattice_rebuild
    rw [bd_e, show (0 : Int32) = nI 0 from rfl]
    rw [show (nI 0 : Int32) = 0 from rfl] at b1
    show f_Lattice_rebuild_7 n (wi μ 18 9 0) 0 = _
    rw [b1]
    unfold f_Lattice_rebuild_7 f_Draft_size
    rw [cl_s, F1.1 1 (by omega), h.1.2.1, if_pos (nI_le (Nat.le_refl _) (by omega))]
    exact c1
  · intro q d hq
    rw [c3 q d hq]
    unfold crX
    rw [F1.1 8 (by omega), F1.1 10 (by omega)]
/-- the reference's work -/
theorem wk_m {μ ν : Mem} {s ne nf n : Nat} {c le : Nat → Nat} {sf : Nat → Nat → Nat} (h : AJ μ ν s c ne le sf nf) (full : Bool) (hn : 3000 < n) : ∃ ν1 ν', f_Mo_work n ν (bz full) = some ν' ∧ MatF ν ν1 ∧ WmF ν1 ν' ∧ ArrM ν1 c full (LX μ s c ne le sf) ∧ GmM ν' (GX μ s c ne le sf full) s (enL μ s c ne le sf) ∧ RtM ν' (GX μ s c ne le sf full) s := by
  have hs := h.1.1
  have F0 : MatF ν (wi ν 0 23 0) := ⟨fun q h0 hq => wi_o (by omega), fun i hi => by rw [wi_g, if_neg (by omega)], rfl⟩
  have a0 : ArrM (wi ν 0 23 0) c full (ndL s c ne le sf (flN μ) 0) := by
    refine ⟨?_, fun i d hd => ?_⟩
    · rw [wi_g, if_pos ⟨rfl, rfl⟩]; exact nI_0.symm
    · have : ndL s c ne le sf (flN μ) 0 = [] := rfl
      rw [this] at hd; cases hd
  obtain ⟨n1, ν1, b0, b1, b2, b3⟩ := nodes_m (μ := μ) (c := c) (s := s) (ne := ne) (le := le) (sf := sf) (fl := flN μ) (full := full) hs h.hc (fun k hk => (h.fl k hk).1) s 0 n (wi ν 0 23 0) (by omega) (by omega) (h.2.2.1.mat F0) (by rw [wi_g, if_neg (by omega)]; exact h.1.2.2.1) (fun j hj => by rw [wi_g, if_neg (by omega)]; exact h.dm j hj) (fun k hk => by rw [wi_g, if_neg (by omega)]; exact (h.fl k hk).2.2) a0
  have F1 := F0.tr b3
  have hg := h.gmm F1 full b2
  obtain ⟨ν', c1, c2, c3⟩ := work_m (n := n1) (h.lt full) hg (h.hen full) (by omega)
  refine ⟨ν1, ν', ?_, F1, c3, b2, c3.gm hg, c2⟩
  unfold f_Mo_work
  rw [bd_e, ← c1]
  rw [show (nI 0 : Int32) = 0 from rfl] at b1
  exact b1
