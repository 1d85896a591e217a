/-! PURE: numbers of the class against whole numbers; what a route reads -/
def iI (z : Int) : Int32 := Int32.ofInt z
theorem iI_t {z : Int} (h1 : -2147483648 ≤ z) (h2 : z < 2147483648) : (iI z).toInt = z := Int32.toInt_ofInt_of_le h1 h2
theorem iI_add (a b : Int) : iI a + iI b = iI (a + b) := (Int32.ofInt_add a b).symm
theorem iI_of (x : Int32) : iI x.toInt = x := Int32.ofInt_toInt x
theorem iI_lt {a b : Int} (a1 : -2147483648 ≤ a) (a2 : a < 2147483648) (b1 : -2147483648 ≤ b) (b2 : b < 2147483648) : iI a < iI b ↔ a < b := by rw [i_lt, iI_t a1 a2, iI_t b1 b2]
theorem iI_le {a b : Int} (a1 : -2147483648 ≤ a) (a2 : a < 2147483648) (b1 : -2147483648 ≤ b) (b2 : b < 2147483648) : iI a ≤ iI b ↔ a ≤ b := by rw [i_le, iI_t a1 a2, iI_t b1 b2]
theorem iI_eq {a b : Int} (a1 : -2147483648 ≤ a) (a2 : a < 2147483648) (b1 : -2147483648 ≤ b) (b2 : b < 2147483648) : iI a = iI b ↔ a = b := by rw [i_eq, iI_t a1 a2, iI_t b1 b2]
theorem iI_9 : (1000000000 : Int32) = iI 1000000000 := by decide
theorem iI_0 : (0 : Int32) = iI 0 := by decide
def cap (z : Int) : Int := if z = 1073741824 then 1000000000 else z
theorem slot (q a : Nat) : nI q * 8 + nI a = nI (8 * q + a) := by
  rw [show (8 : Int32) = nI 8 from rfl, pk_mul, nI_add, Nat.mul_comm]
theorem slot2 (q a : Nat) : 8 * nI q + nI a = nI (8 * q + a) := by
  rw [show (8 : Int32) = nI 8 from rfl, pk_mul, nI_add]
theorem lc_W {w : Nat} (h : w < 2 ^ 62) : lg_cmp (lN w) 0 = 0 ↔ w = 0 := by
  rw [lc_0, show (0 : Int64) = lN 0 from rfl]
  exact pk_lEQ (by omega) (by omega)
/-- what is read by a route: the nodes, the links; chd says whether charges are taken -/
def GmX (μ : Mem) (G : Lt) (s : Nat) (chd : Int32) : Prop :=
  μ.1 1 1 = nI s ∧ μ.1 18 9 = nI G.m ∧ G.m ≤ 696 ∧ (∀ k, k < G.m → μ.1 19 k = nI (G.b k) ∧ μ.1 20 k = nI (G.l k) ∧ μ.1 21 k = nI (G.p k) ∧ (if chd = 0 then μ.1 22 k else μ.1 22 k + μ.1 23 k) = iI (G.pr k)) ∧ ∀ a p, a < 8 → p < 8 → μ.1 14 (8 * a + p) = iI (G.lk a p)
theorem GmX.mv {μ μ' : Mem} {G : Lt} {s : Nat} {chd : Int32} (h : GmX μ G s chd) (hf : ∀ q, q < 25 → μ'.1 q = μ.1 q) : GmX μ' G s chd := by
  unfold GmX
  rw [hf 1 (by omega), hf 18 (by omega), hf 19 (by omega), hf 20 (by omega), hf 21 (by omega), hf 22 (by omega), hf 23 (by omega), hf 14 (by omega)]
  exact h
theorem GmX.link {μ : Mem} {G : Lt} {s : Nat} {chd : Int32} (h : GmX μ G s chd) {a p : Nat} (ha : a < 8) (hp : p < 8) (n : Nat) : f_Grammar_linkPrice n μ (nI a) (nI p) = some (iI (G.lk a p)) := by
  unfold f_Grammar_linkPrice
  rw [slot, gd_i (by rw [nI_toInt (by omega)]; omega), nI_clamp (by omega), h.2.2.2.2 a p ha hp]
theorem GmX.bg {μ : Mem} {G : Lt} {s : Nat} {chd : Int32} (h : GmX μ G s chd) {k : Nat} (hk : k < G.m) (n : Nat) : f_Lattice_begin n μ (nI k) = some (nI (G.b k)) := by
  have hm := h.2.2.1
  unfold f_Lattice_begin
  rw [gd_i (by rw [nI_toInt (by omega)]; omega), nI_clamp (by omega), (h.2.2.2.1 k hk).1]
theorem GmX.pt {μ : Mem} {G : Lt} {s : Nat} {chd : Int32} (h : GmX μ G s chd) {k : Nat} (hk : k < G.m) (n : Nat) : f_Lattice_part n μ (nI k) = some (nI (G.p k)) := by
  have hm := h.2.2.1
  unfold f_Lattice_part
  rw [gd_i (by rw [nI_toInt (by omega)]; omega), nI_clamp (by omega), (h.2.2.2.1 k hk).2.2.1]
theorem GmX.nd {μ : Mem} {G : Lt} {s : Nat} {chd : Int32} (h : GmX μ G s chd) {k : Nat} (hk : k < G.m) (n : Nat) : f_Lattice_end n μ (nI k) = some (nI (G.b k + G.l k)) := by
  have hm := h.2.2.1
  unfold f_Lattice_end
  rw [gd_i (by rw [nI_toInt (by omega)]; omega), gd_i (by rw [nI_toInt (by omega)]; omega), nI_clamp (by omega), (h.2.2.2.1 k hk).1, (h.2.2.2.1 k hk).2.1, nI_add]
theorem GmX.pr {μ : Mem} {G : Lt} {s : Nat} {chd : Int32} (h : GmX μ G s chd) {k : Nat} (hk : k < G.m) (n : Nat) : f_Lattice_price n μ (nI k) chd = some (iI (G.pr k)) := by
  have hm := h.2.2.1
  have h1 := (h.2.2.2.1 k hk).2.2.2
  unfold f_Lattice_price
  by_cases c : chd = 0
  · rw [if_pos c] at h1 ⊢
    rw [gd_i (by rw [nI_toInt (by omega)]; omega), nI_clamp (by omega), h1]
  · rw [if_neg c] at h1 ⊢
    rw [gd_i (by rw [nI_toInt (by omega)]; omega), gd_i (by rw [nI_toInt (by omega)]; omega), nI_clamp (by omega), h1]
theorem gI_b {G : Lt} {s : Nat} (hG : LtOK G s) {D : Nat → Int} (hD : Bnd D) {b p a : Nat} (ha : a < 8) (hp : p < 8) (hb : b ≤ 24) : gI G D b p a = 1073741824 ∨ (-2170000 ≤ gI G D b p a ∧ gI G D b p a ≤ 2170000) := by
  unfold gI
  have hk := hG.lkb a p ha hp
  have hd := hD (8 * b + a)
  rw [show (8 * b + a) / 8 = b by omega] at hd
  by_cases z : D (8 * b + a) = 1073741824
  · rw [if_pos z]; exact Or.inl rfl
  · rw [if_neg z]
    have := hd.resolve_left z
    exact Or.inr ⟨by omega, by omega⟩
theorem mnI_b {G : Lt} {s : Nat} (hG : LtOK G s) {D : Nat → Int} (hD : Bnd D) {b p : Nat} (hp : p < 8) (hb : b ≤ 24) {j : Nat} (hj : j ≤ 8) : mn (gI G D b p) j = 1073741824 ∨ (-2170000 ≤ mn (gI G D b p) j ∧ mn (gI G D b p) j ≤ 2170000) := by
  rcases mn_ex (f := gI G D b p) j with h | ⟨a, h1, h2⟩
  · exact Or.inl h
  · rw [h2]; exact gI_b hG hD (by omega) hp hb
/-- the first index from i on, within j, where P holds; else i + j -/
def fsF (P : Nat → Bool) : Nat → Nat → Nat
  | 0, i => i
  | j + 1, i => if P i = true then i else fsF P j (i + 1)
theorem fsF_r {P : Nat → Bool} : ∀ j i, i ≤ fsF P j i ∧ fsF P j i ≤ i + j ∧ (fsF P j i < i + j → P (fsF P j i) = true) ∧ (∀ q, i ≤ q → q < fsF P j i → P q = false) := by
  intro j
  induction j with
  | zero => intro i; exact ⟨Nat.le_refl _, Nat.le_refl _, fun h => absurd h (by show ¬ i < i + 0; omega), fun q h1 h2 => absurd h2 (by show ¬ q < i; omega)⟩
  | succ j ih =>
    intro i
    have e0 : fsF P (j + 1) i = if P i = true then i else fsF P j (i + 1) := rfl
    by_cases c : P i = true
    · rw [e0, if_pos c]
      exact ⟨Nat.le_refl _, by omega, fun _ => c, fun q h1 h2 => by omega⟩
    · rw [e0, if_neg c]
      obtain ⟨h1, h2, h3, h4⟩ := ih (i + 1)
      refine ⟨by omega, by omega, fun h => h3 (by omega), fun q q1 q2 => ?_⟩
      by_cases e : q = i
      · subst e; exact Bool.eq_false_iff.mpr c
      · exact h4 q (by omega) q2
theorem fsF_u {P : Nat → Bool} {j i k : Nat} (h1 : i ≤ k) (h2 : k < i + j) (h3 : P k = true) (h4 : ∀ q, i ≤ q → q < k → P q = false) : fsF P j i = k := by
  obtain ⟨a1, a2, a3, a4⟩ := fsF_r (P := P) j i
  by_cases e : fsF P j i < k
  · have := h4 _ a1 e
    rw [a3 (by omega)] at this; cases this
  · by_cases e2 : k < fsF P j i
    · have := a4 k h1 e2
      rw [h3] at this; cases this
    · omega
/-- the node that ends at e and goes on to part p by least cost -/
def lsP (G : Lt) (e p : Nat) (k : Nat) : Bool := decide (G.b k + G.l k = e ∧ ¬ up G k = 1073741824 ∧ up G k + G.lk (G.p k) p = into G (Dk G G.m) e p)
def lsI (G : Lt) (e p : Nat) : Nat := fsF (lsP G e p) G.m 0
theorem lsI_lt {G : Lt} {s : Nat} (hG : LtOK G s) {e p : Nat} (he : e ≤ s) (h0 : e ≠ 0) (hp : p < 8) (h : into G (Dk G G.m) e p ≠ 1073741824) : lsI G e p < G.m ∧ G.b (lsI G e p) + G.l (lsI G e p) = e ∧ G.p (lsI G e p) < 8 ∧ into G (Dk G G.m) (G.b (lsI G e p)) (G.p (lsI G e p)) ≠ 1073741824 ∧ up G (lsI G e p) + G.lk (G.p (lsI G e p)) p = into G (Dk G G.m) e p := by
  have hs := hG.hs
  have key : ∃ k, k < G.m ∧ lsP G e p k = true := by
    rcases mn_ex (f := gI G (Dk G G.m) e p) 8 with h1 | ⟨a, h1, h2⟩
    · exact absurd h1 h
    · have e1 : into G (Dk G G.m) e p = gI G (Dk G G.m) e p a := h2
      by_cases z : Dk G G.m (8 * e + a) = 1073741824
      · rw [e1] at h
        unfold gI at h
        rw [if_pos z] at h
        exact absurd rfl h
      · obtain ⟨i, i1, i2, i3⟩ := Dk_ex G.m (8 * e + a) (by omega) z
        have hp2 := (hG.fit i i1).2.2
        have t1 : 8 * (G.b i + G.l i) + G.p i = 8 * e + a := i2
        refine ⟨i, i1, ?_⟩
        unfold lsP
        rw [decide_eq_true_eq]
        refine ⟨by omega, by rw [i3]; exact z, ?_⟩
        rw [e1, i3]
        unfold gI
        rw [if_neg z, show G.p i = a by omega]
  obtain ⟨k, k1, k2⟩ := key
  obtain ⟨a1, a2, a3, a4⟩ := fsF_r (P := lsP G e p) G.m 0
  have lt : lsI G e p < G.m := by
    unfold lsI
    by_cases c : fsF (lsP G e p) G.m 0 < G.m
    · exact c
    · have := a4 k (by omega) (by omega)
      rw [k2] at this; cases this
  have hh := a3 (by unfold lsI at lt; omega)
  change lsP G e p (lsI G e p) = true at hh
  unfold lsP at hh
  rw [decide_eq_true_eq] at hh
  obtain ⟨q1, q2, q3⟩ := hh
  refine ⟨lt, q1, (hG.fit _ lt).2.2, ?_, q3⟩
  intro z
  rw [up_fin hG lt, z] at q2
  exact q2 (by unfold upv; rw [if_pos rfl])
/-- the nodes from the end on, the last one first -/
def trc (G : Lt) : Nat → Nat → Nat → List Nat
  | 0, _, _ => []
  | f + 1, e, p => if e = 0 then [] else lsI G e p :: trc G f (G.b (lsI G e p)) (G.p (lsI G e p))
theorem into_end {G : Lt} {s : Nat} (hG : LtOK G s) : into G (Dk G G.m) s 0 ≠ 1073741824 := by
  have hs := hG.hs
  obtain ⟨a, a1, a2⟩ := Dk_end0 hG
  exact into_ne hG (Nat.le_refl _) a1 (by omega) hs a2
theorem wi_o {μ : Mem} {k j q : Nat} {v : Int32} (h : q ≠ k) : (wi μ k j v).1 q = μ.1 q := if_neg h
theorem wl_o {μ : Mem} {k j q : Nat} {v : Int64} (h : q ≠ k) : (wl μ k j v).2 q = μ.2 q := if_neg h
