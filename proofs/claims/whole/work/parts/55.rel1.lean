/-! PURE: what the two memories have in common, part by part -/
/-- the draft: size and characters -/
def DrP (sx : Int32) (cx : Nat → Int32) (sm : Int32) (cm : Nat → Int32) (s : Nat) (c : Nat → Nat) : Prop := s ≤ 24 ∧ sx = nI s ∧ sm = nI s ∧ ∀ j, j < s → 1 ≤ c j ∧ c j ≤ 255 ∧ cx j = nI (c j) ∧ cm j = nI (c j)
theorem DrP.clear {sx sm : Int32} {cx cm : Nat → Int32} {s : Nat} {c : Nat → Nat} (_h : DrP sx cx sm cm s c) : DrP 0 cx 0 cm 0 c := ⟨by omega, by rw [nI_0], by rw [nI_0], fun j hj => by omega⟩
theorem DrP.app {μ μ' ν ν' : Mem} {s m t : Nat} {c : Nat → Nat} (h : DrP (μ.1 1 1) (μ.1 2) (ν.1 0 1) (ν.1 1) s c) (hst : s + t ≤ 24) (hne : ∀ i, i < t → ch m i ≠ 0) (hx : Appd 1 1 2 m s 0 t μ μ') (hm : Appd 0 1 1 m s 0 t ν ν') : DrP (μ'.1 1 1) (μ'.1 2) (ν'.1 0 1) (ν'.1 1) (s + t) (fun j => if j < s then c j else ch m (j - s)) := by
  obtain ⟨h1, h2, h3, h4⟩ := h
  refine ⟨hst, hx.1, hm.1, fun j hj => ?_⟩
  rw [hx.2.1 j, hm.2.1 j]
  dsimp only
  by_cases hjs : j < s
  · rw [if_pos hjs, if_neg (by omega), if_neg (by omega)]
    exact h4 j hjs
  · rw [if_neg hjs, if_pos (by omega), if_pos (by omega)]
    have a := hne (j - s) (by omega)
    have b := ch_lt m (j - s)
    exact ⟨by omega, by omega, rfl, rfl⟩
/-- rules, links, mode -/
def GrP (fx px cx lx : Nat → Int32) (hx ox : Int32) (fm pm cm lm : Nat → Int32) (hm om : Int32) : Prop :=
  (∀ k, k < 4 → fx k = fm k ∧ px k = pm k ∧ cx k = cm k ∧ (0 ≤ (fx k).toInt ∧ (fx k).toInt ≤ 19) ∧ (1 ≤ (px k).toInt ∧ (px k).toInt ≤ 7) ∧ (-10000 ≤ (cx k).toInt ∧ (cx k).toInt ≤ 10000)) ∧ (∀ i, i < 64 → lx i = lm i ∧ -10000 ≤ (lx i).toInt ∧ (lx i).toInt ≤ 10000) ∧ hx = hm ∧ (0 ≤ hx.toInt ∧ hx.toInt ≤ 10000) ∧ ox = om ∧ (0 ≤ ox.toInt ∧ ox.toInt ≤ 10000)
theorem GrP.rule {fx px cx lx fm pm cm lm : Nat → Int32} {hx ox hm om a1 a2 a3 a4 : Int32} (h : GrP fx px cx lx hx ox fm pm cm lm hm om) (ok : ruleOK a1 a2 a3 a4) (q : Nat) : GrP (upd fx q a2) (upd px q a3) (upd cx q a4) lx hx ox (upd fm q a2) (upd pm q a3) (upd cm q a4) lm hm om := by
  refine ⟨fun k hk => ?_, h.2⟩
  obtain ⟨h1, h2, h3, h4, h5, h6⟩ := h.1 k hk
  unfold upd
  by_cases e : k = q
  · simp only [e, if_true]
    exact ⟨trivial, trivial, trivial, ok.2.1, ok.2.2.1, ok.2.2.2⟩
  · simp only [e, if_false]
    exact ⟨h1, h2, h3, h4, h5, h6⟩
theorem GrP.link {fx px cx lx fm pm cm lm : Nat → Int32} {hx ox hm om a3 : Int32} (h : GrP fx px cx lx hx ox fm pm cm lm hm om) (ok : -10000 ≤ a3.toInt ∧ a3.toInt ≤ 10000) (q : Nat) : GrP fx px cx (upd lx q a3) hx ox fm pm cm (upd lm q a3) hm om := by
  refine ⟨h.1, fun k hk => ?_, h.2.2⟩
  unfold upd
  by_cases e : k = q
  · simp only [e, if_true]
    exact ⟨trivial, ok.1, ok.2⟩
  · simp only [e, if_false]
    exact h.2.1 k hk
theorem GrP.mode {fx px cx lx fm pm cm lm : Nat → Int32} {hx ox hm om a1 a2 : Int32} (h : GrP fx px cx lx hx ox fm pm cm lm hm om) (ok : modeOK a1 a2) : GrP fx px cx lx a1 a2 fm pm cm lm a1 a2 := ⟨h.1, h.2.1, rfl, ok.1, rfl, ok.2⟩
/-- the filters -/
def FiP (nx : Int32) (kx vx : Nat → Int32) (nm : Int32) (km vm : Nat → Int32) (c : Nat) : Prop := c ≤ 6 ∧ nx = nI c ∧ nm = nI c ∧ ∀ i, i < c → kx i = km i ∧ vx i = vm i ∧ chainOK (kx i) (vx i)
theorem FiP.clear {nx nm : Int32} {kx vx km vm : Nat → Int32} {c : Nat} (_h : FiP nx kx vx nm km vm c) : FiP 0 kx vx 0 km vm 0 := ⟨by omega, by rw [nI_0], by rw [nI_0], fun j hj => by omega⟩
theorem FiP.add {nx nm a1 a2 : Int32} {kx vx km vm : Nat → Int32} {c : Nat} (h : FiP nx kx vx nm km vm c) (hc : c < 6) (ok : chainOK a1 a2) : FiP (nI c + 1) (upd kx c a1) (upd vx c a2) (nI c + 1) (upd km c a1) (upd vm c a2) (c + 1) := by
  refine ⟨by omega, by rw [nI_1], by rw [nI_1], fun i hi => ?_⟩
  unfold upd
  by_cases e : i = c
  · simp only [e, if_true]
    exact ⟨trivial, trivial, ok⟩
  · simp only [e, if_false]
    exact h.2.2.2 i (by omega)
