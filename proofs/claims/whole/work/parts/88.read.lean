/-! PURE: the calls that read the analysis, both sides -/
theorem tkN_mem {G : Lt} {en : Nat → Nat} {ct : Nat → Int32} {k : Nat} {t : Tk} (hl : 1 ≤ G.l k) (h : t ∈ tkN G en ct k) : t.2.2.1 = G.p k ∧ t.2.2.2 = en k ∧ t.2.1 ≤ G.l k := by
  have cg := pcs_cg (ct k) (G.b k) (G.p k) (en k) hl
  obtain ⟨i, hi, e⟩ := List.getElem_of_mem h
  have at' := cgT_at _ _ cg i t (List.getElem?_eq_some_iff.mpr ⟨hi, e⟩)
  unfold tkN at h
  obtain ⟨x, x1, x2⟩ := List.mem_map.mp h
  have e1 : t.2.2.1 = G.p k := by rw [← x2]; rfl
  have e2 : t.2.2.2 = en k := by rw [← x2]; rfl
  exact ⟨e1, e2, by have := at'.1; have := at'.2.2.1; omega⟩
theorem AJ.tm {μ ν : Mem} {s ne nf : Nat} {c le : Nat → Nat} {sf : Nat → Nat → Nat} (h : AJ μ ν s c ne le sf nf) {i : Nat} {t : Tk} (ht : (TX μ s c ne le sf)[i]? = some t) : t.1 + t.2.1 ≤ s ∧ 1 ≤ t.2.1 ∧ t.2.1 ≤ 8 ∧ (t.2.2.2 < ne ∨ t.2.2.2 = 40) ∧ t.2.2.1 < 8 := by
  have at' := cgT_at _ _ h.tx i t ht
  have hm : t ∈ TX μ s c ne le sf := List.mem_of_getElem? ht
  unfold TX acT at hm
  obtain ⟨k, k1, k2⟩ := List.mem_flatMap.mp hm
  rw [List.mem_reverse] at k1
  have k3 : k ∈ PX μ s c ne le sf true := List.mem_of_mem_drop k1
  obtain ⟨j, j1, j2⟩ := List.getElem_of_mem k3
  have km := ((h.path true).2 j k (List.getElem?_eq_some_iff.mpr ⟨j1, j2⟩)).1
  have fit := (h.lt true).fit k km
  have tm := tkN_mem fit.2.1 k2
  have en := (h.en km).1
  obtain ⟨x, x1, x2⟩ := get_ex (L := LX μ s c ne le sf) km
  have ok := (h.ok x x2).2
  have e8 : (GX μ s c ne le sf true).l k = x.2.1 := by show ((LX μ s c ne le sf).getD k nd0).2.1 = _; rw [getD_some x1]
  have := ok.2.1
  refine ⟨at'.2.2.1, at'.2.1, by omega, by rw [tm.2.1]; exact en, by rw [tm.1]; exact fit.2.2⟩
theorem path_lt {G : Lt} {s : Nat} (hG : LtOK G s) {P : List Nat} (hP : ∀ (j k : Nat), P[j]? = some k → k < G.m ∧ G.b k = pend G P[j + 1]?) : ∀ (d i k k' : Nat), P[i]? = some k → P[i + d + 1]? = some k' → G.b k' + G.l k' ≤ G.b k := by
  intro d
  induction d with
  | zero =>
    intro i k k' h1 h2
    have := (hP i k h1).2
    rw [show i + 0 + 1 = i + 1 by omega] at h2
    rw [h2] at this
    rw [this]; exact Nat.le_refl _
  | succ d ih =>
    intro i k k' h1 h2
    have hl : i + 1 < P.length := by have := (List.getElem?_eq_some_iff.mp h2).1; omega
    have e : P[i + 1]? = some P[i + 1] := List.getElem?_eq_getElem hl
    have a := ih (i + 1) _ k' e (by rw [show i + 1 + d + 1 = i + (d + 1) + 1 by omega]; exact h2)
    have b := (hP i k h1).2
    rw [e] at b
    have b : G.b k = G.b P[i + 1] + G.l P[i + 1] := b
    omega
/-- two nodes of a route either are one, or lie apart -/
theorem path_ap {G : Lt} {s : Nat} (hG : LtOK G s) {P : List Nat} (hP : ∀ (j k : Nat), P[j]? = some k → k < G.m ∧ G.b k = pend G P[j + 1]?) {k k' : Nat} (h1 : k ∈ P) (h2 : k' ∈ P) : k = k' ∨ G.b k' + G.l k' ≤ G.b k ∨ G.b k + G.l k ≤ G.b k' := by
  obtain ⟨i, i1, i2⟩ := List.getElem_of_mem h1
  obtain ⟨j, j1, j2⟩ := List.getElem_of_mem h2
  have ei : P[i]? = some k := List.getElem?_eq_some_iff.mpr ⟨i1, i2⟩
  have ej : P[j]? = some k' := List.getElem?_eq_some_iff.mpr ⟨j1, j2⟩
  by_cases c : i = j
  · subst c
    rw [ei] at ej
    exact Or.inl (Option.some.inj ej)
  · by_cases c2 : i < j
    · exact Or.inr (Or.inl (path_lt hG hP (j - i - 1) i k k' ei (by rw [show i + (j - i - 1) + 1 = j by omega]; exact ej)))
    · exact Or.inr (Or.inr (path_lt hG hP (i - j - 1) j k' k ej (by rw [show j + (i - j - 1) + 1 = i by omega]; exact ei)))
theorem CmK_one {G : Lt} {s : Nat} (hG : LtOK G s) {P : List Nat} {T : List Tk} {ct : Nat → Int32} (hP : ∀ (j k : Nat), P[j]? = some k → k < G.m ∧ G.b k = pend G P[j + 1]?) {i k k' : Nat} (h1 : k ∈ P) (h2 : k' ∈ P) (a : CmK T G ct i k) (b : CmK T G ct i k') : k = k' := by
  obtain ⟨_, ⟨t, t1, t2⟩, _⟩ := a
  obtain ⟨_, ⟨u, u1, u2⟩, _⟩ := b
  rw [t1] at u1
  rw [← Option.some.inj u1] at u2
  obtain ⟨j, j1, j2⟩ := List.getElem_of_mem h1
  have f1 := (hG.fit k (hP j k (List.getElem?_eq_some_iff.mpr ⟨j1, j2⟩)).1).2.1
  obtain ⟨j', j3, j4⟩ := List.getElem_of_mem h2
  have f2 := (hG.fit k' (hP j' k' (List.getElem?_eq_some_iff.mpr ⟨j3, j4⟩)).1).2.1
  rcases path_ap hG hP h1 h2 with h | h | h
  · exact h
  · omega
  · omega
/-- no two tokens that follow one another both begin a compound -/
theorem CmK_two {G : Lt} {s e : Nat} (hG : LtOK G s) {P : List Nat} {T : List Tk} {ct : Nat → Int32} (hc : cgT 0 e T) (hP : ∀ (j k : Nat), P[j]? = some k → k < G.m ∧ G.b k = pend G P[j + 1]?) {i k k' : Nat} (h1 : k ∈ P) (h2 : k' ∈ P) (a : CmK T G ct i k) (b : CmK T G ct (i + 1) k') : False := by
  obtain ⟨_, ⟨t, t1, t2⟩, j, v, v1, v2, v3⟩ := a
  obtain ⟨_, ⟨u, u1, u2⟩, _⟩ := b
  obtain ⟨j', j3, j4⟩ := List.getElem_of_mem h2
  have f2 := (hG.fit k' (hP j' k' (List.getElem?_eq_some_iff.mpr ⟨j3, j4⟩)).1).2.1
  have x1 := (cgT_at T 0 hc i t t1).2.2.2.2 (i + 1) u (by omega) u1
  have x2 := (cgT_at T 0 hc i t t1).2.1
  have x3 : u.1 + 1 ≤ v.1 + v.2.1 := by
    by_cases q : j = i + 1
    · subst q
      rw [u1] at v2
      rw [← Option.some.inj v2]
      have := (cgT_at T 0 hc (i + 1) u u1).2.1
      omega
    · have y1 := (cgT_at T 0 hc (i + 1) u u1).2.2.2.2 j v (by omega) v2
      have y2 := (cgT_at T 0 hc (i + 1) u u1).2.1
      omega
  rcases path_ap hG hP h1 h2 with h | h | h
  · subst h; omega
  · omega
  · omega
def RJ (μ ν : Mem) (s : Nat) (c : Nat → Nat) (ne : Nat) (le : Nat → Nat) (sf : Nat → Nat → Nat) (nf : Nat) : Prop := AJ μ ν s c ne le sf nf ∧ μ.1 25 2 = 1 ∧ μ.1 30 2 = 0 ∧ (¬ μ.1 0 10 = 0 → AnX μ s c ne le sf)
theorem RJ.an {μ ν : Mem} {s ne nf n : Nat} {c le : Nat → Nat} {sf : Nat → Nat → Nat} (h : RJ μ ν s c ne le sf nf) (hn : 2000 < n) : ∃ μ', f_X_analyse n μ = some μ' ∧ AnX μ' s c ne le sf ∧ AnF μ μ' ∧ RJ μ' ν s c ne le sf nf := by
  obtain ⟨μ', a1, a2, a3, a4⟩ := an_x h.1 h.2.1 h.2.2.1 h.2.2.2 hn
  exact ⟨μ', a1, a2, a3, h.1.mvx a3, a3.2.2.2.1.trans h.2.1, a3.2.2.2.2.trans h.2.2.1, fun _ => a2⟩
theorem AnF.cg {μ μ' : Mem} (f : AnF μ μ') : ∀ q, 5 < q → q < 15 → μ'.1 q = μ.1 q := fun q h1 h2 => f.1 q (by omega) (by omega)
theorem AnF.eq {μ μ' : Mem} (f : AnF μ μ') (s : Nat) (c : Nat → Nat) (ne : Nat) (le : Nat → Nat) (sf : Nat → Nat → Nat) : (∀ chd, GX μ' s c ne le sf chd = GX μ s c ne le sf chd) ∧ TX μ' s c ne le sf = TX μ s c ne le sf ∧ (∀ chd, PX μ' s c ne le sf chd = PX μ s c ne le sf chd) ∧ enL μ' s c ne le sf = enL μ s c ne le sf ∧ ctL μ' s c ne le sf = ctL μ s c ne le sf ∧ LX μ' s c ne le sf = LX μ s c ne le sf := by
  obtain ⟨x1, x2, x3, x4⟩ := AX_cong f.cg s c ne le sf
  have xP : ∀ chd, PX μ' s c ne le sf chd = PX μ s c ne le sf chd := fun chd => by unfold PX; rw [x2]
  exact ⟨x2, by unfold TX; rw [x2, x3, x4, xP], xP, x3, x4, x1⟩
theorem st_cost {μ ν : Mem} {s ne nf : Nat} {c le : Nat → Nat} {sf : Nat → Nat → Nat} (h : RJ μ ν s c ne le sf nf) : ∃ (r : Int32) (μ' ν' : Mem), f_X_cost 3000 μ = some (r, μ') ∧ f_Mo_cost 4000 ν = some (r, ν') ∧ AnF μ μ' ∧ AmF ν ν' ∧ RJ μ' ν s c ne le sf nf := by
  obtain ⟨μ', a1, a2, a3, a4⟩ := h.an (n := 3000) (by omega)
  obtain ⟨ν1, ν', b1, b2, b3, b4, b5, b6⟩ := wk_m (n := 4000) h.1 true (by omega)
  refine ⟨iI (into (GX μ s c ne le sf true) (Dk (GX μ s c ne le sf true) (GX μ s c ne le sf true).m) s 0), μ', ν', ?_, ?_, a3, b2.am.tr b3.am, a4⟩
  · unfold f_X_cost f_RouteB_leastCost
    rw [a1, cl_s, cl_s, a2.2.1.2.1, (a3.eq s c ne le sf).1]
  · unfold f_Mo_cost
    rw [show (1 : Int32) = bz true from rfl, b1, cl_s, total_m (h.1.lt true) b5 b6.1 (by omega), cl_s]
theorem pth_m {G : Lt} {s : Nat} {en : Nat → Nat} {ν : Mem} (hG : LtOK G s) (hg : GmM ν G s en) (h19 : ∀ t, t < 200 → ν.1 19 t = iI (Dk G G.m t)) (h20 : ∀ t, t < 200 → ν.2 20 t = lN (Wk G G.m t)) : ∀ j a n, a + j = 8 → j < n → f_Mo_paths_15 n ν (iI (into G (Dk G G.m) s 0)) (lN (sW (fun a => if gI G (Dk G G.m) s 0 a = into G (Dk G G.m) s 0 ∧ ¬ Dk G G.m (8 * s + a) = 1073741824 then Wk G G.m (8 * s + a) else 0) a)) (nI a) = some (lN (wIn G (Dk G G.m) (Wk G G.m) s 0), ν) := by
  intro j
  have hs := hG.hs
  have DB := Dk_b hG G.m (Nat.le_refl _)
  have ie := into_end hG
  have b1 := (into_b hG DB (show 0 < 8 by omega) hs).resolve_left ie
  have hs24 : (s : Int) ≤ 24 := by omega
  induction j with
  | zero =>
    intro a n ha hn
    obtain ⟨n, rfl⟩ : ∃ n', n = n' + 1 := ⟨n - 1, by omega⟩
    have e : a = 8 := by omega
    subst e
    show (if (8 : Int32) ≤ nI 8 then some (lN (wIn G (Dk G G.m) (Wk G G.m) s 0), ν) else _) = _
    exact if_pos (by decide)
  | succ j ih =>
    intro a n ha hn
    obtain ⟨n, rfl⟩ : ∃ n', n = n' + 1 := ⟨n - 1, by omega⟩
    have nx := ih (a + 1) n (by omega) (by omega)
    have e0 : sW (fun a => if gI G (Dk G G.m) s 0 a = into G (Dk G G.m) s 0 ∧ ¬ Dk G G.m (8 * s + a) = 1073741824 then Wk G G.m (8 * s + a) else 0) (a + 1) = sW (fun a => if gI G (Dk G G.m) s 0 a = into G (Dk G G.m) s 0 ∧ ¬ Dk G G.m (8 * s + a) = 1073741824 then Wk G G.m (8 * s + a) else 0) a + (if gI G (Dk G G.m) s 0 a = into G (Dk G G.m) s 0 ∧ ¬ Dk G G.m (8 * s + a) = 1073741824 then Wk G G.m (8 * s + a) else 0) := rfl
    rw [e0] at nx
    have b2 := gI_b hG DB (b := s) (p := 0) (a := a) (by omega) (by omega) hs
    have b4 := Dk_bb hG (Nat.le_refl G.m) (t := 8 * s + a) (by omega)
    have q2 := big_eq (z := Dk G G.m (8 * s + a)) (by omega)
    unfold f_Mo_paths_15
    rw [if_neg (show ¬ (8 : Int32) ≤ nI a by rw [show (8 : Int32) = nI 8 from rfl]; exact nI_ge (by omega) (by omega)), hg.1, slot2, gd_i (by rw [nI_toInt (by omega)]; omega), nI_clamp (by omega), h19 _ (by omega)]
    by_cases z : Dk G G.m (8 * s + a) = 1073741824
    · rw [if_pos (q2.mpr z)]
      rw [if_neg (show ¬ (gI G (Dk G G.m) s 0 a = into G (Dk G G.m) s 0 ∧ ¬ Dk G G.m (8 * s + a) = 1073741824) from fun h => h.2 z), Nat.add_zero] at nx
      unfold f_Mo_paths_90
      rw [bd_e, nI_1]
      exact nx
    · have g0 : gI G (Dk G G.m) s 0 a = Dk G G.m (8 * s + a) + G.lk a 0 := by unfold gI; rw [if_neg z]
      have lk := hg.2.2.2.2 a 0 (by omega) (by omega)
      have lb := hG.lkb a 0 (by omega) (by omega)
      rw [Nat.add_zero] at lk
      rw [if_neg (fun h => z (q2.mp h)), gd_i (by rw [nI_toInt (by omega)]; omega), show (8 : Int32) * nI a = nI (8 * a) by rw [show (8 : Int32) = nI 8 from rfl, pk_mul], gd_i (by rw [nI_toInt (by omega)]; omega), nI_clamp (by omega), lk, iI_add, ← g0]
      have q := iI_eq (a := gI G (Dk G G.m) s 0 a) (b := into G (Dk G G.m) s 0) (by omega) (by omega) (by omega) (by omega)
      by_cases c : gI G (Dk G G.m) s 0 a = into G (Dk G G.m) s 0
      · rw [if_pos (show gI G (Dk G G.m) s 0 a = into G (Dk G G.m) s 0 ∧ ¬ Dk G G.m (8 * s + a) = 1073741824 from ⟨c, z⟩)] at nx
        rw [if_pos (q.mpr c), gd_i (by rw [nI_toInt (by omega)]; omega), h20 _ (by omega), bd_e, lN_add]
        unfold f_Mo_paths_90
        rw [bd_e, nI_1]
        exact nx
      · rw [if_neg (show ¬ (gI G (Dk G G.m) s 0 a = into G (Dk G G.m) s 0 ∧ ¬ Dk G G.m (8 * s + a) = 1073741824) from fun h => c h.1), Nat.add_zero] at nx
        rw [if_neg (fun h => c (q.mp h))]
        unfold f_Mo_paths_90
        rw [bd_e, nI_1]
        exact nx
theorem st_paths {μ ν : Mem} {s ne nf : Nat} {c le : Nat → Nat} {sf : Nat → Nat → Nat} (h : RJ μ ν s c ne le sf nf) : ∃ (r : Int64) (μ' ν' : Mem), f_X_paths 3000 μ = some (r, μ') ∧ f_Mo_paths 4000 ν = some (r, ν') ∧ AnF μ μ' ∧ AmF ν ν' ∧ RJ μ' ν s c ne le sf nf := by
  obtain ⟨μ', a1, a2, a3, a4⟩ := h.an (n := 3000) (by omega)
  obtain ⟨ν1, ν', b1, b2, b3, b4, b5, b6⟩ := wk_m (n := 4000) h.1 true (by omega)
  refine ⟨lN (wIn (GX μ s c ne le sf true) (Dk (GX μ s c ne le sf true) (GX μ s c ne le sf true).m) (Wk (GX μ s c ne le sf true) (GX μ s c ne le sf true).m) s 0), μ', ν', ?_, ?_, a3, b2.am.tr b3.am, a4⟩
  · unfold f_X_paths f_RouteB_leastCount
    rw [a1, cl_s, cl_s, a2.2.1.2.2.1, (a3.eq s c ne le sf).1]
  · unfold f_Mo_paths
    rw [show (1 : Int32) = bz true from rfl, b1, cl_s, total_m (h.1.lt true) b5 b6.1 (by omega), cl_s]
    exact pth_m (h.1.lt true) b5 b6.1 b6.2.1 8 0 4000 rfl (by omega)
theorem st_nodes {μ ν : Mem} {s ne nf : Nat} {c le : Nat → Nat} {sf : Nat → Nat → Nat} (h : RJ μ ν s c ne le sf nf) : ∃ (r : Int32) (μ' ν' : Mem), f_X_nodes 3000 μ = some (r, μ') ∧ f_Mo_nodes 4000 ν = some (r, ν') ∧ AnF μ μ' ∧ AmF ν ν' ∧ RJ μ' ν s c ne le sf nf := by
  obtain ⟨μ', a1, a2, a3, a4⟩ := h.an (n := 3000) (by omega)
  obtain ⟨ν1, ν', b1, b2, b3, b4, b5, b6⟩ := wk_m (n := 4000) h.1 true (by omega)
  refine ⟨nI (LX μ s c ne le sf).length, μ', ν', ?_, ?_, a3, b2.am.tr b3.am, a4⟩
  · unfold f_X_nodes f_Lattice_count
    rw [a1, cl_s, cl_s, a2.1.1, (a3.eq s c ne le sf).2.2.2.2.2]
  · unfold f_Mo_nodes
    rw [show (1 : Int32) = bz true from rfl, b1, cl_s, b5.2.1]
    rfl
theorem st_tokens {μ ν : Mem} {s ne nf : Nat} {c le : Nat → Nat} {sf : Nat → Nat → Nat} (h : RJ μ ν s c ne le sf nf) : ∃ (r : Int32) (μ' ν' : Mem), f_X_tokens 3000 μ = some (r, μ') ∧ f_Mo_tokens 4000 ν = some (r, ν') ∧ AnF μ μ' ∧ AmF ν ν' ∧ RJ μ' ν s c ne le sf nf := by
  obtain ⟨μ', a1, a2, a3, a4⟩ := h.an (n := 3000) (by omega)
  obtain ⟨ν', b1, b2, b3⟩ := cut_m (n := 4000) h.1 (by omega)
  refine ⟨nI (TX μ s c ne le sf).length, μ', ν', ?_, ?_, a3, b3, a4⟩
  · unfold f_X_tokens f_TokenRow_count
    rw [a1, cl_s, cl_s, a2.2.2.1.1, (a3.eq s c ne le sf).2.1]
  · unfold f_Mo_tokens
    rw [b1, cl_s, b2.1.1]
/-- a compound of token i: what the class holds of it and what the reference finds -/
theorem cmp_b {μ μ' ν ν' : Mem} {s ne nf n i : Nat} {c le : Nat → Nat} {sf : Nat → Nat → Nat} (h : AJ μ ν s c ne le sf nf) (a2 : AnX μ' s c ne le sf) (a3 : AnF μ μ') (b2 : CrM ν' (GX μ s c ne le sf false) (enL μ s c ne le sf) (ctL μ s c ne le sf) (PX μ s c ne le sf false) (TX μ s c ne le sf)) (hi : i < (TX μ s c ne le sf).length) (hn : 60 < n) : (μ'.1 40 i = -1 ∧ f_Mo_compound n ν' (nI i) = some (-1) ∧ ∀ k, k ∈ PX μ s c ne le sf false → ¬ CmK (TX μ s c ne le sf) (GX μ s c ne le sf false) (ctL μ s c ne le sf) i k) ∨ ∃ k j d, μ'.1 40 i = nI k ∧ f_Mo_compound n ν' (nI i) = some (nI j) ∧ k ∈ PX μ s c ne le sf false ∧ CmK (TX μ s c ne le sf) (GX μ s c ne le sf false) (ctL μ s c ne le sf) i k ∧ j < 24 ∧ k < 696 ∧ (LX μ s c ne le sf)[k]? = some d ∧ d ∈ LX μ s c ne le sf ∧ (μ'.1 19 k = nI d.1 ∧ μ'.1 20 k = nI d.2.1 ∧ μ'.1 21 k = nI (ptN μ c d) ∧ μ'.1 24 k = enX d.2.2) ∧ (ν'.1 22 j = nI d.1 ∧ ν'.1 23 j = nI d.2.1 ∧ ν'.1 24 j = nI (ptN μ c d) ∧ ν'.1 25 j = nI d.2.2) := by
  have hG := h.lt false
  have hP := (h.path false).2
  have ll := b2.2.1.1
  obtain ⟨e1, e2, e3, e4, e5, e6⟩ := a3.eq s c ne le sf
  obtain ⟨r, r1, r2⟩ := cmp_m hG (fun j k hk => (hP j k hk).1) b2 h.tx h.1.1 hi (PX μ s c ne le sf false).length 0 n (by omega) (by omega)
  rw [nI_0] at r1
  have r1 : f_Mo_compound n ν' (nI i) = some r := r1
  have C := a2.2.2.2 i (by rw [e2]; exact hi)
  rw [e1, e2, e3, e5] at C
  rcases C with ⟨c1, c2⟩ | ⟨k, c1, c2, c3⟩
  · rcases r2 with ⟨r2, r3⟩ | ⟨p, k, p1, p2, p3⟩
    · rw [r2] at r1; exact Or.inl ⟨c1, r1, c2⟩
    · exact absurd p2 (c2 k (List.mem_of_getElem? p1))
  · rcases r2 with ⟨r2, r3⟩ | ⟨p, k', p1, p2, p3⟩
    · obtain ⟨q, q1, q2⟩ := List.getElem_of_mem c1
      exact absurd c2 (r3 q k (by omega) (List.getElem?_eq_some_iff.mpr ⟨q1, q2⟩))
    · have ek : k = k' := CmK_one hG hP c1 (List.mem_of_getElem? p1) c2 p2
      subst ek
      have km := (hP p k p1).1
      have lL := h.len
      have km' : k < (LX μ s c ne le sf).length := km
      obtain ⟨d, d1, d2⟩ := get_ex km'
      have ar := a2.1
      rw [e6] at ar
      obtain ⟨y1, y2, y3, y4, y5⟩ := ar.2 k d d1
      obtain ⟨z1, z2, z3, z4⟩ := b2.2.1.2.2 p k p1
      have pe : p < (PX μ s c ne le sf false).length := (List.getElem?_eq_some_iff.mp p1).1
      refine Or.inr ⟨k, p, d, c3, by rw [r1, p3], c1, c2, by omega, by omega, d1, d2, ⟨y1, y2, ?_, y5⟩, ?_⟩
      · rw [y3]
        have : ptX μ' c d = ptX μ c d := by unfold ptX; rw [a3.1 12 (by omega) (by omega), a3.1 6 (by omega) (by omega)]
        rw [this, (h.ei d2).1]
      · have g1 : (GX μ s c ne le sf false).b k = d.1 := by show ((LX μ s c ne le sf).getD k nd0).1 = _; rw [getD_some d1]
        have g2 : (GX μ s c ne le sf false).l k = d.2.1 := by show ((LX μ s c ne le sf).getD k nd0).2.1 = _; rw [getD_some d1]
        have g3 : (GX μ s c ne le sf false).p k = ptN μ c d := by show ptN μ c ((LX μ s c ne le sf).getD k nd0) = _; rw [getD_some d1]
        have g4 : enL μ s c ne le sf k = d.2.2 := by unfold enL; rw [getD_some d1]
        rw [g1] at z1
        rw [g2] at z2
        rw [g3] at z3
        rw [g4] at z4
        exact ⟨z1, z2, z3, z4⟩
theorem in_i {ν : Mem} {a : Int32} {n m : Nat} (hm : m < 1000) (h : ν.1 0 37 = nI m) : f_Mo_in n a 0 (ν.1 0 37 - 1) = some (decide (0 ≤ a.toInt ∧ a.toInt < m)) := by
  rw [in_v, h, v_0]
  congr 1
  rw [decide_eq_decide]
  have : (nI m - 1).toInt = (m : Int) - 1 := pk_sub_toInt (b := 1) (by omega) (by omega)
  rw [this]
  omega
theorem has_x {μ : Mem} {a : Int32} {n m : Nat} (hm : m < 1000) (h : μ.1 35 7 = nI m) : f_TokenRow_has n μ a = some (decide (0 ≤ a.toInt ∧ a.toInt < m)) := by
  unfold f_TokenRow_has
  by_cases c1 : a < 0
  · rw [if_pos c1]
    rw [i_lt, v_0] at c1
    rw [decide_eq_false (by omega)]
  · rw [if_neg c1, h]
    rw [i_lt, v_0] at c1
    by_cases c2 : nI m ≤ a
    · rw [if_pos c2]
      rw [i_le, nI_toInt (by omega)] at c2
      rw [decide_eq_false (by omega)]
    · rw [if_neg c2]
      rw [i_le, nI_toInt (by omega)] at c2
      rw [decide_eq_true (by omega)]
theorem st_token {μ ν : Mem} {s ne nf : Nat} {c le : Nat → Nat} {sf : Nat → Nat → Nat} (h : RJ μ ν s c ne le sf nf) (x y : Int32) : ∃ (r : Int32) (μ' ν' : Mem), f_X_token 3000 μ x y = some (r, μ') ∧ f_Mo_token 4000 ν x y = some (r, ν') ∧ AnF μ μ' ∧ AmF ν ν' ∧ RJ μ' ν s c ne le sf nf := by
  obtain ⟨μ', a1, a2, a3, a4⟩ := h.an (n := 3000) (by omega)
  obtain ⟨ν', b1, b2, b3⟩ := cut_m (n := 4000) h.1 (by omega)
  have tl := cgT_len _ _ h.1.tx
  have hs := h.1.1.1
  have eT := (a3.eq s c ne le sf).2.1
  have TY := a2.2.2.1
  rw [eT] at TY
  have key : ∃ r, f_X_token 3000 μ x y = some (r, μ') ∧ f_Mo_token 4000 ν x y = some (r, ν') := by
    unfold f_X_token f_Mo_token
    rw [a1, cl_s, b1, cl_s, has_x (m := (TX μ s c ne le sf).length) (by omega) TY.1, cl_s, in_i (m := (TX μ s c ne le sf).length) (by omega) b2.1.1, cl_s]
    by_cases hx : 0 ≤ x.toInt ∧ x.toInt < (TX μ s c ne le sf).length
    · rw [decide_eq_true hx, if_neg (show ¬ bz true = 0 by decide), if_neg (show ¬ bz true = 0 by decide)]
      obtain ⟨i, hi, rfl⟩ : ∃ i, i < (TX μ s c ne le sf).length ∧ x = nI i := ⟨x.toInt.toNat, by omega, by rw [i_eq, nI_toInt (by omega)]; omega⟩
      have eI : (TX μ s c ne le sf)[i]? = some (TX μ s c ne le sf)[i] := List.getElem?_eq_getElem hi
      obtain ⟨t1, t2, t3, t4⟩ := TY.2 i _ eI
      obtain ⟨m1, m2, m3, m4⟩ := b2.1.2 i _ eI
      obtain ⟨k1, k2, k3, k4, k5⟩ := h.1.tm eI
      generalize (TX μ s c ne le sf)[i] = t at *
      have cm := cmp_b (n := 4000) h.1 a2 a3 b2 hi (by omega)
      obtain ⟨v4, hv4⟩ : ∃ v4, f_Mo_compound 4000 ν' (nI i) = some v4 := by
        rcases cm with ⟨_, q, _⟩ | ⟨k, j, d, _, q, _⟩
        · exact ⟨_, q⟩
        · exact ⟨_, q⟩
      rw [hv4, cl_s]
      unfold f_TokenRow_begin f_TokenRow_length f_TokenRow_part
      have g24 : inb (nI i) 24 = true := inb_iff.mpr (by rw [nI_toInt (by omega)]; omega)
      simp only [g24, gd_t, cl_s]
      rw [nI_clamp (by omega), t1, t2, t3, m1, m2, m3, m4]
      by_cases y0 : y = 0
      · rw [if_pos y0, if_pos y0]; exact ⟨_, rfl, rfl⟩
      · rw [if_neg y0, if_neg y0]
        by_cases y1 : y = 1
        · rw [if_pos y1, if_pos y1]; exact ⟨_, rfl, rfl⟩
        · rw [if_neg y1, if_neg y1]
          by_cases y2 : y = 2
          · rw [if_pos y2, if_pos y2]; exact ⟨_, rfl, rfl⟩
          · rw [if_neg y2, if_neg y2]
            by_cases y3 : y = 3
            · rw [if_pos y3, if_pos y3]
              unfold f_X_originOf f_TokenRow_entry f_TokenRow_begin
              simp only [g24, gd_t, cl_s]
              rw [nI_clamp (by omega), t1, t4]
              by_cases e40 : t.2.2.2 = 40
              · have dm := h.1.dm t.1 (by omega)
                rw [if_pos (show enX t.2.2.2 = -1 by unfold enX; rw [if_pos e40]), classAt_v (s := s) (c := c) hs (fun j hj => by rw [a3.1 2 (by omega) (by omega)]; exact h.1.dx j hj) (by omega), cl_s, cl_s, if_pos (by rw [e40]; rfl), gd_i (by rw [nI_toInt (by omega)]; omega), nI_clamp (by omega), b3.1 1 (by omega) (by omega), dm.2, div64 dm.1]
                exact ⟨_, rfl, rfl⟩
              · have ee : enX t.2.2.2 = nI t.2.2.2 := by unfold enX; rw [if_neg e40]
                have hne := h.1.2.2.1.1.1
                rw [ee, if_neg (nI_nem1 (by omega)), cl_s, if_neg (by rw [show (40 : Int32) = nI 40 from rfl]; exact fun hh => e40 ((nI_eq (by omega) (by omega)).mp hh))]
                exact ⟨_, rfl, rfl⟩
            · rw [if_neg y3, if_neg y3]
              by_cases y4 : y = 4
              · rw [if_pos y4, if_pos y4]
                unfold f_X_compoundLength f_TokenRow_compound f_Lattice_length
                simp only [g24, gd_t, cl_s]
                rw [nI_clamp (by omega)]
                rcases cm with ⟨q1, q2, _⟩ | ⟨k, j, d, q1, q2, q3, q4, q5, q6, q7, q8, q9, q10⟩
                · rw [q2] at hv4
                  rw [q1, if_pos rfl, cl_s, ← Option.some.inj hv4, if_neg (by decide)]
                  exact ⟨_, rfl, rfl⟩
                · rw [q2] at hv4
                  rw [q1, if_neg (nI_nem1 (by omega)), gd_i (by rw [nI_toInt (by omega)]; omega), nI_clamp (by omega), q9.2.1, cl_s, cl_s, ← Option.some.inj hv4, if_pos (nI_pos' (by omega)), gd_i (by rw [nI_toInt (by omega)]; omega), nI_clamp (by omega), q10.2.1]
                  exact ⟨_, rfl, rfl⟩
              · rw [if_neg y4, if_neg y4]
                exact ⟨_, rfl, rfl⟩
    · rw [decide_eq_false hx, if_pos (by decide), if_pos (by decide)]
      exact ⟨_, rfl, rfl⟩
  obtain ⟨r, r1, r2⟩ := key
  exact ⟨r, μ', ν', r1, r2, a3, b3, a4⟩
