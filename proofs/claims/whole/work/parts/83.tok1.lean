/-! PURE: pieces of a node, tokens of a route, both sides -/
theorem iI_nat {a : Nat} (h : a < 2 ^ 31) : iI (a : Int) = nI a := by
  rw [i_eq, iI_t (by omega) (by omega), nI_toInt h]
abbrev Tk : Type := Nat × Nat × Nat × Nat
def bitC (cut : Int32) (i : Nat) : Bool := decide (¬ ((cut >>> (nI i &&& 31)) &&& (1 : Int32)) = 0)
/-- the pieces closed before character i, and where the open one began -/
def pcC (cut : Int32) : Nat → List (Nat × Nat) × Nat
  | 0 => ([], 0)
  | i + 1 => if i ≠ 0 ∧ bitC cut i = true then ((pcC cut i).1 ++ [((pcC cut i).2, i - (pcC cut i).2)], i) else pcC cut i
def pcs (cut : Int32) (l : Nat) : List (Nat × Nat) := (pcC cut l).1 ++ [((pcC cut l).2, l - (pcC cut l).2)]
/-- tokens that follow one another from a to b -/
def cgT : Nat → Nat → List Tk → Prop
  | a, b, [] => a = b
  | a, b, t :: T => t.1 = a ∧ 1 ≤ t.2.1 ∧ cgT (a + t.2.1) b T
theorem cgT_app {b d : Nat} : ∀ (T U : List Tk) (a : Nat), cgT a b T → cgT b d U → cgT a d (T ++ U) := by
  intro T
  induction T with
  | nil => intro U a h1 h2; have h1 : a = b := h1; rw [h1]; exact h2
  | cons t T ih => intro U a h1 h2; exact ⟨h1.1, h1.2.1, ih U _ h1.2.2 h2⟩
theorem cgT_len {b : Nat} : ∀ (T : List Tk) (a : Nat), cgT a b T → a + T.length ≤ b := by
  intro T
  induction T with
  | nil => intro a h; have h : a = b := h; show a + 0 ≤ b; omega
  | cons t T ih =>
    intro a h
    have := ih _ h.2.2
    have := h.2.1
    rw [List.length_cons]
    omega
theorem cgT_at {b : Nat} : ∀ (T : List Tk) (a : Nat), cgT a b T → ∀ i t, T[i]? = some t → a ≤ t.1 ∧ 1 ≤ t.2.1 ∧ t.1 + t.2.1 ≤ b ∧ (i = 0 → t.1 = a) ∧ ∀ j u, i < j → T[j]? = some u → t.1 + t.2.1 ≤ u.1 := by
  intro T
  induction T with
  | nil => intro a h i t ht; cases ht
  | cons x T ih =>
    intro a h i t ht
    have hb : ∀ (T : List Tk) (a : Nat), cgT a b T → a ≤ b := fun T a h => by have := cgT_len T a h; omega
    cases i with
    | zero =>
      have e : x = t := Option.some.inj ht
      subst e
      have l := hb _ _ h.2.2
      have h1 := h.1
      refine ⟨by omega, h.2.1, by omega, fun _ => h1, fun j u hj hu => ?_⟩
      cases j with
      | zero => omega
      | succ j =>
        have := (ih _ h.2.2 j u hu).1
        omega
    | succ i =>
      obtain ⟨a1, a2, a3, a4, a5⟩ := ih _ h.2.2 i t ht
      have := h.2.1
      refine ⟨by omega, a2, a3, fun h => by omega, fun j u hj hu => ?_⟩
      cases j with
      | zero => omega
      | succ j => exact a5 j u (by omega) hu
def tkM (b p e : Nat) (x : Nat × Nat) : Tk := (b + x.1, x.2, p, e)
theorem pcC_st (cut : Int32) : ∀ i, (pcC cut i).2 ≤ i ∧ (1 ≤ i → (pcC cut i).2 < i) := by
  intro i
  induction i with
  | zero => exact ⟨Nat.le_refl _, fun h => by omega⟩
  | succ i ih =>
    show (if i ≠ 0 ∧ bitC cut i = true then ((pcC cut i).1 ++ [((pcC cut i).2, i - (pcC cut i).2)], i) else pcC cut i).2 ≤ i + 1 ∧ _
    have e : pcC cut (i + 1) = if i ≠ 0 ∧ bitC cut i = true then ((pcC cut i).1 ++ [((pcC cut i).2, i - (pcC cut i).2)], i) else pcC cut i := rfl
    rw [e]
    by_cases c : i ≠ 0 ∧ bitC cut i = true
    · rw [if_pos c]; exact ⟨by show i ≤ i + 1; omega, fun _ => by show i < i + 1; omega⟩
    · rw [if_neg c]; exact ⟨by omega, fun _ => by omega⟩
theorem pcC_cg (cut : Int32) (b p e : Nat) : ∀ i, cgT b (b + (pcC cut i).2) ((pcC cut i).1.map (tkM b p e)) := by
  intro i
  induction i with
  | zero => rfl
  | succ i ih =>
    have e0 : pcC cut (i + 1) = if i ≠ 0 ∧ bitC cut i = true then ((pcC cut i).1 ++ [((pcC cut i).2, i - (pcC cut i).2)], i) else pcC cut i := rfl
    rw [e0]
    by_cases c : i ≠ 0 ∧ bitC cut i = true
    · rw [if_pos c]
      have st := pcC_st cut i
      have := st.2 (by omega)
      rw [List.map_append]
      refine cgT_app _ _ _ ih ⟨rfl, ?_, ?_⟩
      · show 1 ≤ i - (pcC cut i).2; omega
      · show b + (pcC cut i).2 + (i - (pcC cut i).2) = b + i; omega
    · rw [if_neg c]; exact ih
theorem pcs_cg (cut : Int32) (b p e : Nat) {l : Nat} (hl : 1 ≤ l) : cgT b (b + l) ((pcs cut l).map (tkM b p e)) := by
  have st := (pcC_st cut l).2 hl
  unfold pcs
  rw [List.map_append]
  refine cgT_app _ _ _ (pcC_cg cut b p e l) ⟨rfl, ?_, ?_⟩
  · show 1 ≤ l - (pcC cut l).2; omega
  · show b + (pcC cut l).2 + (l - (pcC cut l).2) = b + l; omega
/-- the pieces of node k -/
def tkN (G : Lt) (en : Nat → Nat) (ct : Nat → Int32) (k : Nat) : List Tk := (pcs (ct k) (G.l k)).map (tkM (G.b k) (G.p k) (en k))
def pend (G : Lt) (o : Option Nat) : Nat := match o with
  | none => 0
  | some k => G.b k + G.l k
theorem trc_path {G : Lt} {s : Nat} (hG : LtOK G s) : ∀ f e p, e ≤ f → e ≤ s → p < 8 → into G (Dk G G.m) e p ≠ 1073741824 → pend G (trc G f e p)[0]? = e ∧ ∀ j k, (trc G f e p)[j]? = some k → k < G.m ∧ G.b k = pend G (trc G f e p)[j + 1]? := by
  intro f
  induction f with
  | zero =>
    intro e p h1 h2 h3 h4
    have : e = 0 := by omega
    subst this
    exact ⟨rfl, fun j k h => by cases h⟩
  | succ f ih =>
    intro e p h1 h2 h3 h4
    by_cases c : e = 0
    · subst c
      have et : trc G (f + 1) 0 p = [] := rfl
      rw [et]
      exact ⟨rfl, fun j k h => by cases h⟩
    · have et : trc G (f + 1) e p = lsI G e p :: trc G f (G.b (lsI G e p)) (G.p (lsI G e p)) := if_neg c
      obtain ⟨k1, k2, k3, k4, k5⟩ := lsI_lt hG h2 c h3 h4
      obtain ⟨f1, f2, f3⟩ := hG.fit _ k1
      rw [et]
      generalize lsI G e p = K at *
      obtain ⟨a1, a2⟩ := ih (G.b K) (G.p K) (by omega) (by omega) f3 k4
      refine ⟨k2, fun j k h => ?_⟩
      cases j with
      | zero =>
        have e1 : K = k := Option.some.inj h
        subst e1
        exact ⟨k1, a1.symm⟩
      | succ j => exact a2 j k h
/-- the tokens of the nodes from the j-th on (the last node is the 0-th) -/
def acT (G : Lt) (en : Nat → Nat) (ct : Nat → Int32) (P : List Nat) (j : Nat) : List Tk := (P.drop j).reverse.flatMap (tkN G en ct)
theorem acT_s {G : Lt} {en : Nat → Nat} {ct : Nat → Int32} {P : List Nat} {j k : Nat} (h : P[j]? = some k) : acT G en ct P j = acT G en ct P (j + 1) ++ tkN G en ct k := by
  obtain ⟨h1, h2⟩ := List.getElem?_eq_some_iff.mp h
  unfold acT
  rw [List.drop_eq_getElem_cons h1, h2, List.reverse_cons, List.flatMap_append]
  congr 1
  show tkN G en ct k ++ [] = _
  rw [List.append_nil]
theorem acT_z {G : Lt} {en : Nat → Nat} {ct : Nat → Int32} {P : List Nat} {j : Nat} (h : P.length ≤ j) : acT G en ct P j = [] := by
  unfold acT
  rw [List.drop_eq_nil_of_le h]
  rfl
theorem acT_cg {G : Lt} {s : Nat} (hG : LtOK G s) {en : Nat → Nat} {ct : Nat → Int32} {P : List Nat} (hP : ∀ j k, P[j]? = some k → k < G.m ∧ G.b k = pend G P[j + 1]?) : ∀ i j, j + i = P.length → cgT 0 (pend G P[j]?) (acT G en ct P j) := by
  intro i
  induction i with
  | zero =>
    intro j hj
    rw [acT_z (by omega), List.getElem?_eq_none (by omega)]
    rfl
  | succ i ih =>
    intro j hj
    have h1 : j < P.length := by omega
    have e : P[j]? = some P[j] := List.getElem?_eq_getElem h1
    obtain ⟨a1, a2⟩ := hP j _ e
    obtain ⟨f1, f2, f3⟩ := hG.fit _ a1
    rw [acT_s e, e]
    have := ih (j + 1) (by omega)
    rw [← a2] at this
    exact cgT_app _ _ _ this (pcs_cg _ _ _ _ f2)
theorem pend_le {G : Lt} {s : Nat} (hG : LtOK G s) {P : List Nat} (hP : ∀ j k, P[j]? = some k → k < G.m ∧ G.b k = pend G P[j + 1]?) (j : Nat) : pend G P[j]? ≤ s := by
  cases h : P[j]? with
  | none => exact Nat.zero_le _
  | some k => exact (hG.fit k (hP j k h).1).1
/-! the class's tokens -/
def TkF (μ μ' : Mem) : Prop := (∀ q, q < 35 ∨ 40 < q → μ'.1 q = μ.1 q) ∧ μ'.2 = μ.2
theorem TkF.rf (μ : Mem) : TkF μ μ := ⟨fun _ _ => rfl, rfl⟩
theorem TkF.tr {μ μ1 μ2 : Mem} (h1 : TkF μ μ1) (h2 : TkF μ1 μ2) : TkF μ μ2 := ⟨fun q hq => (h2.1 q hq).trans (h1.1 q hq), h2.2.trans h1.2⟩
theorem TkF.wi {μ : Mem} {q j : Nat} {v : Int32} (h1 : 35 ≤ q) (h2 : q ≤ 40) : TkF μ (wi μ q j v) := ⟨fun r hr => wi_o (by omega), rfl⟩
theorem TkF.gm {μ μ' : Mem} {G : Lt} {s : Nat} {chd : Int32} (f : TkF μ μ') (h : GmX μ G s chd) : GmX μ' G s chd := h.mv (fun q hq => f.1 q (by omega))
def TkX (μ : Mem) (T : List Tk) : Prop := μ.1 35 7 = nI T.length ∧ ∀ i t, T[i]? = some t → μ.1 36 i = nI t.1 ∧ μ.1 37 i = nI t.2.1 ∧ μ.1 38 i = nI t.2.2.1 ∧ μ.1 39 i = enX t.2.2.2 ∧ μ.1 40 i = -1
/-- what the row of tokens reads of the lattice -/
def GeX (μ : Mem) (G : Lt) (s : Nat) (chd : Int32) (en : Nat → Nat) (ct : Nat → Int32) : Prop := GmX μ G s chd ∧ ∀ k, k < G.m → μ.1 24 k = enX (en k) ∧ (en k < 40 ∧ ct k = μ.1 8 (en k) ∨ en k = 40 ∧ ct k = 0)
theorem TkF.ge {μ μ' : Mem} {G : Lt} {s : Nat} {chd : Int32} {en : Nat → Nat} {ct : Nat → Int32} (f : TkF μ μ') (h : GeX μ G s chd en ct) : GeX μ' G s chd en ct := by
  refine ⟨f.gm h.1, fun k hk => ?_⟩
  rw [f.1 24 (by omega), f.1 8 (by omega)]
  exact h.2 k hk
theorem GeX.en {μ : Mem} {G : Lt} {s : Nat} {chd : Int32} {en : Nat → Nat} {ct : Nat → Int32} (h : GeX μ G s chd en ct) {k : Nat} (hk : k < G.m) (n : Nat) : f_Lattice_entry n μ (nI k) = some (enX (en k)) := by
  have hm := h.1.2.2.1
  unfold f_Lattice_entry
  rw [gd_i (by rw [nI_toInt (by omega)]; omega), nI_clamp (by omega), (h.2 k hk).1]
theorem GeX.ln {μ : Mem} {G : Lt} {s : Nat} {chd : Int32} {en : Nat → Nat} {ct : Nat → Int32} (h : GeX μ G s chd en ct) {k : Nat} (hk : k < G.m) (n : Nat) : f_Lattice_length n μ (nI k) = some (nI (G.l k)) := by
  have hm := h.1.2.2.1
  unfold f_Lattice_length
  rw [gd_i (by rw [nI_toInt (by omega)]; omega), nI_clamp (by omega), (h.1.2.2.2.1 k hk).2.1]
theorem nI_nem1 {a : Nat} (h : a < 2 ^ 31) : ¬ nI a = -1 := by
  intro e
  have := congrArg Int32.toInt e
  rw [nI_toInt h, v_m1] at this
  omega
theorem GeX.ct {μ : Mem} {G : Lt} {s : Nat} {chd : Int32} {en : Nat → Nat} {ct : Nat → Int32} (h : GeX μ G s chd en ct) {k : Nat} (hk : k < G.m) (n : Nat) : f_Lexicon_cuts n μ (enX (en k)) = some (ct k) := by
  unfold f_Lexicon_cuts enX
  rcases (h.2 k hk).2 with ⟨a, b⟩ | ⟨a, b⟩
  · rw [if_neg (show ¬ en k = 40 by omega), if_neg (nI_nem1 (by omega)), gd_i (by rw [nI_toInt (by omega)]; omega), nI_clamp (by omega), b]
  · rw [if_pos a, if_pos rfl, b]
theorem app_get {α : Type} {L : List α} {x y : α} {i : Nat} (h : (L ++ [x])[i]? = some y) : (i < L.length ∧ L[i]? = some y) ∨ (i = L.length ∧ y = x) := app1 h
theorem putT_x {μ : Mem} {T : List Tk} {G : Lt} {s k o l n : Nat} {chd : Int32} {en : Nat → Nat} {ct : Nat → Int32} (hg : GeX μ G s chd en ct) (hk : k < G.m) (hT : TkX μ T) (h24 : T.length < 24) : ∃ μ', f_TokenRow_put n μ (nI k) (nI o) (nI l) = some μ' ∧ TkX μ' (T ++ [(G.b k + o, l, G.p k, en k)]) ∧ TkF μ μ' := by
  have g35 : ∀ (ρ : Mem) (q j : Nat) (v : Int32), q ≠ 35 → (wi ρ q j v).1 35 7 = ρ.1 35 7 := fun ρ q j v h => by rw [wi_o (by omega)]
  unfold f_TokenRow_put
  rw [hT.1, if_pos (by rw [show (24 : Int32) = nI 24 from rfl]; exact nI_lt (by omega) (by omega)), hg.1.bg hk, cl_s, gd_i (by rw [nI_toInt (by omega)]; omega), nI_clamp (by omega), nI_add, bd_e]
  have F1 : TkF μ (wi μ 36 T.length (nI (G.b k + o))) := TkF.wi (by omega) (by omega)
  have c1 : (wi μ 36 T.length (nI (G.b k + o))).1 35 7 = nI T.length := by rw [wi_o (by omega)]; exact hT.1
  rw [c1, gd_i (by rw [nI_toInt (by omega)]; omega), nI_clamp (by omega), bd_e]
  have F2 : TkF μ (wi (wi μ 36 T.length (nI (G.b k + o))) 37 T.length (nI l)) := F1.tr (TkF.wi (by omega) (by omega))
  have c2 : (wi (wi μ 36 T.length (nI (G.b k + o))) 37 T.length (nI l)).1 35 7 = nI T.length := by rw [wi_o (by omega)]; exact c1
  rw [(F2.ge hg).1.pt hk, cl_s, c2, gd_i (by rw [nI_toInt (by omega)]; omega), nI_clamp (by omega), bd_e]
  have F3 : TkF μ (wi (wi (wi μ 36 T.length (nI (G.b k + o))) 37 T.length (nI l)) 38 T.length (nI (G.p k))) := F2.tr (TkF.wi (by omega) (by omega))
  have c3 : (wi (wi (wi μ 36 T.length (nI (G.b k + o))) 37 T.length (nI l)) 38 T.length (nI (G.p k))).1 35 7 = nI T.length := by rw [wi_o (by omega)]; exact c2
  rw [(F3.ge hg).en hk, cl_s, c3, gd_i (by rw [nI_toInt (by omega)]; omega), nI_clamp (by omega), bd_e]
  have F4 : TkF μ (wi (wi (wi (wi μ 36 T.length (nI (G.b k + o))) 37 T.length (nI l)) 38 T.length (nI (G.p k))) 39 T.length (enX (en k))) := F3.tr (TkF.wi (by omega) (by omega))
  have c4 : (wi (wi (wi (wi μ 36 T.length (nI (G.b k + o))) 37 T.length (nI l)) 38 T.length (nI (G.p k))) 39 T.length (enX (en k))).1 35 7 = nI T.length := by rw [wi_o (by omega)]; exact c3
  rw [c4, gd_i (by rw [nI_toInt (by omega)]; omega), nI_clamp (by omega), bd_e]
  have c5 : (wi (wi (wi (wi (wi μ 36 T.length (nI (G.b k + o))) 37 T.length (nI l)) 38 T.length (nI (G.p k))) 39 T.length (enX (en k))) 40 T.length (-1)).1 35 7 = nI T.length := by rw [wi_o (by omega)]; exact c4
  rw [c5, bd_e, nI_1]
  refine ⟨_, rfl, ⟨?_, ?_⟩, (F4.tr (TkF.wi (by omega) (by omega))).tr (TkF.wi (by omega) (by omega))⟩
  · rw [wi_g, if_pos ⟨rfl, rfl⟩, List.length_append]; rfl
  · intro i t ht
    rcases app1 ht with ⟨h1, h2⟩ | ⟨h1, h2⟩
    · obtain ⟨a1, a2, a3, a4, a5⟩ := hT.2 i t h2
      simp only [wi_g]
      refine ⟨?_, ?_, ?_, ?_, ?_⟩
      · repeat rw [if_neg (by omega)]
        exact a1
      · repeat rw [if_neg (by omega)]
        exact a2
      · repeat rw [if_neg (by omega)]
        exact a3
      · repeat rw [if_neg (by omega)]
        exact a4
      · repeat rw [if_neg (by omega)]
        exact a5
    · subst h2
      rw [h1]
      simp only [wi_g]
      refine ⟨?_, ?_, ?_, ?_, ?_⟩
      · simp
      · simp
      · simp
      · simp
      · simp
theorem pieces_x {G : Lt} {s k : Nat} {chd : Int32} {en : Nat → Nat} {ct : Nat → Int32} {T0 : List Tk} (hk : k < G.m) (hl : 1 ≤ G.l k) (h24 : T0.length + G.l k ≤ 24) : ∀ j i n (μ : Mem), i + j = G.l k → 1 ≤ i → j + 2 < n → GeX μ G s chd en ct → TkX μ (T0 ++ (pcC (ct k) i).1.map (tkM (G.b k) (G.p k) (en k))) → ∃ μ', f_TokenRow_putPieces_31 n μ (nI k) (ct k) (nI (G.l k)) (nI (pcC (ct k) i).2) (nI i) = some μ' ∧ TkX μ' (T0 ++ tkN G en ct k) ∧ TkF μ μ' := by
  intro j
  induction j with
  | zero =>
    intro i n μ hi h1 hn hg hT
    obtain ⟨n, rfl⟩ : ∃ n', n = n' + 2 := ⟨n - 2, by omega⟩
    have e : i = G.l k := by omega
    subst e
    have st := (pcC_st (ct k) (G.l k)).2 h1
    have cl := cgT_len _ _ (pcC_cg (ct k) (G.b k) (G.p k) (en k) (G.l k))
    rw [List.length_map] at cl
    obtain ⟨μ', a1, a2, a3⟩ := putT_x (n := n + 1) (o := (pcC (ct k) (G.l k)).2) (l := G.l k - (pcC (ct k) (G.l k)).2) hg hk hT (by rw [List.length_append, List.length_map]; omega)
    refine ⟨μ', ?_, ?_, a3⟩
    · show (if nI (G.l k) < nI (G.l k) then _ else (if nI (G.l k) = nI (G.l k) then f_TokenRow_putPieces_52 (f_TokenRow_putPieces_31 (n + 1)) (n + 1) μ (nI k) (ct k) (nI (G.l k)) (nI (pcC (ct k) (G.l k)).2) (nI (G.l k)) else _)) = _
      rw [if_neg (nI_nlt (Nat.le_refl _) (by omega)), if_pos rfl]
      unfold f_TokenRow_putPieces_52 f_TokenRow_putPieces_68
      rw [pk_sub (by omega), a1, cl_s, bd_e, nI_1]
      show (if nI (G.l k) < nI (G.l k + 1) then some μ' else _) = _
      rw [if_pos (nI_lt (by omega) (by omega))]
    · rw [List.append_assoc] at a2
      unfold tkN pcs
      rw [List.map_append]
      exact a2
  | succ j ih =>
    intro i n μ hi h1 hn hg hT
    obtain ⟨n, rfl⟩ : ∃ n', n = n' + 1 := ⟨n - 1, by omega⟩
    have st := (pcC_st (ct k) i).2 h1
    have e0 : pcC (ct k) (i + 1) = if i ≠ 0 ∧ bitC (ct k) i = true then ((pcC (ct k) i).1 ++ [((pcC (ct k) i).2, i - (pcC (ct k) i).2)], i) else pcC (ct k) i := rfl
    have cl := cgT_len _ _ (pcC_cg (ct k) (G.b k) (G.p k) (en k) i)
    rw [List.length_map] at cl
    show ∃ μ', (if nI (G.l k) < nI i then _ else (if nI i = nI (G.l k) then _ else (if ((ct k >>> (nI i &&& 31)) &&& (1 : Int32)) = 0 then f_TokenRow_putPieces_68 (f_TokenRow_putPieces_31 n) n μ (nI k) (ct k) (nI (G.l k)) (nI (pcC (ct k) i).2) (nI i) else f_TokenRow_putPieces_52 (f_TokenRow_putPieces_31 n) n μ (nI k) (ct k) (nI (G.l k)) (nI (pcC (ct k) i).2) (nI i)))) = _ ∧ _
    rw [if_neg (nI_nlt (by omega) (by omega)), if_neg (fun h => by have := (nI_eq (by omega) (by omega)).mp h; omega)]
    by_cases c : ((ct k >>> (nI i &&& 31)) &&& (1 : Int32)) = 0
    · rw [if_pos c]
      have eb : bitC (ct k) i = false := by unfold bitC; rw [decide_eq_false_iff_not]; exact fun h => h c
      rw [eb, if_neg (fun h => by cases h.2)] at e0
      obtain ⟨μ', a1, a2, a3⟩ := ih (i + 1) n μ (by omega) (by omega) (by omega) hg (by rw [e0]; exact hT)
      refine ⟨μ', ?_, a2, a3⟩
      unfold f_TokenRow_putPieces_68
      rw [bd_e, nI_1]
      rw [e0] at a1
      exact a1
    · rw [if_neg c]
      have eb : bitC (ct k) i = true := by unfold bitC; rw [decide_eq_true_eq]; exact c
      rw [if_pos (show i ≠ 0 ∧ bitC (ct k) i = true from ⟨by omega, eb⟩)] at e0
      obtain ⟨μ1, b1, b2, b3⟩ := putT_x (n := n) (o := (pcC (ct k) i).2) (l := i - (pcC (ct k) i).2) hg hk hT (by rw [List.length_append, List.length_map]; omega)
      obtain ⟨μ', a1, a2, a3⟩ := ih (i + 1) n μ1 (by omega) (by omega) (by omega) (b3.ge hg) (by rw [e0]; rw [List.append_assoc] at b2; show TkX μ1 (T0 ++ ((pcC (ct k) i).1 ++ [((pcC (ct k) i).2, i - (pcC (ct k) i).2)]).map (tkM (G.b k) (G.p k) (en k))); rw [List.map_append]; exact b2)
      refine ⟨μ', ?_, a2, b3.tr a3⟩
      unfold f_TokenRow_putPieces_52 f_TokenRow_putPieces_68
      rw [pk_sub (by omega), b1, cl_s, bd_e, nI_1]
      rw [e0] at a1
      exact a1
theorem nodeT_x {μ : Mem} {G : Lt} {s k n : Nat} {chd : Int32} {en : Nat → Nat} {ct : Nat → Int32} {T0 : List Tk} (hG : LtOK G s) (hk : k < G.m) (h24 : T0.length ≤ G.b k) (hn : 12 + s < n) (hg : GeX μ G s chd en ct) (hT : TkX μ T0) : ∃ μ', f_TokenRow_putPieces n μ (nI k) = some μ' ∧ TkX μ' (T0 ++ tkN G en ct k) ∧ TkF μ μ' := by
  have hs := hG.hs
  obtain ⟨f1, f2, f3⟩ := hG.fit k hk
  have e1 : pcC (ct k) 1 = ([], 0) := rfl
  obtain ⟨μ', a1, a2, a3⟩ := pieces_x (s := s) (chd := chd) (T0 := T0) hk f2 (by omega) (G.l k - 1) 1 n μ (by omega) (by omega) (by omega) hg (by rw [e1]; show TkX μ (T0 ++ []); rw [List.append_nil]; exact hT)
  refine ⟨μ', ?_, a2, a3⟩
  unfold f_TokenRow_putPieces
  rw [hg.en hk, cl_s, hg.ct hk, cl_s, hg.ln hk, cl_s]
  rw [e1] at a1
  exact a1
