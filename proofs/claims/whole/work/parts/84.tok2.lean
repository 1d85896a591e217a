/-! PURE: all tokens of the best route, both sides -/
def PtX (μ : Mem) (P : List Nat) : Prop := P.length ≤ 24 ∧ μ.1 25 7 = nI P.length ∧ ∀ j k, P[j]? = some k → μ.1 29 j = nI k
theorem nodeB_x {μ : Mem} {P : List Nat} {j k n : Nat} (h : PtX μ P) (hk : P[j]? = some k) : f_RouteB_node n μ (nI (P.length - (j + 1))) = some (nI k) := by
  obtain ⟨h1, _⟩ := List.getElem?_eq_some_iff.mp hk
  have hl := h.1
  unfold f_RouteB_node
  rw [h.2.1, show (1 : Int32) = nI 1 from rfl, pk_sub (by omega), pk_sub (by omega), show P.length - 1 - (P.length - (j + 1)) = j by omega, gd_i (by rw [nI_toInt (by omega)]; omega), nI_clamp (by omega), h.2.2 j k hk]
theorem TkF.pt {μ μ' : Mem} {P : List Nat} (f : TkF μ μ') (h : PtX μ P) : PtX μ' P := by
  refine ⟨h.1, ?_, ?_⟩
  · rw [f.1 25 (by omega)]; exact h.2.1
  · rw [f.1 29 (by omega)]; exact h.2.2
theorem tokB_x {G : Lt} {s : Nat} {chd : Int32} {en : Nat → Nat} {ct : Nat → Int32} {P : List Nat} (hG : LtOK G s) (hP : ∀ j k, P[j]? = some k → k < G.m ∧ G.b k = pend G P[j + 1]?) : ∀ j n (μ : Mem), j ≤ P.length → j + 60 < n → GeX μ G s chd en ct → PtX μ P → TkX μ (acT G en ct P j) → ∃ n' μ', n ≤ n' + j + 1 ∧ f_TokenRow_rebuild_7 n μ (nI (P.length - j)) = f_TokenRow_rebuild_32 n' μ' 0 ∧ TkX μ' (acT G en ct P 0) ∧ TkF μ μ' := by
  intro j
  have hs := hG.hs
  induction j with
  | zero =>
    intro n μ hj hn hg hp hT
    obtain ⟨n, rfl⟩ : ∃ n', n = n' + 1 := ⟨n - 1, by omega⟩
    have hl := hp.1
    refine ⟨n, μ, by omega, ?_, hT, TkF.rf μ⟩
    show cl (f_RouteB_length n μ) (fun v1 => (if v1 ≤ nI (P.length - 0) then f_TokenRow_rebuild_32 n μ 0 else _)) = _
    unfold f_RouteB_length
    rw [cl_s, hp.2.1, Nat.sub_zero, if_pos (nI_le (Nat.le_refl _) (by omega))]
  | succ j ih =>
    intro n μ hj hn hg hp hT
    obtain ⟨n, rfl⟩ : ∃ n', n = n' + 1 := ⟨n - 1, by omega⟩
    have hl := hp.1
    have e : P[j]? = some P[j] := List.getElem?_eq_getElem (by omega)
    obtain ⟨a1, a2⟩ := hP j _ e
    have cg := cgT_len _ _ (acT_cg (en := en) (ct := ct) hG hP (P.length - (j + 1)) (j + 1) (by omega))
    rw [← a2] at cg
    obtain ⟨μ1, b1, b2, b3⟩ := nodeT_x (n := n) (k := P[j]) hG a1 (by omega) (by omega) hg hT
    rw [← acT_s e] at b2
    obtain ⟨n', μ', c1, c2, c3, c4⟩ := ih n μ1 (by omega) (by omega) (b3.ge hg) (b3.pt hp) b2
    refine ⟨n', μ', by omega, ?_, c3, b3.tr c4⟩
    rw [← c2]
    show cl (f_RouteB_length n μ) (fun v1 => (if v1 ≤ nI (P.length - (j + 1)) then f_TokenRow_rebuild_32 n μ 0 else (cl (f_RouteB_node n μ (nI (P.length - (j + 1)))) (fun v2 => cl (f_TokenRow_putPieces n μ v2) (fun μ4 => bd (nI (P.length - (j + 1)) + 1) (fun v5 => f_TokenRow_rebuild_7 n μ4 v5)))))) = _
    unfold f_RouteB_length
    rw [cl_s, hp.2.1, if_neg (nI_ge (by omega) (by omega)), nodeB_x hp e, cl_s, b1, cl_s, bd_e, nI_1, show P.length - (j + 1) + 1 = P.length - j by omega]
/-! the reference's tokens -/
def CtF (ν ν' : Mem) : Prop := (∀ q, q ≠ 0 → q < 26 ∨ 29 < q → ν'.1 q = ν.1 q) ∧ (∀ i, i ≠ 37 → ν'.1 0 i = ν.1 0 i) ∧ ν'.2 = ν.2
theorem CtF.rf (ν : Mem) : CtF ν ν := ⟨fun _ _ _ => rfl, fun _ _ => rfl, rfl⟩
theorem CtF.tr {ν ν1 ν2 : Mem} (h1 : CtF ν ν1) (h2 : CtF ν1 ν2) : CtF ν ν2 := ⟨fun q h0 hq => (h2.1 q h0 hq).trans (h1.1 q h0 hq), fun i hi => (h2.2.1 i hi).trans (h1.2.1 i hi), h2.2.2.trans h1.2.2⟩
theorem CtF.wi {ν : Mem} {q j : Nat} {v : Int32} (h : (26 ≤ q ∧ q ≤ 29) ∨ (q = 0 ∧ j = 37)) : CtF ν (wi ν q j v) := by
  refine ⟨fun r h0 hr => wi_o (by omega), fun i hi => ?_, rfl⟩
  rw [wi_g, if_neg (by omega)]
theorem CtF.gm {ν ν' : Mem} {G : Lt} {s : Nat} {en : Nat → Nat} (f : CtF ν ν') (h : GmM ν G s en) : GmM ν' G s en := by
  unfold GmM
  rw [f.2.1 1 (by omega), f.2.1 23 (by omega), f.1 14 (by omega) (by omega), f.1 15 (by omega) (by omega), f.1 16 (by omega) (by omega), f.1 17 (by omega) (by omega), f.1 18 (by omega) (by omega), f.1 11 (by omega) (by omega)]
  exact h
def GeM (ν : Mem) (G : Lt) (s : Nat) (en : Nat → Nat) (ct : Nat → Int32) : Prop := GmM ν G s en ∧ ∀ k, k < G.m → (en k < 40 ∧ ct k = ν.1 6 (en k) ∨ en k = 40 ∧ ct k = 0)
theorem CtF.ge {ν ν' : Mem} {G : Lt} {s : Nat} {en : Nat → Nat} {ct : Nat → Int32} (f : CtF ν ν') (h : GeM ν G s en ct) : GeM ν' G s en ct := by
  refine ⟨f.gm h.1, fun k hk => ?_⟩
  rw [f.1 6 (by omega) (by omega)]
  exact h.2 k hk
def TkR (ν : Mem) (T : List Tk) : Prop := ν.1 0 37 = nI T.length ∧ ∀ i t, T[i]? = some t → ν.1 26 i = nI t.1 ∧ ν.1 27 i = nI t.2.1 ∧ ν.1 28 i = nI t.2.2.1 ∧ ν.1 29 i = nI t.2.2.2
theorem c155_m {ν : Mem} {T : List Tk} {b l p e n : Nat} (κ21 : Mem → Int32 → Option Mem) (κ62 : Mem → Int32 → Int32 → Int32 → Int32 → Option Mem) (x1 x2 x3 x4 : Int32) (hT : TkR ν (T ++ [(b, l, p, e)])) (h24 : T.length < 24) : ∃ ν', f_Mo_cut_155 κ21 κ62 n ν x1 x2 x3 x4 = κ62 ν' x1 x2 x3 (x4 + 1) ∧ TkR ν' (T ++ [(b, l + 1, p, e)]) ∧ CtF ν ν' := by
  have h37 := hT.1
  rw [List.length_append] at h37
  change ν.1 0 37 = nI (T.length + 1) at h37
  have hl : (T ++ [(b, l, p, e)])[T.length]? = some (b, l, p, e) := by simp
  obtain ⟨z1, z2, z3, z4⟩ := hT.2 _ _ hl
  unfold f_Mo_cut_155
  rw [h37, nI_pred, gd_i (by rw [nI_toInt (by omega)]; omega), gd_i (by rw [nI_toInt (by omega)]; omega), nI_clamp (by omega), z2]
  refine ⟨wi ν 27 T.length (nI l + 1), rfl, ⟨?_, ?_⟩, CtF.wi (by omega)⟩
  · rw [wi_o (by omega), h37, List.length_append]; rfl
  · intro i t ht
    rw [wi_o (show (26 : Nat) ≠ 27 by omega), wi_o (show (28 : Nat) ≠ 27 by omega), wi_o (show (29 : Nat) ≠ 27 by omega), wi_g]
    rcases app1 ht with ⟨h1, h2⟩ | ⟨h1, h2⟩
    · obtain ⟨a1, a2, a3, a4⟩ := hT.2 i t (by rw [List.getElem?_append_left h1]; exact h2)
      rw [if_neg (by omega)]
      exact ⟨a1, a2, a3, a4⟩
    · subst h2
      rw [h1, if_pos ⟨rfl, rfl⟩, nI_1]
      exact ⟨z1, rfl, z3, z4⟩
theorem c87_m {ν : Mem} {T : List Tk} {G : Lt} {s k i n : Nat} {en : Nat → Nat} (κ21 : Mem → Int32 → Option Mem) (κ62 : Mem → Int32 → Int32 → Int32 → Int32 → Option Mem) (x1 x3 : Int32) (hg : GmM ν G s en) (hk : k < G.m) (hT : TkR ν T) (h24 : T.length < 24) : ∃ ν', f_Mo_cut_87 κ21 κ62 n ν x1 (nI k) x3 (nI i) = κ62 ν' x1 (nI k) x3 (nI (i + 1)) ∧ TkR ν' (T ++ [(G.b k + i, 1, G.p k, en k)]) ∧ CtF ν ν' := by
  have hm := hg.2.2.1
  obtain ⟨g1, g2, g3, g4, g5, g6⟩ := hg.2.2.2.1 k hk
  unfold f_Mo_cut_87
  have t0 := hT.1
  rw [gd_i (by rw [nI_toInt (by omega)]; omega), t0, gd_i (by rw [nI_toInt (by omega)]; omega), nI_clamp (show k < 2 ^ 31 by omega), nI_clamp (show T.length < 2 ^ 31 by omega), g1, nI_add, bd_e]
  have c1 : (wi ν 26 T.length (nI (G.b k + i))).1 0 37 = nI T.length := by rw [wi_o (by omega)]; exact t0
  rw [c1, gd_i (by rw [nI_toInt (by omega)]; omega), nI_clamp (show T.length < 2 ^ 31 by omega), bd_e]
  have c2 : (wi (wi ν 26 T.length (nI (G.b k + i))) 27 T.length 0).1 0 37 = nI T.length := by rw [wi_o (by omega)]; exact c1
  have d2 : (wi (wi ν 26 T.length (nI (G.b k + i))) 27 T.length 0).1 16 k = nI (G.p k) := by rw [wi_o (by omega), wi_o (by omega)]; exact g3
  rw [gd_i (by rw [nI_toInt (by omega)]; omega), c2, gd_i (by rw [nI_toInt (by omega)]; omega), nI_clamp (show T.length < 2 ^ 31 by omega), d2, bd_e]
  have c3 : (wi (wi (wi ν 26 T.length (nI (G.b k + i))) 27 T.length 0) 28 T.length (nI (G.p k))).1 0 37 = nI T.length := by rw [wi_o (by omega)]; exact c2
  have d3 : (wi (wi (wi ν 26 T.length (nI (G.b k + i))) 27 T.length 0) 28 T.length (nI (G.p k))).1 18 k = nI (en k) := by rw [wi_o (by omega), wi_o (by omega), wi_o (by omega)]; exact g5
  rw [gd_i (by rw [nI_toInt (by omega)]; omega), c3, gd_i (by rw [nI_toInt (by omega)]; omega), nI_clamp (show T.length < 2 ^ 31 by omega), d3, bd_e]
  have c4 : (wi (wi (wi (wi ν 26 T.length (nI (G.b k + i))) 27 T.length 0) 28 T.length (nI (G.p k))) 29 T.length (nI (en k))).1 0 37 = nI T.length := by rw [wi_o (by omega)]; exact c3
  rw [c4, bd_e, nI_1]
  have hT1 : TkR (wi (wi (wi (wi (wi ν 26 T.length (nI (G.b k + i))) 27 T.length 0) 28 T.length (nI (G.p k))) 29 T.length (nI (en k))) 0 37 (nI (T.length + 1))) (T ++ [(G.b k + i, 0, G.p k, en k)]) := by
    refine ⟨?_, ?_⟩
    · rw [wi_g, if_pos ⟨rfl, rfl⟩, List.length_append]; rfl
    · intro q t ht
      rcases app1 ht with ⟨h1, h2⟩ | ⟨h1, h2⟩
      · obtain ⟨a1, a2, a3, a4⟩ := hT.2 q t h2
        simp only [wi_g]
        refine ⟨?_, ?_, ?_, ?_⟩
        · repeat rw [if_neg (by omega)]
          exact a1
        · repeat rw [if_neg (by omega)]
          exact a2
        · repeat rw [if_neg (by omega)]
          exact a3
        · repeat rw [if_neg (by omega)]
          exact a4
      · subst h2
        rw [h1]
        simp only [wi_g]
        refine ⟨?_, ?_, ?_, ?_⟩
        · simp
        · simp [nI_0]
        · simp
        · simp
  obtain ⟨ν', r1, r2, r3⟩ := c155_m (n := n) κ21 κ62 x1 (nI k) x3 (nI i) hT1 h24
  refine ⟨ν', ?_, r2, ?_⟩
  · rw [r1, nI_1]
  · exact ((((CtF.wi (by omega)).tr (CtF.wi (by omega))).tr (CtF.wi (by omega))).tr ((CtF.wi (by omega)).tr (CtF.wi (by omega)))).tr r3
theorem c62_m {G : Lt} {s k : Nat} {en : Nat → Nat} {ct : Nat → Int32} {T0 : List Tk} (κ21 : Mem → Int32 → Option Mem) (x1 : Int32) (hk : k < G.m) (h24 : T0.length + G.l k ≤ 24) : ∀ j i n (ν : Mem), i + j = G.l k → 1 ≤ i → j < n → GmM ν G s en → TkR ν (T0 ++ (pcC (ct k) i).1.map (tkM (G.b k) (G.p k) (en k)) ++ [tkM (G.b k) (G.p k) (en k) ((pcC (ct k) i).2, i - (pcC (ct k) i).2)]) → ∃ ν', f_Mo_cut_62 κ21 n ν x1 (nI k) (ct k) (nI i) = κ21 ν' (x1 + (-1)) ∧ TkR ν' (T0 ++ tkN G en ct k) ∧ CtF ν ν' := by
  intro j
  induction j with
  | zero =>
    intro i n ν hi h1 hn hg hT
    obtain ⟨n, rfl⟩ : ∃ n', n = n' + 1 := ⟨n - 1, by omega⟩
    have hm := hg.2.2.1
    have g2 := (hg.2.2.2.1 k hk).2.1
    have e : i = G.l k := by omega
    subst e
    refine ⟨ν, ?_, ?_, CtF.rf ν⟩
    · unfold f_Mo_cut_62
      rw [gd_i (by rw [nI_toInt (by omega)]; omega), nI_clamp (by omega), g2, if_pos (nI_le (Nat.le_refl _) (by omega)), bd_e]
    · unfold tkN pcs
      rw [List.map_append]
      rw [List.append_assoc] at hT
      exact hT
  | succ j ih =>
    intro i n ν hi h1 hn hg hT
    obtain ⟨n, rfl⟩ : ∃ n', n = n' + 1 := ⟨n - 1, by omega⟩
    have hm := hg.2.2.1
    have g2 := (hg.2.2.2.1 k hk).2.1
    have st := (pcC_st (ct k) i).2 h1
    have e0 : pcC (ct k) (i + 1) = if i ≠ 0 ∧ bitC (ct k) i = true then ((pcC (ct k) i).1 ++ [((pcC (ct k) i).2, i - (pcC (ct k) i).2)], i) else pcC (ct k) i := rfl
    have cl := cgT_len _ _ (pcC_cg (ct k) (G.b k) (G.p k) (en k) i)
    rw [List.length_map] at cl
    have ll : (T0 ++ (pcC (ct k) i).1.map (tkM (G.b k) (G.p k) (en k))).length + 1 < 24 ∨ (T0 ++ (pcC (ct k) i).1.map (tkM (G.b k) (G.p k) (en k))).length + 1 ≤ 23 := by
      rw [List.length_append, List.length_map]; omega
    unfold f_Mo_cut_62
    rw [gd_i (by rw [nI_toInt (by omega)]; omega), nI_clamp (by omega), g2, if_neg (nI_ge (by omega) (by omega)), if_neg (nI_ne0 (by omega) (by omega))]
    by_cases c : ((ct k >>> (nI i &&& 31)) &&& (1 : Int32)) = 0
    · rw [if_pos c]
      have eb : bitC (ct k) i = false := by unfold bitC; rw [decide_eq_false_iff_not]; exact fun h => h c
      rw [eb, if_neg (fun h => by cases h.2)] at e0
      obtain ⟨ν1, r1, r2, r3⟩ := c155_m (n := n) κ21 (f_Mo_cut_62 κ21 n) x1 (nI k) (ct k) (nI i) hT (by omega)
      obtain ⟨ν', s1, s2, s3⟩ := ih (i + 1) n ν1 (by omega) (by omega) (by omega) (r3.gm hg) (by rw [e0]; rw [show i + 1 - (pcC (ct k) i).2 = i - (pcC (ct k) i).2 + 1 by omega]; exact r2)
      refine ⟨ν', ?_, s2, r3.tr s3⟩
      rw [← s1, r1, nI_1]
    · rw [if_neg c]
      have eb : bitC (ct k) i = true := by unfold bitC; rw [decide_eq_true_eq]; exact c
      rw [if_pos (show i ≠ 0 ∧ bitC (ct k) i = true from ⟨by omega, eb⟩)] at e0
      obtain ⟨ν1, r1, r2, r3⟩ := c87_m (n := n) (i := i) κ21 (f_Mo_cut_62 κ21 n) x1 (ct k) hg hk hT (by rw [List.length_append]; show _ + 1 < 24; omega)
      obtain ⟨ν', s1, s2, s3⟩ := ih (i + 1) n ν1 (by omega) (by omega) (by omega) (r3.gm hg) (by
        rw [e0]
        show TkR ν1 (T0 ++ ((pcC (ct k) i).1 ++ [((pcC (ct k) i).2, i - (pcC (ct k) i).2)]).map (tkM (G.b k) (G.p k) (en k)) ++ [tkM (G.b k) (G.p k) (en k) (i, i + 1 - i)])
        rw [List.map_append, ← List.append_assoc, show i + 1 - i = 1 by omega]
        exact r2)
      refine ⟨ν', ?_, s2, r3.tr s3⟩
      rw [← s1, r1]
theorem node_c {ν : Mem} {G : Lt} {s k n : Nat} {en : Nat → Nat} {ct : Nat → Int32} {T0 : List Tk} (κ21 : Mem → Int32 → Option Mem) (x1 : Int32) (hG : LtOK G s) (hk : k < G.m) (h24 : T0.length ≤ G.b k) (hn : 30 < n) (hg : GmM ν G s en) (hT : TkR ν T0) : ∃ ν', f_Mo_cut_58 κ21 n ν x1 (nI k) (ct k) = κ21 ν' (x1 + (-1)) ∧ TkR ν' (T0 ++ tkN G en ct k) ∧ CtF ν ν' := by
  have hs := hG.hs
  have hm := hg.2.2.1
  obtain ⟨f1, f2, f3⟩ := hG.fit k hk
  obtain ⟨n, rfl⟩ : ∃ n', n = n' + 1 := ⟨n - 1, by omega⟩
  have g2 := (hg.2.2.2.1 k hk).2.1
  obtain ⟨ν1, r1, r2, r3⟩ := c87_m (n := n) (i := 0) κ21 (f_Mo_cut_62 κ21 n) x1 (ct k) hg hk hT (by omega)
  have e1 : pcC (ct k) 1 = ([], 0) := rfl
  obtain ⟨ν', s1, s2, s3⟩ := c62_m (s := s) (ct := ct) (T0 := T0) κ21 x1 hk (by omega) (G.l k - 1) 1 n ν1 (by omega) (by omega) (by omega) (r3.gm hg) (by rw [e1]; show TkR ν1 (T0 ++ [] ++ [(G.b k + 0, 1, G.p k, en k)]); rw [List.append_nil]; exact r2)
  refine ⟨ν', ?_, s2, r3.tr s3⟩
  rw [← s1, ← r1]
  unfold f_Mo_cut_58
  show gd (inb (nI k) 700) (if ν.1 15 (nI k).toNatClampNeg ≤ 0 then _ else (if (0 : Int32) = 0 then f_Mo_cut_87 κ21 (f_Mo_cut_62 κ21 n) n ν x1 (nI k) (ct k) 0 else _)) = _
  rw [gd_i (by rw [nI_toInt (by omega)]; omega), nI_clamp (by omega), g2, if_neg (nI_nle (by omega) (by omega)), if_pos rfl]
  rfl
def PtM (ν : Mem) (P : List Nat) : Prop := P.length ≤ 24 ∧ ν.1 0 27 = nI P.length ∧ ∀ j k, P[j]? = some k → ν.1 21 j = nI k
theorem CtF.pt {ν ν' : Mem} {P : List Nat} (f : CtF ν ν') (h : PtM ν P) : PtM ν' P := by
  refine ⟨h.1, ?_, ?_⟩
  · rw [f.2.1 27 (by omega)]; exact h.2.1
  · rw [f.1 21 (by omega) (by omega)]; exact h.2.2
theorem cut21_m {G : Lt} {s : Nat} {en : Nat → Nat} {ct : Nat → Int32} {P : List Nat} (hG : LtOK G s) (hP : ∀ j k, P[j]? = some k → k < G.m ∧ G.b k = pend G P[j + 1]?) : ∀ j n (ν : Mem), j ≤ P.length → j + 60 < n → GeM ν G s en ct → PtM ν P → TkR ν (acT G en ct P j) → ∃ ν', f_Mo_cut_21 n ν (iI ((j : Int) - 1)) = some ν' ∧ TkR ν' (acT G en ct P 0) ∧ CtF ν ν' := by
  intro j
  have hs := hG.hs
  induction j with
  | zero =>
    intro n ν hj hn hg hp hT
    obtain ⟨n, rfl⟩ : ∃ n', n = n' + 1 := ⟨n - 1, by omega⟩
    refine ⟨ν, ?_, hT, CtF.rf ν⟩
    show (if iI (((0 : Nat) : Int) - 1) < 0 then some ν else _) = _
    rw [if_pos (by decide)]
  | succ j ih =>
    intro n ν hj hn hg hp hT
    obtain ⟨n, rfl⟩ : ∃ n', n = n' + 1 := ⟨n - 1, by omega⟩
    have hl := hp.1
    have hm := hg.1.2.2.1
    have e : P[j]? = some P[j] := List.getElem?_eq_getElem (by omega)
    obtain ⟨a1, a2⟩ := hP j _ e
    have cg := cgT_len _ _ (acT_cg (en := en) (ct := ct) hG hP (P.length - (j + 1)) (j + 1) (by omega))
    rw [← a2] at cg
    obtain ⟨g1, g2, g3, g4, g5, g6⟩ := hg.1.2.2.2.1 _ a1
    obtain ⟨ν1, b1, b2, b3⟩ := node_c (n := n) (k := P[j]) (ct := ct) (f_Mo_cut_21 n) (nI j) hG a1 (by omega) (by omega) hg.1 hT
    rw [← acT_s e] at b2
    obtain ⟨ν', c2, c3, c4⟩ := ih n ν1 (by omega) (by omega) (b3.ge hg) (b3.pt hp) b2
    refine ⟨ν', ?_, c3, b3.tr c4⟩
    rw [show (((j + 1 : Nat) : Int) - 1) = (j : Int) by omega, iI_nat (by omega)]
    have nx : nI j + (-1) = iI ((j : Int) - 1) := by
      rw [← iI_nat (by omega), show (-1 : Int32) = iI (-1) by decide, iI_add]
      rfl
    rw [nx, c2] at b1
    rw [← b1]
    show (if nI j < 0 then some ν else gd (inb (nI j) 24) (bd (ν.1 21 (nI j).toNatClampNeg) (fun v1 => gd (inb v1 700) (if ν.1 18 v1.toNatClampNeg = 40 then f_Mo_cut_58 (f_Mo_cut_21 n) n ν (nI j) v1 0 else gd (inb v1 700) (gd (inb (ν.1 18 v1.toNatClampNeg) 40) (f_Mo_cut_58 (f_Mo_cut_21 n) n ν (nI j) v1 (ν.1 6 (ν.1 18 v1.toNatClampNeg).toNatClampNeg))))))) = _
    rw [if_neg (nI_pos (by omega)), gd_i (by rw [nI_toInt (by omega)]; omega), nI_clamp (by omega), hp.2.2 j _ e, bd_e, gd_i (by rw [nI_toInt (by omega)]; omega), nI_clamp (by omega), g5]
    rcases hg.2 _ a1 with ⟨q1, q2⟩ | ⟨q1, q2⟩
    · rw [if_neg (by rw [show (40 : Int32) = nI 40 from rfl]; exact fun h => by have := (nI_eq (by omega) (by omega)).mp h; omega), gd_i (by rw [nI_toInt (by omega)]; omega), gd_i (by rw [nI_toInt (by omega)]; omega), nI_clamp (by omega), ← q2]
    · rw [if_pos (by rw [q1]; rfl), ← q2]
