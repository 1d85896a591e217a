/-! PURE: compounds, both sides -/
def tk0 : Tk := (0, 0, 0, 0)
def TkY (μ : Mem) (T : List Tk) : Prop := μ.1 35 7 = nI T.length ∧ ∀ i t, T[i]? = some t → μ.1 36 i = nI t.1 ∧ μ.1 37 i = nI t.2.1 ∧ μ.1 38 i = nI t.2.2.1 ∧ μ.1 39 i = enX t.2.2.2
theorem TkX.y {μ : Mem} {T : List Tk} (h : TkX μ T) : TkY μ T := ⟨h.1, fun i t ht => ⟨(h.2 i t ht).1, (h.2 i t ht).2.1, (h.2 i t ht).2.2.1, (h.2 i t ht).2.2.2.1⟩⟩
def bgF (T : List Tk) (x i : Nat) : Bool := decide ((T.getD i tk0).1 = x)
def edF (T : List Tk) (x i : Nat) : Bool := decide ((T.getD i tk0).1 + (T.getD i tk0).2.1 = x)
theorem bgn_x {μ : Mem} {T : List Tk} {x e : Nat} (h : TkY μ T) (hc : cgT 0 e T) (he : e ≤ 24) (hx : x ≤ 24) : ∀ j i n, i + j = T.length → j < n → f_TokenRow_beginningAt_2 μ n (nI x) (nI i) = some (if fsF (bgF T x) j i < T.length then nI (fsF (bgF T x) j i) else -1) := by
  have hl := cgT_len T 0 hc
  intro j
  induction j with
  | zero =>
    intro i n hi hn
    obtain ⟨n, rfl⟩ : ∃ n', n = n' + 1 := ⟨n - 1, by omega⟩
    unfold f_TokenRow_beginningAt_2
    rw [h.1, if_pos (nI_le (by omega) (by omega)), if_neg (show ¬ fsF (bgF T x) 0 i < T.length by show ¬ i < T.length; omega)]
  | succ j ih =>
    intro i n hi hn
    obtain ⟨n, rfl⟩ : ∃ n', n = n' + 1 := ⟨n - 1, by omega⟩
    have e : T[i]? = some T[i] := List.getElem?_eq_getElem (by omega)
    have a1 := (h.2 i _ e).1
    have b1 := (cgT_at T 0 hc i _ e).2.2.1
    have e0 : fsF (bgF T x) (j + 1) i = if bgF T x i = true then i else fsF (bgF T x) j (i + 1) := rfl
    unfold f_TokenRow_beginningAt_2
    rw [h.1, if_neg (nI_ge (by omega) (by omega)), gd_i (by rw [nI_toInt (by omega)]; omega), nI_clamp (by omega), a1, e0]
    have q : bgF T x i = true ↔ nI (T[i]).1 = nI x := by
      unfold bgF
      rw [decide_eq_true_eq, getD_some e, nI_eq (by omega) (by omega)]
    by_cases c : bgF T x i = true
    · rw [if_pos (q.mp c), if_pos c, if_pos (show i < T.length by omega)]
    · rw [if_neg (fun h => c (q.mpr h)), if_neg c, bd_e, nI_1, ih (i + 1) n (by omega) (by omega)]
theorem edn_x {μ : Mem} {T : List Tk} {x e : Nat} (h : TkY μ T) (hc : cgT 0 e T) (he : e ≤ 24) (hx : x ≤ 24) : ∀ j i n, i + j = T.length → j < n → f_TokenRow_endingAt_2 μ n (nI x) (nI i) = some (if fsF (edF T x) j i < T.length then nI (fsF (edF T x) j i) else -1) := by
  have hl := cgT_len T 0 hc
  intro j
  induction j with
  | zero =>
    intro i n hi hn
    obtain ⟨n, rfl⟩ : ∃ n', n = n' + 1 := ⟨n - 1, by omega⟩
    unfold f_TokenRow_endingAt_2
    rw [h.1, if_pos (nI_le (by omega) (by omega)), if_neg (show ¬ fsF (edF T x) 0 i < T.length by show ¬ i < T.length; omega)]
  | succ j ih =>
    intro i n hi hn
    obtain ⟨n, rfl⟩ : ∃ n', n = n' + 1 := ⟨n - 1, by omega⟩
    have e : T[i]? = some T[i] := List.getElem?_eq_getElem (by omega)
    obtain ⟨a1, a2, _⟩ := h.2 i _ e
    have b1 := (cgT_at T 0 hc i _ e).2.2.1
    have e0 : fsF (edF T x) (j + 1) i = if edF T x i = true then i else fsF (edF T x) j (i + 1) := rfl
    unfold f_TokenRow_endingAt_2
    rw [h.1, if_neg (nI_ge (by omega) (by omega)), gd_i (by rw [nI_toInt (by omega)]; omega), gd_i (by rw [nI_toInt (by omega)]; omega), nI_clamp (by omega), a1, a2, nI_add, e0]
    have q : edF T x i = true ↔ nI ((T[i]).1 + (T[i]).2.1) = nI x := by
      unfold edF
      rw [decide_eq_true_eq, getD_some e, nI_eq (by omega) (by omega)]
    by_cases c : edF T x i = true
    · rw [if_pos (q.mp c), if_pos c, if_pos (show i < T.length by omega)]
    · rw [if_neg (fun h => c (q.mpr h)), if_neg c, bd_e, nI_1, ih (i + 1) n (by omega) (by omega)]
/-- plain node k holds the i-th token and more -/
def CmK (T : List Tk) (G : Lt) (ct : Nat → Int32) (i k : Nat) : Prop := ct k = 0 ∧ (∃ t, T[i]? = some t ∧ t.1 = G.b k) ∧ ∃ j u, i < j ∧ T[j]? = some u ∧ u.1 + u.2.1 = G.b k + G.l k
theorem att_x {μ : Mem} {T : List Tk} {G : Lt} {s e k n : Nat} {chd : Int32} {en : Nat → Nat} {ct : Nat → Int32} (hG : LtOK G s) (hg : GeX μ G s chd en ct) (hk : k < G.m) (hT : TkY μ T) (hc : cgT 0 e T) (he : e ≤ 24) (hn : 30 < n) : ∃ μ', f_TokenRow_attachCompound n μ (nI k) = some μ' ∧ ((μ' = μ ∧ ∀ i, ¬ CmK T G ct i k) ∨ ∃ i, i < T.length ∧ CmK T G ct i k ∧ μ' = wi μ 40 i (nI k)) := by
  have hl := cgT_len T 0 hc
  have hs := hG.hs
  have hm := hg.1.2.2.1
  obtain ⟨f1, f2, f3⟩ := hG.fit k hk
  have AT := cgT_at T 0 hc
  unfold f_TokenRow_attachCompound
  rw [hg.en hk, cl_s, hg.ct hk, cl_s]
  by_cases c : ct k = 0
  · rw [if_pos c, hg.1.bg hk, cl_s]
    unfold f_TokenRow_beginningAt f_TokenRow_endingAt
    have B := bgn_x hT hc he (show G.b k ≤ 24 by omega) T.length 0 n (by omega) (by omega)
    have E := edn_x hT hc he (show G.b k + G.l k ≤ 24 by omega) T.length 0 n (by omega) (by omega)
    rw [nI_0] at B E
    rw [B, cl_s, hg.1.nd hk, cl_s, E, cl_s]
    obtain ⟨b1, b2, b3, b4⟩ := fsF_r (P := bgF T (G.b k)) T.length 0
    obtain ⟨e1, e2, e3, e4⟩ := fsF_r (P := edF T (G.b k + G.l k)) T.length 0
    generalize hI : fsF (bgF T (G.b k)) T.length 0 = I at *
    generalize hE : fsF (edF T (G.b k + G.l k)) T.length 0 = J at *
    by_cases cI : I < T.length
    · have eI : T[I]? = some T[I] := List.getElem?_eq_getElem cI
      have hIb : (T[I]).1 = G.b k := by
        have := b3 (by omega)
        unfold bgF at this
        rw [decide_eq_true_eq, getD_some eI] at this
        exact this
      have uI : ∀ i t, T[i]? = some t → t.1 = G.b k → i = I := by
        intro i t ht hb
        by_cases c1 : i < I
        · have x1 := (AT i t ht).2.2.2.2 I _ c1 eI
          have x2 := (AT i t ht).2.1
          omega
        · by_cases c2 : I < i
          · have x1 := (AT I _ eI).2.2.2.2 i _ c2 ht
            have x2 := (AT I _ eI).2.1
            omega
          · omega
      rw [if_pos cI, if_neg (nI_nem1 (by omega))]
      by_cases cJ : J < T.length
      · have eJ : T[J]? = some T[J] := List.getElem?_eq_getElem cJ
        have hJe : (T[J]).1 + (T[J]).2.1 = G.b k + G.l k := by
          have := e3 (by omega)
          unfold edF at this
          rw [decide_eq_true_eq, getD_some eJ] at this
          exact this
        have uJ : ∀ i t, T[i]? = some t → t.1 + t.2.1 = G.b k + G.l k → i = J := by
          intro i t ht hb
          by_cases c1 : i < J
          · have x1 := (AT i t ht).2.2.2.2 J _ c1 eJ
            have x2 := (AT J _ eJ).2.1
            omega
          · by_cases c2 : J < i
            · have x1 := (AT J _ eJ).2.2.2.2 i _ c2 ht
              have x2 := (AT i _ ht).2.1
              omega
            · omega
        rw [if_pos cJ]
        by_cases cc : J ≤ I
        · rw [if_pos (nI_le cc (by omega))]
          refine ⟨μ, rfl, Or.inl ⟨rfl, ?_⟩⟩
          rintro i ⟨_, ⟨t, t1, t2⟩, j, u, u1, u2, u3⟩
          have := uI i t t1 t2
          have := uJ j u u2 u3
          omega
        · rw [if_neg (nI_ge (by omega) (by omega)), gd_i (by rw [nI_toInt (by omega)]; omega), nI_clamp (by omega), bd_e]
          exact ⟨_, rfl, Or.inr ⟨I, cI, ⟨c, ⟨_, eI, hIb⟩, J, _, by omega, eJ, hJe⟩, rfl⟩⟩
      · rw [if_neg cJ, if_pos (by rw [i_le, v_m1, nI_toInt (by omega)]; omega)]
        refine ⟨μ, rfl, Or.inl ⟨rfl, ?_⟩⟩
        rintro i ⟨_, _, j, u, u1, u2, u3⟩
        have hj : j < T.length := (List.getElem?_eq_some_iff.mp u2).1
        have := e4 j (by omega) (by omega)
        unfold edF at this
        rw [decide_eq_false_iff_not, getD_some u2] at this
        exact this u3
    · rw [if_neg cI, if_pos rfl]
      refine ⟨μ, rfl, Or.inl ⟨rfl, ?_⟩⟩
      rintro i ⟨_, ⟨t, t1, t2⟩, _⟩
      have hi : i < T.length := (List.getElem?_eq_some_iff.mp t1).1
      have := b4 i (by omega) (by omega)
      unfold bgF at this
      rw [decide_eq_false_iff_not, getD_some t1] at this
      exact this t2
  · rw [if_neg c]
    exact ⟨μ, rfl, Or.inl ⟨rfl, fun i h => c h.1⟩⟩
/-- the compounds of the class, of the plain nodes S -/
def CpX (μ : Mem) (T : List Tk) (G : Lt) (ct : Nat → Int32) (S : List Nat) : Prop := ∀ i, i < T.length → (μ.1 40 i = -1 ∧ ∀ k, k ∈ S → ¬ CmK T G ct i k) ∨ ∃ k, k ∈ S ∧ CmK T G ct i k ∧ μ.1 40 i = nI k
def PpX (μ : Mem) (P : List Nat) : Prop := P.length ≤ 24 ∧ μ.1 30 7 = nI P.length ∧ ∀ (j k : Nat), P[j]? = some k → μ.1 34 j = nI k
theorem nodeP_x {μ : Mem} {P : List Nat} {j k n : Nat} (h : PpX μ P) (hk : P[j]? = some k) : f_RouteP_node n μ (nI (P.length - (j + 1))) = some (nI k) := by
  obtain ⟨h1, _⟩ := List.getElem?_eq_some_iff.mp hk
  have hl := h.1
  unfold f_RouteP_node
  rw [h.2.1, show (1 : Int32) = nI 1 from rfl, pk_sub (by omega), pk_sub (by omega), show P.length - 1 - (P.length - (j + 1)) = j by omega, gd_i (by rw [nI_toInt (by omega)]; omega), nI_clamp (by omega), h.2.2 j k hk]
theorem TkF.pp {μ μ' : Mem} {P : List Nat} (f : TkF μ μ') (h : PpX μ P) : PpX μ' P := by
  refine ⟨h.1, ?_, ?_⟩
  · rw [f.1 30 (by omega)]; exact h.2.1
  · rw [f.1 34 (by omega)]; exact h.2.2
theorem comp_x {G : Lt} {s e : Nat} {chd : Int32} {en : Nat → Nat} {ct : Nat → Int32} {P : List Nat} {T : List Tk} (hG : LtOK G s) (hP : ∀ (j k : Nat), P[j]? = some k → k < G.m) (hc : cgT 0 e T) (he : e ≤ 24) : ∀ j n (μ : Mem), j ≤ P.length → j + 60 < n → GeX μ G s chd en ct → PpX μ P → TkY μ T → CpX μ T G ct (P.drop j) → ∃ μ', f_TokenRow_rebuild_32 n μ (nI (P.length - j)) = some μ' ∧ TkY μ' T ∧ CpX μ' T G ct P ∧ TkF μ μ' := by
  intro j
  induction j with
  | zero =>
    intro n μ hj hn hg hp hT hC
    obtain ⟨n, rfl⟩ : ∃ n', n = n' + 1 := ⟨n - 1, by omega⟩
    have hl := hp.1
    refine ⟨μ, ?_, hT, hC, TkF.rf μ⟩
    show cl (f_RouteP_length n μ) (fun v1 => (if v1 ≤ nI (P.length - 0) then some μ else _)) = _
    unfold f_RouteP_length
    rw [cl_s, hp.2.1, Nat.sub_zero, if_pos (nI_le (Nat.le_refl _) (by omega))]
  | succ j ih =>
    intro n μ hj hn hg hp hT hC
    obtain ⟨n, rfl⟩ : ∃ n', n = n' + 1 := ⟨n - 1, by omega⟩
    have hl := hp.1
    have h1 : j < P.length := by omega
    have e1 : P[j]? = some P[j] := List.getElem?_eq_getElem h1
    have dr : P.drop j = P[j] :: P.drop (j + 1) := List.drop_eq_getElem_cons h1
    obtain ⟨μ1, b1, b2⟩ := att_x (n := n) hG hg (hP j _ e1) hT hc he (by omega)
    have F1 : TkF μ μ1 := by
      rcases b2 with ⟨q, _⟩ | ⟨i, _, _, q⟩
      · rw [q]; exact TkF.rf μ
      · rw [q]; exact TkF.wi (by omega) (by omega)
    have T1 : TkY μ1 T := by
      rcases b2 with ⟨q, _⟩ | ⟨i, _, _, q⟩
      · rw [q]; exact hT
      · rw [q]
        unfold TkY
        rw [wi_o (show (35 : Nat) ≠ 40 by omega), wi_o (show (36 : Nat) ≠ 40 by omega), wi_o (show (37 : Nat) ≠ 40 by omega), wi_o (show (38 : Nat) ≠ 40 by omega), wi_o (show (39 : Nat) ≠ 40 by omega)]
        exact hT
    have C1 : CpX μ1 T G ct (P.drop j) := by
      intro i hi
      rw [dr]
      rcases b2 with ⟨q, q2⟩ | ⟨i0, i1, i2, q⟩
      · rw [q]
        rcases hC i hi with ⟨c1, c2⟩ | ⟨k, c1, c2, c3⟩
        · refine Or.inl ⟨c1, fun k hk => ?_⟩
          rcases List.mem_cons.mp hk with hk | hk
          · rw [hk]; exact q2 i
          · exact c2 k hk
        · exact Or.inr ⟨k, List.mem_cons_of_mem _ c1, c2, c3⟩
      · rw [q, wi_g]
        by_cases c : i = i0
        · rw [if_pos ⟨rfl, c⟩]
          exact Or.inr ⟨P[j], List.mem_cons_self, by rw [c]; exact i2, rfl⟩
        · rw [if_neg (by omega)]
          rcases hC i hi with ⟨c1, c2⟩ | ⟨k, c1, c2, c3⟩
          · refine Or.inl ⟨c1, fun k hk => ?_⟩
            rcases List.mem_cons.mp hk with hk | hk
            · rw [hk]
              rintro ⟨_, ⟨t, t1, t2⟩, _⟩
              obtain ⟨_, ⟨t', t3, t4⟩, _⟩ := i2
              by_cases d : i < i0
              · have x1 := (cgT_at T 0 hc i t t1).2.2.2.2 i0 t' d t3
                have x2 := (cgT_at T 0 hc i t t1).2.1
                omega
              · have x1 := (cgT_at T 0 hc i0 t' t3).2.2.2.2 i t (by omega) t1
                have x2 := (cgT_at T 0 hc i0 t' t3).2.1
                omega
            · exact c2 k hk
          · exact Or.inr ⟨k, List.mem_cons_of_mem _ c1, c2, c3⟩
    obtain ⟨μ', c1, c2, c3, c4⟩ := ih n μ1 (by omega) (by omega) (F1.ge hg) (F1.pp hp) T1 C1
    refine ⟨μ', ?_, c2, c3, F1.tr c4⟩
    rw [← c1]
    show cl (f_RouteP_length n μ) (fun v1 => (if v1 ≤ nI (P.length - (j + 1)) then some μ else (cl (f_RouteP_node n μ (nI (P.length - (j + 1)))) (fun v2 => cl (f_TokenRow_attachCompound n μ v2) (fun μ4 => bd (nI (P.length - (j + 1)) + 1) (fun v5 => f_TokenRow_rebuild_32 n μ4 v5)))))) = _
    unfold f_RouteP_length
    rw [cl_s, hp.2.1, if_neg (nI_ge (by omega) (by omega)), nodeP_x hp e1, cl_s, b1, cl_s, bd_e, nI_1, show P.length - (j + 1) + 1 = P.length - j by omega]
/-! the reference's plain steps and compounds -/
def PlM (ν : Mem) (G : Lt) (en : Nat → Nat) (P : List Nat) : Prop := P.length ≤ 24 ∧ ν.1 0 32 = nI P.length ∧ ∀ (j k : Nat), P[j]? = some k → ν.1 22 j = nI (G.b k) ∧ ν.1 23 j = nI (G.l k) ∧ ν.1 24 j = nI (G.p k) ∧ ν.1 25 j = nI (en k)
def PlF (ν ν' : Mem) : Prop := (∀ q, q < 22 ∨ 25 < q → ν'.1 q = ν.1 q) ∧ ν'.2 = ν.2
theorem plain_m {G : Lt} {s : Nat} {en : Nat → Nat} {P : List Nat} (hP : ∀ (j k : Nat), P[j]? = some k → k < G.m) : ∀ j i n (ν : Mem), i + j = P.length → j < n → GmM ν G s en → PtM ν P → (∀ (q k : Nat), q < i → P[q]? = some k → ν.1 22 q = nI (G.b k) ∧ ν.1 23 q = nI (G.l k) ∧ ν.1 24 q = nI (G.p k) ∧ ν.1 25 q = nI (en k)) → ∃ ν', f_Mo_plain_15 n ν (nI i) = some ν' ∧ (∀ (q k : Nat), P[q]? = some k → ν'.1 22 q = nI (G.b k) ∧ ν'.1 23 q = nI (G.l k) ∧ ν'.1 24 q = nI (G.p k) ∧ ν'.1 25 q = nI (en k)) ∧ PlF ν ν' := by
  intro j
  induction j with
  | zero =>
    intro i n ν hi hn hg hp h
    obtain ⟨n, rfl⟩ : ∃ n', n = n' + 1 := ⟨n - 1, by omega⟩
    have hl := hp.1
    refine ⟨ν, ?_, fun q k hq => h q k (by have := (List.getElem?_eq_some_iff.mp hq).1; omega) hq, ⟨fun _ _ => rfl, rfl⟩⟩
    unfold f_Mo_plain_15
    rw [hp.2.1, if_pos (nI_le (by omega) (by omega))]
  | succ j ih =>
    intro i n ν hi hn hg hp h
    obtain ⟨n, rfl⟩ : ∃ n', n = n' + 1 := ⟨n - 1, by omega⟩
    have hl := hp.1
    have hm := hg.2.2.1
    have e1 : P[i]? = some P[i] := List.getElem?_eq_getElem (by omega)
    have km := hP i _ e1
    obtain ⟨g1, g2, g3, g4, g5, g6⟩ := hg.2.2.2.1 _ km
    have p1 := hp.2.2 i _ e1
    generalize P[i] = K at *
    have F4 : ∀ q, q < 22 ∨ 25 < q → (wi (wi (wi (wi ν 22 i (nI (G.b K))) 23 i (nI (G.l K))) 24 i (nI (G.p K))) 25 i (nI (en K))).1 q = ν.1 q := fun q hq => by rw [wi_o (by omega), wi_o (by omega), wi_o (by omega), wi_o (by omega)]
    obtain ⟨ν', a1, a2, a3⟩ := ih (i + 1) n (wi (wi (wi (wi ν 22 i (nI (G.b K))) 23 i (nI (G.l K))) 24 i (nI (G.p K))) 25 i (nI (en K))) (by omega) (by omega) (by
      unfold GmM
      rw [F4 0 (by omega), F4 14 (by omega), F4 15 (by omega), F4 16 (by omega), F4 17 (by omega), F4 18 (by omega), F4 11 (by omega)]
      exact hg) (by
      unfold PtM
      rw [F4 0 (by omega), F4 21 (by omega)]
      exact hp) (by
      intro q k hq hk
      simp only [wi_g]
      by_cases c : q = i
      · subst c
        have : k = K := by rw [e1] at hk; exact (Option.some.inj hk).symm
        subst this
        simp
      · obtain ⟨z1, z2, z3, z4⟩ := h q k (by omega) hk
        refine ⟨?_, ?_, ?_, ?_⟩
        · repeat rw [if_neg (by omega)]
          exact z1
        · repeat rw [if_neg (by omega)]
          exact z2
        · repeat rw [if_neg (by omega)]
          exact z3
        · repeat rw [if_neg (by omega)]
          exact z4)
    refine ⟨ν', ?_, a2, ⟨fun q hq => (a3.1 q hq).trans (F4 q hq), a3.2⟩⟩
    rw [← a1]
    show (if ν.1 0 27 ≤ nI i then some ν else _) = _
    rw [hp.2.1, if_neg (nI_ge (by omega) (by omega)), gd_i (by rw [nI_toInt (by omega)]; omega), nI_clamp (show i < 2 ^ 31 by omega), p1, gd_i (by rw [nI_toInt (by omega)]; omega), gd_i (by rw [nI_toInt (by omega)]; omega), nI_clamp (show K < 2 ^ 31 by omega), g1, bd_e]
    rw [gd_i (by rw [nI_toInt (by omega)]; omega), wi_o (show (21 : Nat) ≠ 22 by omega), p1, gd_i (by rw [nI_toInt (by omega)]; omega), gd_i (by rw [nI_toInt (by omega)]; omega), nI_clamp (show K < 2 ^ 31 by omega), wi_o (show (15 : Nat) ≠ 22 by omega), g2, bd_e]
    rw [gd_i (by rw [nI_toInt (by omega)]; omega), wi_o (show (21 : Nat) ≠ 23 by omega), wi_o (show (21 : Nat) ≠ 22 by omega), p1, gd_i (by rw [nI_toInt (by omega)]; omega), gd_i (by rw [nI_toInt (by omega)]; omega), nI_clamp (show K < 2 ^ 31 by omega), wi_o (show (16 : Nat) ≠ 23 by omega), wi_o (show (16 : Nat) ≠ 22 by omega), g3, bd_e]
    rw [gd_i (by rw [nI_toInt (by omega)]; omega), wi_o (show (21 : Nat) ≠ 24 by omega), wi_o (show (21 : Nat) ≠ 23 by omega), wi_o (show (21 : Nat) ≠ 22 by omega), p1, gd_i (by rw [nI_toInt (by omega)]; omega), gd_i (by rw [nI_toInt (by omega)]; omega), nI_clamp (show K < 2 ^ 31 by omega), wi_o (show (18 : Nat) ≠ 24 by omega), wi_o (show (18 : Nat) ≠ 23 by omega), wi_o (show (18 : Nat) ≠ 22 by omega), g5, bd_e, bd_e, nI_1]
/-- what the reference's compound reads -/
def CrM (ν : Mem) (G : Lt) (en : Nat → Nat) (ct : Nat → Int32) (P : List Nat) (T : List Tk) : Prop := TkR ν T ∧ PlM ν G en P ∧ ∀ (j k : Nat), P[j]? = some k → (en k < 40 ∧ ct k = ν.1 6 (en k) ∨ en k = 40 ∧ ct k = 0)
theorem cp67_m {ν : Mem} {T : List Tk} {e x i : Nat} (κ : Int32 → Int32 → Option Int32) (x2 : Int32) (hT : TkR ν T) (hc : cgT 0 e T) (he : e ≤ 24) (hx : x ≤ 24) : ∀ j q n, q + j = T.length → j < n → (i < q → ∃ r, f_Mo_compound_67 κ ν n (nI i) x2 (nI x) (nI q) = r ∧ ((r = some x2 ∧ ∃ (p : Nat) (u : Tk), i < p ∧ T[p]? = some u ∧ u.1 + u.2.1 = x) ∨ (r = κ (nI i) (x2 + 1) ∧ ∀ (p : Nat) (u : Tk), q ≤ p → T[p]? = some u → ¬ u.1 + u.2.1 = x))) := by
  have hl := cgT_len T 0 hc
  intro j
  induction j with
  | zero =>
    intro q n hq hn hi
    obtain ⟨n, rfl⟩ : ∃ n', n = n' + 1 := ⟨n - 1, by omega⟩
    refine ⟨_, rfl, Or.inr ⟨?_, fun p u hp hu => by have := (List.getElem?_eq_some_iff.mp hu).1; omega⟩⟩
    unfold f_Mo_compound_67 f_Mo_compound_104
    rw [hT.1, if_pos (nI_le (by omega) (by omega)), bd_e]
  | succ j ih =>
    intro q n hq hn hi
    obtain ⟨n, rfl⟩ : ∃ n', n = n' + 1 := ⟨n - 1, by omega⟩
    have e1 : T[q]? = some T[q] := List.getElem?_eq_getElem (by omega)
    obtain ⟨a1, a2, _⟩ := hT.2 q _ e1
    have b1 := (cgT_at T 0 hc q _ e1).2.2.1
    unfold f_Mo_compound_67
    rw [hT.1, if_neg (nI_ge (by omega) (by omega)), gd_i (by rw [nI_toInt (by omega)]; omega), gd_i (by rw [nI_toInt (by omega)]; omega), nI_clamp (by omega), a1, a2, nI_add]
    have z := nI_eq (a := (T[q]).1 + (T[q]).2.1) (b := x) (by omega) (by omega)
    by_cases c : (T[q]).1 + (T[q]).2.1 = x
    · rw [if_pos (z.mpr c)]
      exact ⟨_, rfl, Or.inl ⟨rfl, q, _, hi, e1, c⟩⟩
    · rw [if_neg (fun h => c (z.mp h)), bd_e, nI_1]
      obtain ⟨r, r1, r2⟩ := ih (q + 1) n (by omega) (by omega) (by omega)
      refine ⟨r, r1, ?_⟩
      rcases r2 with r2 | ⟨r2, r3⟩
      · exact Or.inl r2
      · refine Or.inr ⟨r2, fun p u hp hu => ?_⟩
        by_cases d : p = q
        · subst d
          rw [e1] at hu
          rw [← Option.some.inj hu]
          exact c
        · exact r3 p u (by omega) hu
theorem cmp_m {ν : Mem} {T : List Tk} {G : Lt} {s e i : Nat} {en : Nat → Nat} {ct : Nat → Int32} {P : List Nat} (hG : LtOK G s) (hP : ∀ (j k : Nat), P[j]? = some k → k < G.m) (hr : CrM ν G en ct P T) (hc : cgT 0 e T) (he : e ≤ 24) (hi : i < T.length) : ∀ j q n, q + j = P.length → j + 30 < n → ∃ r, f_Mo_compound_2 ν n (nI i) (nI q) = some r ∧ ((r = -1 ∧ ∀ (p k : Nat), q ≤ p → P[p]? = some k → ¬ CmK T G ct i k) ∨ ∃ (p k : Nat), P[p]? = some k ∧ CmK T G ct i k ∧ r = nI p) := by
  have hl := cgT_len T 0 hc
  have hs := hG.hs
  obtain ⟨hT, hp, hct⟩ := hr
  have hpl := hp.1
  have eI : T[i]? = some T[i] := List.getElem?_eq_getElem hi
  have a26 := (hT.2 i _ eI).1
  have bI := (cgT_at T 0 hc i _ eI).2.2.1
  intro j
  induction j with
  | zero =>
    intro q n hq hn
    obtain ⟨n, rfl⟩ : ∃ n', n = n' + 1 := ⟨n - 1, by omega⟩
    refine ⟨-1, ?_, Or.inl ⟨rfl, fun p u hp hu => by have := (List.getElem?_eq_some_iff.mp hu).1; omega⟩⟩
    unfold f_Mo_compound_2
    rw [hp.2.1, if_pos (nI_le (by omega) (by omega))]
  | succ j ih =>
    intro q n hq hn
    obtain ⟨n, rfl⟩ : ∃ n', n = n' + 1 := ⟨n - 1, by omega⟩
    have e1 : P[q]? = some P[q] := List.getElem?_eq_getElem (by omega)
    have km := hP q _ e1
    obtain ⟨f1, f2, f3⟩ := hG.fit _ km
    obtain ⟨p1, p2, p3, p4⟩ := hp.2.2 q _ e1
    have cc := hct q _ e1
    generalize P[q] = K at *
    obtain ⟨r, r1, r2⟩ := ih (q + 1) n (by omega) (by omega)
    have nx : (¬ CmK T G ct i K) → ∃ r, f_Mo_compound_104 (f_Mo_compound_2 ν n) ν n (nI i) (nI q) = some r ∧ ((r = -1 ∧ ∀ (p k : Nat), q ≤ p → P[p]? = some k → ¬ CmK T G ct i k) ∨ ∃ (p k : Nat), P[p]? = some k ∧ CmK T G ct i k ∧ r = nI p) := by
      intro hne
      refine ⟨r, ?_, ?_⟩
      · unfold f_Mo_compound_104
        rw [bd_e, nI_1]; exact r1
      · rcases r2 with ⟨r2, r3⟩ | r2
        · refine Or.inl ⟨r2, fun p k h1 h2 => ?_⟩
          by_cases d : p = q
          · subst d
            rw [e1] at h2
            rw [← Option.some.inj h2]
            exact hne
          · exact r3 p k (by omega) h2
        · exact Or.inr r2
    have n47 : ct K = 0 → (T[i]).1 = G.b K → ∃ r, f_Mo_compound_47 (f_Mo_compound_2 ν n) ν n (nI i) (nI q) = some r ∧ ((r = -1 ∧ ∀ (p k : Nat), q ≤ p → P[p]? = some k → ¬ CmK T G ct i k) ∨ ∃ (p k : Nat), P[p]? = some k ∧ CmK T G ct i k ∧ r = nI p) := by
      intro h0 hb
      unfold f_Mo_compound_47
      rw [gd_i (by rw [nI_toInt (by omega)]; omega), gd_i (by rw [nI_toInt (by omega)]; omega), nI_clamp (by omega), p1, p2, nI_add, bd_e, bd_e, show nI i + 1 = nI (i + 1) from nI_1 i]
      obtain ⟨r', z1, z2⟩ := cp67_m (x := G.b K + G.l K) (i := i) (f_Mo_compound_2 ν n) (nI q) hT hc he (by omega) (T.length - (i + 1)) (i + 1) n (by omega) (by omega) (by omega)
      rw [z1]
      rcases z2 with ⟨z2, p, u, u1, u2, u3⟩ | ⟨z2, z3⟩
      · exact ⟨nI q, z2, Or.inr ⟨q, K, e1, ⟨h0, ⟨_, eI, hb⟩, p, u, u1, u2, u3⟩, rfl⟩⟩
      · have := nx (by
          rintro ⟨_, _, p, u, u1, u2, u3⟩
          exact z3 p u (by omega) u2 u3)
        rw [z2]
        unfold f_Mo_compound_104 at this
        rw [bd_e] at this
        exact this
    unfold f_Mo_compound_2
    rw [hp.2.1, if_neg (nI_ge (by omega) (by omega)), gd_i (by rw [nI_toInt (by omega)]; omega), nI_clamp (show q < 2 ^ 31 by omega), p4, bd_e, gd_i (by rw [nI_toInt (by omega)]; omega), gd_i (by rw [nI_toInt (by omega)]; omega), nI_clamp (show i < 2 ^ 31 by omega), p1, a26]
    have z := nI_eq (a := G.b K) (b := (T[i]).1) (by omega) (by omega)
    by_cases c : G.b K = (T[i]).1
    · rw [if_pos (z.mpr c)]
      rcases cc with ⟨q1, q2⟩ | ⟨q1, q2⟩
      · rw [if_neg (by rw [show (40 : Int32) = nI 40 from rfl]; exact fun h => by have := (nI_eq (by omega) (by omega)).mp h; omega), gd_i (by rw [nI_toInt (by omega)]; omega), nI_clamp (by omega), ← q2]
        by_cases d : ct K = 0
        · rw [if_pos d]; exact n47 d c.symm
        · rw [if_neg d]; exact nx (fun h => d h.1)
      · rw [if_pos (by rw [q1]; rfl)]; exact n47 q2 c.symm
    · rw [if_neg (fun h => c (z.mp h))]
      refine nx ?_
      rintro ⟨_, ⟨t, t1, t2⟩, _⟩
      rw [eI] at t1
      rw [← Option.some.inj t1] at t2
      exact c t2.symm
