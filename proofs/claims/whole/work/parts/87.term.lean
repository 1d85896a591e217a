/-! PURE: terms: what the filters make of a text, both sides -/
abbrev Txt : Type := (Nat → Nat) × Nat
def tOK (t : Txt) : Prop := 1 ≤ t.2 ∧ t.2 ≤ 8 ∧ ∀ k, k < t.2 → 1 ≤ t.1 k ∧ t.1 k ≤ 255
def nar (x : Nat) : Nat := if x < 192 then x else x - 64
def stP (v : Int32) (t : Txt) : Bool := decide (v.toInt < t.2 ∧ t.1 (t.2 - 1) = 191 ∧ ∀ q, q < t.2 → t.1 q / 64 = 2)
def bsT (o : Option Txt) (t : Txt) : Txt := match o with
  | none => t
  | some b => b
def fs1 (k v : Int32) (base : Option Txt) (t : Txt) : Txt := if k = 1 then bsT base t else if k = 2 then (fun q => nar (t.1 q), t.2) else if stP v t = true then (t.1, t.2 - 1) else t
def fltF (K V : Nat → Int32) (pt : Int32) (base : Option Txt) : Nat → Nat → Txt → Nat
  | 0, _, t => tv t.1 t.2
  | j + 1, i, t => if K i = 0 then (if pt = V i then 0 else fltF K V pt base j (i + 1) t) else fltF K V pt base j (i + 1) (fs1 (K i) (V i) base t)
theorem fs1_ok {k v : Int32} {base : Option Txt} {t : Txt} (ht : tOK t) (hb : ∀ b, base = some b → tOK b) (hk : k = 1 ∨ k = 2 ∨ (k = 3 ∧ 1 ≤ v.toInt)) : tOK (fs1 k v base t) := by
  unfold fs1
  by_cases c1 : k = 1
  · rw [if_pos c1]
    cases hbase : base with
    | none => exact ht
    | some b => exact hb b hbase
  · rw [if_neg c1]
    by_cases c2 : k = 2
    · rw [if_pos c2]
      refine ⟨ht.1, ht.2.1, fun q hq => ?_⟩
      have := ht.2.2 q hq
      show 1 ≤ nar (t.1 q) ∧ nar (t.1 q) ≤ 255
      unfold nar
      by_cases c : t.1 q < 192
      · rw [if_pos c]; omega
      · rw [if_neg c]; omega
    · rw [if_neg c2]
      have h3 := (hk.resolve_left c1).resolve_left c2
      by_cases c3 : stP v t = true
      · rw [if_pos c3]
        unfold stP at c3
        rw [decide_eq_true_eq] at c3
        have := c3.1
        have := ht.2.1
        exact ⟨by show 1 ≤ t.2 - 1; omega, by show t.2 - 1 ≤ 8; omega, fun q hq => ht.2.2 q (by have : q < t.2 - 1 := hq; omega)⟩
      · rw [if_neg c3]; exact ht
theorem tv_upd {f g : Nat → Nat} {i d : Nat} (hi : f i = g i + d) (ho : ∀ q, q ≠ i → f q = g q) : ∀ n, tv f n = tv g n + (if i < n then d * 2 ^ (8 * i) else 0) := by
  intro n
  induction n with
  | zero => rfl
  | succ n ih =>
    show tv f n + f n * 2 ^ (8 * n) = tv g n + g n * 2 ^ (8 * n) + _
    rw [ih]
    by_cases e : i = n
    · subst e
      rw [if_neg (by omega), if_pos (by omega), hi, Nat.add_mul]
      omega
    · rw [ho n (fun h => e h.symm)]
      by_cases c : i < n
      · rw [if_pos c, if_pos (by omega)]; omega
      · rw [if_neg c, if_neg (by omega)]; omega
def mixN (f : Nat → Nat) (i q : Nat) : Nat := if q < i then nar (f q) else f q
theorem narr_x {f : Nat → Nat} {z : Nat} (hz : z ≤ 8) (hf : ∀ k, k < z → 1 ≤ f k ∧ f k ≤ 255) : ∀ j i n, i + j = 8 → j < n → f_Texts_narrowed_5 n (lN (tv f z)) (lN (tv (mixN f i) z)) (nI i) = some (lN (tv (fun q => nar (f q)) z)) := by
  have h64 := tv64 hz (fun k hk => (hf k hk).2)
  intro j
  induction j with
  | zero =>
    intro i n hi hn
    obtain ⟨n, rfl⟩ : ∃ n', n = n' + 1 := ⟨n - 1, by omega⟩
    have e : i = 8 := by omega
    subst e
    show (if (8 : Int32) ≤ nI 8 then some (lN (tv (mixN f 8) z)) else _) = _
    rw [if_pos (by decide), tv_eq z (f := mixN f 8) (g := fun q => nar (f q)) (fun k hk => by unfold mixN; rw [if_pos (by omega)])]
  | succ j ih =>
    intro i n hi hn
    obtain ⟨n, rfl⟩ : ∃ n', n = n' + 1 := ⟨n - 1, by omega⟩
    have nx := ih (i + 1) n (by omega) (by omega)
    unfold f_Texts_narrowed_5
    rw [if_neg (by rw [show (8 : Int32) = nI 8 from rfl]; exact nI_ge (by omega) (by omega)), char_v h64 (by omega), cl_s]
    unfold f_Texts_narrowed_36
    have cl255 := ch_lt (tv f z) i
    by_cases hiz : i < z
    · have ec : ch (tv f z) i = f i := tv_ch z (fun k hk => (hf k hk).2) i hiz
      rw [ec]
      have fi := hf i hiz
      by_cases c : f i < 192
      · rw [if_pos (by rw [show (192 : Int32) = nI 192 from rfl]; exact nI_lt c (by omega)), bd_e, nI_1]
        have e : tv (mixN f (i + 1)) z = tv (mixN f i) z := tv_eq z (fun k hk => by
          unfold mixN
          by_cases d : k < i
          · rw [if_pos d, if_pos (by omega)]
          · rw [if_neg d]
            by_cases d2 : k = i
            · subst d2; rw [if_pos (by omega)]; unfold nar; rw [if_pos c]
            · rw [if_neg (by omega)])
        rw [e] at nx
        exact nx
      · rw [if_neg (by rw [show (192 : Int32) = nI 192 from rfl]; exact nI_nlt (by omega) (by omega)), show (8 : Int32) * nI i = nI (8 * i) by rw [show (8 : Int32) = nI 8 from rfl, pk_mul], show (64 : Int64) = lN 64 from rfl, wb_shl 64 (by omega)]
        have e := tv_upd (f := mixN f i) (g := mixN f (i + 1)) (i := i) (d := 64) (by unfold mixN; rw [if_neg (by omega), if_pos (by omega)]; unfold nar; rw [if_neg c]; omega) (fun q hq => by
          unfold mixN
          by_cases d : q < i
          · rw [if_pos d, if_pos (by omega)]
          · rw [if_neg d, if_neg (by omega)]) z
        rw [if_pos hiz] at e
        rw [lN_sub (by omega), show tv (mixN f i) z - 64 * 2 ^ (8 * i) = tv (mixN f (i + 1)) z by omega, bd_e, bd_e, nI_1]
        exact nx
    · have ec : ch (tv f z) i = 0 := tv_hi (fun k hk => (hf k hk).2) (by omega)
      rw [ec, if_pos (by decide), bd_e, nI_1]
      have e : tv (mixN f (i + 1)) z = tv (mixN f i) z := tv_eq z (fun k hk => by
          unfold mixN
          by_cases d : k < i
          · rw [if_pos d, if_pos (by omega)]
          · omega)
      rw [e] at nx
      exact nx
theorem nar_x {t : Txt} {n : Nat} (ht : tOK t) (hn : 8 < n) : f_Texts_narrowed n (lN (tv t.1 t.2)) = some (lN (tv (fun q => nar (t.1 q)) t.2)) := by
  have := narr_x ht.2.1 ht.2.2 8 0 n rfl hn
  rw [tv_eq t.2 (f := mixN t.1 0) (g := t.1) (fun k hk => by unfold mixN; rw [if_neg (by omega)]), nI_0] at this
  exact this
theorem stem_x {t : Txt} {v : Int32} {n : Nat} (ht : tOK t) (hv : 1 ≤ v.toInt) (hn : 9 < n) : f_Texts_stemmed n (lN (tv t.1 t.2)) v = some (lN (tv t.1 (if stP v t = true then t.2 - 1 else t.2))) := by
  obtain ⟨f, z⟩ := t
  obtain ⟨h1, h2, h3⟩ := ht
  simp only at h1 h2 h3 ⊢
  have h64 := tv64 h2 (fun k hk => (h3 k hk).2)
  have sz : szT (tv f z) = z := szT_tv h2 h3
  unfold f_Texts_stemmed
  rw [size_v h64 (by omega), sz, cl_s]
  unfold stP
  by_cases c1 : nI z ≤ v
  · have : ¬ v.toInt < z := by rw [i_le, nI_toInt (by omega)] at c1; omega
    rw [if_pos c1, if_neg (by rw [decide_eq_true_eq]; exact fun h => this h.1)]
  · have c1' : v.toInt < z := by rw [i_le, nI_toInt (by omega)] at c1; omega
    rw [if_neg c1, show nI z - 1 = nI (z - 1) from pk_sub (b := 1) h1, char_v h64 (by omega), cl_s, tv_ch z (fun k hk => (h3 k hk).2) (z - 1) (by omega)]
    have b1 := h3 (z - 1) (by omega)
    by_cases c2 : f (z - 1) = 191
    · rw [if_pos (by rw [c2]; rfl)]
      have e := all_v (m := tv f z) (k := 2) (len := z) (n := n) h64 (by decide) h2 (by omega)
      have e : f_Texts_isAllOf n 2 (lN (tv f z)) (nI z) = _ := e
      rw [e, cl_s]
      have q : (∀ q, q < z → ch (tv f z) q / 64 = 2) ↔ (∀ q, q < z → f q / 64 = 2) := by
        constructor
        · intro h q hq; have := h q hq; rw [tv_ch z (fun k hk => (h3 k hk).2) q hq] at this; exact this
        · intro h q hq; rw [tv_ch z (fun k hk => (h3 k hk).2) q hq]; exact h q hq
      by_cases c3 : ∀ q, q < z → f q / 64 = 2
      · rw [decide_eq_true (q.mpr c3), if_neg (by decide), first_v h64 (by omega), cl_s, tv_mod (fun k hk => (h3 k hk).2), if_pos (by rw [decide_eq_true_eq]; exact ⟨c1', c2, c3⟩), show min (z - 1) z = z - 1 by omega]
      · rw [decide_eq_false (fun h => c3 (q.mp h)), if_pos (by decide), if_neg (by rw [decide_eq_true_eq]; exact fun h => c3 h.2.2)]
    · rw [if_neg (by rw [show (191 : Int32) = nI 191 from rfl]; exact fun h => c2 ((nI_eq (by omega) (by omega)).mp h)), if_neg (by rw [decide_eq_true_eq]; exact fun h => c2 h.2.1)]
def bsV (o : Option Txt) : Int64 := match o with
  | none => 0
  | some b => lN (tv b.1 b.2)
theorem tv_pos {t : Txt} (ht : tOK t) : tv t.1 t.2 ≠ 0 := by
  intro h
  have := tv_ch t.2 (fun k hk => (ht.2.2 k hk).2) 0 (by have := ht.1; omega)
  rw [h] at this
  have := (ht.2.2 0 (by have := ht.1; omega)).1
  have z : ch 0 0 = 0 := rfl
  omega
theorem v_3' : (3 : Int32).toInt = 3 := by decide
theorem kindE {a : Int32} {k : Nat} (h : a.toInt = k) (hk : k < 100) : a = nI k := by rw [i_eq, nI_toInt (by omega), h]
theorem pass_x {μ : Mem} {pt : Int32} {base : Option Txt} {nf : Nat} (h15 : μ.1 15 2 = nI nf) (hf : nf ≤ 6) (hok : ∀ i, i < nf → chainOK (μ.1 16 i) (μ.1 17 i)) (hb : ∀ b, base = some b → tOK b) : ∀ j i n (t : Txt), i + j = nf → j + 20 < n → tOK t → f_Filters_pass_6 μ n pt (bsV base) (lN (tv t.1 t.2)) (nI i) = some (lN (fltF (μ.1 16) (μ.1 17) pt base j i t)) := by
  intro j
  induction j with
  | zero =>
    intro i n t hi hn ht
    obtain ⟨n, rfl⟩ : ∃ n', n = n' + 1 := ⟨n - 1, by omega⟩
    unfold f_Filters_pass_6
    rw [h15, if_pos (nI_le (by omega) (by omega))]
    rfl
  | succ j ih =>
    intro i n t hi hn ht
    obtain ⟨n, rfl⟩ : ∃ n', n = n' + 1 := ⟨n - 1, by omega⟩
    have ok := hok i (by omega)
    have e0 : fltF (μ.1 16) (μ.1 17) pt base (j + 1) i t = if μ.1 16 i = 0 then (if pt = μ.1 17 i then 0 else fltF (μ.1 16) (μ.1 17) pt base j (i + 1) t) else fltF (μ.1 16) (μ.1 17) pt base j (i + 1) (fs1 (μ.1 16 i) (μ.1 17 i) base t) := rfl
    unfold f_Filters_pass_6
    rw [e0, h15, if_neg (nI_ge (by omega) (by omega)), gd_i (by rw [nI_toInt (by omega)]; omega), nI_clamp (by omega)]
    by_cases k0 : μ.1 16 i = 0
    · rw [if_pos k0, if_pos k0, gd_i (by rw [nI_toInt (by omega)]; omega)]
      by_cases c : pt = μ.1 17 i
      · rw [if_pos c, if_pos c]; rfl
      · rw [if_neg c, if_neg c]
        unfold f_Filters_pass_104
        rw [bd_e, nI_1]
        exact ih (i + 1) n t (by omega) (by omega) ht
    · rw [if_neg k0, if_neg k0]
      by_cases k1 : μ.1 16 i = 1
      · have t' := fs1_ok (k := μ.1 16 i) (v := μ.1 17 i) ht hb (Or.inl k1)
        have nx := ih (i + 1) n _ (by omega) (by omega) t'
        rw [if_pos k1]
        unfold f_Filters_pass_75 f_Filters_pass_104
        rw [bd_e, nI_1]
        have ef : fs1 (μ.1 16 i) (μ.1 17 i) base t = bsT base t := by unfold fs1; rw [if_pos k1]
        rw [ef] at nx ⊢
        cases base with
        | none => rw [if_pos (by rw [lc_0]; rfl)]; exact nx
        | some b =>
          have tb := hb b rfl
          rw [if_neg (by
            rw [lc_0]
            intro h
            exact tv_pos tb ((lN_inj (tv64 tb.2.1 (fun k hk => (tb.2.2 k hk).2)) (by omega)).mp (show lN (tv b.1 b.2) = lN 0 from h)))]
          exact nx
      · rw [if_neg k1]
        by_cases k2 : μ.1 16 i = 2
        · have t' := fs1_ok (k := μ.1 16 i) (v := μ.1 17 i) ht hb (Or.inr (Or.inl k2))
          have nx := ih (i + 1) n _ (by omega) (by omega) t'
          rw [if_pos k2, nar_x ht (by omega), cl_s]
          unfold f_Filters_pass_104
          rw [bd_e, nI_1]
          have ef : fs1 (μ.1 16 i) (μ.1 17 i) base t = (fun q => nar (t.1 q), t.2) := by unfold fs1; rw [if_neg k1, if_pos k2]
          rw [ef] at nx ⊢
          exact nx
        · have k3 : μ.1 16 i = 3 ∧ 1 ≤ (μ.1 17 i).toInt := by
            unfold chainOK at ok
            rw [i_eq, v_0] at k0
            rw [i_eq, v_1] at k1
            rw [i_eq, v_2] at k2
            rw [i_eq, v_3]
            omega
          have t' := fs1_ok (k := μ.1 16 i) (v := μ.1 17 i) ht hb (Or.inr (Or.inr k3))
          have nx := ih (i + 1) n _ (by omega) (by omega) t'
          rw [if_neg k2, gd_i (by rw [nI_toInt (by omega)]; omega), stem_x ht k3.2 (by omega), cl_s]
          unfold f_Filters_pass_104
          rw [bd_e, nI_1]
          have ef : fs1 (μ.1 16 i) (μ.1 17 i) base t = (t.1, if stP (μ.1 17 i) t = true then t.2 - 1 else t.2) := by
            unfold fs1
            rw [if_neg k1, if_neg k2]
            by_cases c : stP (μ.1 17 i) t = true
            · rw [if_pos c, if_pos c]
            · rw [if_neg c, if_neg c]
          rw [ef] at nx ⊢
          exact nx
/-! the reference's -/
def FlF (ν ν' : Mem) : Prop := (∀ q, q ≠ 0 → q ≠ 30 → ν'.1 q = ν.1 q) ∧ (∀ i, i ≠ 39 → ν'.1 0 i = ν.1 0 i) ∧ ν'.2 = ν.2
theorem FlF.rf (ν : Mem) : FlF ν ν := ⟨fun _ _ _ => rfl, fun _ _ => rfl, rfl⟩
theorem FlF.tr {ν ν1 ν2 : Mem} (h1 : FlF ν ν1) (h2 : FlF ν1 ν2) : FlF ν ν2 := ⟨fun q h0 hq => (h2.1 q h0 hq).trans (h1.1 q h0 hq), fun i hi => (h2.2.1 i hi).trans (h1.2.1 i hi), h2.2.2.trans h1.2.2⟩
theorem FlF.w30 {ν : Mem} {j : Nat} {v : Int32} : FlF ν (wi ν 30 j v) := ⟨fun q _ hq => wi_o hq, fun i _ => by rw [wi_o (by omega)], rfl⟩
theorem FlF.w39 {ν : Mem} {v : Int32} : FlF ν (wi ν 0 39 v) := ⟨fun q h0 _ => wi_o h0, fun i hi => by rw [wi_g, if_neg (by omega)], rfl⟩
theorem FlF.am {ν ν' : Mem} (h : FlF ν ν') : AmF ν ν' := ⟨fun q h0 hq => h.1 q h0 (by omega), fun i hi => h.2.1 i (by omega), fun q _ => by rw [h.2.2]⟩
def TxM (ν : Mem) (t : Txt) : Prop := ν.1 0 39 = nI t.2 ∧ ∀ q, q < t.2 → ν.1 30 q = nI (t.1 q)
theorem stems_l {ν : Mem} {t : Txt} (ht : tOK t) (h : TxM ν t) : ∀ j i n, i + j = t.2 → j < n → f_Mo_stems_29 ν n (nI i) = some (decide (∀ q, q < t.2 → (i ≤ q → t.1 q / 64 = 2))) := by
  have h8 := ht.2.1
  intro j
  induction j with
  | zero =>
    intro i n hi hn
    obtain ⟨n, rfl⟩ : ∃ n', n = n' + 1 := ⟨n - 1, by omega⟩
    unfold f_Mo_stems_29
    rw [h.1, if_pos (nI_le (by omega) (by omega)), decide_eq_true (fun q h1 h2 => by omega)]
  | succ j ih =>
    intro i n hi hn
    obtain ⟨n, rfl⟩ : ∃ n', n = n' + 1 := ⟨n - 1, by omega⟩
    have b := ht.2.2 i (by omega)
    unfold f_Mo_stems_29
    rw [h.1, if_neg (nI_ge (by omega) (by omega)), gd_i (by rw [nI_toInt (by omega)]; omega), nI_clamp (by omega), h.2 i (by omega), div64 b.2]
    by_cases c : t.1 i / 64 = 2
    · rw [if_pos (by rw [c]; rfl), bd_e, nI_1, ih (i + 1) n (by omega) (by omega)]
      congr 1
      rw [decide_eq_decide]
      constructor
      · intro hh q q1 q2
        by_cases e : q = i
        · rw [e]; exact c
        · exact hh q q1 (by omega)
      · intro hh q q1 q2; exact hh q q1 (by omega)
    · rw [if_neg (by rw [show (2 : Int32) = nI 2 from rfl]; exact fun hh => c ((nI_eq (by omega) (by omega)).mp hh)), decide_eq_false (fun hh => c (hh i (by omega) (by omega)))]
theorem stems_m {ν : Mem} {t : Txt} {v : Int32} {n : Nat} (ht : tOK t) (h : TxM ν t) (hn : 8 < n) : f_Mo_stems n ν v = some (stP v t) := by
  have h8 := ht.2.1
  have h1 := ht.1
  unfold f_Mo_stems stP
  rw [h.1]
  by_cases c1 : nI t.2 ≤ v
  · have : ¬ v.toInt < t.2 := by rw [i_le, nI_toInt (by omega)] at c1; omega
    rw [if_pos c1, decide_eq_false (fun hh => this hh.1)]
  · have c1' : v.toInt < t.2 := by rw [i_le, nI_toInt (by omega)] at c1; omega
    have b := ht.2.2 (t.2 - 1) (by omega)
    rw [if_neg c1, show nI t.2 - 1 = nI (t.2 - 1) from pk_sub (b := 1) h1, gd_i (by rw [nI_toInt (by omega)]; omega), nI_clamp (by omega), h.2 (t.2 - 1) (by omega)]
    by_cases c2 : t.1 (t.2 - 1) = 191
    · have := stems_l ht h t.2 0 n (by omega) (by omega)
      rw [nI_0] at this
      rw [if_pos (by rw [c2]; rfl), this]
      congr 1
      rw [decide_eq_decide]
      constructor
      · intro hh; exact ⟨c1', c2, fun q hq => hh q hq (by omega)⟩
      · intro hh q hq _; exact hh.2.2 q hq
    · rw [if_neg (by rw [show (191 : Int32) = nI 191 from rfl]; exact fun hh => c2 ((nI_eq (by omega) (by omega)).mp hh)), decide_eq_false (fun hh => c2 hh.2.1)]
theorem p98_m {t : Txt} {x2 : Int32} (ht : tOK t) : ∀ j i n (ν : Mem), i + j = t.2 → j < n → ν.1 0 39 = nI t.2 → (∀ q, q < t.2 → ν.1 30 q = nI (mixN t.1 i q)) → ∃ ν', f_Mo_pass_98 n ν 2 x2 (nI i) = some (true, ν') ∧ TxM ν' (fun q => nar (t.1 q), t.2) ∧ FlF ν ν' := by
  have h8 := ht.2.1
  intro j
  induction j with
  | zero =>
    intro i n ν hi hn h39 h30
    obtain ⟨n, rfl⟩ : ∃ n', n = n' + 1 := ⟨n - 1, by omega⟩
    refine ⟨ν, ?_, ⟨h39, fun q hq => ?_⟩, FlF.rf ν⟩
    · unfold f_Mo_pass_98 f_Mo_pass_147
      rw [h39, if_pos (nI_le (by omega) (by omega)), if_neg (by decide)]
    · have hq : q < t.2 := hq
      rw [h30 q hq]
      unfold mixN
      rw [if_pos (by omega)]
  | succ j ih =>
    intro i n ν hi hn h39 h30
    obtain ⟨n, rfl⟩ : ∃ n', n = n' + 1 := ⟨n - 1, by omega⟩
    have b := ht.2.2 i (by omega)
    have hh := h30 i (by omega)
    have em : mixN t.1 i i = t.1 i := by unfold mixN; rw [if_neg (by omega)]
    rw [em] at hh
    have nx : ∃ ν', f_Mo_pass_98 n (wi ν 30 i (nI (nar (t.1 i)))) 2 x2 (nI (i + 1)) = some (true, ν') ∧ TxM ν' (fun q => nar (t.1 q), t.2) ∧ FlF ν ν' := by
      obtain ⟨ν', a1, a2, a3⟩ := ih (i + 1) n (wi ν 30 i (nI (nar (t.1 i)))) (by omega) (by omega) (by rw [wi_o (by omega)]; exact h39) (by
        intro q hq
        rw [wi_g]
        by_cases c : q = i
        · rw [if_pos ⟨rfl, c⟩, c]; unfold mixN; rw [if_pos (by omega)]
        · rw [if_neg (by omega), h30 q hq]
          unfold mixN
          by_cases d : q < i
          · rw [if_pos d, if_pos (by omega)]
          · rw [if_neg d, if_neg (by omega)])
      exact ⟨ν', a1, a2, FlF.w30.tr a3⟩
    unfold f_Mo_pass_98
    rw [h39, if_neg (nI_ge (by omega) (by omega)), if_pos rfl, gd_i (by rw [nI_toInt (by omega)]; omega), gd_i (by rw [nI_toInt (by omega)]; omega), nI_clamp (by omega), hh]
    unfold f_Mo_pass_139
    rw [gd_i (by rw [nI_toInt (by omega)]; omega), gd_i (by rw [nI_toInt (by omega)]; omega), nI_clamp (by omega)]
    by_cases c : t.1 i < 192
    · rw [if_pos (by rw [show (192 : Int32) = nI 192 from rfl]; exact nI_lt c (by omega)), show nI (t.1 i) - 0 = nI (nar (t.1 i)) by unfold nar; rw [if_pos c]; exact pk_sub (b := 0) (by omega), bd_e, bd_e, nI_1]
      exact nx
    · rw [if_neg (by rw [show (192 : Int32) = nI 192 from rfl]; exact nI_nlt (by omega) (by omega)), show nI (t.1 i) - 64 = nI (nar (t.1 i)) by unfold nar; rw [if_neg c]; exact pk_sub (b := 64) (by omega), bd_e, bd_e, nI_1]
      exact nx
theorem p60_m {b : Txt} {x2 : Int32} {B : Nat} (hB : B < 40) (hb : tOK b) : ∀ j i n (ν : Mem), i + j = b.2 → j + 2 < n → ν.1 0 39 = nI b.2 → (∀ q, q < b.2 → ν.1 2 (8 * B + q) = nI (b.1 q)) → (∀ q, q < i → ν.1 30 q = nI (b.1 q)) → ∃ ν', f_Mo_pass_60 n ν 1 x2 (nI B) (nI i) = some (true, ν') ∧ TxM ν' b ∧ FlF ν ν' := by
  have h8 := hb.2.1
  intro j
  induction j with
  | zero =>
    intro i n ν hi hn h39 h2 h30
    obtain ⟨n, rfl⟩ : ∃ n', n = n' + 2 := ⟨n - 2, by omega⟩
    refine ⟨ν, ?_, ⟨h39, fun q hq => h30 q (by omega)⟩, FlF.rf ν⟩
    show (if ν.1 0 39 ≤ nI i then f_Mo_pass_95 (n + 1) ν 1 x2 else _) = _
    rw [h39, if_pos (nI_le (by omega) (by omega))]
    unfold f_Mo_pass_95
    show (if ν.1 0 39 ≤ 0 then f_Mo_pass_147 n ν 1 x2 else (if (1 : Int32) = 2 then _ else f_Mo_pass_147 n ν 1 x2)) = _
    rw [if_neg (show ¬ (1 : Int32) = 2 by decide)]
    have e : f_Mo_pass_147 n ν 1 x2 = some (true, ν) := by unfold f_Mo_pass_147; rw [if_neg (by decide)]
    rw [e]
    by_cases c : ν.1 0 39 ≤ 0
    · rw [if_pos c]
    · rw [if_neg c]
  | succ j ih =>
    intro i n ν hi hn h39 h2 h30
    obtain ⟨n, rfl⟩ : ∃ n', n = n' + 1 := ⟨n - 1, by omega⟩
    obtain ⟨ν', a1, a2, a3⟩ := ih (i + 1) n (wi ν 30 i (nI (b.1 i))) (by omega) (by omega) (by rw [wi_o (by omega)]; exact h39) (fun q hq => by rw [wi_o (by omega)]; exact h2 q hq) (by
        intro q hq
        rw [wi_g]
        by_cases c : q = i
        · rw [if_pos ⟨rfl, c⟩, c]
        · rw [if_neg (by omega)]; exact h30 q (by omega))
    refine ⟨ν', ?_, a2, FlF.w30.tr a3⟩
    rw [← a1]
    show (if ν.1 0 39 ≤ nI i then _ else gd (inb (8 * nI B + nI i) 320) (gd (inb (nI i) 8) (bd (wi ν 30 (nI i).toNatClampNeg (ν.1 2 (8 * nI B + nI i).toNatClampNeg)) (fun μ1 => bd (nI i + 1) (fun v2 => f_Mo_pass_60 n μ1 1 x2 (nI B) v2))))) = _
    rw [h39, if_neg (nI_ge (by omega) (by omega)), slot2, gd_i (by rw [nI_toInt (by omega)]; omega), gd_i (by rw [nI_toInt (by omega)]; omega), nI_clamp (show i < 2 ^ 31 by omega), nI_clamp (show 8 * B + i < 2 ^ 31 by omega), h2 i (by omega), bd_e, bd_e, nI_1]
/-- the base of an entry -/
def bsE (μ : Mem) (le : Nat → Nat) (sf : Nat → Nat → Nat) (e : Nat) : Option Txt := if e = 40 then none else if μ.1 9 e = -1 then none else some (sf (μ.1 9 e).toNatClampNeg, le (μ.1 9 e).toNatClampNeg)
theorem LxP.bs {μ ν : Mem} {ne : Nat} {le : Nat → Nat} {sf : Nat → Nat → Nat} (hx : LxP μ ν ne le sf) {e : Nat} (he : e < ne ∨ e = 40) : (bsE μ le sf e = none ∧ (e = 40 ∨ (e < ne ∧ μ.1 9 e = -1 ∧ ν.1 7 e = -1))) ∨ ∃ B, e < ne ∧ B < ne ∧ bsE μ le sf e = some (sf B, le B) ∧ μ.1 9 e = nI B ∧ ν.1 7 e = nI B := by
  unfold bsE
  by_cases c : e = 40
  · rw [if_pos c]; exact Or.inl ⟨rfl, Or.inl c⟩
  · rw [if_neg c]
    have he := he.resolve_right c
    obtain ⟨_, _, _, a1, a2, a3⟩ := hx.2.2.1 e he
    by_cases c2 : μ.1 9 e = -1
    · rw [if_pos c2]; exact Or.inl ⟨rfl, Or.inr ⟨he, c2, by rw [← a1]; exact c2⟩⟩
    · rw [if_neg c2]
      have h0 : 0 ≤ (μ.1 9 e).toInt := by
        rw [i_eq, v_m1] at c2
        omega
      have hne := hx.1.1
      have e1 : μ.1 9 e = nI (μ.1 9 e).toInt.toNat := by rw [i_eq, nI_toInt (by omega)]; omega
      have e2 : (μ.1 9 e).toNatClampNeg = (μ.1 9 e).toInt.toNat := by
        rw [e1, nI_clamp (by omega), nI_toInt (by omega)]; omega
      exact Or.inr ⟨(μ.1 9 e).toInt.toNat, he, by omega, by rw [e2], e1, by rw [← a1]; exact e1⟩
theorem LxP.tb {μ ν : Mem} {ne : Nat} {le : Nat → Nat} {sf : Nat → Nat → Nat} (hx : LxP μ ν ne le sf) {B : Nat} (hB : B < ne) : tOK (sf B, le B) := by
  obtain ⟨a1, a2, _⟩ := hx.2.1 B hB
  exact ⟨a1.1, a1.2, fun k hk => (a2 k hk).1⟩
theorem LxP.bo {μ ν : Mem} {ne : Nat} {le : Nat → Nat} {sf : Nat → Nat → Nat} (hx : LxP μ ν ne le sf) {e : Nat} (he : e < ne ∨ e = 40) : ∀ b, bsE μ le sf e = some b → tOK b := by
  intro b hb
  rcases hx.bs he with ⟨h, _⟩ | ⟨B, _, h1, h2, _⟩
  · rw [h] at hb; cases hb
  · rw [h2] at hb
    rw [← Option.some.inj hb]
    exact hx.tb h1
theorem base_x {μ ν : Mem} {ne n : Nat} {le : Nat → Nat} {sf : Nat → Nat → Nat} (hx : LxP μ ν ne le sf) {e : Nat} (he : e < ne ∨ e = 40) : f_Lexicon_baseSurface n μ (enX e) = some (bsV (bsE μ le sf e)) := by
  have hne := hx.1.1
  unfold f_Lexicon_baseSurface enX
  rcases hx.bs he with ⟨h, h1 | ⟨h1, h2, _⟩⟩ | ⟨B, h0, h1, h2, h3, _⟩
  · rw [h, if_pos h1, if_pos rfl]; rfl
  · rw [h, if_neg (show ¬ e = 40 by omega), if_neg (nI_nem1 (by omega)), gd_i (by rw [nI_toInt (by omega)]; omega), nI_clamp (by omega), if_pos h2]; rfl
  · rw [h2, if_neg (show ¬ e = 40 by omega), if_neg (nI_nem1 (by omega)), gd_i (by rw [nI_toInt (by omega)]; omega), nI_clamp (by omega), h3, if_neg (nI_nem1 (by omega)), gd_i (by rw [nI_toInt (by omega)]; omega), gd_i (by rw [nI_toInt (by omega)]; omega), nI_clamp (by omega), (hx.2.1 B h1).2.2.2.2]; rfl
theorem pass95 {ν : Mem} {x1 x2 : Int32} {n : Nat} (h2 : ¬ x1 = 2) (hn : 1 < n) : f_Mo_pass_95 n ν x1 x2 = f_Mo_pass_147 (n - 1) ν x1 x2 := by
  obtain ⟨n, rfl⟩ : ∃ n', n = n' + 1 := ⟨n - 1, by omega⟩
  unfold f_Mo_pass_95
  show (if ν.1 0 39 ≤ 0 then f_Mo_pass_147 n ν x1 x2 else (if x1 = 2 then _ else f_Mo_pass_147 n ν x1 x2)) = _
  rw [if_neg h2]
  by_cases c : ν.1 0 39 ≤ 0
  · rw [if_pos c]; rfl
  · rw [if_neg c]; rfl
theorem pass_m {μ ν : Mem} {ne n : Nat} {le : Nat → Nat} {sf : Nat → Nat → Nat} {t : Txt} {e : Nat} {k v pt : Int32} (hx : LxP μ ν ne le sf) (he : e < ne ∨ e = 40) (ht : tOK t) (h : TxM ν t) (ok : chainOK k v) (hk0 : ¬ k = 0) (hn : 20 < n) : ∃ ν', f_Mo_pass n ν k v pt (nI e) = some (true, ν') ∧ TxM ν' (fs1 k v (bsE μ le sf e) t) ∧ FlF ν ν' := by
  have hne := hx.1.1
  have h8 := ht.2.1
  unfold f_Mo_pass
  rw [if_neg hk0]
  by_cases k1 : k = 1
  · have ef : fs1 k v (bsE μ le sf e) t = bsT (bsE μ le sf e) t := by unfold fs1; rw [if_pos k1]
    have e147 : ∀ m, f_Mo_pass_147 m ν k v = some (true, ν) := fun m => by unfold f_Mo_pass_147; rw [if_neg (by rw [k1]; decide)]
    rw [if_pos k1, ef]
    rcases hx.bs he with ⟨h0, h1 | ⟨h1, h2, h3⟩⟩ | ⟨B, h0, h1, h2, h3, h4⟩
    · rw [h0, if_pos (by rw [h1]; rfl), pass95 (by rw [k1]; decide) (by omega), e147]
      exact ⟨ν, rfl, h, FlF.rf ν⟩
    · rw [h0, if_neg (by rw [show (40 : Int32) = nI 40 from rfl]; exact fun hh => by have := (nI_eq (by omega) (by omega)).mp hh; omega), gd_i (by rw [nI_toInt (by omega)]; omega), nI_clamp (by omega), h3, if_pos (by decide), pass95 (by rw [k1]; decide) (by omega), e147]
      exact ⟨ν, rfl, h, FlF.rf ν⟩
    · have tb := hx.tb h1
      obtain ⟨l1, l2, l3, l4, l5⟩ := hx.2.1 B h1
      rw [h2, if_neg (by rw [show (40 : Int32) = nI 40 from rfl]; exact fun hh => by have := (nI_eq (by omega) (by omega)).mp hh; omega), gd_i (by rw [nI_toInt (by omega)]; omega), nI_clamp (by omega), h4, if_neg (nI_pos (by omega)), gd_i (by rw [nI_toInt (by omega)]; omega), bd_e, gd_i (by rw [nI_toInt (by omega)]; omega), nI_clamp (by omega), l4, bd_e, k1]
      obtain ⟨ν', a1, a2, a3⟩ := p60_m (b := (sf B, le B)) (x2 := v) (B := B) (by omega) tb (le B) 0 n (wi ν 0 39 (nI (le B))) (by show 0 + le B = le B; omega) (by omega) (by rw [wi_g, if_pos ⟨rfl, rfl⟩]) (fun q hq => by rw [wi_o (by omega)]; exact (l2 q hq).2) (fun q hq => by omega)
      exact ⟨ν', a1, a2, FlF.w39.tr a3⟩
  · rw [if_neg k1]
    by_cases k2 : k = 2
    · have ef : fs1 k v (bsE μ le sf e) t = (fun q => nar (t.1 q), t.2) := by unfold fs1; rw [if_neg k1, if_pos k2]
      rw [ef, k2]
      obtain ⟨ν', a1, a2, a3⟩ := p98_m (x2 := v) ht t.2 0 n ν (by omega) (by omega) h.1 (fun q hq => by rw [h.2 q hq]; unfold mixN; rw [if_neg (by omega)])
      exact ⟨ν', a1, a2, a3⟩
    · have k3 : k = 3 ∧ 1 ≤ v.toInt := by
        unfold chainOK at ok
        rw [i_eq, v_0] at hk0
        rw [i_eq, v_1] at k1
        rw [i_eq, v_2] at k2
        rw [i_eq, v_3]
        omega
      rw [pass95 k2 (by omega)]
      unfold f_Mo_pass_147
      rw [if_pos k3.1, stems_m ht h (by omega), cl_s]
      have ef : fs1 k v (bsE μ le sf e) t = if stP v t = true then (t.1, t.2 - 1) else t := by unfold fs1; rw [if_neg k1, if_neg k2]
      rw [ef]
      by_cases c : stP v t = true
      · rw [if_pos c, c, if_neg (by decide), h.1, show nI t.2 - 1 = nI (t.2 - 1) from pk_sub (b := 1) ht.1, bd_e]
        refine ⟨_, rfl, ⟨?_, fun q hq => ?_⟩, FlF.w39⟩
        · rw [wi_g, if_pos ⟨rfl, rfl⟩]
        · have hq : q < t.2 - 1 := hq
          rw [wi_o (by omega)]; exact h.2 q (by omega)
      · rw [if_neg c, Bool.eq_false_iff.mpr c, if_pos (by decide)]
        exact ⟨ν, rfl, h, FlF.rf ν⟩
theorem tv_cons {g : Nat → Nat} : ∀ n, tv g (n + 1) = g 0 + 256 * tv (fun q => g (q + 1)) n := by
  intro n
  induction n with
  | zero => show 0 + g 0 * 1 = g 0 + 256 * 0; omega
  | succ n ih =>
    show tv g (n + 1) + g (n + 1) * 2 ^ (8 * (n + 1)) = g 0 + 256 * (tv (fun q => g (q + 1)) n + g (n + 1) * 2 ^ (8 * n))
    rw [ih, p8, Nat.mul_add, Nat.mul_left_comm]
    omega
theorem f91_m {ν : Mem} {t : Txt} (ht : tOK t) (h : TxM ν t) : ∀ j n, j ≤ t.2 → j < n → f_Mo_filtered_91 n ν (lN (tv (fun q => t.1 (j + q)) (t.2 - j))) (iI ((j : Int) - 1)) = some (lN (tv t.1 t.2), ν) := by
  have h8 := ht.2.1
  intro j
  induction j with
  | zero =>
    intro n hj hn
    obtain ⟨n, rfl⟩ : ∃ n', n = n' + 1 := ⟨n - 1, by omega⟩
    unfold f_Mo_filtered_91
    rw [if_pos (by decide), Nat.sub_zero, tv_eq t.2 (f := fun q => t.1 (0 + q)) (g := t.1) (fun k _ => by rw [Nat.zero_add])]
  | succ j ih =>
    intro n hj hn
    obtain ⟨n, rfl⟩ : ∃ n', n = n' + 1 := ⟨n - 1, by omega⟩
    have b := ht.2.2 j (by omega)
    have e1 : (((j + 1 : Nat) : Int) - 1) = (j : Int) := by omega
    have tl : tv (fun q => t.1 (j + 1 + q)) (t.2 - (j + 1)) < 2 ^ (8 * (t.2 - (j + 1))) := tv_lt _ (fun k hk => (ht.2.2 (j + 1 + k) (by omega)).2)
    have tl2 : tv (fun q => t.1 (j + 1 + q)) (t.2 - (j + 1)) < 2 ^ 56 := Nat.lt_of_lt_of_le tl (Nat.pow_le_pow_right (by decide) (by omega))
    have ec : tv (fun q => t.1 (j + q)) (t.2 - j) = t.1 j + 256 * tv (fun q => t.1 (j + 1 + q)) (t.2 - (j + 1)) := by
      rw [show t.2 - j = (t.2 - (j + 1)) + 1 by omega, tv_cons]
      congr 2
      exact tv_eq _ (fun k _ => by show t.1 (j + (k + 1)) = t.1 (j + 1 + k); rw [show j + (k + 1) = j + 1 + k by omega])
    have nx := ih n (by omega) (by omega)
    rw [e1, iI_nat (by omega)]
    unfold f_Mo_filtered_91
    rw [if_neg (nI_pos (by omega)), gd_i (by rw [nI_toInt (by omega)]; omega), nI_clamp (by omega), h.2 j (by omega), nI_l (by omega), show (8 : Int32) = nI 8 from rfl, wb_shl _ (show 8 < 64 by omega), g_or (k := 8) (p := 256) rfl (by omega) (by omega), bd_e, bd_e]
    have e2 : nI j + (-1) = iI ((j : Int) - 1) := by
      rw [← iI_nat (by omega), show (-1 : Int32) = iI (-1) by decide, iI_add]; rfl
    rw [e2, show tv (fun q => t.1 (j + 1 + q)) (t.2 - (j + 1)) * 256 + t.1 j = tv (fun q => t.1 (j + q)) (t.2 - j) by omega]
    exact nx
theorem f39_m {μ : Mem} {ne nf : Nat} {le : Nat → Nat} {sf : Nat → Nat → Nat} {e : Nat} {pt : Int32} {K V : Nat → Int32} (he : e < ne ∨ e = 40) (hf : nf ≤ 6) : ∀ j i n (ν : Mem) (t : Txt), i + j = nf → j + 40 < n → LxP μ ν ne le sf → ν.1 0 17 = nI nf → (∀ i, i < nf → K i = ν.1 12 i ∧ V i = ν.1 13 i ∧ chainOK (K i) (V i)) → tOK t → TxM ν t → ∃ ν', f_Mo_filtered_39 n ν pt (nI e) (nI i) = some (lN (fltF K V pt (bsE μ le sf e) j i t), ν') ∧ FlF ν ν' := by
  intro j
  induction j with
  | zero =>
    intro i n ν t hi hn hx h17 hok ht h
    obtain ⟨n, rfl⟩ : ∃ n', n = n' + 1 := ⟨n - 1, by omega⟩
    refine ⟨ν, ?_, FlF.rf ν⟩
    have h8 := ht.2.1
    have := f91_m ht h t.2 n (Nat.le_refl _) (by omega)
    rw [Nat.sub_self] at this
    unfold f_Mo_filtered_39
    rw [h17, if_pos (nI_le (by omega) (by omega)), h.1, bd_e, show nI t.2 - 1 = iI ((t.2 : Int) - 1) by rw [← iI_nat (by omega), show (1 : Int32) = iI 1 by decide, iI_sub]]
    exact this
  | succ j ih =>
    intro i n ν t hi hn hx h17 hok ht h
    obtain ⟨n, rfl⟩ : ∃ n', n = n' + 1 := ⟨n - 1, by omega⟩
    obtain ⟨o1, o2, o3⟩ := hok i (by omega)
    have e0 : fltF K V pt (bsE μ le sf e) (j + 1) i t = if K i = 0 then (if pt = V i then 0 else fltF K V pt (bsE μ le sf e) j (i + 1) t) else fltF K V pt (bsE μ le sf e) j (i + 1) (fs1 (K i) (V i) (bsE μ le sf e) t) := rfl
    unfold f_Mo_filtered_39
    rw [e0, h17, if_neg (nI_ge (by omega) (by omega)), gd_i (by rw [nI_toInt (by omega)]; omega), gd_i (by rw [nI_toInt (by omega)]; omega), nI_clamp (by omega), ← o1, ← o2]
    by_cases k0 : K i = 0
    · rw [if_pos k0]
      unfold f_Mo_pass
      rw [if_pos k0]
      by_cases c : pt = V i
      · rw [if_pos c, if_pos c, cl2_s, if_pos (by decide)]
        exact ⟨ν, rfl, FlF.rf ν⟩
      · rw [if_neg c, if_neg c, cl2_s, if_neg (by decide), bd_e, nI_1]
        exact ih (i + 1) n ν t (by omega) (by omega) hx h17 hok ht h
    · rw [if_neg k0]
      obtain ⟨ν1, a1, a2, a3⟩ := pass_m (n := n) (pt := pt) hx he ht h o3 k0 (by omega)
      rw [a1, cl2_s, if_neg (by decide), bd_e, nI_1]
      have hk : K i = 1 ∨ K i = 2 ∨ (K i = 3 ∧ 1 ≤ (V i).toInt) := by
        unfold chainOK at o3
        rw [i_eq, v_0] at k0
        rw [i_eq, i_eq, i_eq, v_1, v_2, v_3]
        omega
      have t' := fs1_ok ht (hx.bo he) hk
      have hx1 : LxP μ ν1 ne le sf := by
        unfold LxP
        rw [a3.2.1 8 (by omega), a3.1 2 (by omega) (by omega), a3.1 3 (by omega) (by omega), a3.1 4 (by omega) (by omega), a3.1 5 (by omega) (by omega), a3.1 6 (by omega) (by omega), a3.1 7 (by omega) (by omega)]
        exact hx
      obtain ⟨ν', b1, b2⟩ := ih (i + 1) n ν1 _ (by omega) (by omega) hx1 (by rw [a3.2.1 17 (by omega)]; exact h17) (by rw [a3.1 12 (by omega) (by omega), a3.1 13 (by omega) (by omega)]; exact hok) t' a2
      exact ⟨ν', b1, a3.tr b2⟩
theorem f8_m {s b l : Nat} {c : Nat → Nat} (hs : s ≤ 24) (hb : b + l ≤ s) (hl : l ≤ 8) (x3 x4 : Int32) : ∀ j i n (ν : Mem), i + j = l → j < n → (∀ j, j < s → c j ≤ 255 ∧ ν.1 1 j = nI (c j)) → (∀ q, q < i → ν.1 30 q = nI (c (b + q))) → ∃ n' ν', n ≤ n' + j + 1 ∧ f_Mo_filtered_8 n ν (nI b) (nI l) x3 x4 (nI i) = f_Mo_filtered_39 n' ν' x3 x4 0 ∧ (∀ q, q < l → ν'.1 30 q = nI (c (b + q))) ∧ (∀ q, q ≠ 30 → ν'.1 q = ν.1 q) ∧ ν'.2 = ν.2 := by
  intro j
  induction j with
  | zero =>
    intro i n ν hi hn hd h30
    obtain ⟨n, rfl⟩ : ∃ n', n = n' + 1 := ⟨n - 1, by omega⟩
    refine ⟨n, ν, by omega, ?_, fun q hq => h30 q (by omega), fun _ _ => rfl, rfl⟩
    unfold f_Mo_filtered_8
    rw [if_pos (nI_le (by omega) (by omega))]
  | succ j ih =>
    intro i n ν hi hn hd h30
    obtain ⟨n, rfl⟩ : ∃ n', n = n' + 1 := ⟨n - 1, by omega⟩
    obtain ⟨n', ν', a0, a1, a2, a3, a4⟩ := ih (i + 1) n (wi ν 30 i (nI (c (b + i)))) (by omega) (by omega) (fun j hj => by rw [wi_o (by omega)]; exact hd j hj) (by
      intro q hq
      rw [wi_g]
      by_cases d : q = i
      · rw [if_pos ⟨rfl, d⟩, d]
      · rw [if_neg (by omega)]; exact h30 q (by omega))
    refine ⟨n', ν', by omega, ?_, a2, fun q hq => (a3 q hq).trans (wi_o hq), a4⟩
    rw [← a1]
    show (if nI l ≤ nI i then _ else gd (inb (nI b + nI i) 24) (gd (inb (nI i) 8) (bd (wi ν 30 (nI i).toNatClampNeg (ν.1 1 (nI b + nI i).toNatClampNeg)) (fun μ1 => bd (nI i + 1) (fun v2 => f_Mo_filtered_8 n μ1 (nI b) (nI l) x3 x4 v2))))) = _
    rw [if_neg (nI_ge (by omega) (by omega)), nI_add, gd_i (by rw [nI_toInt (by omega)]; omega), gd_i (by rw [nI_toInt (by omega)]; omega), nI_clamp (show i < 2 ^ 31 by omega), nI_clamp (show b + i < 2 ^ 31 by omega), (hd (b + i) (by omega)).2, bd_e, bd_e, nI_1]
/-- the term of a piece -/
def tmV (μ : Mem) (c le : Nat → Nat) (sf : Nat → Nat → Nat) (nf b l p e : Nat) : Nat := fltF (μ.1 16) (μ.1 17) (nI p) (bsE μ le sf e) nf 0 (fun q => c (b + q), l)
theorem term_x {μ ν : Mem} {s ne nf n b l p e : Nat} {c le : Nat → Nat} {sf : Nat → Nat → Nat} (h : AJ μ ν s c ne le sf nf) (hb : b + l ≤ s) (h1 : 1 ≤ l) (hl : l ≤ 8) (he : e < ne ∨ e = 40) (hn : 40 < n) : f_Draft_text n μ (nI b) (nI l) = some (lN (tv (fun q => c (b + q)) l)) ∧ f_Lexicon_baseSurface n μ (enX e) = some (bsV (bsE μ le sf e)) ∧ f_Filters_pass n μ (lN (tv (fun q => c (b + q)) l)) (nI p) (bsV (bsE μ le sf e)) = some (lN (tmV μ c le sf nf b l p e)) := by
  have hs := h.1.1
  obtain ⟨f1, f2, f3, f4⟩ := h.2.2.2
  refine ⟨?_, base_x h.2.2.1 he, ?_⟩
  · rw [text_v h.1.2.1 h.dx hs (by omega) (by omega) (by omega), show min (min l 8) (s - b) = l by omega]
  · unfold f_Filters_pass
    have := pass_x (base := bsE μ le sf e) (pt := nI p) f2 f1 (fun i hi => (f4 i hi).2.2) (h.2.2.1.bo he) nf 0 n (fun q => c (b + q), l) (by omega) (by omega) ⟨h1, hl, fun k hk => h.hc (b + k) (by have : k < l := hk; omega)⟩
    rw [nI_0] at this
    exact this
theorem term_m {μ ν : Mem} {s ne nf n b l p e : Nat} {c le : Nat → Nat} {sf : Nat → Nat → Nat} (h : AJ μ ν s c ne le sf nf) (hb : b + l ≤ s) (h1 : 1 ≤ l) (hl : l ≤ 8) (he : e < ne ∨ e = 40) (hn : 80 < n) : ∃ ν', f_Mo_filtered n ν (nI b) (nI l) (nI p) (nI e) = some (lN (tmV μ c le sf nf b l p e), ν') ∧ FlF ν ν' := by
  have hs := h.1.1
  obtain ⟨f1, f2, f3, f4⟩ := h.2.2.2
  obtain ⟨n1, ν1, a0, a1, a2, a3, a4⟩ := f8_m (c := c) hs hb hl (nI p) (nI e) l 0 n (wi ν 0 39 (nI l)) (by omega) (by omega) (fun j hj => by rw [wi_o (by omega)]; exact h.dm j hj) (fun q hq => by omega)
  have F1 : FlF ν ν1 := by
    refine FlF.w39.tr (?_ : FlF (wi ν 0 39 (nI l)) ν1)
    exact ⟨fun q h0 hq => a3 q hq, fun i hi => by rw [a3 0 (by omega)], a4⟩
  have h2 := h.mvm F1.am
  obtain ⟨ν', b1, b2⟩ := f39_m (μ := μ) (pt := nI p) (K := μ.1 16) (V := μ.1 17) he f1 nf 0 n1 ν1 (fun q => c (b + q), l) (by omega) (by omega) h2.2.2.1 (by rw [F1.2.1 17 (by omega)]; exact f3) (by
    intro i hi
    rw [F1.1 12 (by omega) (by omega), F1.1 13 (by omega) (by omega)]
    obtain ⟨z1, z2, z3⟩ := f4 i hi
    exact ⟨z1, z2, z3⟩) ⟨h1, hl, fun k hk => h.hc (b + k) (by have : k < l := hk; omega)⟩ ⟨by rw [a3 0 (by omega), wi_g, if_pos ⟨rfl, rfl⟩], a2⟩
  refine ⟨ν', ?_, F1.tr b2⟩
  unfold f_Mo_filtered
  rw [nI_0] at a1
  unfold tmV
  rw [bd_e, ← b1]
  exact a1
