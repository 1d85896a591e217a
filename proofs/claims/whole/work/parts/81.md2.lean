/-! PURE: the reference's ways, its total and its trace -/
theorem Wk_b2 {G : Lt} {s : Nat} (hG : LtOK G s) {k t : Nat} (hk : k ≤ G.m) (h : ¬ Dk G k t = Dk G G.m t) : Rk G k t = 0 := by rw [Rk_eq hG k hk, if_neg h]
theorem w134_m {G : Lt} {s k : Nat} {en : Nat → Nat} (hG : LtOK G s) (hk : k < G.m) (κ : Mem → Int32 → Option Mem) : ∀ j a n (ν : Mem), a + j = 8 → j < n → GmM ν G s en → (∀ t, t < 200 → ν.1 19 t = iI (Dk G G.m t)) → (∀ t, t < 200 → t ≠ G.to k → ν.2 20 t = lN (Rk G k t)) → ν.2 20 (G.to k) = lN (Rk G k (G.to k) + sW (fun a => if thr G (Dk G G.m) k a = Dk G G.m (G.to k) ∧ ¬ Dk G G.m (G.to k) = 1073741824 then Rk G k (8 * G.b k + a) else 0) a) → ∃ ν', f_Mo_work_134 κ n ν (nI k) (nI (G.to k)) (nI a) = κ ν' (nI (k + 1)) ∧ WmF ν ν' ∧ ν'.1 = ν.1 ∧ (∀ t, t < 200 → ν'.2 20 t = lN (Rk G (k + 1) t)) := by
  intro j
  have hs := hG.hs
  obtain ⟨f1, f2, f3⟩ := hG.fit k hk
  have to : G.to k = 8 * (G.b k + G.l k) + G.p k := rfl
  have tt : G.to k < 200 := by omega
  have DB := Dk_b hG G.m (Nat.le_refl _)
  induction j with
  | zero =>
    intro a n ν ha hn hg h19 h1 h2
    obtain ⟨n, rfl⟩ : ∃ n', n = n' + 1 := ⟨n - 1, by omega⟩
    have e : a = 8 := by omega
    subst e
    refine ⟨ν, ?_, WmF.rf ν, rfl, ?_⟩
    · show (if (8 : Int32) ≤ nI 8 then bd (nI k + 1) (fun v1 => κ ν v1) else _) = _
      rw [if_pos (by decide), bd_e, nI_1]
    · intro t ht
      show _ = lN (if t = G.to k then Rk G k t + sW (fun a => if thr G (Dk G G.m) k a = Dk G G.m t ∧ ¬ Dk G G.m t = 1073741824 then Rk G k (8 * G.b k + a) else 0) 8 else Rk G k t)
      by_cases c : t = G.to k
      · rw [if_pos c, c]; exact h2
      · rw [if_neg c]; exact h1 t ht c
  | succ j ih =>
    intro a n ν ha hn hg h19 h1 h2
    obtain ⟨n, rfl⟩ : ∃ n', n = n' + 1 := ⟨n - 1, by omega⟩
    have hm := hg.2.2.1
    have g1 := (hg.2.2.2.1 k hk).1
    have tm := thr_m (n := n) hG hg hk (show a < 8 by omega) DB (h19 _ (by omega))
    have tb := thr_b hG DB hk (show a < 8 by omega)
    have b4 := Dk_bb hG (Nat.le_refl G.m) tt
    have e0 : sW (fun a => if thr G (Dk G G.m) k a = Dk G G.m (G.to k) ∧ ¬ Dk G G.m (G.to k) = 1073741824 then Rk G k (8 * G.b k + a) else 0) (a + 1) = sW (fun a => if thr G (Dk G G.m) k a = Dk G G.m (G.to k) ∧ ¬ Dk G G.m (G.to k) = 1073741824 then Rk G k (8 * G.b k + a) else 0) a + (if thr G (Dk G G.m) k a = Dk G G.m (G.to k) ∧ ¬ Dk G G.m (G.to k) = 1073741824 then Rk G k (8 * G.b k + a) else 0) := rfl
    have nx : ∀ ν1 : Mem, GmM ν1 G s en → (∀ t, t < 200 → ν1.1 19 t = iI (Dk G G.m t)) → (∀ t, t < 200 → t ≠ G.to k → ν1.2 20 t = lN (Rk G k t)) → ν1.2 20 (G.to k) = lN (Rk G k (G.to k) + (sW (fun a => if thr G (Dk G G.m) k a = Dk G G.m (G.to k) ∧ ¬ Dk G G.m (G.to k) = 1073741824 then Rk G k (8 * G.b k + a) else 0) a + (if thr G (Dk G G.m) k a = Dk G G.m (G.to k) ∧ ¬ Dk G G.m (G.to k) = 1073741824 then Rk G k (8 * G.b k + a) else 0))) → ∃ ν', f_Mo_work_197 κ (f_Mo_work_134 κ n) n ν1 (nI k) (nI (G.to k)) (nI a) = κ ν' (nI (k + 1)) ∧ WmF ν1 ν' ∧ ν'.1 = ν1.1 ∧ (∀ t, t < 200 → ν'.2 20 t = lN (Rk G (k + 1) t)) := by
      intro ν1 k1 k2 k3 k4
      unfold f_Mo_work_197
      rw [bd_e, nI_1]
      exact ih (a + 1) n ν1 (by omega) (by omega) k1 k2 k3 (by rw [e0]; exact k4)
    unfold f_Mo_work_134
    rw [if_neg (by rw [show (8 : Int32) = nI 8 from rfl]; exact nI_ge (by omega) (by omega)), tm, cl_s, gd_i (by rw [nI_toInt (by omega)]; omega), nI_clamp (by omega), h19 _ tt]
    have q := iI_eq (a := thr G (Dk G G.m) k a) (b := Dk G G.m (G.to k)) (by omega) (by omega) (by omega) (by omega)
    have q2 := big_eq (z := Dk G G.m (G.to k)) (by omega)
    by_cases c : thr G (Dk G G.m) k a = Dk G G.m (G.to k)
    · rw [if_pos (q.mpr c), gd_i (by rw [nI_toInt (by omega)]; omega)]
      by_cases c2 : Dk G G.m (G.to k) = 1073741824
      · rw [if_pos (q2.mpr c2)]
        exact nx ν hg h19 h1 (by rw [if_neg (show ¬ (thr G (Dk G G.m) k a = Dk G G.m (G.to k) ∧ ¬ Dk G G.m (G.to k) = 1073741824) from fun h => h.2 c2), Nat.add_zero]; exact h2)
      · rw [if_neg (fun h => c2 (q2.mp h)), gd_i (by rw [nI_toInt (by omega)]; omega), gd_i (by rw [nI_toInt (by omega)]; omega), nI_clamp (by omega), g1, slot2, gd_i (by rw [nI_toInt (by omega)]; omega), gd_i (by rw [nI_toInt (by omega)]; omega), nI_clamp (by omega), bd_e, h2, h1 (8 * G.b k + a) (by omega) (by omega), lN_add]
        have F1 := @WmF.wl ν (G.to k) (lN (Rk G k (G.to k) + sW (fun a => if thr G (Dk G G.m) k a = Dk G G.m (G.to k) ∧ ¬ Dk G G.m (G.to k) = 1073741824 then Rk G k (8 * G.b k + a) else 0) a + Rk G k (8 * G.b k + a)))
        obtain ⟨ν', r1, r2, r3, r4⟩ := nx _ (F1.gm hg) h19 (fun t ht hne => by rw [wl_g, if_neg (by omega)]; exact h1 t ht hne) (by rw [wl_g, if_pos ⟨rfl, rfl⟩, if_pos (show thr G (Dk G G.m) k a = Dk G G.m (G.to k) ∧ ¬ Dk G G.m (G.to k) = 1073741824 from ⟨c, c2⟩), Nat.add_assoc])
        exact ⟨ν', r1, F1.tr r2, r3, r4⟩
    · rw [if_neg (fun h => c (q.mp h))]
      exact nx ν hg h19 h1 (by rw [if_neg (show ¬ (thr G (Dk G G.m) k a = Dk G G.m (G.to k) ∧ ¬ Dk G G.m (G.to k) = 1073741824) from fun h => c h.1), Nat.add_zero]; exact h2)
theorem w98_m {G : Lt} {s : Nat} {en : Nat → Nat} (hG : LtOK G s) : ∀ j k n (ν : Mem), k + j = G.m → j + 10 < n → GmM ν G s en → (∀ t, t < 200 → ν.1 19 t = iI (Dk G G.m t)) → (∀ t, t < 200 → ν.2 20 t = lN (Rk G k t)) → ∃ n' ν', n ≤ n' + j + 1 ∧ f_Mo_work_98 n ν (nI k) = f_Mo_trace n' ν' ∧ WmF ν ν' ∧ ν'.1 = ν.1 ∧ (∀ t, t < 200 → ν'.2 20 t = lN (Wk G G.m t)) := by
  intro j
  induction j with
  | zero =>
    intro k n ν hk hn hg h19 h
    obtain ⟨n, rfl⟩ : ∃ n', n = n' + 1 := ⟨n - 1, by omega⟩
    have hm := hg.2.2.1
    have e : k = G.m := by omega
    rw [e] at h ⊢
    refine ⟨n, ν, by omega, ?_, WmF.rf ν, rfl, fun t ht => by rw [h t ht, Rk_m hG]⟩
    show (if ν.1 0 23 ≤ nI G.m then cl (f_Mo_trace n ν) (fun μ2 => some μ2) else _) = _
    rw [hg.2.1, if_pos (nI_le (Nat.le_refl _) (by omega))]
    cases f_Mo_trace n ν <;> rfl
  | succ j ih =>
    intro k n ν hk hn hg h19 h
    obtain ⟨n, rfl⟩ : ∃ n', n = n' + 1 := ⟨n - 1, by omega⟩
    have hm := hg.2.2.1
    have hs := hG.hs
    have hkm : k < G.m := by omega
    obtain ⟨f1, f2, f3⟩ := hG.fit k hkm
    obtain ⟨g1, g2, g3, g4, g5, g6⟩ := hg.2.2.2.1 k hkm
    have to : G.to k = 8 * (G.b k + G.l k) + G.p k := rfl
    have tt : G.to k < 200 := by omega
    obtain ⟨ν1, r1, r2, r3, r4⟩ := w134_m (en := en) hG hkm (f_Mo_work_98 n) 8 0 n ν rfl (by omega) hg h19 (fun t ht _ => h t ht) (by rw [h _ tt]; rfl)
    obtain ⟨n', ν', s0, s1, s2, s3, s4⟩ := ih (k + 1) n ν1 (by omega) (by omega) (r2.gm hg) (by rw [r3]; exact h19) r4
    refine ⟨n', ν', by omega, ?_, r2.tr s2, s3.trans r3, s4⟩
    rw [← s1, ← r1]
    show (if ν.1 0 23 ≤ nI k then _ else gd (inb (nI k) 700) (gd (inb (nI k) 700) (gd (inb (nI k) 700) (bd (8 * (ν.1 14 (nI k).toNatClampNeg + ν.1 15 (nI k).toNatClampNeg) + ν.1 16 (nI k).toNatClampNeg) (fun v1 => f_Mo_work_134 (f_Mo_work_98 n) n ν (nI k) v1 0))))) = _
    rw [hg.2.1, if_neg (nI_ge hkm (by omega)), gd_i (by rw [nI_toInt (by omega)]; omega), gd_i (by rw [nI_toInt (by omega)]; omega), gd_i (by rw [nI_toInt (by omega)]; omega), nI_clamp (by omega), g1, g2, g3, nI_add, slot2, bd_e, nI_0, to]
theorem tot_m {G : Lt} {s : Nat} {en : Nat → Nat} {ν : Mem} (hG : LtOK G s) (hg : GmM ν G s en) (h19 : ∀ t, t < 200 → ν.1 19 t = iI (Dk G G.m t)) : ∀ j a n, a + j = 8 → j < n → f_Mo_total_5 ν n (iI (mn (gI G (Dk G G.m) s 0) a)) (nI a) = some (iI (into G (Dk G G.m) s 0)) := by
  intro j
  have hs := hG.hs
  have DB := Dk_b hG G.m (Nat.le_refl _)
  induction j with
  | zero =>
    intro a n ha hn
    obtain ⟨n, rfl⟩ : ∃ n', n = n' + 1 := ⟨n - 1, by omega⟩
    have e : a = 8 := by omega
    subst e
    show (if (8 : Int32) ≤ nI 8 then some (iI (mn (gI G (Dk G G.m) s 0) 8)) else _) = _
    exact if_pos (by decide)
  | succ j ih =>
    intro a n ha hn
    obtain ⟨n, rfl⟩ : ∃ n', n = n' + 1 := ⟨n - 1, by omega⟩
    have nx := ih (a + 1) n (by omega) (by omega)
    have e0 : mn (gI G (Dk G G.m) s 0) (a + 1) = min (mn (gI G (Dk G G.m) s 0) a) (gI G (Dk G G.m) s 0 a) := rfl
    rw [e0] at nx
    have b1 := mnI_b hG DB (b := s) (p := 0) (by omega) hs (j := a) (by omega)
    have b2 := gI_b hG DB (b := s) (p := 0) (a := a) (by omega) (by omega) hs
    have b4 := Dk_bb hG (Nat.le_refl G.m) (t := 8 * s + a) (by omega)
    have q2 := big_eq (z := Dk G G.m (8 * s + a)) (by omega)
    unfold f_Mo_total_5
    rw [if_neg (by rw [show (8 : Int32) = nI 8 from rfl]; exact nI_ge (by omega) (by omega)), hg.1, slot2, gd_i (by rw [nI_toInt (by omega)]; omega), nI_clamp (by omega), h19 _ (by omega), bd_e]
    by_cases z : Dk G G.m (8 * s + a) = 1073741824
    · have g0 : gI G (Dk G G.m) s 0 a = 1073741824 := by unfold gI; rw [if_pos z]
      have mB := mn_B (f := gI G (Dk G G.m) s 0) a
      rw [g0, show min (mn (gI G (Dk G G.m) s 0) a) 1073741824 = mn (gI G (Dk G G.m) s 0) a by omega] at nx
      rw [if_pos (q2.mpr z)]
      unfold f_Mo_total_59
      rw [bd_e, nI_1]
      exact nx
    · have g0 : gI G (Dk G G.m) s 0 a = Dk G G.m (8 * s + a) + G.lk a 0 := by unfold gI; rw [if_neg z]
      have lk := hg.2.2.2.2 a 0 (by omega) (by omega)
      rw [Nat.add_zero] at lk
      rw [if_neg (fun h => z (q2.mp h)), show (8 : Int32) * nI a = nI (8 * a) by rw [show (8 : Int32) = nI 8 from rfl, pk_mul], gd_i (by rw [nI_toInt (by omega)]; omega), nI_clamp (by omega), lk, iI_add, ← g0]
      have q := iI_le (a := mn (gI G (Dk G G.m) s 0) a) (b := gI G (Dk G G.m) s 0 a) (by omega) (by omega) (by omega) (by omega)
      by_cases c : mn (gI G (Dk G G.m) s 0) a ≤ gI G (Dk G G.m) s 0 a
      · rw [if_pos (q.mpr c)]
        rw [show min (mn (gI G (Dk G G.m) s 0) a) (gI G (Dk G G.m) s 0 a) = mn (gI G (Dk G G.m) s 0) a by omega] at nx
        unfold f_Mo_total_59
        rw [bd_e, nI_1]
        exact nx
      · rw [if_neg (fun h => c (q.mp h)), gd_i (by rw [nI_toInt (by omega)]; omega), bd_e]
        rw [show min (mn (gI G (Dk G G.m) s 0) a) (gI G (Dk G G.m) s 0 a) = gI G (Dk G G.m) s 0 a by omega] at nx
        unfold f_Mo_total_59
        rw [bd_e, nI_1]
        exact nx
theorem total_m {G : Lt} {s n : Nat} {en : Nat → Nat} {ν : Mem} (hG : LtOK G s) (hg : GmM ν G s en) (h19 : ∀ t, t < 200 → ν.1 19 t = iI (Dk G G.m t)) (hn : 8 < n) : f_Mo_total n ν = some (iI (into G (Dk G G.m) s 0)) := by
  have := tot_m hG hg h19 8 0 n rfl hn
  rw [nI_0] at this
  unfold f_Mo_total
  rw [iI_big]
  exact this
theorem ends_l {G : Lt} {s k : Nat} {en : Nat → Nat} {ν : Mem} {x : Int} (hG : LtOK G s) (hg : GmM ν G s en) (h19 : ∀ t, t < 200 → ν.1 19 t = iI (Dk G G.m t)) (hk : k < G.m) (hx : -100000000 ≤ x ∧ x ≤ 100000000) : ∀ j a n, a + j = 8 → j < n → ∃ r, f_Mo_ends_2 ν n (nI k) (iI x) (nI a) = some r ∧ (r = true ↔ ∃ q, a ≤ q ∧ q < 8 ∧ thr G (Dk G G.m) k q = x) := by
  intro j
  have hs := hG.hs
  obtain ⟨f1, f2, f3⟩ := hG.fit k hk
  have DB := Dk_b hG G.m (Nat.le_refl _)
  induction j with
  | zero =>
    intro a n ha hn
    obtain ⟨n, rfl⟩ : ∃ n', n = n' + 1 := ⟨n - 1, by omega⟩
    have e : a = 8 := by omega
    subst e
    refine ⟨false, ?_, ⟨fun h => (by cases h), fun ⟨q, q1, q2, _⟩ => by omega⟩⟩
    show (if (8 : Int32) ≤ nI 8 then some false else _) = _
    rw [if_pos (by decide)]
  | succ j ih =>
    intro a n ha hn
    obtain ⟨n, rfl⟩ : ∃ n', n = n' + 1 := ⟨n - 1, by omega⟩
    have tm := thr_m (n := n) hG hg hk (show a < 8 by omega) DB (h19 _ (by omega))
    have tb := thr_b hG DB hk (show a < 8 by omega)
    have q := iI_eq (a := thr G (Dk G G.m) k a) (b := x) (by omega) (by omega) (by omega) (by omega)
    unfold f_Mo_ends_2
    rw [if_neg (by rw [show (8 : Int32) = nI 8 from rfl]; exact nI_ge (by omega) (by omega)), tm, cl_s]
    by_cases c : thr G (Dk G G.m) k a = x
    · rw [if_pos (q.mpr c)]
      exact ⟨true, rfl, ⟨fun _ => ⟨a, Nat.le_refl _, by omega, c⟩, fun _ => rfl⟩⟩
    · obtain ⟨r, r1, r2⟩ := ih (a + 1) n (by omega) (by omega)
      rw [if_neg (fun h => c (q.mp h)), bd_e, nI_1]
      refine ⟨r, r1, r2.trans ⟨?_, ?_⟩⟩
      · rintro ⟨q, q1, q2, q3⟩
        exact ⟨q, by omega, q2, q3⟩
      · rintro ⟨q, q1, q2, q3⟩
        refine ⟨q, ?_, q2, q3⟩
        by_cases e : q = a
        · subst e; exact absurd q3 c
        · omega
theorem ends_P {G : Lt} {s k e p : Nat} (hG : LtOK G s) (hk : k < G.m) (he : G.b k + G.l k = e) (hp : p < 8) (hi : into G (Dk G G.m) e p ≠ 1073741824) : (∃ q, 0 ≤ q ∧ q < 8 ∧ thr G (Dk G G.m) k q = into G (Dk G G.m) e p - G.lk (G.p k) p) ↔ lsP G e p k = true := by
  have hs := hG.hs
  obtain ⟨f1, f2, f3⟩ := hG.fit k hk
  have DB := Dk_b hG G.m (Nat.le_refl _)
  have lb := hG.lkb (G.p k) p f3 hp
  have ib := (into_b hG DB hp (show e ≤ 24 by omega)).resolve_left hi
  have he24 : (e : Int) ≤ 24 := by omega
  have pb := hG.prb k hk
  unfold lsP
  rw [decide_eq_true_eq]
  constructor
  · rintro ⟨q, _, q2, q3⟩
    obtain ⟨t1, t2⟩ := thr_ge hG hk q2
    have h1 := Dk_le hk
    have to : G.to k = 8 * e + G.p k := by show 8 * (G.b k + G.l k) + G.p k = _; rw [he]
    have h2 := mn_le (f := gI G (Dk G G.m) e p) 8 (G.p k) f3
    change into G (Dk G G.m) e p ≤ gI G (Dk G G.m) e p (G.p k) at h2
    unfold gI at h2
    rw [← to] at h2
    by_cases z : Dk G G.m (G.to k) = 1073741824
    · omega
    · rw [if_neg z] at h2
      exact ⟨he, by omega, by omega⟩
  · rintro ⟨_, h2, h3⟩
    rw [up_fin hG hk] at h2 h3
    have hin : into G (Dk G G.m) (G.b k) (G.p k) ≠ 1073741824 := by
      intro z
      rw [z] at h2
      exact h2 (if_pos rfl)
    rcases mn_ex (f := gI G (Dk G G.m) (G.b k) (G.p k)) 8 with c | ⟨a, a1, a2⟩
    · exact absurd c hin
    · refine ⟨a, by omega, a1, ?_⟩
      have e2 : into G (Dk G G.m) (G.b k) (G.p k) = gI G (Dk G G.m) (G.b k) (G.p k) a := a2
      rw [thr_u hG DB hk a1, ← e2]
      omega
theorem bef_m {G : Lt} {s i K : Nat} {en : Nat → Nat} {ν : Mem} {n : Nat} (hG : LtOK G s) (hg : GmM ν G s en) (hen : ∀ i j, i < j → j < G.m → G.b i = G.b j → en i ≤ en j) (hi : i < G.m) (hK : K < i) (he : G.b i + G.l i = G.b K + G.l K) : f_Mo_before n ν (nI i) (nI K) = some false := by
  have hm := hg.2.2.1
  have hs := hG.hs
  obtain ⟨f1, f2, f3⟩ := hG.fit i hi
  obtain ⟨f1, f2, f3⟩ := hG.fit K (by omega)
  obtain ⟨g1, g2, g3, g4, g5, g6⟩ := hg.2.2.2.1 i hi
  obtain ⟨k1, k2, k3, k4, k5, k6⟩ := hg.2.2.2.1 K (by omega)
  have st := hG.srt K i (by omega) hi
  unfold f_Mo_before
  rw [if_neg (nI_pos (by omega)), gd_i (by rw [nI_toInt (by omega)]; omega), gd_i (by rw [nI_toInt (by omega)]; omega), nI_clamp (show K < 2 ^ 31 by omega), nI_clamp (show i < 2 ^ 31 by omega), k2, g2, if_neg (nI_nlt (by omega) (by omega)), gd_i (by rw [nI_toInt (by omega)]; omega), gd_i (by rw [nI_toInt (by omega)]; omega)]
  by_cases c : G.l i = G.l K
  · have := hen K i hK hi (by omega)
    rw [if_pos (by rw [c]), gd_i (by rw [nI_toInt (by omega)]; omega), gd_i (by rw [nI_toInt (by omega)]; omega), k5, g5, if_pos (nI_le this (by omega))]
  · rw [if_neg (fun h => c ((nI_eq (by omega) (by omega)).mp h))]
/-- the last node is found: the search comes to its end with it -/
theorem t27B_m {G : Lt} {s e p K : Nat} {en : Nat → Nat} {ν : Mem} (hG : LtOK G s) (hg : GmM ν G s en) (hen : ∀ i j, i < j → j < G.m → G.b i = G.b j → en i ≤ en j) (κ : Mem → Int32 → Int32 → Int32 → Option Mem) (hK : K < G.m) (he : G.b K + G.l K = e) (x2 x3 : Int32) : ∀ j i n, i + j = G.m → j < n → K < i → ∃ n', n ≤ n' + j ∧ f_Mo_trace_27 κ n ν (nI e) x2 x3 (nI K) (nI i) = f_Mo_trace_27 κ n' ν (nI e) x2 x3 (nI K) (nI G.m) := by
  intro j
  have hm := hg.2.2.1
  have hs := hG.hs
  induction j with
  | zero =>
    intro i n hi hn hKi
    have e : i = G.m := by omega
    rw [e]
    exact ⟨n, by omega, rfl⟩
  | succ j ih =>
    intro i n hi hn hKi
    obtain ⟨n, rfl⟩ : ∃ n', n = n' + 1 := ⟨n - 1, by omega⟩
    have him : i < G.m := by omega
    obtain ⟨f1, f2, f3⟩ := hG.fit i him
    obtain ⟨h1, h2, h3⟩ := hG.fit K hK
    obtain ⟨g1, g2, g3, g4, g5, g6⟩ := hg.2.2.2.1 i him
    obtain ⟨n', a1, a2⟩ := ih (i + 1) n (by omega) (by omega) (by omega)
    refine ⟨n', by omega, ?_⟩
    rw [← a2]
    have nx : f_Mo_trace_110 κ (f_Mo_trace_27 κ n) n ν (nI e) x2 x3 (nI K) (nI i) = f_Mo_trace_27 κ n ν (nI e) x2 x3 (nI K) (nI (i + 1)) := by
      unfold f_Mo_trace_110
      rw [bd_e, nI_1]
    rw [← nx]
    show (if ν.1 0 23 ≤ nI i then _ else gd (inb (nI i) 700) (gd (inb (nI i) 700) (if ν.1 14 (nI i).toNatClampNeg + ν.1 15 (nI i).toNatClampNeg = nI e then f_Mo_trace_60 κ (f_Mo_trace_27 κ n) n ν (nI e) x2 x3 (nI K) (nI i) true else f_Mo_trace_60 κ (f_Mo_trace_27 κ n) n ν (nI e) x2 x3 (nI K) (nI i) false))) = _
    rw [hg.2.1, if_neg (nI_ge him (by omega)), gd_i (by rw [nI_toInt (by omega)]; omega), gd_i (by rw [nI_toInt (by omega)]; omega), nI_clamp (by omega), g1, g2, nI_add]
    by_cases c : G.b i + G.l i = e
    · rw [if_pos (by rw [c])]
      unfold f_Mo_trace_60
      rw [if_neg (by decide), bef_m hG hg hen him hKi (by omega), cl_s, if_pos (by decide)]
    · rw [if_neg (fun h => c ((nI_eq (by omega) (by omega)).mp h))]
      unfold f_Mo_trace_60
      rw [if_pos (by decide)]
theorem t27A_m {G : Lt} {s e p : Nat} {en : Nat → Nat} {ν : Mem} (hG : LtOK G s) (hg : GmM ν G s en) (h19 : ∀ t, t < 200 → ν.1 19 t = iI (Dk G G.m t)) (hen : ∀ i j, i < j → j < G.m → G.b i = G.b j → en i ≤ en j) (κ : Mem → Int32 → Int32 → Int32 → Option Mem) (he : e ≤ s) (hp : p < 8) (hin : into G (Dk G G.m) e p ≠ 1073741824) : ∀ j i n, i + j = G.m → j + 10 < n → fsF (lsP G e p) j i < G.m → ∃ n', n ≤ n' + j ∧ f_Mo_trace_27 κ n ν (nI e) (nI p) (iI (into G (Dk G G.m) e p)) (-1) (nI i) = f_Mo_trace_27 κ n' ν (nI e) (nI p) (iI (into G (Dk G G.m) e p)) (nI (fsF (lsP G e p) j i)) (nI G.m) := by
  intro j
  have hm := hg.2.2.1
  have hs := hG.hs
  have DB := Dk_b hG G.m (Nat.le_refl _)
  have ib := (into_b hG DB hp (show e ≤ 24 by omega)).resolve_left hin
  have he24 : (e : Int) ≤ 24 := by omega
  induction j with
  | zero => intro i n h1 h2 h3; exact absurd h3 (by show ¬ i < G.m; omega)
  | succ j ih =>
    intro i n hi hn hf
    obtain ⟨n, rfl⟩ : ∃ n', n = n' + 1 := ⟨n - 1, by omega⟩
    have him : i < G.m := by omega
    obtain ⟨f1, f2, f3⟩ := hG.fit i him
    obtain ⟨g1, g2, g3, g4, g5, g6⟩ := hg.2.2.2.1 i him
    have e0 : fsF (lsP G e p) (j + 1) i = if lsP G e p i = true then i else fsF (lsP G e p) j (i + 1) := rfl
    have lb := hG.lkb (G.p i) p f3 hp
    have nx : ¬ lsP G e p i = true → ∃ n', n + 1 ≤ n' + (j + 1) ∧ f_Mo_trace_110 κ (f_Mo_trace_27 κ n) n ν (nI e) (nI p) (iI (into G (Dk G G.m) e p)) (-1) (nI i) = f_Mo_trace_27 κ n' ν (nI e) (nI p) (iI (into G (Dk G G.m) e p)) (nI (fsF (lsP G e p) (j + 1) i)) (nI G.m) := by
      intro hne
      rw [e0, if_neg hne] at hf ⊢
      obtain ⟨n', a1, a2⟩ := ih (i + 1) n (by omega) (by omega) hf
      refine ⟨n', by omega, ?_⟩
      rw [← a2]
      unfold f_Mo_trace_110
      rw [bd_e, nI_1]
    have st : f_Mo_trace_27 κ (n + 1) ν (nI e) (nI p) (iI (into G (Dk G G.m) e p)) (-1) (nI i) = (if ν.1 0 23 ≤ nI i then _ else gd (inb (nI i) 700) (gd (inb (nI i) 700) (if ν.1 14 (nI i).toNatClampNeg + ν.1 15 (nI i).toNatClampNeg = nI e then f_Mo_trace_60 κ (f_Mo_trace_27 κ n) n ν (nI e) (nI p) (iI (into G (Dk G G.m) e p)) (-1) (nI i) true else f_Mo_trace_60 κ (f_Mo_trace_27 κ n) n ν (nI e) (nI p) (iI (into G (Dk G G.m) e p)) (-1) (nI i) false))) := rfl
    rw [st, hg.2.1, if_neg (nI_ge him (by omega)), gd_i (by rw [nI_toInt (by omega)]; omega), gd_i (by rw [nI_toInt (by omega)]; omega), nI_clamp (by omega), g1, g2, nI_add]
    by_cases c : G.b i + G.l i = e
    · rw [if_pos (by rw [c])]
      obtain ⟨r, r1, r2⟩ := ends_l hG hg h19 him (x := into G (Dk G G.m) e p - G.lk (G.p i) p) (by omega) 8 0 n rfl (by omega)
      have r3 := r2.trans (ends_P hG him c hp hin)
      rw [nI_0] at r1
      unfold f_Mo_trace_60 f_Mo_before f_Mo_before_49
      rw [if_neg (by decide), if_pos (show (-1 : Int32) < 0 by decide), cl_s, if_neg (by decide), gd_i (by rw [nI_toInt (by omega)]; omega), nI_clamp (by omega), g3, slot2, gd_i (by rw [nI_toInt (by omega)]; omega), nI_clamp (by omega), hg.2.2.2.2 _ p f3 hp, iI_sub]
      unfold f_Mo_ends
      rw [r1, cl_s]
      by_cases c3 : lsP G e p i = true
      · have hr := r3.mpr c3
        subst hr
        rw [if_neg (by decide), e0, if_pos c3]
        obtain ⟨n', a1, a2⟩ := t27B_m (p := p) hG hg hen κ him c (nI p) (iI (into G (Dk G G.m) e p)) j (i + 1) n (by omega) (by omega) (by omega)
        refine ⟨n', by omega, ?_⟩
        rw [← a2]
        unfold f_Mo_trace_110
        rw [bd_e, nI_1]
      · have hr : r = false := by
          cases r with
          | true => exact absurd (r3.mp rfl) c3
          | false => rfl
        subst hr
        rw [if_pos (by decide)]
        exact nx c3
    · rw [if_neg (fun h => c ((nI_eq (by omega) (by omega)).mp h))]
      unfold f_Mo_trace_60
      rw [if_pos (by decide)]
      exact nx (by unfold lsP; rw [decide_eq_true_eq]; exact fun h => c h.1)
theorem t17_m {G : Lt} {s : Nat} {en : Nat → Nat} (hG : LtOK G s) (hen : ∀ i j, i < j → j < G.m → G.b i = G.b j → en i ≤ en j) : ∀ f e p i n (ν : Mem), e ≤ f → e + i ≤ 24 → e ≤ s → p < 8 → f + 800 < n → into G (Dk G G.m) e p ≠ 1073741824 → GmM ν G s en → (∀ t, t < 200 → ν.1 19 t = iI (Dk G G.m t)) → ν.1 0 27 = nI i → ∃ ν', f_Mo_trace_17 n ν (nI e) (nI p) (iI (into G (Dk G G.m) e p)) = some ν' ∧ ν'.1 0 27 = nI (i + (trc G f e p).length) ∧ (∀ j k, (trc G f e p)[j]? = some k → ν'.1 21 (i + j) = nI k) ∧ (∀ j, j < i → ν'.1 21 j = ν.1 21 j) ∧ ν'.1 19 = ν.1 19 ∧ ν'.2 = ν.2 ∧ WmF ν ν' := by
  intro f
  induction f with
  | zero =>
    intro e p i n ν h1 h2 h3 h5 h6 h7 hg h19 h8
    obtain ⟨n, rfl⟩ : ∃ n', n = n' + 1 := ⟨n - 1, by omega⟩
    have e0 : e = 0 := by omega
    subst e0
    refine ⟨ν, ?_, h8, (fun j k h => by cases h), fun _ _ => rfl, rfl, rfl, WmF.rf ν⟩
    show (if nI 0 ≤ 0 then some ν else _) = _
    rw [if_pos (show nI 0 ≤ 0 by decide)]
  | succ f ih =>
    intro e p i n ν h1 h2 h3 h5 h6 h7 hg h19 h8
    obtain ⟨n, rfl⟩ : ∃ n', n = n' + 1 := ⟨n - 1, by omega⟩
    have hm := hg.2.2.1
    have hs := hG.hs
    by_cases c : e = 0
    · subst c
      have et : trc G (f + 1) 0 p = [] := rfl
      rw [et]
      refine ⟨ν, ?_, h8, (fun j k h => by cases h), fun _ _ => rfl, rfl, rfl, WmF.rf ν⟩
      show (if nI 0 ≤ 0 then some ν else _) = _
      rw [if_pos (show nI 0 ≤ 0 by decide)]
    · have et : trc G (f + 1) e p = lsI G e p :: trc G f (G.b (lsI G e p)) (G.p (lsI G e p)) := if_neg c
      obtain ⟨k1, k2, k3, k4, k5⟩ := lsI_lt hG h3 c h5 h7
      obtain ⟨f1, f2, f3⟩ := hG.fit _ k1
      obtain ⟨g1, g2, g3, g4, g5, g6⟩ := hg.2.2.2.1 _ k1
      obtain ⟨n', a1, a2⟩ := t27A_m hG hg h19 hen (f_Mo_trace_17 n) h3 h5 h7 G.m 0 n (by omega) (by omega) k1
      obtain ⟨n', rfl⟩ : ∃ k, n' = k + 1 := ⟨n' - 1, by omega⟩
      change _ = f_Mo_trace_27 (f_Mo_trace_17 n) (n' + 1) ν (nI e) (nI p) (iI (into G (Dk G G.m) e p)) (nI (lsI G e p)) (nI G.m) at a2
      have iv : into G (Dk G G.m) e p - G.lk (G.p (lsI G e p)) p - G.pr (lsI G e p) = into G (Dk G G.m) (G.b (lsI G e p)) (G.p (lsI G e p)) := by
        rw [up_fin hG k1] at k5
        unfold upv at k5
        rw [if_neg k4] at k5
        omega
      rw [et]
      generalize lsI G e p = K at *
      have F2 : WmF ν (wi (wi ν 21 i (nI K)) 0 27 (nI i + 1)) := (WmF.wi (by omega)).tr (WmF.wi (by omega))
      have hg2 := F2.gm hg
      have h19' : ∀ t, t < 200 → (wi (wi ν 21 i (nI K)) 0 27 (nI i + 1)).1 19 t = iI (Dk G G.m t) := fun t ht => by
        rw [wi_o (by omega), wi_o (by omega)]; exact h19 t ht
      obtain ⟨ν', m1, m3, m4, m5, m6, m7, m8⟩ := ih (G.b K) (G.p K) (i + 1) n _ (by omega) (by omega) (by omega) f3 (by omega) k4 hg2 h19' (by rw [wi_g, if_pos ⟨rfl, rfl⟩, nI_1])
      refine ⟨ν', ?_, by rw [m3, List.length_cons]; congr 1; omega, ?_, ?_, ?_, m7, F2.tr m8⟩
      · rw [← m1]
        show (if nI e ≤ 0 then some ν else f_Mo_trace_27 (f_Mo_trace_17 n) n ν (nI e) (nI p) (iI (into G (Dk G G.m) e p)) (-1) (nI 0)) = _
        rw [if_neg (nI_nle (by omega) (by omega)), a2]
        unfold f_Mo_trace_27
        rw [hg.2.1, if_pos (nI_le (Nat.le_refl _) (by omega)), gd_i (by rw [nI_toInt (by omega)]; omega), nI_clamp (show K < 2 ^ 31 by omega), g3, slot2, gd_i (by rw [nI_toInt (by omega)]; omega), gd_i (by rw [nI_toInt (by omega)]; omega), nI_clamp (by omega), hg.2.2.2.2 _ p f3 h5, g4, iI_sub, iI_sub, iv, bd_e, gd_i (by rw [nI_toInt (by omega)]; omega), bd_e, gd_i (by rw [nI_toInt (by omega)]; omega), g1, bd_e, h8, gd_i (by rw [nI_toInt (by omega)]; omega), nI_clamp (by omega), bd_e]
        rw [show (wi ν 21 i (nI K)).1 0 27 = nI i by rw [wi_g, if_neg (by omega), h8], bd_e]
      · intro j k h
        cases j with
        | zero =>
          have : K = k := Option.some.inj h
          subst this
          rw [m5 (i + 0) (by omega), wi_g, if_neg (by omega), wi_g, if_pos ⟨rfl, rfl⟩]
        | succ j =>
          rw [show i + (j + 1) = i + 1 + j by omega]
          exact m4 j k h
      · intro j hj
        rw [m5 j (by omega), wi_g, if_neg (by omega), wi_g, if_neg (by omega)]
      · rw [m6, wi_o (by omega), wi_o (by omega)]
/-- what the reference holds when its work is done -/
def RtM (ν : Mem) (G : Lt) (s : Nat) : Prop := (∀ t, t < 200 → ν.1 19 t = iI (Dk G G.m t)) ∧ (∀ t, t < 200 → ν.2 20 t = lN (Wk G G.m t)) ∧ ν.1 0 27 = nI (trc G 24 s 0).length ∧ ∀ j k, (trc G 24 s 0)[j]? = some k → ν.1 21 j = nI k
theorem work_m {G : Lt} {s n : Nat} {en : Nat → Nat} {ν : Mem} (hG : LtOK G s) (hg : GmM ν G s en) (hen : ∀ i j, i < j → j < G.m → G.b i = G.b j → en i ≤ en j) (hn : 2600 < n) : ∃ ν', f_Mo_work_29 n ν 0 = some ν' ∧ RtM ν' G s ∧ WmF ν ν' := by
  have hm := hg.2.2.1
  have hs := hG.hs
  obtain ⟨n1, ν1, a0, a1, a2, a3, a4⟩ := w29_m 200 0 n ν (by omega) (by omega)
  obtain ⟨n1, rfl⟩ : ∃ k, n1 = k + 1 := ⟨n1 - 1, by omega⟩
  have Fa : WmF ν (wl (wi ν1 19 0 0) 20 0 1) := (a4.tr (WmF.wi (by omega))).tr WmF.wl
  have ha19 : ∀ t, t < 200 → (wl (wi ν1 19 0 0) 20 0 1).1 19 t = iI (Dk G 0 t) := by
    intro t ht
    rw [wl_1, wi_g]
    show _ = iI (if t = 0 then 0 else 1073741824)
    by_cases c : t = 0
    · rw [if_pos ⟨rfl, c⟩, if_pos c, iI_0]
    · rw [if_neg (by omega), if_neg c]; exact (a2 t (by omega) ht).1
  have ha20 : ∀ t, t < 200 → (wl (wi ν1 19 0 0) 20 0 1).2 20 t = lN (Rk G 0 t) := by
    intro t ht
    rw [wl_g]
    show _ = lN (if t = 0 then 1 else 0)
    by_cases c : t = 0
    · rw [if_pos ⟨rfl, c⟩, if_pos c]; rfl
    · rw [if_neg (by omega), if_neg c, wi_2]; exact (a2 t (by omega) ht).2
  obtain ⟨ν2, x, b1, b2, b3, b4⟩ := sh4_m hG G.m 0 n1 _ false (by omega) (by omega) (Fa.gm hg) ha19
  have Fb := Fa.tr b2
  have hb20 : ∀ t, t < 200 → ν2.2 20 t = lN (Rk G 0 t) := by rw [b4]; exact ha20
  have k96 : ∃ n3, 1700 < n3 ∧ f_Mo_work_75 (n1 + 1) (wl (wi ν1 19 0 0) 20 0 1) true 0 = f_Mo_work_98 n3 ν2 (nI 0) := by
    show ∃ n3, 1700 < n3 ∧ (if (30 : Int32) ≤ 0 then _ else (if (bz true) = 0 then _ else (cl2 (f_Mo_shorten n1 (wl (wi ν1 19 0 0) 20 0 1)) (fun v1 μ2 => bd (0 + 1) (fun v3 => (f_Mo_work_75 n1) μ2 v1 v3))))) = _
    rw [if_neg (by decide), if_neg (by decide)]
    unfold f_Mo_shorten
    rw [nI_0] at b1
    rw [b1, cl2_s, bd_e]
    obtain ⟨n2, rfl⟩ : ∃ k, n1 = k + 1 := ⟨n1 - 1, by omega⟩
    show ∃ n3, 1700 < n3 ∧ (if (30 : Int32) ≤ (0 : Int32) + 1 then _ else (if (bz x) = 0 then f_Mo_work_96 n2 ν2 else (cl2 (f_Mo_shorten n2 ν2) (fun v1 μ2 => bd ((0 : Int32) + 1 + 1) (fun v3 => (f_Mo_work_75 n2) μ2 v1 v3))))) = _
    rw [if_neg (by decide)]
    cases x with
    | false =>
      rw [if_pos (by decide)]
      exact ⟨n2, by omega, rfl⟩
    | true =>
      rw [if_neg (by decide)]
      have s2 := sh4_2 (x1 := false) hG (Fb.gm hg) b3 G.m 0 n2 (by omega) (by omega)
      unfold f_Mo_shorten
      rw [nI_0] at s2
      rw [s2, cl2_s, bd_e]
      obtain ⟨n3, rfl⟩ : ∃ k, n2 = k + 1 := ⟨n2 - 1, by omega⟩
      refine ⟨n3, by omega, ?_⟩
      show (if (30 : Int32) ≤ (0 : Int32) + 1 + 1 then _ else (if (bz false) = 0 then f_Mo_work_96 n3 ν2 else _)) = _
      rw [if_neg (by decide), if_pos (by decide)]
      rfl
  obtain ⟨n3, c0, c1⟩ := k96
  obtain ⟨n4, ν3, d0, d1, d2, d3, d4⟩ := w98_m hG G.m 0 n3 ν2 (by omega) (by omega) (Fb.gm hg) b3 hb20
  have Fd := Fb.tr d2
  have hd19 : ∀ t, t < 200 → ν3.1 19 t = iI (Dk G G.m t) := by rw [d3]; exact b3
  have Fe : WmF ν3 (wi ν3 0 27 0) := WmF.wi (by omega)
  have hg4 := Fe.gm (Fd.gm hg)
  have he19 : ∀ t, t < 200 → (wi ν3 0 27 0).1 19 t = iI (Dk G G.m t) := fun t ht => by rw [wi_o (by omega)]; exact hd19 t ht
  obtain ⟨ν', e1, e2, e3, e4, e5, e6, e7⟩ := t17_m hG hen 24 s 0 0 n4 _ hs (by omega) (Nat.le_refl _) (by omega) (by omega) (into_end hG) hg4 he19 (by rw [wi_g, if_pos ⟨rfl, rfl⟩, nI_0])
  refine ⟨ν', ?_, ⟨?_, ?_, ?_, ?_⟩, (Fd.tr Fe).tr e7⟩
  · rw [nI_0] at a1
    rw [a1, c1, d1, ← e1]
    unfold f_Mo_trace
    rw [bd_e, hg4.1, bd_e, total_m hG hg4 he19 (by omega), cl_s, nI_0]
  · intro t ht; rw [e5]; exact he19 t ht
  · intro t ht; rw [e6]; exact d4 t ht
  · rw [e2, Nat.zero_add]
  · intro j k h; rw [← e3 j k h, Nat.zero_add]
