/-! PURE: the reference's least costs and ways against the same rows -/
theorem iI_sub (a b : Int) : iI a - iI b = iI (a - b) := (Int32.ofInt_sub a b).symm
theorem iI_big : (1073741824 : Int32) = iI 1073741824 := by decide
theorem big_eq {z : Int} (h : z = 1073741824 ∨ (-100000000 ≤ z ∧ z ≤ 100000000)) : iI z = (1073741824 : Int32) ↔ z = 1073741824 := by
  rw [iI_big, iI_eq (by omega) (by omega) (by omega) (by omega)]
def GmM (ν : Mem) (G : Lt) (s : Nat) (en : Nat → Nat) : Prop :=
  ν.1 0 1 = nI s ∧ ν.1 0 23 = nI G.m ∧ G.m ≤ 696 ∧ (∀ k, k < G.m → ν.1 14 k = nI (G.b k) ∧ ν.1 15 k = nI (G.l k) ∧ ν.1 16 k = nI (G.p k) ∧ ν.1 17 k = iI (G.pr k) ∧ ν.1 18 k = nI (en k) ∧ en k ≤ 40) ∧ ∀ a p, a < 8 → p < 8 → ν.1 11 (8 * a + p) = iI (G.lk a p)
def WmF (ν ν' : Mem) : Prop := (∀ q, q ≠ 0 → q < 19 ∨ 21 < q → ν'.1 q = ν.1 q) ∧ (∀ i, i ≠ 27 → ν'.1 0 i = ν.1 0 i) ∧ (∀ q, q ≠ 20 → ν'.2 q = ν.2 q)
theorem WmF.rf (ν : Mem) : WmF ν ν := ⟨fun _ _ _ => rfl, fun _ _ => rfl, fun _ _ => rfl⟩
theorem WmF.tr {ν ν1 ν2 : Mem} (h1 : WmF ν ν1) (h2 : WmF ν1 ν2) : WmF ν ν2 := ⟨fun q h0 hq => (h2.1 q h0 hq).trans (h1.1 q h0 hq), fun i hi => (h2.2.1 i hi).trans (h1.2.1 i hi), fun q hq => (h2.2.2 q hq).trans (h1.2.2 q hq)⟩
theorem WmF.wi {ν : Mem} {q j : Nat} {v : Int32} (h : (19 ≤ q ∧ q ≤ 21) ∨ (q = 0 ∧ j = 27)) : WmF ν (wi ν q j v) := by
  refine ⟨fun r h0 hr => wi_o (by omega), fun i hi => ?_, fun _ _ => rfl⟩
  rw [wi_g, if_neg (by omega)]
theorem WmF.wl {ν : Mem} {j : Nat} {v : Int64} : WmF ν (wl ν 20 j v) := ⟨fun _ _ _ => rfl, fun _ _ => rfl, fun _ hq => wl_o hq⟩
theorem WmF.gm {ν ν' : Mem} {G : Lt} {s : Nat} {en : Nat → Nat} (f : WmF ν ν') (h : GmM ν G s en) : GmM ν' G s en := by
  unfold GmM
  rw [f.2.1 1 (by omega), f.2.1 23 (by omega), f.1 14 (by omega) (by omega), f.1 15 (by omega) (by omega), f.1 16 (by omega) (by omega), f.1 17 (by omega) (by omega), f.1 18 (by omega) (by omega), f.1 11 (by omega) (by omega)]
  exact h
theorem thr_u {G : Lt} {s : Nat} (hG : LtOK G s) {D : Nat → Int} (hD : Bnd D) {k a : Nat} (hk : k < G.m) (ha : a < 8) : thr G D k a = upv (gI G D (G.b k) (G.p k) a) (G.pr k) := by
  have hs := hG.hs
  obtain ⟨f1, f2, f3⟩ := hG.fit k hk
  have lb := hG.lkb a (G.p k) ha f3
  have db := hD (8 * G.b k + a)
  rw [show (8 * G.b k + a) / 8 = G.b k by omega] at db
  unfold thr upv gI
  by_cases z : D (8 * G.b k + a) = 1073741824
  · rw [if_pos z, if_pos z, if_pos rfl]
  · have := db.resolve_left z
    rw [if_neg z, if_neg z, if_neg (by omega)]
theorem thr_b {G : Lt} {s : Nat} (hG : LtOK G s) {D : Nat → Int} (hD : Bnd D) {k a : Nat} (hk : k < G.m) (ha : a < 8) : thr G D k a = 1073741824 ∨ (-2300000 ≤ thr G D k a ∧ thr G D k a ≤ 2300000) := by
  have hs := hG.hs
  obtain ⟨f1, f2, f3⟩ := hG.fit k hk
  have lb := hG.lkb a (G.p k) ha f3
  have pb := hG.prb k hk
  have db := hD (8 * G.b k + a)
  rw [show (8 * G.b k + a) / 8 = G.b k by omega] at db
  unfold thr
  by_cases z : D (8 * G.b k + a) = 1073741824
  · rw [if_pos z]; exact Or.inl rfl
  · have := db.resolve_left z
    rw [if_neg z]
    exact Or.inr ⟨by omega, by omega⟩
theorem Dk_bb {G : Lt} {s : Nat} (hG : LtOK G s) {k t : Nat} (hk : k ≤ G.m) (ht : t < 200) : Dk G k t = 1073741824 ∨ (-2300000 ≤ Dk G k t ∧ Dk G k t ≤ 2300000) := by
  rcases Dk_b hG k hk t with h | h
  · exact Or.inl h
  · have : t / 8 < 25 := by omega
    exact Or.inr ⟨by omega, by omega⟩
theorem thr_m {ν : Mem} {G : Lt} {s k a n : Nat} {en : Nat → Nat} {D : Nat → Int} (hG : LtOK G s) (hg : GmM ν G s en) (hk : k < G.m) (ha : a < 8) (hD : Bnd D) (h19 : ν.1 19 (8 * G.b k + a) = iI (D (8 * G.b k + a))) : f_Mo_through n ν (nI a) (nI k) = some (iI (thr G D k a)) := by
  have hs := hG.hs
  have hm := hg.2.2.1
  obtain ⟨f1, f2, f3⟩ := hG.fit k hk
  obtain ⟨g1, g2, g3, g4, g5, g6⟩ := hg.2.2.2.1 k hk
  have db := hD (8 * G.b k + a)
  rw [show (8 * G.b k + a) / 8 = G.b k by omega] at db
  unfold f_Mo_through
  rw [gd_i (by rw [nI_toInt (by omega)]; omega), nI_clamp (show k < 2 ^ 31 by omega), g1, slot2, gd_i (by rw [nI_toInt (by omega)]; omega), nI_clamp (by omega), h19, bd_e]
  have q := big_eq (z := D (8 * G.b k + a)) (by omega)
  unfold thr
  by_cases z : D (8 * G.b k + a) = 1073741824
  · rw [if_pos (q.mpr z), if_pos z, iI_big]
  · rw [if_neg (fun h => z (q.mp h)), if_neg z, gd_i (by rw [nI_toInt (by omega)]; omega), g3, slot2, gd_i (by rw [nI_toInt (by omega)]; omega), gd_i (by rw [nI_toInt (by omega)]; omega), nI_clamp (by omega), hg.2.2.2.2 a _ ha f3, g4, iI_add, iI_add]
theorem upv_m {x y z : Int} (hx : x = 1073741824 ∨ (-3000000 ≤ x ∧ x ≤ 3000000)) (hy : y = 1073741824 ∨ (-3000000 ≤ y ∧ y ≤ 3000000)) (hz : -70000 ≤ z ∧ z ≤ 70000) : upv (min x y) z = min (upv x z) (upv y z) := by
  unfold upv
  by_cases a : x = 1073741824
  · by_cases b : y = 1073741824
    · rw [if_pos a, if_pos b, if_pos (by omega)]; omega
    · rw [if_pos a, if_neg b, if_neg (by omega)]; omega
  · by_cases b : y = 1073741824
    · rw [if_neg a, if_pos b, if_neg (by omega)]; omega
    · rw [if_neg a, if_neg b, if_neg (by omega)]; omega
theorem upv_bb {G : Lt} {s : Nat} (hG : LtOK G s) {D : Nat → Int} (hD : Bnd D) {k a : Nat} (hk : k < G.m) (ha : a ≤ 8) : upv (mn (gI G D (G.b k) (G.p k)) a) (G.pr k) = 1073741824 ∨ (-2300000 ≤ upv (mn (gI G D (G.b k) (G.p k)) a) (G.pr k) ∧ upv (mn (gI G D (G.b k) (G.p k)) a) (G.pr k) ≤ 2300000) := by
  have hs := hG.hs
  obtain ⟨f1, f2, f3⟩ := hG.fit k hk
  have pb := hG.prb k hk
  have b1 := mnI_b hG hD (b := G.b k) (p := G.p k) f3 (by omega) ha
  unfold upv
  rcases b1 with b1 | b1
  · rw [if_pos b1]; exact Or.inl rfl
  · rw [if_neg (by omega)]; exact Or.inr ⟨by omega, by omega⟩
theorem sh39_m {G : Lt} {s k : Nat} {en : Nat → Nat} (hG : LtOK G s) (hk : k < G.m) (κ : Mem → Bool → Int32 → Option (Bool × Mem)) : ∀ j a n (ν : Mem) (x1 : Bool), a + j = 8 → j < n → GmM ν G s en → (∀ t, t < 200 → t ≠ G.to k → ν.1 19 t = iI (Dk G k t)) → ν.1 19 (G.to k) = iI (min (Dk G k (G.to k)) (upv (mn (gI G (Dk G k) (G.b k) (G.p k)) a) (G.pr k))) → ∃ ν' x, f_Mo_shorten_39 κ n ν x1 (nI k) (nI (G.to k)) (nI a) = κ ν' x (nI (k + 1)) ∧ WmF ν ν' ∧ (∀ t, t < 200 → ν'.1 19 t = iI (Dk G (k + 1) t)) ∧ ν'.2 = ν.2 := by
  intro j
  have hs := hG.hs
  obtain ⟨f1, f2, f3⟩ := hG.fit k hk
  have pb := hG.prb k hk
  have to : G.to k = 8 * (G.b k + G.l k) + G.p k := rfl
  have tt : G.to k < 200 := by omega
  have DB := Dk_b hG k (by omega)
  induction j with
  | zero =>
    intro a n ν x1 ha hn hg h1 h2
    obtain ⟨n, rfl⟩ : ∃ n', n = n' + 1 := ⟨n - 1, by omega⟩
    have e : a = 8 := by omega
    subst e
    refine ⟨ν, x1, ?_, WmF.rf ν, ?_, rfl⟩
    · show (if (8 : Int32) ≤ nI 8 then bd (nI k + 1) (fun v1 => κ ν x1 v1) else _) = _
      rw [if_pos (by decide), bd_e, nI_1]
    · intro t ht
      rw [Dk_up]
      by_cases c : t = G.to k
      · rw [if_pos c, c]; exact h2
      · rw [if_neg c]; exact h1 t ht c
  | succ j ih =>
    intro a n ν x1 ha hn hg h1 h2
    obtain ⟨n, rfl⟩ : ∃ n', n = n' + 1 := ⟨n - 1, by omega⟩
    have hm := hg.2.2.1
    have tm := thr_m (n := n) hG hg hk (show a < 8 by omega) DB (h1 _ (by omega) (by omega))
    have tb := thr_b hG DB hk (show a < 8 by omega)
    have tu := thr_u hG DB hk (show a < 8 by omega)
    have b1 := mnI_b hG DB (b := G.b k) (p := G.p k) f3 (by omega) (show a ≤ 8 by omega)
    have b2 := gI_b hG DB (b := G.b k) (p := G.p k) (a := a) (by omega) f3 (by omega)
    have b3 := upv_bb hG DB hk (show a ≤ 8 by omega)
    have b4 := Dk_bb hG (show k ≤ G.m by omega) tt
    have e0 : upv (mn (gI G (Dk G k) (G.b k) (G.p k)) (a + 1)) (G.pr k) = min (upv (mn (gI G (Dk G k) (G.b k) (G.p k)) a) (G.pr k)) (thr G (Dk G k) k a) := by
      show upv (min (mn (gI G (Dk G k) (G.b k) (G.p k)) a) (gI G (Dk G k) (G.b k) (G.p k) a)) (G.pr k) = _
      rw [upv_m (by omega) (by omega) pb, tu]
    have e1 : min (Dk G k (G.to k)) (upv (mn (gI G (Dk G k) (G.b k) (G.p k)) (a + 1)) (G.pr k)) = min (min (Dk G k (G.to k)) (upv (mn (gI G (Dk G k) (G.b k) (G.p k)) a) (G.pr k))) (thr G (Dk G k) k a) := by rw [e0]; omega
    have nx : ∀ (ν1 : Mem) (x : Bool), GmM ν1 G s en → (∀ t, t < 200 → t ≠ G.to k → ν1.1 19 t = iI (Dk G k t)) → ν1.1 19 (G.to k) = iI (min (min (Dk G k (G.to k)) (upv (mn (gI G (Dk G k) (G.b k) (G.p k)) a) (G.pr k))) (thr G (Dk G k) k a)) → ∃ ν' x', f_Mo_shorten_76 κ (f_Mo_shorten_39 κ n) n ν1 x (nI k) (nI (G.to k)) (nI a) = κ ν' x' (nI (k + 1)) ∧ WmF ν1 ν' ∧ (∀ t, t < 200 → ν'.1 19 t = iI (Dk G (k + 1) t)) ∧ ν'.2 = ν1.2 := by
      intro ν1 x k1 k2 k3
      unfold f_Mo_shorten_76
      rw [bd_e, nI_1]
      exact ih (a + 1) n ν1 x (by omega) (by omega) k1 k2 (by rw [e1]; exact k3)
    unfold f_Mo_shorten_39
    rw [if_neg (by rw [show (8 : Int32) = nI 8 from rfl]; exact nI_ge (by omega) (by omega)), tm, cl_s, gd_i (by rw [nI_toInt (by omega)]; omega), nI_clamp (by omega), h2]
    generalize hX : min (Dk G k (G.to k)) (upv (mn (gI G (Dk G k) (G.b k) (G.p k)) a) (G.pr k)) = X at *
    have hXb : X = 1073741824 ∨ (-2300000 ≤ X ∧ X ≤ 2300000) := by omega
    have q := iI_le (a := X) (b := thr G (Dk G k) k a) (by omega) (by omega) (by omega) (by omega)
    by_cases c : X ≤ thr G (Dk G k) k a
    · rw [if_pos (q.mpr c)]
      exact nx ν x1 hg h1 (by rw [h2, show min X (thr G (Dk G k) k a) = X by omega])
    · rw [if_neg (fun h => c (q.mp h)), gd_i (by rw [nI_toInt (by omega)]; omega), bd_e]
      have F1 : WmF ν (wi ν 19 (G.to k) (iI (thr G (Dk G k) k a))) := WmF.wi (by omega)
      obtain ⟨ν', x', r1, r2, r3, r4⟩ := nx (wi ν 19 (G.to k) (iI (thr G (Dk G k) k a))) true (F1.gm hg) (fun t ht hne => by rw [wi_g, if_neg (by omega)]; exact h1 t ht hne) (by rw [wi_g, if_pos ⟨rfl, rfl⟩, show min X (thr G (Dk G k) k a) = thr G (Dk G k) k a by omega])
      exact ⟨ν', x', r1, F1.tr r2, r3, r4⟩
theorem sh4_m {G : Lt} {s : Nat} {en : Nat → Nat} (hG : LtOK G s) : ∀ j k n (ν : Mem) (x1 : Bool), k + j = G.m → j + 10 < n → GmM ν G s en → (∀ t, t < 200 → ν.1 19 t = iI (Dk G k t)) → ∃ ν' x, f_Mo_shorten_4 n ν x1 (nI k) = some (x, ν') ∧ WmF ν ν' ∧ (∀ t, t < 200 → ν'.1 19 t = iI (Dk G G.m t)) ∧ ν'.2 = ν.2 := by
  intro j
  induction j with
  | zero =>
    intro k n ν x1 hk hn hg h
    obtain ⟨n, rfl⟩ : ∃ n', n = n' + 1 := ⟨n - 1, by omega⟩
    have hm := hg.2.2.1
    have e : k = G.m := by omega
    rw [e] at h ⊢
    refine ⟨ν, x1, ?_, WmF.rf ν, h, rfl⟩
    show (if ν.1 0 23 ≤ nI G.m then some (x1, ν) else _) = _
    rw [hg.2.1, if_pos (nI_le (Nat.le_refl _) (by omega))]
  | succ j ih =>
    intro k n ν x1 hk hn hg h
    obtain ⟨n, rfl⟩ : ∃ n', n = n' + 1 := ⟨n - 1, by omega⟩
    have hm := hg.2.2.1
    have hs := hG.hs
    have hkm : k < G.m := by omega
    obtain ⟨f1, f2, f3⟩ := hG.fit k hkm
    obtain ⟨g1, g2, g3, g4, g5, g6⟩ := hg.2.2.2.1 k hkm
    have to : G.to k = 8 * (G.b k + G.l k) + G.p k := rfl
    have tt : G.to k < 200 := by omega
    obtain ⟨ν1, x, r1, r2, r3, r4⟩ := sh39_m (en := en) hG hkm (f_Mo_shorten_4 n) 8 0 n ν x1 rfl (by omega) hg (fun t ht _ => h t ht) (by
      rw [h _ tt]
      have b4 := Dk_bb hG (show k ≤ G.m by omega) tt
      rw [show upv (mn (gI G (Dk G k) (G.b k) (G.p k)) 0) (G.pr k) = 1073741824 from if_pos rfl, show min (Dk G k (G.to k)) 1073741824 = Dk G k (G.to k) by omega])
    obtain ⟨ν', x', s1, s2, s3, s4⟩ := ih (k + 1) n ν1 x (by omega) (by omega) (r2.gm hg) r3
    refine ⟨ν', x', ?_, r2.tr s2, s3, s4.trans r4⟩
    rw [← s1, ← r1]
    show (if ν.1 0 23 ≤ nI k then some (x1, ν) else gd (inb (nI k) 700) (gd (inb (nI k) 700) (gd (inb (nI k) 700) (bd (8 * (ν.1 14 (nI k).toNatClampNeg + ν.1 15 (nI k).toNatClampNeg) + ν.1 16 (nI k).toNatClampNeg) (fun v1 => f_Mo_shorten_39 (f_Mo_shorten_4 n) n ν x1 (nI k) v1 0))))) = _
    rw [hg.2.1, if_neg (nI_ge hkm (by omega)), gd_i (by rw [nI_toInt (by omega)]; omega), gd_i (by rw [nI_toInt (by omega)]; omega), gd_i (by rw [nI_toInt (by omega)]; omega), nI_clamp (by omega), g1, g2, g3, nI_add, slot2, bd_e, nI_0, to]
/-- a second sweep finds nothing shorter -/
theorem thr_ge {G : Lt} {s : Nat} (hG : LtOK G s) {k a : Nat} (hk : k < G.m) (ha : a < 8) : up G k ≤ thr G (Dk G G.m) k a ∧ Dk G G.m (G.to k) ≤ thr G (Dk G G.m) k a := by
  have hs := hG.hs
  obtain ⟨f1, f2, f3⟩ := hG.fit k hk
  have pb := hG.prb k hk
  have DB := Dk_b hG G.m (Nat.le_refl _)
  have h1 := Dk_le hk
  have h2 := up_fin hG hk
  have b1 := mnI_b hG DB (b := G.b k) (p := G.p k) f3 (by omega) (Nat.le_refl 8)
  have b2 := gI_b hG DB (b := G.b k) (p := G.p k) (a := a) ha f3 (by omega)
  have h3 := mn_le (f := gI G (Dk G G.m) (G.b k) (G.p k)) 8 a ha
  have key : upv (into G (Dk G G.m) (G.b k) (G.p k)) (G.pr k) ≤ upv (gI G (Dk G G.m) (G.b k) (G.p k) a) (G.pr k) := by
    unfold into upv
    by_cases c1 : mn (gI G (Dk G G.m) (G.b k) (G.p k)) 8 = 1073741824
    · rw [if_pos c1, if_pos (by omega)]; omega
    · rw [if_neg c1]
      by_cases c2 : gI G (Dk G G.m) (G.b k) (G.p k) a = 1073741824
      · rw [if_pos c2]; omega
      · rw [if_neg c2]; omega
  rw [thr_u hG DB hk ha]
  omega
theorem sh39_2 {G : Lt} {s k : Nat} {en : Nat → Nat} (hG : LtOK G s) (hk : k < G.m) (κ : Mem → Bool → Int32 → Option (Bool × Mem)) {ν : Mem} {x1 : Bool} (hg : GmM ν G s en) (h1 : ∀ t, t < 200 → ν.1 19 t = iI (Dk G G.m t)) : ∀ j a n, a + j = 8 → j < n → f_Mo_shorten_39 κ n ν x1 (nI k) (nI (G.to k)) (nI a) = κ ν x1 (nI (k + 1)) := by
  intro j
  have hs := hG.hs
  have hm := hg.2.2.1
  obtain ⟨f1, f2, f3⟩ := hG.fit k hk
  have to : G.to k = 8 * (G.b k + G.l k) + G.p k := rfl
  have tt : G.to k < 200 := by omega
  have DB := Dk_b hG G.m (Nat.le_refl _)
  induction j with
  | zero =>
    intro a n ha hn
    obtain ⟨n, rfl⟩ : ∃ n', n = n' + 1 := ⟨n - 1, by omega⟩
    have e : a = 8 := by omega
    subst e
    show (if (8 : Int32) ≤ nI 8 then bd (nI k + 1) (fun v1 => κ ν x1 v1) else _) = _
    rw [if_pos (by decide), bd_e, nI_1]
  | succ j ih =>
    intro a n ha hn
    obtain ⟨n, rfl⟩ : ∃ n', n = n' + 1 := ⟨n - 1, by omega⟩
    have tm := thr_m (n := n) hG hg hk (show a < 8 by omega) DB (h1 _ (by omega))
    have tb := thr_b hG DB hk (show a < 8 by omega)
    have tg := (thr_ge hG hk (show a < 8 by omega)).2
    have b4 := Dk_bb hG (Nat.le_refl G.m) tt
    unfold f_Mo_shorten_39
    rw [if_neg (by rw [show (8 : Int32) = nI 8 from rfl]; exact nI_ge (by omega) (by omega)), tm, cl_s, gd_i (by rw [nI_toInt (by omega)]; omega), nI_clamp (by omega), h1 _ tt, if_pos ((iI_le (by omega) (by omega) (by omega) (by omega)).mpr tg)]
    unfold f_Mo_shorten_76
    rw [bd_e, nI_1]
    exact ih (a + 1) n (by omega) (by omega)
theorem sh4_2 {G : Lt} {s : Nat} {en : Nat → Nat} (hG : LtOK G s) {ν : Mem} {x1 : Bool} (hg : GmM ν G s en) (h : ∀ t, t < 200 → ν.1 19 t = iI (Dk G G.m t)) : ∀ j k n, k + j = G.m → j + 10 < n → f_Mo_shorten_4 n ν x1 (nI k) = some (x1, ν) := by
  intro j
  have hm := hg.2.2.1
  have hs := hG.hs
  induction j with
  | zero =>
    intro k n hk hn
    obtain ⟨n, rfl⟩ : ∃ n', n = n' + 1 := ⟨n - 1, by omega⟩
    have e : k = G.m := by omega
    rw [e]
    show (if ν.1 0 23 ≤ nI G.m then some (x1, ν) else _) = _
    rw [hg.2.1, if_pos (nI_le (Nat.le_refl _) (by omega))]
  | succ j ih =>
    intro k n hk hn
    obtain ⟨n, rfl⟩ : ∃ n', n = n' + 1 := ⟨n - 1, by omega⟩
    have hkm : k < G.m := by omega
    obtain ⟨f1, f2, f3⟩ := hG.fit k hkm
    obtain ⟨g1, g2, g3, g4, g5, g6⟩ := hg.2.2.2.1 k hkm
    have to : G.to k = 8 * (G.b k + G.l k) + G.p k := rfl
    rw [← ih (k + 1) n (by omega) (by omega), ← sh39_2 hG hkm (f_Mo_shorten_4 n) hg h 8 0 n rfl (by omega)]
    show (if ν.1 0 23 ≤ nI k then some (x1, ν) else gd (inb (nI k) 700) (gd (inb (nI k) 700) (gd (inb (nI k) 700) (bd (8 * (ν.1 14 (nI k).toNatClampNeg + ν.1 15 (nI k).toNatClampNeg) + ν.1 16 (nI k).toNatClampNeg) (fun v1 => f_Mo_shorten_39 (f_Mo_shorten_4 n) n ν x1 (nI k) v1 0))))) = _
    rw [hg.2.1, if_neg (nI_ge hkm (by omega)), gd_i (by rw [nI_toInt (by omega)]; omega), gd_i (by rw [nI_toInt (by omega)]; omega), gd_i (by rw [nI_toInt (by omega)]; omega), nI_clamp (by omega), g1, g2, g3, nI_add, slot2, bd_e, nI_0, to]
theorem w29_m : ∀ j i n (ν : Mem), i + j = 200 → j < n → ∃ n' ν', n ≤ n' + j + 1 ∧ f_Mo_work_29 n ν (nI i) = f_Mo_work_75 n' (wl (wi ν' 19 0 0) 20 0 1) true 0 ∧ (∀ t, i ≤ t → t < 200 → ν'.1 19 t = iI 1073741824 ∧ ν'.2 20 t = 0) ∧ (∀ t, t < i → ν'.1 19 t = ν.1 19 t ∧ ν'.2 20 t = ν.2 20 t) ∧ WmF ν ν' := by
  intro j
  induction j with
  | zero =>
    intro i n ν hi hn
    obtain ⟨n, rfl⟩ : ∃ n', n = n' + 1 := ⟨n - 1, by omega⟩
    have e : i = 200 := by omega
    subst e
    refine ⟨n, ν, by omega, ?_, fun t _ _ => by omega, fun _ _ => ⟨rfl, rfl⟩, WmF.rf ν⟩
    show (if (200 : Int32) ≤ nI 200 then gd (inb 0 200) _ else _) = _
    rw [if_pos (by decide), gd_i (by decide), bd_e, gd_i (by decide), bd_e]
    rfl
  | succ j ih =>
    intro i n ν hi hn
    obtain ⟨n, rfl⟩ : ∃ n', n = n' + 1 := ⟨n - 1, by omega⟩
    obtain ⟨n', ν', h0, h1, h2, h3, h4⟩ := ih (i + 1) n (wl (wi ν 19 i (iI 1073741824)) 20 i 0) (by omega) (by omega)
    refine ⟨n', ν', by omega, ?_, ?_, ?_, ((WmF.wi (by omega)).tr WmF.wl).tr h4⟩
    · rw [← h1]
      show (if (200 : Int32) ≤ nI i then _ else gd (inb (nI i) 200) (bd (wi ν 19 (nI i).toNatClampNeg 1073741824) (fun μ3 => gd (inb (nI i) 200) (bd (wl μ3 20 (nI i).toNatClampNeg 0) (fun μ4 => bd (nI i + 1) (fun v5 => f_Mo_work_29 n μ4 v5)))))) = _
      rw [if_neg (by rw [show (200 : Int32) = nI 200 from rfl]; exact nI_ge (by omega) (by omega)), gd_i (by rw [nI_toInt (by omega)]; omega), bd_e, gd_i (by rw [nI_toInt (by omega)]; omega), nI_clamp (by omega), bd_e, bd_e, nI_1, iI_big]
    · intro t t1 t2
      by_cases e : t = i
      · subst e
        rw [(h3 t (by omega)).1, (h3 t (by omega)).2, wl_1, wi_g, if_pos ⟨rfl, rfl⟩, wl_g, if_pos ⟨rfl, rfl⟩]
        exact ⟨rfl, rfl⟩
      · exact h2 t (by omega) t2
    · intro t ht
      rw [(h3 t (by omega)).1, (h3 t (by omega)).2, wl_1, wi_g, if_neg (by omega), wl_g, if_neg (by omega), wi_2]
      exact ⟨rfl, rfl⟩
