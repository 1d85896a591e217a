/-! PURE: the ways never pass 5 to the place; the reference's second sweep counts them too -/
theorem sW_add {f g : Nat → Nat} : ∀ n, sW (fun a => f a + g a) n = sW f n + sW g n := by
  intro n
  induction n with
  | zero => rfl
  | succ n ih =>
    show sW (fun a => f a + g a) n + (f n + g n) = sW f n + f n + (sW g n + g n)
    rw [ih]
    omega
theorem sW_one {p x : Nat} : ∀ n, sW (fun a => if a = p then x else 0) n ≤ x ∧ (n ≤ p → sW (fun a => if a = p then x else 0) n = 0) := by
  intro n
  induction n with
  | zero => exact ⟨Nat.zero_le _, fun _ => rfl⟩
  | succ n ih =>
    have e : sW (fun a => if a = p then x else 0) (n + 1) = sW (fun a => if a = p then x else 0) n + (if n = p then x else 0) := rfl
    rw [e]
    by_cases h : n = p
    · rw [if_pos h]
      have := ih.2 (by omega)
      exact ⟨by omega, fun z => by omega⟩
    · rw [if_neg h]
      exact ⟨ih.1, fun z => ih.2 (by omega)⟩
theorem cnt_mono {P : Nat → Bool} : ∀ j n, cnt P n ≤ cnt P (n + j) := by
  intro j
  induction j with
  | zero => intro n; exact Nat.le_refl _
  | succ j ih =>
    intro n
    have := ih n
    show cnt P n ≤ cnt P (n + j) + (if P (n + j) = true then 1 else 0)
    omega
def eqW (G : Lt) (q i : Nat) : Nat := if G.b i + G.l i = q then 5 ^ (G.b i) else 0
def BL (G : Lt) (b l i : Nat) : Bool := decide (G.b i = b ∧ G.l i = l)
theorem geo : ∀ q, sW (fun b => 5 ^ b * 4) q + 1 = 5 ^ q := by
  intro q
  induction q with
  | zero => rfl
  | succ q ih =>
    show sW (fun b => 5 ^ b * 4) q + 5 ^ q * 4 + 1 = 5 ^ (q + 1)
    rw [Nat.pow_succ]
    omega
theorem eqW_le {G : Lt} {q : Nat} : ∀ k, (∀ i, i < k → 1 ≤ G.l i) → sW (eqW G q) k ≤ sW (fun b => 5 ^ b * cnt (BL G b (q - b)) k) q := by
  intro k
  induction k with
  | zero => intro _; exact Nat.zero_le _
  | succ k ih =>
    intro h
    have h1 := ih (fun i hi => h i (by omega))
    have h2 := h k (by omega)
    have e : sW (fun b => 5 ^ b * cnt (BL G b (q - b)) (k + 1)) q = sW (fun b => 5 ^ b * cnt (BL G b (q - b)) k) q + sW (fun b => 5 ^ b * (if BL G b (q - b) k = true then 1 else 0)) q := by
      rw [← sW_add]
      exact sW_eq q (fun b _ => Nat.mul_add _ _ _)
    rw [e]
    show sW (eqW G q) k + eqW G q k ≤ _
    unfold eqW at *
    by_cases hq : G.b k + G.l k = q
    · rw [if_pos hq]
      have := sW_ge (f := fun b => 5 ^ b * (if BL G b (q - b) k = true then 1 else 0)) q (G.b k) (by omega)
      have e2 : BL G (G.b k) (q - G.b k) k = true := decide_eq_true ⟨rfl, by omega⟩
      simp only [e2, if_true, Nat.mul_one] at this
      omega
    · rw [if_neg hq]
      omega
theorem ways_b {G : Lt} {s : Nat} (hG : LtOK G s) (h4 : ∀ b l, cnt (BL G b l) G.m ≤ 4) {k q : Nat} (hk : k ≤ G.m) : (if q = 0 then 1 else 0) + sW (eqW G q) k ≤ 5 ^ q := by
  have h1 := eqW_le (G := G) (q := q) k (fun i hi => (hG.fit i (by omega)).2.1)
  have h2 : sW (fun b => 5 ^ b * cnt (BL G b (q - b)) k) q ≤ sW (fun b => 5 ^ b * 4) q := sW_le q (fun b _ => by
    have := cnt_mono (P := BL G b (q - b)) (G.m - k) k
    rw [show k + (G.m - k) = G.m by omega] at this
    have := h4 b (q - b)
    exact Nat.mul_le_mul_left _ (by omega))
  have h3 := geo q
  have : (if q = 0 then 1 else 0) ≤ 1 := by split <;> omega
  omega
theorem wIn_le {G : Lt} {D : Nat → Int} {W : Nat → Nat} {b p : Nat} : wIn G D W b p ≤ sW (fun a => W (8 * b + a)) 8 := by
  unfold wIn
  refine sW_le 8 (fun a _ => ?_)
  split <;> omega
theorem S_le {G : Lt} {s : Nat} (hG : LtOK G s) (h4 : ∀ b l, cnt (BL G b l) G.m ≤ 4) : ∀ k, k ≤ G.m → ∀ q, sW (fun a => Wk G k (8 * q + a)) 8 ≤ (if q = 0 then 1 else 0) + sW (eqW G q) k := by
  intro k
  induction k with
  | zero =>
    intro _ q
    show sW (fun a => if 8 * q + a = 0 then 1 else 0) 8 ≤ (if q = 0 then 1 else 0) + 0
    by_cases h : q = 0
    · subst h
      rw [if_pos rfl]
      exact Nat.le_of_eq (by decide)
    · rw [if_neg h, sW_z 8 (fun a _ => if_neg (by omega))]
      exact Nat.le_refl _
  | succ k ih =>
    intro hk q
    have i1 := ih (by omega) q
    have i2 := ih (by omega) (G.b k)
    have b2 := ways_b hG h4 (q := G.b k) (show k ≤ G.m by omega)
    have w1 := wIn_le (G := G) (D := Dk G k) (W := Wk G k) (b := G.b k) (p := G.p k)
    obtain ⟨f1, f2, f3⟩ := hG.fit k (by omega)
    have e : sW (eqW G q) (k + 1) = sW (eqW G q) k + eqW G q k := rfl
    rw [e]
    unfold eqW
    by_cases hq : G.b k + G.l k = q
    · rw [if_pos hq]
      have hw : wIn G (Dk G k) (Wk G k) (G.b k) (G.p k) ≤ 5 ^ (G.b k) := by omega
      have s1 : sW (fun a => Wk G (k + 1) (8 * q + a)) 8 ≤ sW (fun a => Wk G k (8 * q + a) + (if a = G.p k then 5 ^ (G.b k) else 0)) 8 := sW_le 8 (fun a ha => by
        rw [Wk]
        by_cases t : 8 * q + a = G.to k
        · have : a = G.p k := by unfold Lt.to at t; omega
          rw [if_pos t, if_pos this]
          split
          · omega
          · split
            · omega
            · split
              · omega
              · omega
        · rw [if_neg t]
          omega)
      rw [sW_add] at s1
      have s2 := (sW_one (p := G.p k) (x := 5 ^ (G.b k)) 8).1
      have i1' : sW (fun a => Wk G k (8 * q + a)) 8 ≤ (if q = 0 then 1 else 0) + sW (fun i => if G.b i + G.l i = q then 5 ^ (G.b i) else 0) k := i1
      show _ ≤ (if q = 0 then 1 else 0) + (sW (fun i => if G.b i + G.l i = q then 5 ^ (G.b i) else 0) k + _)
      omega
    · rw [if_neg hq]
      have s1 : sW (fun a => Wk G (k + 1) (8 * q + a)) 8 = sW (fun a => Wk G k (8 * q + a)) 8 := sW_eq 8 (fun a ha => by
        rw [Wk, if_neg (fun t => hq (by unfold Lt.to at t; omega))])
      rw [s1]
      exact i1
theorem Wk_b {G : Lt} {s : Nat} (hG : LtOK G s) (h4 : ∀ b l, cnt (BL G b l) G.m ≤ 4) {k q : Nat} (hk : k ≤ G.m) (hq : q ≤ 24) : sW (fun a => Wk G k (8 * q + a)) 8 < 2 ^ 62 := by
  have h1 := S_le hG h4 k hk q
  have h2 := ways_b hG h4 (q := q) hk
  have h3 : 5 ^ q ≤ 5 ^ 24 := Nat.pow_le_pow_right (by decide) hq
  have h5 : 5 ^ 24 < 2 ^ 62 := by decide
  omega
theorem Wk_b1 {G : Lt} {s : Nat} (hG : LtOK G s) (h4 : ∀ b l, cnt (BL G b l) G.m ≤ 4) {k t : Nat} (hk : k ≤ G.m) (ht : t < 200) : Wk G k t < 2 ^ 62 := by
  have h1 := Wk_b hG h4 (q := t / 8) hk (by omega)
  have h2 := sW_ge (f := fun a => Wk G k (8 * (t / 8) + a)) 8 (t % 8) (by omega)
  have e : 8 * (t / 8) + t % 8 = t := by omega
  rw [e] at h2
  omega
/-- the reference's through -/
def thr (G : Lt) (D : Nat → Int) (k a : Nat) : Int := if D (8 * G.b k + a) = 1073741824 then 1073741824 else D (8 * G.b k + a) + G.lk a (G.p k) + G.pr k
def Rk (G : Lt) : Nat → Nat → Nat
  | 0, t => if t = 0 then 1 else 0
  | k + 1, t => if t = G.to k then Rk G k t + sW (fun a => if thr G (Dk G G.m) k a = Dk G G.m t ∧ ¬ Dk G G.m t = 1073741824 then Rk G k (8 * G.b k + a) else 0) 8 else Rk G k t
theorem Rk_eq {G : Lt} {s : Nat} (hG : LtOK G s) : ∀ k, k ≤ G.m → ∀ t, Rk G k t = if Dk G k t = Dk G G.m t then Wk G k t else 0 := by
  intro k
  induction k with
  | zero =>
    intro _ t
    rw [Rk, Wk]
    by_cases h : t = 0
    · subst h
      have e := (Dk_fin (G := G) G.m 0 0 (fun i _ h2 => by
        have f := hG.fit i (by omega)
        exact ⟨by omega, f.2.2⟩)).1
      rw [Nat.zero_add] at e
      rw [if_pos e.symm]
    · rw [if_neg h]
      split <;> rfl
  | succ k ih =>
    intro hk t
    have hkm : k < G.m := by omega
    have i1 := ih (by omega) t
    rw [Rk, Wk, Dk_up]
    by_cases h : t = G.to k
    · rw [if_pos h, if_pos h, if_pos h]
      obtain ⟨f1, f2, f3⟩ := hG.fit k hkm
      have hs := hG.hs
      have pb := hG.prb k hkm
      have hfin : ∀ a, a < 8 → Dk G G.m (8 * G.b k + a) = Dk G k (8 * G.b k + a) := fun a ha => (Dk_at hG hkm rfl (by omega) (by omega) (Nat.le_refl _)).1
      have hle : Dk G G.m t ≤ up G k := by rw [h]; exact Dk_le hkm
      have hmono : Dk G G.m t ≤ Dk G k t := by
        have := Dk_mono (G := G) (G.m - k) k t
        rw [show k + (G.m - k) = G.m by omega] at this
        exact this
      have hmono2 : Dk G G.m t ≤ min (Dk G k t) (up G k) := by omega
      have hsum : sW (fun a => if thr G (Dk G G.m) k a = Dk G G.m t ∧ ¬ Dk G G.m t = 1073741824 then Rk G k (8 * G.b k + a) else 0) 8 = if up G k = Dk G G.m t ∧ ¬ Dk G G.m t = 1073741824 then wIn G (Dk G k) (Wk G k) (G.b k) (G.p k) else 0 := by
        by_cases hu : up G k = Dk G G.m t ∧ ¬ Dk G G.m t = 1073741824
        · rw [if_pos hu]
          unfold wIn
          refine sW_eq 8 (fun a ha => ?_)
          have hb := (Dk_b hG k (by omega) (8 * G.b k + a))
          rw [show (8 * G.b k + a) / 8 = G.b k by omega] at hb
          have lb := hG.lkb a (G.p k) ha f3
          have hin : ¬ into G (Dk G k) (G.b k) (G.p k) = 1073741824 := fun z => hu.2 (by rw [← hu.1]; unfold up upv; rw [if_pos z])
          have hup : up G k = into G (Dk G k) (G.b k) (G.p k) + G.pr k := by unfold up upv; rw [if_neg hin]
          unfold thr gI
          rw [hfin a ha, ih (by omega), hfin a ha, if_pos rfl]
          by_cases z : Dk G k (8 * G.b k + a) = 1073741824
          · rw [if_pos z, if_neg (fun y => hu.2 y.1.symm), if_neg (fun y => y.2 z)]
          · rw [if_neg z, if_neg z]
            by_cases y : Dk G k (8 * G.b k + a) + G.lk a (G.p k) = into G (Dk G k) (G.b k) (G.p k)
            · rw [if_pos ⟨by omega, hu.2⟩, if_pos ⟨y, z⟩]
            · rw [if_neg (fun x => y (by omega)), if_neg (fun x => y x.1)]
        · rw [if_neg hu]
          refine sW_z 8 (fun a ha => if_neg (fun y => hu ⟨?_, y.2⟩))
          obtain ⟨y1, y2⟩ := y
          unfold thr at y1
          rw [hfin a ha] at y1
          by_cases z : Dk G k (8 * G.b k + a) = 1073741824
          · rw [if_pos z] at y1
            exact absurd y1.symm y2
          · rw [if_neg z] at y1
            have m1 := mn_le (f := gI G (Dk G k) (G.b k) (G.p k)) 8 a ha
            have m2 : into G (Dk G k) (G.b k) (G.p k) ≤ gI G (Dk G k) (G.b k) (G.p k) a := m1
            have m3 := into_ne hG (show k ≤ G.m by omega) ha f3 (show G.b k ≤ 24 by omega) z
            unfold gI at m2
            rw [if_neg z] at m2
            have hup : up G k = into G (Dk G k) (G.b k) (G.p k) + G.pr k := by unfold up upv; rw [if_neg m3]
            omega
      rw [hsum, i1]
      have w0 := WD0 hG k (by omega) t
      have hdB : Dk G k t ≤ 1073741824 := by
        have z := Dk_b hG k (by omega) t
        rw [show t / 8 = G.b k + G.l k by rw [h]; unfold Lt.to; omega] at z
        omega
      generalize Dk G G.m t = dm at *
      generalize Dk G k t = d at *
      generalize up G k = u at *
      generalize wIn G (Dk G k) (Wk G k) (G.b k) (G.p k) = w at *
      generalize Wk G k t = wt at *
      clear hsum i1 ih hfin
      by_cases c1 : u = 1073741824
      · rw [if_pos c1]
        rw [if_neg (show ¬ (u = dm ∧ ¬ dm = 1073741824) from fun z => z.2 (by omega))]
        by_cases c2 : d = dm
        · rw [if_pos c2, if_pos (show min d u = dm by omega)]
          omega
        · rw [if_neg c2]
          by_cases c3 : min d u = dm
          · rw [if_pos c3]
            omega
          · rw [if_neg c3]
      · rw [if_neg c1]
        by_cases c2 : u < d
        · rw [if_pos c2, if_neg (show ¬ d = dm by omega)]
          by_cases c3 : u = dm
          · rw [if_pos ⟨c3, by omega⟩, if_pos (show min d u = dm by omega)]
            omega
          · rw [if_neg (fun z => c3 z.1), if_neg (show ¬ min d u = dm by omega)]
        · rw [if_neg c2]
          by_cases c4 : u = d
          · rw [if_pos c4]
            by_cases c3 : u = dm
            · rw [if_pos (show d = dm by omega), if_pos (show u = dm ∧ ¬ dm = 1073741824 by omega), if_pos (show min d u = dm by omega)]
            · rw [if_neg (show ¬ d = dm by omega), if_neg (show ¬ (u = dm ∧ ¬ dm = 1073741824) by omega), if_neg (show ¬ min d u = dm by omega)]
          · rw [if_neg c4, if_neg (show ¬ (u = dm ∧ ¬ dm = 1073741824) by omega)]
            by_cases c3 : d = dm
            · rw [if_pos c3, if_pos (show min d u = dm by omega)]
              omega
            · rw [if_neg c3, if_neg (show ¬ min d u = dm by omega)]
    · rw [if_neg h, if_neg h, if_neg h]
      exact i1
theorem Rk_m {G : Lt} {s : Nat} (hG : LtOK G s) (t : Nat) : Rk G G.m t = Wk G G.m t := by rw [Rk_eq hG G.m (Nat.le_refl _), if_pos rfl]
