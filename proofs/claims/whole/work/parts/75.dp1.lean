/-! PURE: least costs and ways over a row of nodes, by numbers alone -/
abbrev Lt : Type := Nat × (Nat → Nat) × (Nat → Nat) × (Nat → Nat) × (Nat → Int) × (Nat → Nat → Int)
def Lt.m (G : Lt) : Nat := G.1
def Lt.b (G : Lt) : Nat → Nat := G.2.1
def Lt.l (G : Lt) : Nat → Nat := G.2.2.1
def Lt.p (G : Lt) : Nat → Nat := G.2.2.2.1
def Lt.pr (G : Lt) : Nat → Int := G.2.2.2.2.1
def Lt.lk (G : Lt) : Nat → Nat → Int := G.2.2.2.2.2
def mn (f : Nat → Int) : Nat → Int
  | 0 => 1073741824
  | n + 1 => min (mn f n) (f n)
def sW (f : Nat → Nat) : Nat → Nat
  | 0 => 0
  | n + 1 => sW f n + f n
def gI (G : Lt) (D : Nat → Int) (b p a : Nat) : Int := if D (8 * b + a) = 1073741824 then 1073741824 else D (8 * b + a) + G.lk a p
def into (G : Lt) (D : Nat → Int) (b p : Nat) : Int := mn (gI G D b p) 8
def upv (x pr : Int) : Int := if x = 1073741824 then 1073741824 else x + pr
def wIn (G : Lt) (D : Nat → Int) (W : Nat → Nat) (b p : Nat) : Nat := sW (fun a => if gI G D b p a = into G D b p ∧ ¬ D (8 * b + a) = 1073741824 then W (8 * b + a) else 0) 8
def Lt.to (G : Lt) (k : Nat) : Nat := 8 * (G.b k + G.l k) + G.p k
def Dk (G : Lt) : Nat → Nat → Int
  | 0, s => if s = 0 then 0 else 1073741824
  | k + 1, s => if s = G.to k then min (Dk G k s) (upv (into G (Dk G k) (G.b k) (G.p k)) (G.pr k)) else Dk G k s
def up (G : Lt) (k : Nat) : Int := upv (into G (Dk G k) (G.b k) (G.p k)) (G.pr k)
def Wk (G : Lt) : Nat → Nat → Nat
  | 0, s => if s = 0 then 1 else 0
  | k + 1, s => if s = G.to k then (if up G k = 1073741824 then Wk G k s else if up G k < Dk G k s then wIn G (Dk G k) (Wk G k) (G.b k) (G.p k) else if up G k = Dk G k s then Wk G k s + wIn G (Dk G k) (Wk G k) (G.b k) (G.p k) else Wk G k s) else Wk G k s
def LtOK (G : Lt) (s : Nat) : Prop := s ≤ 24 ∧ (∀ k, k < G.m → G.b k + G.l k ≤ s ∧ 1 ≤ G.l k ∧ G.p k < 8) ∧ (∀ k, k < G.m → -70000 ≤ G.pr k ∧ G.pr k ≤ 70000) ∧ (∀ a p, a < 8 → p < 8 → -10000 ≤ G.lk a p ∧ G.lk a p ≤ 10000) ∧ (∀ i j, i ≤ j → j < G.m → G.b i ≤ G.b j) ∧ (∀ q, q < s → ∃ k, k < G.m ∧ G.b k = q)
theorem LtOK.hs {G : Lt} {s : Nat} (h : LtOK G s) : s ≤ 24 := h.1
theorem LtOK.fit {G : Lt} {s : Nat} (h : LtOK G s) : ∀ k, k < G.m → G.b k + G.l k ≤ s ∧ 1 ≤ G.l k ∧ G.p k < 8 := h.2.1
theorem LtOK.prb {G : Lt} {s : Nat} (h : LtOK G s) : ∀ k, k < G.m → -70000 ≤ G.pr k ∧ G.pr k ≤ 70000 := h.2.2.1
theorem LtOK.lkb {G : Lt} {s : Nat} (h : LtOK G s) : ∀ a p, a < 8 → p < 8 → -10000 ≤ G.lk a p ∧ G.lk a p ≤ 10000 := h.2.2.2.1
theorem LtOK.srt {G : Lt} {s : Nat} (h : LtOK G s) : ∀ i j, i ≤ j → j < G.m → G.b i ≤ G.b j := h.2.2.2.2.1
theorem LtOK.each {G : Lt} {s : Nat} (h : LtOK G s) : ∀ q, q < s → ∃ k, k < G.m ∧ G.b k = q := h.2.2.2.2.2
theorem mn_le {f : Nat → Int} : ∀ n a, a < n → mn f n ≤ f a := by
  intro n
  induction n with
  | zero => intro a h; omega
  | succ n ih =>
    intro a h
    show min (mn f n) (f n) ≤ f a
    by_cases e : a = n
    · subst e; omega
    · have := ih a (by omega); omega
theorem mn_B {f : Nat → Int} : ∀ n, mn f n ≤ 1073741824 := by
  intro n
  induction n with
  | zero => exact Int.le_refl _
  | succ n ih => show min (mn f n) (f n) ≤ _; omega
theorem mn_ex {f : Nat → Int} : ∀ n, mn f n = 1073741824 ∨ ∃ a, a < n ∧ mn f n = f a := by
  intro n
  induction n with
  | zero => exact Or.inl rfl
  | succ n ih =>
    show min (mn f n) (f n) = 1073741824 ∨ ∃ a, a < n + 1 ∧ min (mn f n) (f n) = f a
    by_cases h : f n ≤ mn f n
    · exact Or.inr ⟨n, by omega, by omega⟩
    · rw [show min (mn f n) (f n) = mn f n by omega]
      rcases ih with ih | ⟨a, h1, h2⟩
      · exact Or.inl ih
      · exact Or.inr ⟨a, by omega, h2⟩
theorem mn_eq {f g : Nat → Int} : ∀ n, (∀ a, a < n → f a = g a) → mn f n = mn g n := by
  intro n
  induction n with
  | zero => intro _; rfl
  | succ n ih =>
    intro h
    show min (mn f n) (f n) = min (mn g n) (g n)
    rw [ih (fun a ha => h a (by omega)), h n (by omega)]
theorem sW_eq {f g : Nat → Nat} : ∀ n, (∀ a, a < n → f a = g a) → sW f n = sW g n := by
  intro n
  induction n with
  | zero => intro _; rfl
  | succ n ih =>
    intro h
    show sW f n + f n = sW g n + g n
    rw [ih (fun a ha => h a (by omega)), h n (by omega)]
theorem sW_le {f g : Nat → Nat} : ∀ n, (∀ a, a < n → f a ≤ g a) → sW f n ≤ sW g n := by
  intro n
  induction n with
  | zero => intro _; exact Nat.le_refl _
  | succ n ih =>
    intro h
    show sW f n + f n ≤ sW g n + g n
    have := ih (fun a ha => h a (by omega))
    have := h n (by omega)
    omega
theorem sW_ge {f : Nat → Nat} : ∀ n a, a < n → f a ≤ sW f n := by
  intro n
  induction n with
  | zero => intro a h; omega
  | succ n ih =>
    intro a h
    show f a ≤ sW f n + f n
    by_cases e : a = n
    · subst e; omega
    · have := ih a (by omega); omega
theorem sW_z {f : Nat → Nat} : ∀ n, (∀ a, a < n → f a = 0) → sW f n = 0 := by
  intro n
  induction n with
  | zero => intro _; rfl
  | succ n ih =>
    intro h
    show sW f n + f n = 0
    rw [ih (fun a ha => h a (by omega)), h n (by omega)]
theorem into_eq {G : Lt} {D E : Nat → Int} {b p : Nat} (h : ∀ a, a < 8 → D (8 * b + a) = E (8 * b + a)) : into G D b p = into G E b p := by
  unfold into
  exact mn_eq 8 (fun a ha => by unfold gI; rw [h a ha])
theorem wIn_eq {G : Lt} {D E : Nat → Int} {W V : Nat → Nat} {b p : Nat} (h : ∀ a, a < 8 → D (8 * b + a) = E (8 * b + a)) (h2 : ∀ a, a < 8 → W (8 * b + a) = V (8 * b + a)) : wIn G D W b p = wIn G E V b p := by
  unfold wIn
  refine sW_eq 8 (fun a ha => ?_)
  rw [into_eq h, h2 a ha]
  unfold gI
  rw [h a ha]
/-- the costs of slots: none, or within what the place allows -/
def Bnd (D : Nat → Int) : Prop := ∀ s, D s = 1073741824 ∨ (-90000 * ((s / 8 : Nat) : Int) ≤ D s ∧ D s ≤ 90000 * ((s / 8 : Nat) : Int))
theorem into_b {G : Lt} {s : Nat} (hG : LtOK G s) {D : Nat → Int} (hD : Bnd D) {b p : Nat} (hp : p < 8) (hb : b ≤ 24) : into G D b p = 1073741824 ∨ (-90000 * (b : Int) - 10000 ≤ into G D b p ∧ into G D b p ≤ 90000 * (b : Int) + 10000) := by
  rcases mn_ex (f := gI G D b p) 8 with h | ⟨a, h1, h2⟩
  · exact Or.inl h
  · have e : into G D b p = gI G D b p a := h2
    rw [e]
    unfold gI
    have hk := hG.lkb a p h1 hp
    have hd := hD (8 * b + a)
    rw [show (8 * b + a) / 8 = b by omega] at hd
    by_cases z : D (8 * b + a) = 1073741824
    · rw [if_pos z]; exact Or.inl rfl
    · rw [if_neg z]
      have := hd.resolve_left z
      exact Or.inr ⟨by omega, by omega⟩
theorem upv_b {G : Lt} {s : Nat} (hG : LtOK G s) {D : Nat → Int} (hD : Bnd D) {k : Nat} (hk : k < G.m) : upv (into G D (G.b k) (G.p k)) (G.pr k) = 1073741824 ∨ (-90000 * ((G.b k + G.l k : Nat) : Int) ≤ upv (into G D (G.b k) (G.p k)) (G.pr k) ∧ upv (into G D (G.b k) (G.p k)) (G.pr k) ≤ 90000 * ((G.b k + G.l k : Nat) : Int)) := by
  obtain ⟨f1, f2, f3⟩ := hG.fit k hk
  have f4 := hG.prb k hk
  have hs := hG.hs
  unfold upv
  rcases into_b hG hD f3 (show G.b k ≤ 24 by omega) with h | h
  · rw [if_pos h]; exact Or.inl rfl
  · rw [if_neg (by omega)]
    exact Or.inr ⟨by omega, by omega⟩
theorem Dk_b {G : Lt} {s : Nat} (hG : LtOK G s) : ∀ k, k ≤ G.m → Bnd (Dk G k) := by
  intro k
  induction k with
  | zero =>
    intro _ t
    show (if t = 0 then (0 : Int) else 1073741824) = 1073741824 ∨ (_ ≤ (if t = 0 then (0 : Int) else 1073741824) ∧ (if t = 0 then (0 : Int) else 1073741824) ≤ _)
    by_cases h : t = 0
    · rw [if_pos h]; exact Or.inr ⟨by omega, by omega⟩
    · rw [if_neg h]; exact Or.inl rfl
  | succ k ih =>
    intro hk t
    have h1 := ih (by omega) t
    have h2 := upv_b hG (ih (by omega)) (show k < G.m by omega)
    rw [Dk]
    by_cases h : t = G.to k
    · rw [if_pos h]
      have f3 := (hG.fit k (by omega)).2.2
      have e : t / 8 = G.b k + G.l k := by rw [h]; unfold Lt.to; omega
      rw [e] at h1 ⊢
      generalize upv (into G (Dk G k) (G.b k) (G.p k)) (G.pr k) = u at h2 ⊢
      generalize Dk G k t = d at h1 ⊢
      have f1 := (hG.fit k (by omega)).1
      have hs := hG.hs
      omega
    · rw [if_neg h]; exact h1
theorem Dk_up {G : Lt} {k t : Nat} : Dk G (k + 1) t = if t = G.to k then min (Dk G k t) (up G k) else Dk G k t := rfl
theorem Dk_mono {G : Lt} : ∀ j k t, Dk G (k + j) t ≤ Dk G k t := by
  intro j
  induction j with
  | zero => intro k t; exact Int.le_refl _
  | succ j ih =>
    intro k t
    have := ih k t
    rw [← Nat.add_assoc, Dk_up]
    split <;> omega
theorem Dk_fin {G : Lt} : ∀ j k t, (∀ i, k ≤ i → i < k + j → t / 8 < G.b i + G.l i ∧ G.p i < 8) → Dk G (k + j) t = Dk G k t ∧ Wk G (k + j) t = Wk G k t := by
  intro j
  induction j with
  | zero => intro k t _; exact ⟨rfl, rfl⟩
  | succ j ih =>
    intro k t h
    obtain ⟨i1, i2⟩ := ih k t (fun i h1 h2 => h i h1 (by omega))
    have hk := h (k + j) (by omega) (by omega)
    have hne : ¬ t = G.to (k + j) := fun z => by
      unfold Lt.to at z
      omega
    rw [← Nat.add_assoc, Dk, Wk, if_neg hne, if_neg hne]
    exact ⟨i1, i2⟩
theorem Dk_at {G : Lt} {s k b t j : Nat} (hG : LtOK G s) (hk : k < G.m) (hb : b = G.b k) (ht : t / 8 ≤ b) (hj : k ≤ j) (hjm : j ≤ G.m) : Dk G j t = Dk G k t ∧ Wk G j t = Wk G k t := by
  have := Dk_fin (G := G) (j - k) k t (fun i h1 h2 => by
    have f := hG.fit i (by omega)
    have s1 := hG.srt k i h1 (by omega)
    exact ⟨by omega, f.2.2⟩)
  rw [show k + (j - k) = j by omega] at this
  exact this
theorem into_fin {G : Lt} {s k : Nat} (hG : LtOK G s) (hk : k < G.m) {j p : Nat} (hj : k ≤ j) (hjm : j ≤ G.m) : into G (Dk G j) (G.b k) p = into G (Dk G k) (G.b k) p := into_eq (fun a ha => (Dk_at hG hk rfl (by omega) hj hjm).1)
theorem up_fin {G : Lt} {s k : Nat} (hG : LtOK G s) (hk : k < G.m) : up G k = upv (into G (Dk G G.m) (G.b k) (G.p k)) (G.pr k) := by
  unfold up
  rw [into_fin hG hk (Nat.le_of_lt hk) (Nat.le_refl _)]
theorem WD0 {G : Lt} {s : Nat} (hG : LtOK G s) : ∀ k, k ≤ G.m → ∀ t, Wk G k t = 0 ↔ Dk G k t = 1073741824 := by
  intro k
  induction k with
  | zero =>
    intro _ t
    rw [Wk, Dk]
    by_cases h : t = 0
    · rw [if_pos h, if_pos h]; constructor <;> intro z <;> omega
    · rw [if_neg h, if_neg h]; constructor <;> intro z <;> rfl
  | succ k ih =>
    intro hk t
    have i1 := ih (by omega) t
    rw [Wk, Dk_up]
    by_cases h : t = G.to k
    · rw [if_pos h, if_pos h]
      have b1 := Dk_b hG k (by omega) t
      have b2 := upv_b hG (Dk_b hG k (by omega)) (show k < G.m by omega)
      have f := hG.fit k (by omega)
      have hs := hG.hs
      have b3 : up G k = 1073741824 ∨ (up G k ≤ 90000 * ((G.b k + G.l k : Nat) : Int)) := b2.imp id (fun z => z.2)
      have hle : Dk G k t ≤ 1073741824 := by
        rcases b1 with z | z
        · omega
        · have e : t / 8 = G.b k + G.l k := by rw [h]; unfold Lt.to; omega
          rw [e] at z
          omega
      by_cases u : up G k = 1073741824
      · rw [if_pos u, i1]; omega
      · rw [if_neg u]
        have hpos : 0 < wIn G (Dk G k) (Wk G k) (G.b k) (G.p k) := by
          have hin : ¬ into G (Dk G k) (G.b k) (G.p k) = 1073741824 := fun z => u (by unfold up upv; rw [if_pos z])
          rcases mn_ex (f := gI G (Dk G k) (G.b k) (G.p k)) 8 with z | ⟨a, h1, h2⟩
          · exact absurd z hin
          · have e : into G (Dk G k) (G.b k) (G.p k) = gI G (Dk G k) (G.b k) (G.p k) a := h2
            have nb : ¬ Dk G k (8 * G.b k + a) = 1073741824 := fun z => hin (by rw [e]; unfold gI; rw [if_pos z])
            have w1 : Wk G k (8 * G.b k + a) ≠ 0 := fun z => nb ((ih (by omega) _).mp z)
            have w2 := sW_ge (f := fun a => if gI G (Dk G k) (G.b k) (G.p k) a = into G (Dk G k) (G.b k) (G.p k) ∧ ¬ Dk G k (8 * G.b k + a) = 1073741824 then Wk G k (8 * G.b k + a) else 0) 8 a h1
            rw [if_pos ⟨e.symm, nb⟩] at w2
            unfold wIn
            omega
        have hu : up G k < 1073741824 := by rcases b3 with z | z <;> omega
        split
        · constructor <;> intro z <;> omega
        · split
          · constructor <;> intro z <;> omega
          · rw [i1]; omega
    · rw [if_neg h, if_neg h]; exact i1
/-- every slot but the first got its cost from a node -/
theorem Dk_ex {G : Lt} : ∀ k t, t ≠ 0 → Dk G k t ≠ 1073741824 → ∃ i, i < k ∧ G.to i = t ∧ up G i = Dk G k t := by
  intro k
  induction k with
  | zero =>
    intro t h0 h
    rw [Dk, if_neg h0] at h
    exact absurd rfl h
  | succ k ih =>
    intro t h0 h
    rw [Dk_up] at h ⊢
    by_cases e : t = G.to k
    · rw [if_pos e] at h ⊢
      by_cases hl : up G k ≤ Dk G k t
      · exact ⟨k, by omega, e.symm, by omega⟩
      · rw [show min (Dk G k t) (up G k) = Dk G k t by omega] at h ⊢
        obtain ⟨i, h1, h2, h3⟩ := ih t h0 h
        exact ⟨i, by omega, h2, h3⟩
    · rw [if_neg e] at h ⊢
      obtain ⟨i, h1, h2, h3⟩ := ih t h0 h
      exact ⟨i, by omega, h2, h3⟩
theorem Dk_le {G : Lt} {k : Nat} (hk : k < G.m) : Dk G G.m (G.to k) ≤ up G k := by
  have h1 : Dk G (k + 1) (G.to k) ≤ up G k := by rw [Dk_up, if_pos rfl]; omega
  have h2 := Dk_mono (G := G) (G.m - (k + 1)) (k + 1) (G.to k)
  rw [show k + 1 + (G.m - (k + 1)) = G.m by omega] at h2
  omega
theorem into_ne {G : Lt} {s : Nat} (hG : LtOK G s) {k q a p : Nat} (hk : k ≤ G.m) (ha : a < 8) (hp : p < 8) (hq : q ≤ 24) (h : Dk G k (8 * q + a) ≠ 1073741824) : into G (Dk G k) q p ≠ 1073741824 := by
  have h1 := mn_le (f := gI G (Dk G k) q p) 8 a ha
  have h2 : into G (Dk G k) q p ≤ gI G (Dk G k) q p a := h1
  have b := (Dk_b hG k hk (8 * q + a)).resolve_left h
  rw [show (8 * q + a) / 8 = q by omega] at b
  have l := hG.lkb a p ha hp
  unfold gI at h2
  rw [if_neg h] at h2
  omega
/-- the end is reached -/
theorem Dk_end {G : Lt} {s : Nat} (hG : LtOK G s) : ∀ j q a, q + j = s → a < 8 → Dk G G.m (8 * q + a) ≠ 1073741824 → ∃ a', a' < 8 ∧ Dk G G.m (8 * s + a') ≠ 1073741824 := by
  intro j
  induction j using Nat.strongRecOn with
  | _ j ih =>
    intro q a hq ha h
    have hs := hG.hs
    by_cases hj : j = 0
    · have : q = s := by omega
      subst this
      exact ⟨a, ha, h⟩
    · obtain ⟨k, hk, hbk⟩ := hG.each q (by omega)
      obtain ⟨f1, f2, f3⟩ := hG.fit k hk
      have hin := into_ne hG (Nat.le_refl _) ha f3 (show q ≤ 24 by omega) h
      have hu : up G k ≠ 1073741824 := by
        rw [up_fin hG hk, hbk]
        have b := (into_b hG (Dk_b hG G.m (Nat.le_refl _)) f3 (show q ≤ 24 by omega)).resolve_left hin
        have pb := hG.prb k hk
        unfold upv
        rw [if_neg hin]
        omega
      have hb : up G k ≤ 90000 * ((G.b k + G.l k : Nat) : Int) := by
        have b2 := upv_b hG (Dk_b hG k (by omega)) hk
        exact (b2.resolve_left hu).2
      have hle := Dk_le hk
      exact ih (s - (G.b k + G.l k)) (by omega) (G.b k + G.l k) (G.p k) (by omega) f3 (by
        have e : G.to k = 8 * (G.b k + G.l k) + G.p k := rfl
        rw [e] at hle
        omega)
theorem Dk_end0 {G : Lt} {s : Nat} (hG : LtOK G s) : ∃ a, a < 8 ∧ Dk G G.m (8 * s + a) ≠ 1073741824 := by
  refine Dk_end hG s 0 0 (by omega) (by omega) ?_
  have h := (Dk_fin (G := G) G.m 0 (8 * 0 + 0) (fun i _ h2 => by
    have f := hG.fit i (by omega)
    exact ⟨by omega, f.2.2⟩)).1
  rw [Nat.zero_add] at h
  rw [h, Dk, if_pos rfl]
  decide
