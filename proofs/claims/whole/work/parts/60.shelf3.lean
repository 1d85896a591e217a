/-! PURE: open -/
def orz (z : Nat → Nat) : Nat → Nat
  | 0 => 0
  | i + 1 => orz z i ||| z i
theorem orz_lt {z : Nat → Nat} {c : Nat} : ∀ k, (∀ i, i < k → z i < 2 ^ c) → orz z k < 2 ^ c := by
  intro k
  induction k with
  | zero => intro _; exact Nat.two_pow_pos c
  | succ k ih => intro h; exact Nat.or_lt_two_pow (ih (fun i hi => h i (by omega))) (h k (by omega))
theorem orz_b {z : Nat → Nat} {d : Nat} : ∀ k, (orz z k).testBit d = true ↔ ∃ i, i < k ∧ (z i).testBit d = true := by
  intro k
  induction k with
  | zero => simp [orz]
  | succ k ih =>
    show (orz z k ||| z k).testBit d = true ↔ _
    rw [Nat.testBit_or, Bool.or_eq_true, ih]
    constructor
    · rintro (⟨i, h1, h2⟩ | h)
      · exact ⟨i, by omega, h2⟩
      · exact ⟨k, by omega, h⟩
    · rintro ⟨i, h1, h2⟩
      by_cases e : i = k
      · subst e; exact Or.inr h2
      · exact Or.inl ⟨i, by omega, h2⟩
theorem snap_x {μ : Mem} {c k dp r : Nat} {z : Nat → Nat} (hc : c ≤ 40) (hk : k ≤ 3) (hz : ∀ i, i < k → z i < 2 ^ c) (x2 : μ.1 41 6 = nI k) (x4 : μ.2 41 3 = lN dp) (x6 : ∀ i, i < k → μ.2 43 i = lN (z i)) (hr : r < 2 ^ 64) (e : lN (orz z k) &&& (lN dp ^^^ (-1 : Int64)) = lN r) :
    ∀ j i n, i + j = k → j < n → f_Shelf_takeSnapshot_4 n μ (lN (orz z i)) (nI i) = some (nI (pc 64 r), wl μ 41 4 (lN r)) := by
  intro j
  induction j with
  | zero =>
    intro i n hi hn
    obtain ⟨n, rfl⟩ : ∃ z, n = z + 1 := ⟨n - 1, by omega⟩
    rw [f_Shelf_takeSnapshot_4, x2, if_pos (nI_le (by omega) (by omega)), x4, show i = k by omega, e, bd_e]
    have e2 : (wl μ 41 4 (lN r)).2 41 4 = lN r := rfl
    rw [e2, bitCount_v hr, cl_s]
  | succ j ih =>
    intro i n hi hn
    obtain ⟨n, rfl⟩ : ∃ z, n = z + 1 := ⟨n - 1, by omega⟩
    rw [f_Shelf_takeSnapshot_4, x2, if_neg (nI_ge (by omega) (by omega)), gd_i (by rw [nI_toInt (by omega)]; omega), nI_clamp (by omega), x6 i (by omega), wb_or (lt64 (orz_lt i (fun q hq => hz q (by omega))) hc) (lt64 (hz i (by omega)) hc), bd_e, bd_e, nI_1]
    exact ih (i + 1) n (by omega) (by omega)
/-- is a document seen by a snapshot that is taken now? -/
def seeM (ν : Mem) (q : Nat) : Bool := !(decide (ν.1 38 q < 0)) && decide (ν.1 37 q = 0)
theorem snap_m {ν : Mem} {c : Nat} (hc : c ≤ 40) (m1 : ν.1 0 50 = nI c) : ∀ j d n (ν1 : Mem), d + j = c → j < n → (∀ q, q ≠ 39 → ν1.1 q = ν.1 q) → ν1.2 = ν.2 → (∀ q, ν1.1 39 q = if q < d then bz (seeM ν q) else ν.1 39 q) →
    ∃ ν2, f_Mo_open_4 n ν1 (nI (cnt (seeM ν) d)) (nI d) = some (nI (cnt (seeM ν) c), ν2) ∧ (∀ q, q ≠ 39 → ν2.1 q = ν.1 q) ∧ ν2.2 = ν.2 ∧ ∀ q, ν2.1 39 q = if q < c then bz (seeM ν q) else ν.1 39 q := by
  intro j
  induction j with
  | zero =>
    intro d n ν1 hd hn f1 f2 f3
    obtain ⟨n, rfl⟩ : ∃ z, n = z + 1 := ⟨n - 1, by omega⟩
    refine ⟨ν1, ?_, f1, f2, by rw [show c = d by omega]; exact f3⟩
    rw [f_Mo_open_4, f1 0 (by decide), m1, if_pos (nI_le (by omega) (by omega)), show d = c by omega]
  | succ j ih =>
    intro d n ν1 hd hn f1 f2 f3
    obtain ⟨n, rfl⟩ : ∃ z, n = z + 1 := ⟨n - 1, by omega⟩
    have hg : ∀ {x : Option (Int32 × Mem)}, gd (inb (nI d) 40) x = x := gd_i (by rw [nI_toInt (by omega)]; omega)
    have hcn : (nI d).toNatClampNeg = d := nI_clamp (by omega)
    have go : ∀ b : Bool, b = seeM ν d → ∃ ν2, f_Mo_open_40 (f_Mo_open_4 n) n ν1 (nI (cnt (seeM ν) d)) (nI d) (nI d) b = some (nI (cnt (seeM ν) c), ν2) ∧ (∀ q, q ≠ 39 → ν2.1 q = ν.1 q) ∧ ν2.2 = ν.2 ∧ ∀ q, ν2.1 39 q = if q < c then bz (seeM ν q) else ν.1 39 q := by
      intro b hb
      obtain ⟨ν2, e1, e2, e3, e4⟩ := ih (d + 1) n (wi ν1 39 d (bz b)) (by omega) (by omega) (fun q hq => by rw [← f1 q hq]; unfold wi; simp [hq]) f2 (fun q => by
        rw [wi_g, f3]
        by_cases e : q = d
        · subst e; rw [if_pos ⟨rfl, rfl⟩, if_pos (by omega), hb]
        · rw [if_neg (by omega)]
          by_cases e2 : q < d
          · rw [if_pos e2, if_pos (by omega)]
          · rw [if_neg e2, if_neg (by omega)])
      refine ⟨ν2, ?_, e2, e3, e4⟩
      unfold f_Mo_open_40
      have ew : (wi ν1 39 d (bz b)).1 39 d = bz b := by rw [wi_g, if_pos ⟨rfl, rfl⟩]
      rw [hg, hcn, bd_e, hg, ew, ← e1]
      have e5 : cnt (seeM ν) (d + 1) = cnt (seeM ν) d + (if b = true then 1 else 0) := by rw [hb]; rfl
      rw [e5]
      cases b with
      | false =>
        rw [if_pos bzf]
        unfold f_Mo_open_56
        rw [bd_e, bd_e, nI_1, show bz false = nI 0 from rfl, nI_add]
        rfl
      | true =>
        rw [if_neg (by decide)]
        unfold f_Mo_open_56
        rw [bd_e, bd_e, nI_1, show bz true = nI 1 from rfl, nI_add]
        rfl
    rw [f_Mo_open_4, f1 0 (by decide), m1, if_neg (nI_ge (by omega) (by omega)), hg, hcn, f1 38 (by decide), f1 37 (by decide)]
    by_cases h1 : ν.1 38 d < 0
    · rw [if_pos h1]
      unfold f_Mo_open_39
      exact go false (by simp [seeM, h1])
    · rw [if_neg h1, hg]
      by_cases h2 : ν.1 37 d = 0
      · rw [if_pos h2]
        exact go true (by simp [seeM, h1, h2])
      · rw [if_neg h2]
        unfold f_Mo_open_39
        exact go false (by simp [seeM, h1, h2])
theorem st_open {μ ν : Mem} {c k w dp sn : Nat} {z : Nat → Nat} (h : ShP μ ν c k w dp sn z) : ∃ (r : Int32) (μ' ν' : Mem), f_X_open 50 μ = some (r, μ') ∧ f_Mo_open 50 ν = some (r, ν') ∧ (∃ sn', ShP μ' ν' c k w dp sn' z) ∧ ShF μ μ' ν ν' := by
  obtain ⟨⟨hc, hk, hw, hdp, hsn, hz⟩, ⟨x1, x2, x3, x4, x5, x6⟩, ⟨m1, m2, m3⟩, hs, hd⟩ := id h
  have ho := orz_lt k hz
  obtain ⟨s', s1, s2, s3, s4⟩ := andn_b (lt64 ho hc) (lt64 hdp hc)
  have hs' : s' < 2 ^ c := Nat.lt_of_le_of_lt s2 ho
  have eX := snap_x hc hk hz x2 x4 x6 s1 s3 k 0 50 (by omega) (by omega)
  have eX : f_Shelf_takeSnapshot_4 50 μ 0 0 = some (nI (pc 64 s'), wl μ 41 4 (lN s')) := eX
  obtain ⟨ν', e1, e2, e3, e4⟩ := snap_m hc m1 c 0 50 ν (by omega) (by omega) (fun _ _ => rfl) rfl (fun q => by rw [if_neg (by omega)])
  have e1 : f_Mo_open_4 50 ν 0 0 = some (nI (cnt (seeM ν) c), ν') := e1
  have see : ∀ q, q < c → seeM ν q = s'.testBit q := by
    intro q hq
    rw [s4]
    unfold seeM
    obtain ⟨a1, a2⟩ := hs q hq
    have a3 : (orz z k).testBit q = !(decide (ν.1 38 q < 0)) := by
      by_cases ex : ∃ i, i < k ∧ ν.1 38 q = nI i
      · obtain ⟨i, i1, i2⟩ := ex
        rw [(orz_b k).mpr ⟨i, i1, (a1 i i1).mpr i2⟩, i2, decide_eq_false (nI_pos (by omega))]
        rfl
      · have hm : ν.1 38 q = -1 := a2 (fun i hi e => ex ⟨i, hi, e⟩)
        have : (orz z k).testBit q = false := by
          cases hb : (orz z k).testBit q with
          | false => rfl
          | true =>
            obtain ⟨i, i1, i2⟩ := (orz_b k).mp hb
            exact absurd ⟨i, i1, (a1 i i1).mp i2⟩ ex
        rw [this, hm]
        rfl
    rw [a3, (m3 q (by omega)).2.1]
    congr 1
    cases dp.testBit q <;> rfl
  have hcount : pc 64 s' = cnt (seeM ν) c := by
    rw [pc_cnt, cnt_up (fun d hd => tb_hi hs' hd) 64 (by omega)]
    exact (cnt_eq c see).symm
  refine ⟨nI (pc 64 s'), wl μ 41 4 (lN s'), ν', ?_, ?_, ⟨s', ⟨hc, hk, hw, hdp, hs', hz⟩, ⟨x1, x2, x3, x4, rfl, x6⟩, ⟨?_, ?_, fun q hq => ?_⟩, fun q hq => ?_, hd⟩, rfl, fun q hq => ?_, e3, fun q _ _ q3 => e2 q q3⟩
  · unfold f_X_open f_Shelf_takeSnapshot
    rw [eX, cl2_s]
  · unfold f_Mo_open
    rw [e1, hcount]
  · rw [e2 0 (by decide)]; exact m1
  · rw [e2 0 (by decide)]; exact m2
  · obtain ⟨g1, g2, g3⟩ := m3 q hq
    refine ⟨by rw [e2 36 (by decide)]; exact g1, by rw [e2 37 (by decide)]; exact g2, ?_⟩
    rw [e4]
    by_cases hqc : q < c
    · rw [if_pos hqc, see q hqc]
    · rw [if_neg hqc, g3, tb_hi hsn (by omega), tb_hi hs' (by omega)]
  · rw [e2 38 (by decide)]; exact hs q hq
  · unfold wl
    simp [hq]
