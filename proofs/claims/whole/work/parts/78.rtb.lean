/-! PURE: route B of the class: its least costs, its ways, its nodes -/
def RfF_B (μ μ' : Mem) : Prop := (∀ q, q < 25 ∨ 29 < q → μ'.1 q = μ.1 q ∧ μ'.2 q = μ.2 q) ∧ μ'.1 25 2 = μ.1 25 2
theorem RfF_B.rf (μ : Mem) : RfF_B μ μ := ⟨fun _ _ => ⟨rfl, rfl⟩, rfl⟩
theorem RfF_B.tr {μ μ1 μ2 : Mem} (h1 : RfF_B μ μ1) (h2 : RfF_B μ1 μ2) : RfF_B μ μ2 := ⟨fun q hq => ⟨((h2.1 q hq).1).trans (h1.1 q hq).1, ((h2.1 q hq).2).trans (h1.1 q hq).2⟩, h2.2.trans h1.2⟩
theorem RfF_B.wi {μ : Mem} {q j : Nat} {v : Int32} (h1 : 25 ≤ q) (h2 : q ≤ 29) (h3 : ¬ (q = 25 ∧ j = 2)) : RfF_B μ (wi μ q j v) := by
  refine ⟨fun r hr => ⟨?_, rfl⟩, ?_⟩
  · show (if r = q then _ else μ.1 r) = μ.1 r
    rw [if_neg (by omega)]
  · rw [wi_g, if_neg (by omega)]
theorem RfF_B.wl {μ : Mem} {q j : Nat} {v : Int64} (h1 : 25 ≤ q) (h2 : q ≤ 29) : RfF_B μ (wl μ q j v) := by
  refine ⟨fun r hr => ⟨rfl, ?_⟩, rfl⟩
  show (if r = q then _ else μ.2 r) = μ.2 r
  rw [if_neg (by omega)]
theorem RfF_B.gm {μ μ' : Mem} {G : Lt} {s : Nat} {chd : Int32} (f : RfF_B μ μ') (h : GmX μ G s chd) : GmX μ' G s chd := h.mv (fun q hq => (f.1 q (by omega)).1)
def RtW_B (μ : Mem) (G : Lt) (k : Nat) : Prop := ∀ t, t < 200 → μ.2 28 t = lN (Wk G k t) ∧ (Wk G k t ≠ 0 → μ.1 27 t = iI (Dk G k t))
def Rt_B (μ : Mem) (G : Lt) (k : Nat) : Prop := RtW_B μ G k ∧ ∀ j, j < k → μ.1 26 j = iI (cap (up G j))
theorem fill_B : ∀ j i n (μ : Mem), i + j = 200 → j < n → ∃ μ', f_Arrays_fill_AJJ_V_c28_6 n μ 0 (nI i) 200 = some μ' ∧ (∀ t, i ≤ t → t < 200 → μ'.2 28 t = 0) ∧ (∀ t, t < i → μ'.2 28 t = μ.2 28 t) ∧ RfF_B μ μ' := by
  intro j
  induction j with
  | zero =>
    intro i n μ hi hn
    obtain ⟨n, rfl⟩ : ∃ n', n = n' + 1 := ⟨n - 1, by omega⟩
    have e : i = 200 := by omega
    subst e
    refine ⟨μ, ?_, fun t _ _ => by omega, fun _ _ => rfl, RfF_B.rf μ⟩
    show (if (200 : Int32) ≤ nI 200 then some μ else _) = _
    exact if_pos (by decide)
  | succ j ih =>
    intro i n μ hi hn
    obtain ⟨n, rfl⟩ : ∃ n', n = n' + 1 := ⟨n - 1, by omega⟩
    obtain ⟨μ', h1, h2, h3, h4⟩ := ih (i + 1) n (wl μ 28 i 0) (by omega) (by omega)
    refine ⟨μ', ?_, ?_, ?_, (RfF_B.wl (by omega) (by omega)).tr h4⟩
    · show (if (200 : Int32) ≤ nI i then some μ else gd (inb (nI i) 200) (bd (wl μ 28 (nI i).toNatClampNeg 0) (fun μ1 => bd (nI i + 1) (fun v2 => f_Arrays_fill_AJJ_V_c28_6 n μ1 0 v2 200)))) = _
      rw [if_neg (by rw [show (200 : Int32) = nI 200 from rfl]; exact nI_ge (by omega) (by omega)), gd_i (by rw [nI_toInt (by omega)]; omega), nI_clamp (by omega), bd_e, bd_e, nI_1]
      exact h1
    · intro t t1 t2
      by_cases e : t = i
      · subst e
        rw [h3 t (by omega), wl_g, if_pos ⟨rfl, rfl⟩]
      · exact h2 t (by omega) t2
    · intro t ht
      rw [h3 t (by omega), wl_g, if_neg (by omega)]
theorem cost_B {μ : Mem} {G : Lt} {s k : Nat} {chd : Int32} (hG : LtOK G s) (h4 : ∀ b l, cnt (BL G b l) G.m ≤ 4) (hk : k ≤ G.m) (hg : GmX μ G s chd) (hr : RtW_B μ G k) {q p : Nat} (hq : q ≤ 24) (hp : p < 8) : ∀ j a n, a + j = 8 → j < n → f_RouteB_costInto_6 μ n (nI q) (nI p) (iI (cap (mn (gI G (Dk G k) q p) a))) (nI a) = some (iI (cap (into G (Dk G k) q p))) := by
  intro j
  induction j with
  | zero =>
    intro a n ha hn
    obtain ⟨n, rfl⟩ : ∃ n', n = n' + 1 := ⟨n - 1, by omega⟩
    have e : a = 8 := by omega
    subst e
    show (if (8 : Int32) ≤ nI 8 then some (iI (cap (mn (gI G (Dk G k) q p) 8))) else _) = _
    exact if_pos (by decide)
  | succ j ih =>
    intro a n ha hn
    obtain ⟨n, rfl⟩ : ∃ n', n = n' + 1 := ⟨n - 1, by omega⟩
    obtain ⟨r1, r2⟩ := hr (8 * q + a) (by omega)
    have wb := Wk_b1 hG h4 hk (show 8 * q + a < 200 by omega)
    have wd := WD0 hG k hk (8 * q + a)
    have nx := ih (a + 1) n (by omega) (by omega)
    have e0 : mn (gI G (Dk G k) q p) (a + 1) = min (mn (gI G (Dk G k) q p) a) (gI G (Dk G k) q p a) := rfl
    have b1 := mnI_b hG (Dk_b hG k hk) (b := q) (p := p) hp hq (j := a) (by omega)
    have b2 := gI_b hG (Dk_b hG k hk) (b := q) (p := p) (a := a) (by omega) hp hq
    unfold f_RouteB_costInto_6
    rw [if_neg (by rw [show (8 : Int32) = nI 8 from rfl]; exact nI_ge (by omega) (by omega)), slot, bd_e, gd_i (by rw [nI_toInt (by omega)]; omega), nI_clamp (by omega), r1]
    by_cases z : Wk G k (8 * q + a) = 0
    · have dz := wd.mp z
      rw [if_pos ((lc_W wb).mpr z)]
      unfold f_RouteB_costInto_57
      rw [bd_e, nI_1]
      have g0 : gI G (Dk G k) q p a = 1073741824 := by unfold gI; rw [if_pos dz]
      have mB := mn_B (f := gI G (Dk G k) q p) a
      rw [e0, g0, show min (mn (gI G (Dk G k) q p) a) 1073741824 = mn (gI G (Dk G k) q p) a by omega] at nx
      exact nx
    · have dz : ¬ Dk G k (8 * q + a) = 1073741824 := fun h => z (wd.mpr h)
      have g0 : gI G (Dk G k) q p a = Dk G k (8 * q + a) + G.lk a p := by unfold gI; rw [if_neg dz]
      have lb := hG.lkb a p (by omega) hp
      have db := (Dk_b hG k hk (8 * q + a)).resolve_left dz
      have dq : (8 * q + a) / 8 = q := by omega
      rw [dq] at db
      rw [if_neg (fun h => z ((lc_W wb).mp h)), gd_i (by rw [nI_toInt (by omega)]; omega), hg.link (by omega) hp, cl_s, r2 z, iI_add, ← g0, bd_e]
      unfold f_RouteB_costInto_57
      rw [bd_e, nI_1]
      have g1 : gI G (Dk G k) q p a ≠ 1073741824 := by omega
      have b2 := b2.resolve_left g1
      have key : (if iI (gI G (Dk G k) q p a) < iI (cap (mn (gI G (Dk G k) q p) a)) then iI (gI G (Dk G k) q p a) else iI (cap (mn (gI G (Dk G k) q p) a))) = iI (cap (mn (gI G (Dk G k) q p) (a + 1))) := by
        rw [e0]
        generalize gI G (Dk G k) q p a = x at *
        generalize mn (gI G (Dk G k) q p) a = y at *
        have cb : -2147483648 ≤ cap y ∧ cap y < 2147483648 := by
          unfold cap
          rcases b1 with b1 | b1
          · rw [if_pos b1]; omega
          · rw [if_neg (by omega)]; omega
        have hc := iI_lt (a := x) (b := cap y) (by omega) (by omega) cb.1 cb.2
        by_cases c : x < cap y
        · rw [if_pos (hc.mpr c)]
          have : min y x = x := by
            unfold cap at c
            rcases b1 with b1 | b1
            · omega
            · rw [if_neg (by omega)] at c; omega
          rw [this]
          unfold cap
          rw [if_neg g1]
        · rw [if_neg (fun h => c (hc.mp h))]
          have : min y x = y := by
            unfold cap at c
            rcases b1 with b1 | b1
            · rw [if_pos b1] at c; omega
            · rw [if_neg (by omega)] at c; omega
          rw [this]
      rw [key]
      exact nx
theorem costI_B {μ : Mem} {G : Lt} {s k n : Nat} {chd : Int32} (hG : LtOK G s) (h4 : ∀ b l, cnt (BL G b l) G.m ≤ 4) (hk : k ≤ G.m) (hg : GmX μ G s chd) (hr : RtW_B μ G k) {q p : Nat} (hq : q ≤ 24) (hp : p < 8) (hn : 8 < n) : f_RouteB_costInto n μ (nI q) (nI p) = some (iI (cap (into G (Dk G k) q p))) := cost_B hG h4 hk hg hr hq hp 8 0 n rfl hn
theorem ways_B {μ : Mem} {G : Lt} {s k : Nat} {chd : Int32} (hG : LtOK G s) (h4 : ∀ b l, cnt (BL G b l) G.m ≤ 4) (hk : k ≤ G.m) (hg : GmX μ G s chd) (hr : RtW_B μ G k) {q p : Nat} (hq : q ≤ 24) (hp : p < 8) : ∀ j a n, a + j = 8 → j < n → f_RouteB_waysInto_6 μ n (nI q) (nI p) (iI (cap (into G (Dk G k) q p))) (lN (sW (fun a => if gI G (Dk G k) q p a = into G (Dk G k) q p ∧ ¬ Dk G k (8 * q + a) = 1073741824 then Wk G k (8 * q + a) else 0) a)) (nI a) = some (lN (wIn G (Dk G k) (Wk G k) q p)) := by
  intro j
  induction j with
  | zero =>
    intro a n ha hn
    obtain ⟨n, rfl⟩ : ∃ n', n = n' + 1 := ⟨n - 1, by omega⟩
    have e : a = 8 := by omega
    subst e
    show (if (8 : Int32) ≤ nI 8 then some (lN (wIn G (Dk G k) (Wk G k) q p)) else _) = _
    exact if_pos (by decide)
  | succ j ih =>
    intro a n ha hn
    obtain ⟨n, rfl⟩ : ∃ n', n = n' + 1 := ⟨n - 1, by omega⟩
    obtain ⟨r1, r2⟩ := hr (8 * q + a) (by omega)
    have wb := Wk_b1 hG h4 hk (show 8 * q + a < 200 by omega)
    have wd := WD0 hG k hk (8 * q + a)
    have nx := ih (a + 1) n (by omega) (by omega)
    have e0 : sW (fun a => if gI G (Dk G k) q p a = into G (Dk G k) q p ∧ ¬ Dk G k (8 * q + a) = 1073741824 then Wk G k (8 * q + a) else 0) (a + 1) = sW (fun a => if gI G (Dk G k) q p a = into G (Dk G k) q p ∧ ¬ Dk G k (8 * q + a) = 1073741824 then Wk G k (8 * q + a) else 0) a + (if gI G (Dk G k) q p a = into G (Dk G k) q p ∧ ¬ Dk G k (8 * q + a) = 1073741824 then Wk G k (8 * q + a) else 0) := rfl
    rw [e0] at nx
    have b1 := mnI_b hG (Dk_b hG k hk) (b := q) (p := p) hp hq (j := 8) (by omega)
    change into G (Dk G k) q p = 1073741824 ∨ (-2170000 ≤ into G (Dk G k) q p ∧ into G (Dk G k) q p ≤ 2170000) at b1
    have b2 := gI_b hG (Dk_b hG k hk) (b := q) (p := p) (a := a) (by omega) hp hq
    unfold f_RouteB_waysInto_6
    rw [if_neg (show ¬ (8 : Int32) ≤ nI a by rw [show (8 : Int32) = nI 8 from rfl]; exact nI_ge (by omega) (by omega)), slot, bd_e, gd_i (by rw [nI_toInt (by omega)]; omega), nI_clamp (by omega), r1]
    by_cases z : Wk G k (8 * q + a) = 0
    · have dz := wd.mp z
      rw [if_pos ((lc_W wb).mpr z)]
      unfold f_RouteB_waysInto_68
      rw [bd_e, nI_1]
      rw [if_neg (show ¬ (gI G (Dk G k) q p a = into G (Dk G k) q p ∧ ¬ Dk G k (8 * q + a) = 1073741824) from fun h => h.2 dz), Nat.add_zero] at nx
      exact nx
    · have dz : ¬ Dk G k (8 * q + a) = 1073741824 := fun h => z (wd.mpr h)
      have g0 : gI G (Dk G k) q p a = Dk G k (8 * q + a) + G.lk a p := by unfold gI; rw [if_neg dz]
      have lb := hG.lkb a p (by omega) hp
      have db := (Dk_b hG k hk (8 * q + a)).resolve_left dz
      have dq : (8 * q + a) / 8 = q := by omega
      rw [dq] at db
      rw [if_neg (fun h => z ((lc_W wb).mp h)), gd_i (by rw [nI_toInt (by omega)]; omega), hg.link (by omega) hp, cl_s, r2 z, iI_add, ← g0]
      have g1 : gI G (Dk G k) q p a ≠ 1073741824 := by omega
      have b2 := b2.resolve_left g1
      have key : iI (gI G (Dk G k) q p a) = iI (cap (into G (Dk G k) q p)) ↔ gI G (Dk G k) q p a = into G (Dk G k) q p := by
        generalize gI G (Dk G k) q p a = x at *
        generalize into G (Dk G k) q p = y at *
        unfold cap
        rcases b1 with b1 | b1
        · rw [if_pos b1, iI_eq (by omega) (by omega) (by omega) (by omega)]; omega
        · rw [if_neg (by omega), iI_eq (by omega) (by omega) (by omega) (by omega)]
      by_cases c : gI G (Dk G k) q p a = into G (Dk G k) q p
      · rw [if_pos (show gI G (Dk G k) q p a = into G (Dk G k) q p ∧ ¬ Dk G k (8 * q + a) = 1073741824 from ⟨c, dz⟩)] at nx
        rw [if_pos (key.mpr c), gd_i (by rw [nI_toInt (by omega)]; omega), bd_e, lN_add]
        unfold f_RouteB_waysInto_68
        rw [bd_e, nI_1]
        exact nx
      · rw [if_neg (show ¬ (gI G (Dk G k) q p a = into G (Dk G k) q p ∧ ¬ Dk G k (8 * q + a) = 1073741824) from fun h => c h.1), Nat.add_zero] at nx
        rw [if_neg (fun h => c (key.mp h))]
        unfold f_RouteB_waysInto_68
        rw [bd_e, nI_1]
        exact nx
theorem waysI_B {μ : Mem} {G : Lt} {s k n : Nat} {chd : Int32} (hG : LtOK G s) (h4 : ∀ b l, cnt (BL G b l) G.m ≤ 4) (hk : k ≤ G.m) (hg : GmX μ G s chd) (hr : RtW_B μ G k) {q p : Nat} (hq : q ≤ 24) (hp : p < 8) (hn : 8 < n) : f_RouteB_waysInto n μ (nI q) (nI p) (iI (cap (into G (Dk G k) q p))) = some (lN (wIn G (Dk G k) (Wk G k) q p)) := ways_B hG h4 hk hg hr hq hp 8 0 n rfl hn
theorem arr_B {μ : Mem} {e p n W w : Nat} {D z : Int} (ht : 8 * e + p < 200) (hW : μ.2 28 (8 * e + p) = lN W) (hW2 : W < 2 ^ 62) (hD : W ≠ 0 → μ.1 27 (8 * e + p) = iI D) (z1 : -2147483648 ≤ z) (z2 : z < 2147483648) (hd : W ≠ 0 → -2147483648 ≤ D ∧ D < 2147483648) : ∃ μ', f_RouteB_arrive n μ (nI e) (nI p) (iI z) (lN w) = some μ' ∧ μ'.2 28 (8 * e + p) = lN (if W = 0 then w else if z < D then w else if z = D then W + w else W) ∧ ((W = 0 ∨ z ≤ D) → μ'.1 27 (8 * e + p) = iI z) ∧ (W ≠ 0 → D < z → μ'.1 27 (8 * e + p) = iI D) ∧ (∀ t, t ≠ 8 * e + p → μ'.2 28 t = μ.2 28 t ∧ μ'.1 27 t = μ.1 27 t) ∧ (∀ q, q ≠ 27 → μ'.1 q = μ.1 q) ∧ (∀ q, q ≠ 28 → μ'.2 q = μ.2 q) := by
  have fw1 : ∀ q, q ≠ 27 → (wl (wi μ 27 (8 * e + p) (iI z)) 28 (8 * e + p) (lN w)).1 q = μ.1 q := fun q hq => if_neg hq
  have fw2 : ∀ q, q ≠ 28 → (wl (wi μ 27 (8 * e + p) (iI z)) 28 (8 * e + p) (lN w)).2 q = μ.2 q := fun q hq => if_neg hq
  have a31 : f_RouteB_arrive_31 n μ (iI z) (lN w) (nI (8 * e + p)) = some (wl (wi μ 27 (8 * e + p) (iI z)) 28 (8 * e + p) (lN w)) := by
    unfold f_RouteB_arrive_31
    rw [gd_i (by rw [nI_toInt (by omega)]; omega), bd_e, gd_i (by rw [nI_toInt (by omega)]; omega), bd_e, nI_clamp (by omega)]
  unfold f_RouteB_arrive
  rw [slot, bd_e, gd_i (by rw [nI_toInt (by omega)]; omega), nI_clamp (by omega), hW]
  by_cases c : W = 0
  · rw [if_pos ((lc_W hW2).mpr c), a31]
    refine ⟨_, rfl, ?_, ?_, ?_, ?_, fw1, fw2⟩
    · rw [wl_g, if_pos ⟨rfl, rfl⟩, if_pos c]
    · intro _; rw [wl_1, wi_g, if_pos ⟨rfl, rfl⟩]
    · intro h _; exact absurd c h
    · intro t ht
      refine ⟨?_, ?_⟩
      · rw [wl_g, if_neg (by omega)]; rfl
      · rw [wl_1, wi_g, if_neg (by omega)]
  · obtain ⟨d1, d2⟩ := hd c
    rw [if_neg (fun h => c ((lc_W hW2).mp h)), gd_i (by rw [nI_toInt (by omega)]; omega), hD c]
    by_cases c2 : D ≤ z
    · rw [if_pos ((iI_le d1 d2 z1 z2).mpr c2), gd_i (by rw [nI_toInt (by omega)]; omega)]
      by_cases c3 : z = D
      · rw [if_pos ((iI_eq z1 z2 d1 d2).mpr c3), gd_i (by rw [nI_toInt (by omega)]; omega), gd_i (by rw [nI_toInt (by omega)]; omega), bd_e, lN_add]
        refine ⟨_, rfl, ?_, ?_, ?_, ?_, fun q _ => rfl, fun q hq => if_neg hq⟩
        · rw [wl_g, if_pos ⟨rfl, rfl⟩, if_neg c, if_neg (by omega), if_pos c3]
        · intro _; rw [wl_1, hD c, c3]
        · intro _ h; omega
        · intro t ht
          refine ⟨?_, rfl⟩
          rw [wl_g, if_neg (by omega)]
      · rw [if_neg (fun h => c3 ((iI_eq z1 z2 d1 d2).mp h))]
        refine ⟨_, rfl, ?_, ?_, ?_, fun _ _ => ⟨rfl, rfl⟩, fun _ _ => rfl, fun _ _ => rfl⟩
        · rw [hW, if_neg c, if_neg (by omega), if_neg c3]
        · intro h; omega
        · intro _ _; exact hD c
    · rw [if_neg (fun h => c2 ((iI_le d1 d2 z1 z2).mp h)), a31]
      refine ⟨_, rfl, ?_, ?_, ?_, ?_, fw1, fw2⟩
      · rw [wl_g, if_pos ⟨rfl, rfl⟩, if_neg c, if_pos (by omega)]
      · intro _; rw [wl_1, wi_g, if_pos ⟨rfl, rfl⟩]
      · intro _ h; omega
      · intro t ht
        refine ⟨?_, ?_⟩
        · rw [wl_g, if_neg (by omega)]; rfl
        · rw [wl_1, wi_g, if_neg (by omega)]
theorem reach_B {μ : Mem} {G : Lt} {s k n : Nat} (hG : LtOK G s) (h4 : ∀ b l, cnt (BL G b l) G.m ≤ 4) (hk : k < G.m) (hg : GmX μ G s (μ.1 25 2)) (hr : Rt_B μ G k) (hn : 8 < n) : ∃ μ', f_RouteB_reach n μ (nI k) = some μ' ∧ Rt_B μ' G (k + 1) ∧ RfF_B μ μ' := by
  have hm := hg.2.2.1
  have hs := hG.hs
  obtain ⟨f1, f2, f3⟩ := hG.fit k hk
  have pb := hG.prb k hk
  have ib := into_b hG (Dk_b hG k (by omega)) f3 (show G.b k ≤ 24 by omega)
  unfold f_RouteB_reach
  rw [hg.bg hk, cl_s, hg.pt hk, cl_s, costI_B hG h4 (by omega) hg hr.1 (by omega) f3 hn, cl_s]
  by_cases z : into G (Dk G k) (G.b k) (G.p k) = 1073741824
  · have uz : up G k = 1073741824 := by unfold up upv; rw [if_pos z]
    rw [if_pos (by unfold cap; rw [if_pos z]; exact iI_9.symm), gd_i (by rw [nI_toInt (by omega)]; omega), nI_clamp (by omega), bd_e]
    refine ⟨_, rfl, ⟨?_, ?_⟩, RfF_B.wi (by omega) (by omega) (by omega)⟩
    · intro t ht
      have e1 : Wk G (k + 1) t = Wk G k t := by
        show (if t = G.to k then (if up G k = 1073741824 then Wk G k t else _) else Wk G k t) = Wk G k t
        rw [if_pos uz]
        by_cases c : t = G.to k
        · rw [if_pos c]
        · rw [if_neg c]
      have e2 : Dk G (k + 1) t = Dk G k t := by
        rw [Dk_up]
        by_cases c : t = G.to k
        · rw [if_pos c, uz]
          rcases Dk_b hG k (by omega) t with h | h
          · omega
          · have : t / 8 < 25 := by omega
            omega
        · rw [if_neg c]
      rw [e1, e2]
      obtain ⟨r1, r2⟩ := hr.1 t ht
      refine ⟨r1, fun h => ?_⟩
      rw [wi_g, if_neg (by omega)]
      exact r2 h
    · intro j hj
      rw [wi_g]
      by_cases c : j = k
      · rw [if_pos ⟨rfl, c⟩, c, uz, iI_9]
        unfold cap
        rw [if_pos rfl]
      · rw [if_neg (by omega)]
        exact hr.2 j (by omega)
  · have ib := ib.resolve_left z
    have uv : up G k = into G (Dk G k) (G.b k) (G.p k) + G.pr k := by unfold up upv; rw [if_neg z]
    have cp : cap (into G (Dk G k) (G.b k) (G.p k)) = into G (Dk G k) (G.b k) (G.p k) := by unfold cap; rw [if_neg z]
    have hb24 : (G.b k : Int) ≤ 24 := by omega
    have ne9 : ¬ iI (cap (into G (Dk G k) (G.b k) (G.p k))) = (1000000000 : Int32) := by
      rw [cp, iI_9]
      intro h
      have := (iI_eq (by omega) (by omega) (by omega) (by omega)).mp h
      omega
    have hg1 : ∀ v : Int32, GmX (wi μ 26 k v) G s (μ.1 25 2) := fun v => (RfF_B.wi (by omega) (by omega) (by omega)).gm hg
    have hr1 : ∀ v : Int32, RtW_B (wi μ 26 k v) G k := by
      intro v t ht
      obtain ⟨r1, r2⟩ := hr.1 t ht
      refine ⟨r1, fun h => ?_⟩
      rw [wi_g, if_neg (by omega)]
      exact r2 h
    have tt : 8 * (G.b k + G.l k) + G.p k < 200 := by omega
    have to : G.to k = 8 * (G.b k + G.l k) + G.p k := rfl
    have wb := Wk_b1 hG h4 (show k ≤ G.m by omega) tt
    have wd := WD0 hG k (by omega) (8 * (G.b k + G.l k) + G.p k)
    have db := Dk_b hG k (by omega) (8 * (G.b k + G.l k) + G.p k)
    have dq : (8 * (G.b k + G.l k) + G.p k) / 8 = G.b k + G.l k := by omega
    rw [dq] at db
    have un : up G k ≠ 1073741824 := by omega
    rw [if_neg ne9, hg.pr hk, cl_s, gd_i (by rw [nI_toInt (by omega)]; omega), nI_clamp (by omega), cp, iI_add, ← uv, bd_e, (hg1 _).nd hk, cl_s, gd_i (by rw [nI_toInt (by omega)]; omega)]
    rw [← cp, waysI_B hG h4 (by omega) (hg1 _) (hr1 _) (by omega) f3 hn, cl_s, wi_g, if_pos ⟨rfl, rfl⟩]
    obtain ⟨a1, a2⟩ := hr1 (iI (up G k)) (8 * (G.b k + G.l k) + G.p k) tt
    obtain ⟨μ', m1, m2, m3, m4, m5, m6, m7⟩ := arr_B (n := n) (w := wIn G (Dk G k) (Wk G k) (G.b k) (G.p k)) (z := up G k) tt a1 wb a2 (by omega) (by omega) (fun h => by have := db.resolve_left (fun e => h (wd.mpr e)); omega)
    rw [m1, cl_s]
    have RF : RfF_B (wi μ 26 k (iI (up G k))) μ' := by
      refine ⟨fun q hq => ⟨m6 q (by omega), m7 q (by omega)⟩, ?_⟩
      rw [m6 25 (by omega)]
    refine ⟨μ', rfl, ⟨?_, ?_⟩, (RfF_B.wi (by omega) (by omega) (by omega)).tr RF⟩
    · intro t ht
      by_cases c : t = G.to k
      · have e1 : Wk G (k + 1) t = if up G k < Dk G k t then wIn G (Dk G k) (Wk G k) (G.b k) (G.p k) else if up G k = Dk G k t then Wk G k t + wIn G (Dk G k) (Wk G k) (G.b k) (G.p k) else Wk G k t := by
          show (if t = G.to k then (if up G k = 1073741824 then Wk G k t else _) else Wk G k t) = _
          rw [if_pos c, if_neg un]
        have e2 : Dk G (k + 1) t = min (Dk G k t) (up G k) := by rw [Dk_up, if_pos c]
        rw [e1, e2]
        rw [to] at c
        subst c
        rw [m2]
        by_cases w0 : Wk G k (8 * (G.b k + G.l k) + G.p k) = 0
        · have dz := wd.mp w0
          rw [if_pos w0, if_pos (show up G k < Dk G k (8 * (G.b k + G.l k) + G.p k) by omega)]
          refine ⟨rfl, fun _ => ?_⟩
          rw [m3 (Or.inl w0), show min (Dk G k (8 * (G.b k + G.l k) + G.p k)) (up G k) = up G k by omega]
        · rw [if_neg w0]
          refine ⟨rfl, fun _ => ?_⟩
          by_cases c1 : up G k ≤ Dk G k (8 * (G.b k + G.l k) + G.p k)
          · rw [m3 (Or.inr c1), show min (Dk G k (8 * (G.b k + G.l k) + G.p k)) (up G k) = up G k by omega]
          · rw [m4 w0 (by omega), show min (Dk G k (8 * (G.b k + G.l k) + G.p k)) (up G k) = Dk G k (8 * (G.b k + G.l k) + G.p k) by omega]
      · have e1 : Wk G (k + 1) t = Wk G k t := by
          show (if t = G.to k then _ else Wk G k t) = _
          rw [if_neg c]
        have e2 : Dk G (k + 1) t = Dk G k t := by rw [Dk_up, if_neg c]
        rw [e1, e2, (m5 t (by rw [← to]; exact c)).1, (m5 t (by rw [← to]; exact c)).2]
        exact hr1 _ t ht
    · intro j hj
      rw [m6 26 (by omega), wi_g]
      by_cases c : j = k
      · rw [if_pos ⟨rfl, c⟩, c]
        unfold cap
        rw [if_neg un]
      · rw [if_neg (by omega)]
        exact hr.2 j (by omega)
theorem loop_B {G : Lt} {s : Nat} (hG : LtOK G s) (h4 : ∀ b l, cnt (BL G b l) G.m ≤ 4) : ∀ j k n (μ : Mem), k + j = G.m → j + 10 < n → GmX μ G s (μ.1 25 2) → Rt_B μ G k → ∃ n' μ', n ≤ n' + j ∧ f_RouteB_find_18 n μ (nI k) = f_RouteB_find_18 n' μ' (nI G.m) ∧ Rt_B μ' G G.m ∧ RfF_B μ μ' := by
  intro j
  induction j with
  | zero =>
    intro k n μ hk hn hg hr
    have e : k = G.m := by omega
    rw [e] at hr ⊢
    exact ⟨n, μ, by omega, rfl, hr, RfF_B.rf μ⟩
  | succ j ih =>
    intro k n μ hk hn hg hr
    obtain ⟨n, rfl⟩ : ∃ n', n = n' + 1 := ⟨n - 1, by omega⟩
    obtain ⟨μ1, a1, a2, a3⟩ := reach_B (n := n) hG h4 (by omega) hg hr (by omega)
    have hg1 : GmX μ1 G s (μ1.1 25 2) := by rw [a3.2]; exact a3.gm hg
    obtain ⟨n', μ', b1, b2, b3, b4⟩ := ih (k + 1) n μ1 (by omega) (by omega) hg1 a2
    have hm := hg.2.2.1
    refine ⟨n', μ', by omega, ?_, b3, a3.tr b4⟩
    rw [← b2]
    show cl (f_Lattice_count n μ) (fun v1 => (if v1 ≤ nI k then _ else _)) = _
    unfold f_Lattice_count
    rw [cl_s, hg.2.1, if_neg (nI_ge (by omega) (by omega)), a1, cl_s, bd_e, nI_1]
theorem last_B {μ : Mem} {G : Lt} {s e p : Nat} {chd : Int32} (hG : LtOK G s) (hg : GmX μ G s chd) (hr : ∀ j, j < G.m → μ.1 26 j = iI (cap (up G j))) (he : e ≤ s) (hp : p < 8) (hi : into G (Dk G G.m) e p ≠ 1073741824) : ∀ j i n, i + j = G.m → j < n → fsF (lsP G e p) j i < G.m → f_RouteB_lastInto_10 μ n (nI e) (nI p) (iI (into G (Dk G G.m) e p)) (nI i) = some (nI (fsF (lsP G e p) j i)) := by
  intro j
  have hs := hG.hs
  have hm := hg.2.2.1
  have ib := (into_b hG (Dk_b hG G.m (Nat.le_refl _)) hp (show e ≤ 24 by omega)).resolve_left hi
  induction j with
  | zero => intro i n h1 h2 h3; exact absurd h3 (by show ¬ i < G.m; omega)
  | succ j ih =>
    intro i n h1 h2 h3
    obtain ⟨n, rfl⟩ : ∃ n', n = n' + 1 := ⟨n - 1, by omega⟩
    have hi1 : i < G.m := by omega
    obtain ⟨f1, f2, f3⟩ := hG.fit i hi1
    have e0 : fsF (lsP G e p) (j + 1) i = if lsP G e p i = true then i else fsF (lsP G e p) j (i + 1) := rfl
    have lb := hG.lkb (G.p i) p f3 hp
    have ub := upv_b hG (Dk_b hG i (by omega)) hi1
    change up G i = 1073741824 ∨ _ ≤ up G i ∧ up G i ≤ _ at ub
    have nx : lsP G e p i = false → f_RouteB_lastInto_79 (f_RouteB_lastInto_10 μ n) μ n (nI e) (nI p) (iI (into G (Dk G G.m) e p)) (nI i) = some (nI (fsF (lsP G e p) (j + 1) i)) := by
      intro hf
      rw [e0, if_neg (by rw [hf]; exact Bool.false_ne_true)] at h3 ⊢
      unfold f_RouteB_lastInto_79
      rw [bd_e, nI_1]
      exact ih (i + 1) n (by omega) (by omega) h3
    unfold f_RouteB_lastInto_10 f_Lattice_count
    rw [cl_s, hg.2.1, if_neg (nI_ge (by omega) (by omega)), hg.nd hi1, cl_s]
    by_cases c1 : G.b i + G.l i = e
    · rw [if_pos (by rw [c1]), gd_i (by rw [nI_toInt (by omega)]; omega), nI_clamp (by omega), hr i hi1]
      by_cases c2 : up G i = 1073741824
      · rw [if_pos (by unfold cap; rw [if_pos c2]; exact iI_9.symm)]
        exact nx (by unfold lsP; rw [decide_eq_false_iff_not]; exact fun h => h.2.1 c2)
      · have ub := ub.resolve_left c2
        have cp : cap (up G i) = up G i := by unfold cap; rw [if_neg c2]
        have hbl : ((G.b i + G.l i : Nat) : Int) ≤ 24 := by omega
        rw [cp, if_neg (by rw [iI_9]; intro h; have := (iI_eq (by omega) (by omega) (by omega) (by omega)).mp h; omega), gd_i (by rw [nI_toInt (by omega)]; omega), hg.pt hi1, cl_s, hg.link f3 hp, cl_s, iI_add]
        have q := iI_eq (a := up G i + G.lk (G.p i) p) (b := into G (Dk G G.m) e p) (by omega) (by omega) (by omega) (by omega)
        by_cases c3 : up G i + G.lk (G.p i) p = into G (Dk G G.m) e p
        · rw [if_pos (q.mpr c3), e0, if_pos (by unfold lsP; rw [decide_eq_true_eq]; exact ⟨c1, c2, c3⟩)]
        · rw [if_neg (fun h => c3 (q.mp h))]
          exact nx (by unfold lsP; rw [decide_eq_false_iff_not]; exact fun h => c3 h.2.2)
    · rw [if_neg (fun h => c1 ((nI_eq (by omega) (by omega)).mp h))]
      exact nx (by unfold lsP; rw [decide_eq_false_iff_not]; exact fun h => c1 h.1)
theorem lastI_B {μ : Mem} {G : Lt} {s e p n : Nat} {chd : Int32} (hG : LtOK G s) (h4 : ∀ b l, cnt (BL G b l) G.m ≤ 4) (hg : GmX μ G s chd) (hr : Rt_B μ G G.m) (he : e ≤ s) (h0 : e ≠ 0) (hp : p < 8) (hi : into G (Dk G G.m) e p ≠ 1073741824) (hn : 700 < n) : f_RouteB_lastInto n μ (nI e) (nI p) = some (nI (lsI G e p)) := by
  have hs := hG.hs
  have hm := hg.2.2.1
  unfold f_RouteB_lastInto
  rw [costI_B hG h4 (Nat.le_refl _) hg hr.1 (by omega) hp (by omega), cl_s, show cap (into G (Dk G G.m) e p) = into G (Dk G G.m) e p by unfold cap; rw [if_neg hi]]
  exact last_B hG hg hr.2 he hp hi G.m 0 n (by omega) (by omega) (lsI_lt hG he h0 hp hi).1
theorem tr_B {G : Lt} {s : Nat} (hG : LtOK G s) (h4 : ∀ b l, cnt (BL G b l) G.m ≤ 4) {chd : Int32} : ∀ f e p i n (μ : Mem), e ≤ f → e + i ≤ 24 → e ≤ s → p < 8 → f + 710 < n → into G (Dk G G.m) e p ≠ 1073741824 → GmX μ G s chd → Rt_B μ G G.m → μ.1 25 7 = nI i → ∃ μ', f_RouteB_trace_12 n μ (nI e) (nI p) (nI i) = some μ' ∧ i + (trc G f e p).length ≤ 24 ∧ μ'.1 25 7 = nI (i + (trc G f e p).length) ∧ (∀ j k, (trc G f e p)[j]? = some k → μ'.1 29 (i + j) = nI k) ∧ (∀ j, j < i → μ'.1 29 j = μ.1 29 j) ∧ μ'.1 25 8 = μ.1 25 8 ∧ μ'.2 = μ.2 ∧ RfF_B μ μ' := by
  intro f
  induction f with
  | zero =>
    intro e p i n μ h1 h2 h3 h5 h6 h7 hg hr h8
    obtain ⟨n, rfl⟩ : ∃ n', n = n' + 1 := ⟨n - 1, by omega⟩
    have e0 : e = 0 := by omega
    subst e0
    refine ⟨μ, ?_, by show i + 0 ≤ 24; omega, h8, (fun j k h => by cases h), fun _ _ => rfl, rfl, rfl, RfF_B.rf μ⟩
    show (if (24 : Int32) ≤ nI i then some μ else (if nI 0 ≤ 0 then some μ else _)) = _
    rw [if_pos (show nI 0 ≤ 0 by decide)]
    by_cases c : (24 : Int32) ≤ nI i
    · rw [if_pos c]
    · rw [if_neg c]
  | succ f ih =>
    intro e p i n μ h1 h2 h3 h5 h6 h7 hg hr h8
    obtain ⟨n, rfl⟩ : ∃ n', n = n' + 1 := ⟨n - 1, by omega⟩
    have hm := hg.2.2.1
    by_cases c : e = 0
    · subst c
      have et : trc G (f + 1) 0 p = [] := rfl
      rw [et]
      refine ⟨μ, ?_, by show i + 0 ≤ 24; omega, h8, (fun j k h => by cases h), fun _ _ => rfl, rfl, rfl, RfF_B.rf μ⟩
      show (if (24 : Int32) ≤ nI i then some μ else (if nI 0 ≤ 0 then some μ else _)) = _
      rw [if_pos (show nI 0 ≤ 0 by decide)]
      by_cases c : (24 : Int32) ≤ nI i
      · rw [if_pos c]
      · rw [if_neg c]
    · have et : trc G (f + 1) e p = lsI G e p :: trc G f (G.b (lsI G e p)) (G.p (lsI G e p)) := if_neg c
      obtain ⟨k1, k2, k3, k4, k5⟩ := lsI_lt hG h3 c h5 h7
      obtain ⟨f1, f2, f3⟩ := hG.fit _ k1
      rw [et]
      have hlast := lastI_B (n := n) hG h4 hg hr h3 c h5 h7 (by omega)
      generalize lsI G e p = K at *
      have F2 : RfF_B μ (wi (wi μ 29 i (nI K)) 25 7 (nI i + 1)) := (RfF_B.wi (by omega) (by omega) (by omega)).tr (RfF_B.wi (by omega) (by omega) (by omega))
      have hg2 := F2.gm hg
      have hr2 : Rt_B (wi (wi μ 29 i (nI K)) 25 7 (nI i + 1)) G G.m := by
        refine ⟨fun t ht => ⟨(hr.1 t ht).1, fun h => ?_⟩, fun j hj => ?_⟩
        · rw [wi_g, if_neg (by omega), wi_g, if_neg (by omega)]; exact (hr.1 t ht).2 h
        · rw [wi_g, if_neg (by omega), wi_g, if_neg (by omega)]; exact hr.2 j hj
      obtain ⟨μ', m1, m2, m3, m4, m5, m6, m7, m8⟩ := ih (G.b K) (G.p K) (i + 1) n _ (by omega) (by omega) (by omega) f3 (by omega) k4 hg2 hr2 (by rw [wi_g, if_pos ⟨rfl, rfl⟩, nI_1])
      refine ⟨μ', ?_, by rw [List.length_cons]; omega, by rw [m3, List.length_cons]; congr 1; omega, ?_, ?_, ?_, m7, F2.tr m8⟩
      · rw [← m1]
        show (if (24 : Int32) ≤ nI i then some μ else (if nI e ≤ 0 then some μ else (cl (f_RouteB_lastInto n μ (nI e) (nI p)) _))) = _
        rw [if_neg (by rw [show (24 : Int32) = nI 24 from rfl]; exact nI_ge (by omega) (by omega)), if_neg (nI_nle (by omega) (by omega))]
        rw [hlast, cl_s, if_neg (by rw [show (-1 : Int32) = iI (-1) from by decide]; intro h; have := congrArg Int32.toInt h; rw [nI_toInt (by omega), iI_t (by omega) (by omega)] at this; omega)]
        rw [h8, gd_i (by rw [nI_toInt (by omega)]; omega), nI_clamp (by omega), bd_e]
        rw [show (wi μ 29 i (nI K)).1 25 7 = nI i by rw [wi_g, if_neg (by omega), h8], bd_e, hg2.bg k1, cl_s, hg2.pt k1, cl_s, bd_e, nI_1]
      · intro j k h
        cases j with
        | zero =>
          have : K = k := Option.some.inj h
          subst this
          rw [m5 (i + 0) (by omega), wi_g, if_neg (by omega), wi_g, if_pos ⟨rfl, rfl⟩]
        | succ j =>
          rw [show i + (j + 1) = i + 1 + j by omega]
          exact m4 j k h
      · intro j hj
        rw [m5 j (by omega), wi_g, if_neg (by omega), wi_g, if_neg (by omega)]
      · rw [m6, wi_g, if_neg (by omega), wi_g, if_neg (by omega)]
/-- what a route holds in the end -/
def RtE_B (μ : Mem) (G : Lt) (s : Nat) : Prop := (trc G 24 s 0).length ≤ 24 ∧ μ.1 25 8 = iI (into G (Dk G G.m) s 0) ∧ μ.2 25 9 = lN (wIn G (Dk G G.m) (Wk G G.m) s 0) ∧ μ.1 25 7 = nI (trc G 24 s 0).length ∧ ∀ j k, (trc G 24 s 0)[j]? = some k → μ.1 29 j = nI k
theorem find_B {μ : Mem} {G : Lt} {s n : Nat} (hG : LtOK G s) (h4 : ∀ b l, cnt (BL G b l) G.m ≤ 4) (hg : GmX μ G s (μ.1 25 2)) (hn : 1600 < n) : ∃ μ', f_RouteB_find n μ = some μ' ∧ RtE_B μ' G s ∧ RfF_B μ μ' := by
  have hs := hG.hs
  have hm := hg.2.2.1
  obtain ⟨μ1, a1, a2, a3, a4⟩ := fill_B 200 0 n μ (by omega) (by omega)
  rw [nI_0] at a1
  obtain ⟨μ2, b1, b2, b3, b4, b5, b6, b7⟩ := arr_B (μ := μ1) (e := 0) (p := 0) (n := n) (W := 0) (w := 1) (D := 0) (z := 0) (by omega) (a2 0 (by omega) (by omega)) (by omega) (fun h => absurd rfl h) (by omega) (by omega) (fun _ => ⟨by omega, by omega⟩)
  have F2 : RfF_B μ1 μ2 := by
    refine ⟨fun q hq => ⟨b6 q (by omega), b7 q (by omega)⟩, ?_⟩
    rw [b6 25 (by omega)]
  have F := a4.tr F2
  have hg2 : GmX μ2 G s (μ2.1 25 2) := by rw [F.2]; exact F.gm hg
  have hr2 : Rt_B μ2 G 0 := by
    refine ⟨fun t ht => ?_, fun j hj => by omega⟩
    show _ = lN (if t = 0 then 1 else 0) ∧ ((if t = 0 then 1 else 0) ≠ 0 → _ = iI (if t = 0 then 0 else 1073741824))
    by_cases c : t = 0
    · subst c
      rw [if_pos rfl, if_pos rfl]
      exact ⟨b2, fun _ => b3 (Or.inl rfl)⟩
    · rw [if_neg c, if_neg c, (b5 t (by omega)).1]
      exact ⟨a2 t (by omega) ht, fun h => absurd rfl h⟩
  obtain ⟨n', μ3, c1, c2, c3, c4⟩ := loop_B hG h4 G.m 0 n μ2 (by omega) (by omega) hg2 hr2
  obtain ⟨n', rfl⟩ : ∃ k, n' = k + 1 := ⟨n' - 1, by omega⟩
  have hg3 : GmX μ3 G s (μ3.1 25 2) := by rw [c4.2]; exact c4.gm hg2
  have ie := into_end hG
  have cp : cap (into G (Dk G G.m) s 0) = into G (Dk G G.m) s 0 := by unfold cap; rw [if_neg ie]
  have keep : ∀ ρ : Mem, (∀ t, ρ.2 28 t = μ3.2 28 t) → ρ.1 27 = μ3.1 27 → ρ.1 26 = μ3.1 26 → Rt_B ρ G G.m := by
    intro ρ k1 k2 k3
    refine ⟨fun t ht => ?_, fun j hj => ?_⟩
    · rw [k1, k2]; exact c3.1 t ht
    · rw [k3]; exact c3.2 j hj
  have F4 : RfF_B μ3 (wi μ3 25 8 (iI (into G (Dk G G.m) s 0))) := RfF_B.wi (by omega) (by omega) (by omega)
  have r4 : Rt_B (wi μ3 25 8 (iI (into G (Dk G G.m) s 0))) G G.m := keep _ (fun _ => rfl) (wi_o (by omega)) (wi_o (by omega))
  have F6 : RfF_B μ3 (wi (wl (wi μ3 25 8 (iI (into G (Dk G G.m) s 0))) 25 9 (lN (wIn G (Dk G G.m) (Wk G G.m) s 0))) 25 7 0) := (F4.tr (RfF_B.wl (by omega) (by omega))).tr (RfF_B.wi (by omega) (by omega) (by omega))
  have r6 : Rt_B (wi (wl (wi μ3 25 8 (iI (into G (Dk G G.m) s 0))) 25 9 (lN (wIn G (Dk G G.m) (Wk G G.m) s 0))) 25 7 0) G G.m := by
    refine keep _ (fun t => ?_) ?_ ?_
    · rw [wi_2, wl_g, if_neg (by omega)]; rfl
    · rw [wi_o (by omega), wl_1, wi_o (by omega)]
    · rw [wi_o (by omega), wl_1, wi_o (by omega)]
  obtain ⟨μ', d1, d2, d3, d4, d5, d6, d7, d8⟩ := tr_B (chd := μ3.1 25 2) hG h4 24 s 0 0 n' _ hs (by omega) (Nat.le_refl _) (by omega) (by omega) ie (F6.gm hg3) r6 (by rw [wi_g, if_pos ⟨rfl, rfl⟩, nI_0])
  rw [Nat.zero_add] at d2 d3
  refine ⟨μ', ?_, ⟨d2, ?_, ?_, d3, fun j k h => by rw [← d4 j k h, Nat.zero_add]⟩, (F.tr c4).tr (F6.tr d8)⟩
  · unfold f_RouteB_find f_Arrays_fill_AJJ_V_c28
    rw [a1, cl_s]
    rw [show f_RouteB_arrive n μ1 0 0 0 1 = some μ2 from b1, cl_s]
    rw [show (0 : Int32) = nI 0 from rfl, c2, ← d1]
    show cl (f_Lattice_count n' μ3) (fun v1 => (if v1 ≤ nI G.m then _ else _)) = _
    unfold f_Lattice_count f_Lattice_draftSize f_Draft_size
    rw [cl_s, hg3.2.1, if_pos (nI_le (Nat.le_refl _) (by omega)), hg3.1, cl_s, cl_s]
    have k1 := costI_B (n := n') hG h4 (Nat.le_refl _) hg3 c3.1 hs (show 0 < 8 by omega) (by omega)
    rw [nI_0, cp] at k1
    have k2 := waysI_B (n := n') hG h4 (Nat.le_refl _) (F4.gm hg3) r4.1 hs (show 0 < 8 by omega) (by omega)
    rw [nI_0, cp] at k2
    rw [k1, cl_s, bd_e, wi_g, if_pos ⟨rfl, rfl⟩, k2, cl_s, bd_e]
    unfold f_RouteB_trace
    rw [bd_e, show (0 : Int32) = nI 0 from rfl]
    cases f_RouteB_trace_12 n' _ (nI s) (nI 0) (nI 0) with
    | none => rfl
    | some x => rfl
  · rw [d6, wi_g, if_neg (by omega), wl_1, wi_g, if_pos ⟨rfl, rfl⟩]
  · rw [d7, wi_2, wl_g, if_pos ⟨rfl, rfl⟩]
