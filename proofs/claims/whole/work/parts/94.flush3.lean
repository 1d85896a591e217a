/-! PURE: flush as a step of both sides -/
theorem cnt_p {p : Nat → Bool} {d : Nat} (h : p d = true) : ∀ n, d < n → 1 ≤ cnt p n := by
  intro n
  induction n with
  | zero => intro hd; omega
  | succ n ih =>
    intro hd
    show 1 ≤ cnt p n + (if p n = true then 1 else 0)
    by_cases e : d = n
    · subst e; rw [if_pos h]; omega
    · have := ih (by omega); omega
theorem cnt_z {w c : Nat} (hw : w < 2 ^ c) : cnt w.testBit c = 0 ↔ w = 0 := by
  constructor
  · intro h
    by_cases e : w = 0
    · exact e
    · obtain ⟨d, hd⟩ := Nat.exists_testBit_of_ne_zero e
      have hdc : d < c := by
        by_cases q : d < c
        · exact q
        · rw [tb_hi hw (by omega)] at hd; cases hd
      have := cnt_p (p := w.testBit) hd c hdc
      omega
  · intro h
    subst h
    have : ∀ n, cnt (Nat.testBit 0) n = 0 := by
      intro n
      induction n with
      | zero => rfl
      | succ n ih =>
        show cnt (Nat.testBit 0) n + (if Nat.testBit 0 n = true then 1 else 0) = 0
        rw [ih, Nat.zero_testBit]; rfl
    exact this c
def FxF (μ μ' : Mem) : Prop := (∀ q, q ≠ 41 → μ'.1 q = μ.1 q) ∧ (∀ q, q ≠ 41 → q ≠ 43 → μ'.2 q = μ.2 q)
theorem st_flush {μ ν : Mem} {δ : Dx} {c k w dp sn : Nat} {z : Nat → Nat} (hS : ShP μ ν c k w dp sn z) (hD : DJ δ ν c) : ∃ (r : Int32) (μ' ν' : Mem), f_X_flush 300 δ μ = some (r, μ') ∧ f_Mo_flush 300 ν = some (r, ν') ∧ (∃ k' z', ShP μ' ν' c k' 0 dp sn z') ∧ FxF μ μ' ∧ FsF ν ν' := by
  obtain ⟨⟨hc, hk, hw, hdp, hsn, hz⟩, ⟨x1, x2, x3, x4, x5, x6⟩, ⟨m1, m2, m3⟩, hs, hd⟩ := id hS
  have hSg : Sg ν c k z := hs
  have w64 := lt64 hw hc
  obtain ⟨n1, ν1, a0, a1, a2, a3, a4, a5⟩ := fl6_m (w := w) hc (fun d hd => (hD.pn hd).elim fun q h => h.2.2) m1 m2 c 0 300 ν (by omega) (by omega) (FsF.rf ν) m2 (fun q hq => by rw [if_neg (by omega)]; exact (m3 q hq).1) (fun q => by rw [if_neg (by omega)])
  obtain ⟨n1, rfl⟩ : ∃ k, n1 = k + 1 := ⟨n1 - 1, by omega⟩
  have a1' : f_Mo_flush 300 ν = f_Mo_flush_6 (n1 + 1) ν1 (nI (smB (pnM ν) w c)) (nI (cnt w.testBit c)) (nI c) := a1
  have h50 : ν1.1 0 50 = nI c := by rw [a2.2.1 50 (by omega)]; exact m1
  have hcl := cnt_le w.testBit c
  have st : f_Mo_flush 300 ν = (if nI (cnt w.testBit c) = 0 then (some ((-1 : Int32), ν1)) else (bd (wi ν1 0 51 ((ν1.1 0 51) + (1 : Int32))) (fun μ1 => (if (4 : Int32) ≤ (μ1.1 0 51) then (f_Mo_flush_89 n1 μ1 (nI (smB (pnM ν) w c)) (0 : Int32) (1 : Int32)) else (some (nI (smB (pnM ν) w c), μ1)))))) := by
    rw [a1']
    show (if (ν1.1 0 50) ≤ nI c then _ else _) = _
    rw [h50, if_pos (nI_le (Nat.le_refl _) (by omega))]
  rw [st]
  unfold f_X_flush f_Shelf_storeWaiting
  rw [x3]
  have N36 : ∀ q, q < 40 → ν1.1 36 q = bz ((0 : Nat).testBit q) := by
    intro q hq
    rw [a4 q hq, Nat.zero_testBit]
    by_cases e : q < c
    · rw [if_pos e]; rfl
    · rw [if_neg e, tb_hi hw (by omega)]
  have n00 : ∀ d, (0 : Nat).testBit d = true → dp.testBit d = false ∧ ∀ i, i < k → (z i).testBit d = false := fun d hh => by rw [Nat.zero_testBit] at hh; cases hh
  by_cases c0 : w = 0
  · have cz := (cnt_z hw).mpr c0
    rw [if_pos ((lcZ w64).mpr c0), cl2_s, cz, if_pos (by decide)]
    refine ⟨-1, μ, ν1, rfl, rfl, ⟨k, z, ⟨hc, hk, Nat.two_pow_pos c, hdp, hsn, hz⟩, ⟨x1, x2, by rw [x3, c0], x4, x5, x6⟩, ⟨h50, a3, fun q hq => ⟨N36 q hq, ?_, ?_⟩⟩, fun q hq => ?_, n00⟩, ⟨fun _ _ => rfl, fun _ _ _ => rfl⟩, a2⟩
    · rw [a2.1 37 (by omega) (by omega) (by omega)]; exact (m3 q hq).2.1
    · rw [a2.1 39 (by omega) (by omega) (by omega)]; exact (m3 q hq).2.2
    · rw [a5 q, c0, if_neg (fun h => by rw [Nat.zero_testBit] at h; cases h.2)]
      exact hs q hq
  · have cz : cnt w.testBit c ≠ 0 := fun h => c0 ((cnt_z hw).mp h)
    rw [if_neg (fun h => c0 ((lcZ w64).mp h)), x2, if_pos (by rw [show (4 : Int32) = nI 4 from rfl]; exact nI_lt (by omega) (by omega)), pofv_x hc x1 hD w64 (by omega), cl_s, gd_i (by rw [nI_toInt (by omega)]; omega), nI_clamp (by omega), bd_e, wl_1, x2, bd_e, nI_1, bd_e, if_neg (fun h => cz ((nI_z (by omega)).mp h)), a3, nI_1, bd_e]
    have SG : Sg (wi ν1 0 51 (nI (k + 1))) c (k + 1) (fun i => if i = k then w else z i) := hSg.store hk (fun d h i hi => (hd d h).2 i hi) (fun q => by rw [wi_o (by omega)]; exact a5 q)
    have F2 : FsF ν (wi ν1 0 51 (nI (k + 1))) := a2.tr (FsF.w (by omega))
    have Z43 : ∀ i, i < k + 1 → (wl (wi (wl μ 43 k (lN w)) 41 6 (nI (k + 1))) 41 2 0).2 43 i = lN (if i = k then w else z i) := by
      intro i hi
      rw [wl_o (by omega), wi_2, wl_g]
      by_cases q : i = k
      · rw [if_pos ⟨rfl, q⟩, if_pos q]
      · rw [if_neg (by omega), if_neg q]; exact x6 i (by omega)
    have Zc : ∀ i, i < k + 1 → (if i = k then w else z i) < 2 ^ c := by
      intro i hi
      by_cases q : i = k
      · rw [if_pos q]; exact hw
      · rw [if_neg q]; exact hz i (by omega)
    have y6 : (wl (wi (wl μ 43 k (lN w)) 41 6 (nI (k + 1))) 41 2 0).1 41 6 = nI (k + 1) := by rw [wl_1, wi_g, if_pos ⟨rfl, rfl⟩]
    have y1 : (wl (wi (wl μ 43 k (lN w)) 41 6 (nI (k + 1))) 41 2 0).1 41 1 = nI c := by rw [wl_1, wi_g, if_neg (by omega)]; exact x1
    have y2 : (wl (wi (wl μ 43 k (lN w)) 41 6 (nI (k + 1))) 41 2 0).2 41 2 = lN 0 := by rw [wl_g, if_pos ⟨rfl, rfl⟩]; rfl
    have y3 : (wl (wi (wl μ 43 k (lN w)) 41 6 (nI (k + 1))) 41 2 0).2 41 3 = lN dp := by rw [wl_g, if_neg (by omega), wi_2, wl_o (by omega)]; exact x4
    have y4 : (wl (wi (wl μ 43 k (lN w)) 41 6 (nI (k + 1))) 41 2 0).2 41 4 = lN sn := by rw [wl_g, if_neg (by omega), wi_2, wl_o (by omega)]; exact x5
    have FX : FxF μ (wl (wi (wl μ 43 k (lN w)) 41 6 (nI (k + 1))) 41 2 0) := ⟨fun q hq => by rw [wl_1, wi_o hq, wl_1], fun q q1 q2 => by rw [wl_o q1, wi_2, wl_o q2]⟩
    generalize wl (wi (wl μ 43 k (lN w)) 41 6 (nI (k + 1))) 41 2 0 = μ4 at *
    have n50 : (wi ν1 0 51 (nI (k + 1))).1 0 50 = nI c := by rw [wi_g, if_neg (by omega)]; exact h50
    have n51 : (wi ν1 0 51 (nI (k + 1))).1 0 51 = nI (k + 1) := by rw [wi_g, if_pos ⟨rfl, rfl⟩]
    have n36 : (wi ν1 0 51 (nI (k + 1))).1 36 = ν1.1 36 := wi_o (by omega)
    rw [y6, n51]
    generalize wi ν1 0 51 (nI (k + 1)) = ν2 at *
    have n37 : ∀ q, q < 40 → ν2.1 37 q = bz (dp.testBit q) := fun q hq => by rw [F2.1 37 (by omega) (by omega) (by omega)]; exact (m3 q hq).2.1
    have n39 : ∀ q, q < 40 → ν2.1 39 q = bz (sn.testBit q) := fun q hq => by rw [F2.1 39 (by omega) (by omega) (by omega)]; exact (m3 q hq).2.2
    by_cases c4 : k + 1 < 4
    · rw [if_neg (by rw [show (4 : Int32) = nI 4 from rfl]; exact nI_ge c4 (by omega)), if_neg (by rw [show (4 : Int32) = nI 4 from rfl]; exact nI_ge c4 (by omega)), cl2_s]
      exact ⟨_, μ4, ν2, rfl, rfl, ⟨k + 1, _, ⟨hc, by omega, Nat.two_pow_pos c, hdp, hsn, Zc⟩, ⟨y1, y6, y2, y3, y4, Z43⟩, ⟨n50, n51, fun q hq => ⟨by rw [n36]; exact N36 q hq, n37 q hq, n39 q hq⟩⟩, SG, fun d hh => by rw [Nat.zero_testBit] at hh; cases hh⟩, FX, F2⟩
    · have k3 : k = 3 := by omega
      subst k3
      rw [if_pos (by decide), if_pos (by decide)]
      generalize hzz : (fun i => if i = 3 then w else z i) = zz at *
      have Z43 : ∀ i, i < 4 → μ4.2 43 i = lN (zz i) := by rw [← hzz]; exact Z43
      have Zc : ∀ i, i < 4 → zz i < 2 ^ c := by rw [← hzz]; exact Zc
      have D2 : DJ δ ν2 c := hD.mv (F2.1 35 (by omega) (by omega) (by omega)) (F2.1 34 (by omega) (by omega) (by omega)) (by rw [F2.2.2])
      have pe : pnM ν2 = pnM ν := by funext d; unfold pnM; rw [F2.1 35 (by omega) (by omega) (by omega)]
      have hpx := pair_x (n := 300) hc y6 Z43 Zc (by omega)
      obtain ⟨n2, b0, b1⟩ := pair_m (n := n1) (S := fun i => pc 64 (zz i)) (x1 := nI (smB (pnM ν) w c)) hc n50 (fun i hi => (SG.size hc (Zc i hi) hi).symm) (by omega)
      rw [hpx, cl_s, b1]
      have hB : bstP (fun i => pc 64 (zz i)) (bstP (fun i => pc 64 (zz i)) 0 1) 2 ≤ 2 := bstP_lt (bstP_lt (by omega) (by omega)) (Nat.le_refl _)
      generalize bstP (fun i => pc 64 (zz i)) (bstP (fun i => pc 64 (zz i)) 0 1) 2 = B at *
      have ol : zz B ||| zz (B + 1) < 2 ^ c := Nat.or_lt_two_pow (Zc B (by omega)) (Zc (B + 1) (by omega))
      obtain ⟨M, M1, M2, M3, M4⟩ := andn_b (lt64 ol hc) (lt64 hdp hc)
      have Mc : M < 2 ^ c := Nat.lt_of_le_of_lt M2 ol
      have Mb : ∀ d, M.testBit d = (((zz B).testBit d || (zz (B + 1)).testBit d) && !dp.testBit d) := fun d => by rw [M4 d, Nat.testBit_or]
      obtain ⟨μ7, e1, e2, e3, e4, e5, e6⟩ := mg_x (n := 300) hc D2 hB Zc y6 y1 y3 Z43 M1 M3 (by omega)
      rw [e1, cl2_s, cl2_s]
      have hin : ∀ d, d < c → M.testBit d = inM B (ν2.1 38 d) (dp.testBit d) := by
        intro d hdc
        rw [Mb d]
        unfold inM
        have i1 := (SG d hdc).1 B (by omega)
        have i2 := (SG d hdc).1 (B + 1) (by omega)
        rw [Bool.eq_iff_iff, decide_eq_true_eq, Bool.and_eq_true, Bool.or_eq_true, i1, i2, Bool.not_eq_true']
      obtain ⟨n3, ν3, g0, g1, g2, g3, g4, g5⟩ := mg7_m (M := M) hc (fun d hd => (D2.pn hd).elim fun q h => h.2.2) n50 n37 hin c 0 n2 ν2 (by omega) (by omega) (FsF.rf ν2) rfl (fun q => by rw [if_neg (by omega)]) rfl
      obtain ⟨n3, rfl⟩ : ∃ k, n3 = k + 1 := ⟨n3 - 1, by omega⟩
      have hcM := cnt_le M.testBit c
      have mst : f_Mo_merge n2 ν2 (nI B) = (bd (wi ν3 0 51 ((ν3.1 0 51) - (1 : Int32))) (fun μ1 => (if nI (cnt M.testBit c) = 0 then (f_Mo_merge_154 n3 μ1 (nI B) (nI (smB (pnM ν2) M c)) (0 : Int32)) else (some (nI (smB (pnM ν2) M c), μ1))))) := by
        have : f_Mo_merge n2 ν2 (nI B) = f_Mo_merge_7 (n3 + 1) ν3 (nI B) (nI (smB (pnM ν2) M c)) (nI (cnt M.testBit c)) (nI c) := g1
        rw [this]
        show (if (ν3.1 0 50) ≤ nI c then _ else _) = _
        rw [g2.2.1 50 (by omega), n50, if_pos (nI_le (Nat.le_refl _) (by omega))]
      have W3 : FsF ν3 (wi ν3 0 51 ((ν3.1 0 51) - (1 : Int32))) := FsF.w (by omega)
      have z51 : ν3.1 0 51 - 1 = nI 3 := by rw [g3, n51]; rfl
      have fin : ∃ ν5, f_Mo_merge n2 ν2 (nI B) = some (nI (smB (pnM ν2) M c), ν5) ∧ FsF ν2 ν5 ∧ ν5.1 0 51 = nI (if M = 0 then 2 else 3) ∧ ν5.1 36 = ν2.1 36 ∧ (∀ q, q < c → ν5.1 38 q = if M = 0 then mg2F B (mgF B (ν2.1 38 q) (dp.testBit q)) else mgF B (ν2.1 38 q) (dp.testBit q)) := by
        rw [mst, bd_e, z51]
        have K36 : (wi ν3 0 51 (nI 3)).1 36 = ν2.1 36 := by rw [wi_o (by omega)]; exact g5
        have K38 : ∀ q, (wi ν3 0 51 (nI 3)).1 38 q = ν3.1 38 q := fun q => by rw [wi_o (by omega)]
        have W3 : FsF ν3 (wi ν3 0 51 (nI 3)) := FsF.w (by omega)
        by_cases m0 : M = 0
        · rw [(cnt_z Mc).mpr m0, if_pos (by decide)]
          obtain ⟨ν5, h1, h2, h3, h4, h5⟩ := mg154_m (a := B) (x2 := nI (smB (pnM ν2) M c)) (ν := wi ν3 0 51 (nI 3)) hc (by rw [wi_g, if_neg (by omega), g2.2.1 50 (by omega)]; exact n50) c 0 n3 (wi ν3 0 51 (nI 3)) (by omega) (by omega) (FsF.rf _) rfl (fun q => by rw [if_neg (by omega)]) rfl
          refine ⟨ν5, h1, g2.tr (W3.tr h2), ?_, h5.trans K36, fun q hq => ?_⟩
          · rw [h3, wi_g, if_pos ⟨rfl, rfl⟩, if_pos m0]; rfl
          · rw [h4 q, if_pos hq, if_pos m0, K38, g4 q, if_pos hq]
        · rw [if_neg (fun h => m0 ((cnt_z Mc).mp ((nI_z (by omega)).mp h)))]
          refine ⟨_, rfl, g2.tr W3, ?_, K36, fun q hq => ?_⟩
          · rw [wi_g, if_pos ⟨rfl, rfl⟩, if_neg m0]
          · rw [K38, g4 q, if_pos hq, if_neg m0]
      obtain ⟨ν5, h1, h2, h3, h4, h5⟩ := fin
      rw [h1, cl2_s, pe]
      have F5 := F2.tr h2
      refine ⟨_, μ7, ν5, rfl, rfl, ⟨if M = 0 then 2 else 3, zM zz B M, ⟨hc, ?_, Nat.two_pow_pos c, hdp, hsn, ?_⟩, ⟨?_, e2, ?_, ?_, ?_, e6⟩, ⟨?_, h3, fun q hq => ⟨?_, ?_, ?_⟩⟩, SG.merge hB Mb h5 (fun m0 d => by rw [m0, Nat.zero_testBit]), fun d hh => by rw [Nat.zero_testBit] at hh; cases hh⟩, ⟨fun q hq => (e4 q hq).trans (FX.1 q hq), fun q q1 q2 => (e5 q q2).trans (FX.2 q q1 q2)⟩, F5⟩
      · by_cases m0 : M = 0 <;> simp [m0]
      · intro i hi
        unfold zM
        by_cases q1 : i < B
        · rw [if_pos q1]; exact Zc i (by omega)
        · rw [if_neg q1]
          by_cases m0 : M = 0
          · rw [if_pos m0] at hi ⊢; exact Zc (i + 2) (by omega)
          · rw [if_neg m0] at hi ⊢
            by_cases q2 : i = B
            · rw [if_pos q2]; exact Mc
            · rw [if_neg q2]; exact Zc (i + 1) (by omega)
      · rw [e3 1 (by omega)]; exact y1
      · rw [e5 41 (by omega)]; exact y2
      · rw [e5 41 (by omega)]; exact y3
      · rw [e5 41 (by omega)]; exact y4
      · rw [h2.2.1 50 (by omega)]; exact n50
      · rw [h4, n36]; exact N36 q hq
      · rw [h2.1 37 (by omega) (by omega) (by omega)]; exact n37 q hq
      · rw [h2.1 39 (by omega) (by omega) (by omega)]; exact n39 q hq
