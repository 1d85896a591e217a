/-! PURE: the analysis as a whole, both sides -/
def ctE (μ : Mem) (e : Nat) : Int32 := if e = 40 then 0 else μ.1 8 e
def ctL (μ : Mem) (s : Nat) (c : Nat → Nat) (ne : Nat) (le : Nat → Nat) (sf : Nat → Nat → Nat) (k : Nat) : Int32 := ctE μ (enL μ s c ne le sf k)
def PX (μ : Mem) (s : Nat) (c : Nat → Nat) (ne : Nat) (le : Nat → Nat) (sf : Nat → Nat → Nat) (chd : Bool) : List Nat := trc (GX μ s c ne le sf chd) 24 s 0
def TX (μ : Mem) (s : Nat) (c : Nat → Nat) (ne : Nat) (le : Nat → Nat) (sf : Nat → Nat → Nat) : List Tk := acT (GX μ s c ne le sf true) (enL μ s c ne le sf) (ctL μ s c ne le sf) (PX μ s c ne le sf true) 0
theorem AX_cong {μ μ' : Mem} (h : ∀ q, 5 < q → q < 15 → μ'.1 q = μ.1 q) (s : Nat) (c : Nat → Nat) (ne : Nat) (le : Nat → Nat) (sf : Nat → Nat → Nat) : LX μ' s c ne le sf = LX μ s c ne le sf ∧ (∀ chd, GX μ' s c ne le sf chd = GX μ s c ne le sf chd) ∧ enL μ' s c ne le sf = enL μ s c ne le sf ∧ ctL μ' s c ne le sf = ctL μ s c ne le sf := by
  have e1 : flN μ' = flN μ := by funext k; unfold flN; rw [h 11 (by omega) (by omega)]
  have e2 : ptN μ' c = ptN μ c := by funext d; unfold ptN ptX; rw [h 12 (by omega) (by omega), h 6 (by omega) (by omega)]
  have e3 : ∀ chd, prN μ' c chd = prN μ c chd := by intro chd; funext d; unfold prN ctX crX; rw [h 13 (by omega) (by omega), h 7 (by omega) (by omega), h 8 (by omega) (by omega), h 10 (by omega) (by omega)]
  have e4 : lkN μ' = lkN μ := by funext a p; unfold lkN; rw [h 14 (by omega) (by omega)]
  have e5 : LX μ' s c ne le sf = LX μ s c ne le sf := by unfold LX; rw [e1]
  have e6 : enL μ' s c ne le sf = enL μ s c ne le sf := by funext k; unfold enL; rw [e5]
  refine ⟨e5, fun chd => ?_, e6, ?_⟩
  · unfold GX; rw [e5, e2, e3, e4]
  · funext k; unfold ctL ctE; rw [e6, h 8 (by omega) (by omega)]
/-- the class's analysis of what cells 1 to 14 hold -/
def AnX (μ : Mem) (s : Nat) (c : Nat → Nat) (ne : Nat) (le : Nat → Nat) (sf : Nat → Nat → Nat) : Prop :=
  ArrX μ c (LX μ s c ne le sf) ∧ RtE_B μ (GX μ s c ne le sf true) s ∧ TkY μ (TX μ s c ne le sf) ∧ CpX μ (TX μ s c ne le sf) (GX μ s c ne le sf false) (ctL μ s c ne le sf) (PX μ s c ne le sf false)
def AnF (μ μ' : Mem) : Prop := (∀ q, q ≠ 0 → q < 18 ∨ 40 < q → μ'.1 q = μ.1 q) ∧ (∀ i, i ≠ 10 → μ'.1 0 i = μ.1 0 i) ∧ (∀ q, q < 25 ∨ 34 < q → μ'.2 q = μ.2 q) ∧ μ'.1 25 2 = μ.1 25 2 ∧ μ'.1 30 2 = μ.1 30 2
theorem AnF.rf (μ : Mem) : AnF μ μ := ⟨fun _ _ _ => rfl, fun _ _ => rfl, fun _ _ => rfl, rfl, rfl⟩
theorem AJ.en {μ ν : Mem} {s ne nf : Nat} {c le : Nat → Nat} {sf : Nat → Nat → Nat} (h : AJ μ ν s c ne le sf nf) {k : Nat} (hk : k < (LX μ s c ne le sf).length) : (enL μ s c ne le sf k < ne ∨ enL μ s c ne le sf k = 40) ∧ (enL μ s c ne le sf k < 40 ∧ ctL μ s c ne le sf k = μ.1 8 (enL μ s c ne le sf k) ∧ μ.1 8 (enL μ s c ne le sf k) = ν.1 6 (enL μ s c ne le sf k) ∨ enL μ s c ne le sf k = 40 ∧ ctL μ s c ne le sf k = 0) := by
  obtain ⟨x, h1, h2⟩ := get_ex hk
  have o := (h.ok x h2).2.2.2.2
  have e : enL μ s c ne le sf k = x.2.2 := by unfold enL; rw [getD_some h1]
  have hne := h.2.2.1.1.1
  refine ⟨by rw [e]; exact o, ?_⟩
  unfold ctL ctE
  rw [e]
  rcases o with o | o
  · rw [if_neg (by omega)]
    exact Or.inl ⟨by omega, rfl, (h.2.2.1.2.2.1 x.2.2 o).2.2.1.1⟩
  · rw [if_pos o]; exact Or.inr ⟨o, rfl⟩
theorem AJ.path {μ ν : Mem} {s ne nf : Nat} {c le : Nat → Nat} {sf : Nat → Nat → Nat} (h : AJ μ ν s c ne le sf nf) (chd : Bool) : pend (GX μ s c ne le sf chd) (PX μ s c ne le sf chd)[0]? = s ∧ ∀ (j k : Nat), (PX μ s c ne le sf chd)[j]? = some k → k < (GX μ s c ne le sf chd).m ∧ (GX μ s c ne le sf chd).b k = pend (GX μ s c ne le sf chd) (PX μ s c ne le sf chd)[j + 1]? := trc_path (h.lt chd) 24 s 0 h.1.1 (Nat.le_refl _) (by omega) (into_end (h.lt chd))
theorem AJ.tx {μ ν : Mem} {s ne nf : Nat} {c le : Nat → Nat} {sf : Nat → Nat → Nat} (h : AJ μ ν s c ne le sf nf) : cgT 0 s (TX μ s c ne le sf) := by
  have := acT_cg (en := enL μ s c ne le sf) (ct := ctL μ s c ne le sf) (h.lt true) (h.path true).2 (PX μ s c ne le sf true).length 0 (by omega)
  rw [(h.path true).1] at this
  exact this
theorem an_x {μ ν : Mem} {s ne nf n : Nat} {c le : Nat → Nat} {sf : Nat → Nat → Nat} (h : AJ μ ν s c ne le sf nf) (hb : μ.1 25 2 = 1) (hp : μ.1 30 2 = 0) (hca : ¬ μ.1 0 10 = 0 → AnX μ s c ne le sf) (hn : 2000 < n) : ∃ μ', f_X_analyse n μ = some μ' ∧ AnX μ' s c ne le sf ∧ AnF μ μ' ∧ ¬ μ'.1 0 10 = 0 := by
  unfold f_X_analyse
  by_cases c0 : μ.1 0 10 = 0
  · rw [if_pos c0]
    obtain ⟨μ1, a1, a2, a3, a4⟩ := lat_x (n := n) h (by omega)
    have hgB : GmX μ1 (GX μ s c ne le sf true) s (bz true) := h.gmx a4 a2 a3 true
    have hgP : GmX μ1 (GX μ s c ne le sf false) s (bz false) := h.gmx a4 a2 a3 false
    obtain ⟨μ2, b1, b2, b3⟩ := find_B (n := n) (h.lt true) (h.h4 true) (by rw [a4.1 25 (by omega), hb]; exact hgB) (by omega)
    have h30 : μ2.1 30 2 = 0 := by rw [(b3.1 30 (by omega)).1, a4.1 30 (by omega), hp]
    obtain ⟨μ3, d1, d2, d3⟩ := find_P (n := n) (h.lt false) (h.h4 false) (by rw [h30]; exact b3.gm hgP) (by omega)
    have F3 : ∀ q, q < 25 → μ3.1 q = μ1.1 q := fun q hq => ((d3.1 q (by omega)).1).trans (b3.1 q (by omega)).1
    have hgB3 : GmX μ3 (GX μ s c ne le sf true) s (bz true) := hgB.mv F3
    have hgP3 : GmX μ3 (GX μ s c ne le sf false) s (bz false) := hgP.mv F3
    have hE : ∀ k, k < (LX μ s c ne le sf).length → μ3.1 24 k = enX (enL μ s c ne le sf k) ∧ (enL μ s c ne le sf k < 40 ∧ ctL μ s c ne le sf k = μ3.1 8 (enL μ s c ne le sf k) ∨ enL μ s c ne le sf k = 40 ∧ ctL μ s c ne le sf k = 0) := by
      intro k hk
      obtain ⟨x, h1, h2⟩ := get_ex hk
      have e : enL μ s c ne le sf k = x.2.2 := by unfold enL; rw [getD_some h1]
      refine ⟨?_, ?_⟩
      · rw [F3 24 (by omega), (a2.2 k x h1).2.2.2.2, e]
      · rw [F3 8 (by omega), a4.1 8 (by omega)]
        rcases (h.en hk).2 with ⟨q1, q2, _⟩ | q
        · exact Or.inl ⟨q1, q2⟩
        · exact Or.inr q
    have W0 : TkF μ3 (wi μ3 35 7 0) := TkF.wi (by omega) (by omega)
    have hlB : (PX μ s c ne le sf true).length ≤ 24 := b2.1
    have hlP : (PX μ s c ne le sf false).length ≤ 24 := d2.1
    have pB : PtX μ3 (PX μ s c ne le sf true) := by
      refine ⟨hlB, ?_, ?_⟩
      · rw [(d3.1 25 (by omega)).1]; exact b2.2.2.2.1
      · rw [(d3.1 29 (by omega)).1]; exact b2.2.2.2.2
    have pP : PpX μ3 (PX μ s c ne le sf false) := ⟨hlP, d2.2.2.2.1, d2.2.2.2.2⟩
    obtain ⟨n4, μ4, e0, e1, e2, e3⟩ := tokB_x (chd := bz true) (en := enL μ s c ne le sf) (ct := ctL μ s c ne le sf) (h.lt true) (h.path true).2 (PX μ s c ne le sf true).length n (wi μ3 35 7 0) (Nat.le_refl _) (by omega) (W0.ge ⟨hgB3, hE⟩) (W0.pt pB) (by
      rw [acT_z (Nat.le_refl _)]
      exact ⟨by rw [wi_g, if_pos ⟨rfl, rfl⟩]; exact nI_0.symm, fun i t ht => by cases ht⟩)
    have F4 := W0.tr e3
    have cg := h.tx
    obtain ⟨μ5, g1, g2, g3, g4⟩ := comp_x (chd := bz false) (en := enL μ s c ne le sf) (ct := ctL μ s c ne le sf) (P := PX μ s c ne le sf false) (h.lt false) (fun j k hk => ((h.path false).2 j k hk).1) cg h.1.1 (PX μ s c ne le sf false).length n4 μ4 (Nat.le_refl _) (by omega) (F4.ge ⟨hgP3, hE⟩) (F4.pp pP) e2.y (by
      intro i hi
      obtain ⟨x, h1, _⟩ := get_ex hi
      refine Or.inl ⟨(e2.2 i x h1).2.2.2.2, fun k hk => ?_⟩
      rw [List.drop_length] at hk
      cases hk)
    have F5 := F4.tr g4
    have FA : ∀ q, q ≠ 0 → q < 18 ∨ 40 < q → (wi μ5 0 10 1).1 q = μ.1 q := by
      intro q h0 hq
      rw [wi_o h0, F5.1 q (by omega), (d3.1 q (by omega)).1, (b3.1 q (by omega)).1, a4.1 q (by omega)]
    obtain ⟨x1, x2, x3, x4⟩ := AX_cong (μ := μ) (μ' := wi μ5 0 10 1) (fun q h1 h2 => FA q (by omega) (by omega)) s c ne le sf
    have xP : ∀ chd, PX (wi μ5 0 10 1) s c ne le sf chd = PX μ s c ne le sf chd := fun chd => by unfold PX; rw [x2]
    have xT : TX (wi μ5 0 10 1) s c ne le sf = TX μ s c ne le sf := by unfold TX; rw [x2, x3, x4, xP]
    have G5 : ∀ q, 18 ≤ q → q < 25 → (wi μ5 0 10 1).1 q = μ1.1 q := fun q h1 h2 => by rw [wi_o (by omega), F5.1 q (by omega), F3 q h2]
    have G6 : ∀ q, 35 ≤ q → q ≤ 40 → (wi μ5 0 10 1).1 q = μ5.1 q := fun q h1 h2 => wi_o (by omega)
    refine ⟨wi μ5 0 10 1, ?_, ⟨?_, ?_, ?_, ?_⟩, ⟨FA, ?_, ?_, ?_, ?_⟩, ?_⟩
    · rw [a1, cl_s, b1, cl_s, d1, cl_s]
      unfold f_TokenRow_rebuild
      rw [bd_e]
      rw [Nat.sub_self, nI_0] at e1
      rw [Nat.sub_self, nI_0] at g1
      rw [e1, g1, cl_s, bd_e]
    · rw [x1]
      refine ⟨by rw [G5 18 (by omega) (by omega)]; exact a2.1, fun i d hd => ?_⟩
      obtain ⟨y1, y2, y3, y4, y5⟩ := a2.2 i d hd
      rw [G5 19 (by omega) (by omega), G5 20 (by omega) (by omega), G5 21 (by omega) (by omega), G5 22 (by omega) (by omega), G5 24 (by omega) (by omega)]
      obtain ⟨z1, z2⟩ := a4.pt c d
      have k1 : ptX (wi μ5 0 10 1) c d = ptX μ c d := by unfold ptX; rw [FA 12 (by omega) (by omega), FA 6 (by omega) (by omega)]
      have k2 : ctX (wi μ5 0 10 1) c d = ctX μ c d := by unfold ctX; rw [FA 13 (by omega) (by omega), FA 7 (by omega) (by omega)]
      rw [k1, k2, ← z1, ← z2]
      exact ⟨y1, y2, y3, y4, y5⟩
    · rw [x2]
      have k25 : (wi μ5 0 10 1).1 25 = μ2.1 25 := by rw [wi_o (by omega), F5.1 25 (by omega), (d3.1 25 (by omega)).1]
      have k29 : (wi μ5 0 10 1).1 29 = μ2.1 29 := by rw [wi_o (by omega), F5.1 29 (by omega), (d3.1 29 (by omega)).1]
      have m25 : (wi μ5 0 10 1).2 25 = μ2.2 25 := by rw [wi_2, F5.2, (d3.1 25 (by omega)).2]
      unfold RtE_B
      rw [k25, k29, m25]
      exact b2
    · rw [xT]
      unfold TkY
      rw [G6 35 (by omega) (by omega), G6 36 (by omega) (by omega), G6 37 (by omega) (by omega), G6 38 (by omega) (by omega), G6 39 (by omega) (by omega)]
      exact g2
    · rw [xT, x2, x4, xP]
      unfold CpX
      rw [G6 40 (by omega) (by omega)]
      exact g3
    · intro i hi
      rw [wi_g, if_neg (by omega), F5.1 0 (by omega), (d3.1 0 (by omega)).1, (b3.1 0 (by omega)).1, a4.1 0 (by omega)]
    · intro q hq
      rw [wi_2, F5.2, (d3.1 q (by omega)).2, (b3.1 q (by omega)).2, a4.2]
    · rw [wi_o (by omega), F5.1 25 (by omega), (d3.1 25 (by omega)).1, b3.2, a4.1 25 (by omega)]
    · rw [wi_o (by omega), F5.1 30 (by omega), d3.2, (b3.1 30 (by omega)).1, a4.1 30 (by omega)]
    · rw [wi_g, if_pos ⟨rfl, rfl⟩]; decide
  · rw [if_neg c0]
    exact ⟨μ, rfl, hca c0, AnF.rf μ, c0⟩
/-! the reference -/
theorem trc_len {G : Lt} : ∀ f e p, (trc G f e p).length ≤ f := by
  intro f
  induction f with
  | zero => intro e p; exact Nat.le_refl 0
  | succ f ih =>
    intro e p
    have et : trc G (f + 1) e p = if e = 0 then [] else lsI G e p :: trc G f (G.b (lsI G e p)) (G.p (lsI G e p)) := rfl
    rw [et]
    by_cases c : e = 0
    · rw [if_pos c]; exact Nat.zero_le _
    · rw [if_neg c, List.length_cons]
      have := ih (G.b (lsI G e p)) (G.p (lsI G e p))
      omega
def AmF (ν ν' : Mem) : Prop := (∀ q, q ≠ 0 → q < 14 ∨ 30 < q → ν'.1 q = ν.1 q) ∧ (∀ i, i < 23 ∨ 42 ≤ i → ν'.1 0 i = ν.1 0 i) ∧ (∀ q, q ≠ 20 → ν'.2 q = ν.2 q)
theorem AmF.rf (ν : Mem) : AmF ν ν := ⟨fun _ _ _ => rfl, fun _ _ => rfl, fun _ _ => rfl⟩
theorem AmF.tr {ν ν1 ν2 : Mem} (h1 : AmF ν ν1) (h2 : AmF ν1 ν2) : AmF ν ν2 := ⟨fun q h0 hq => (h2.1 q h0 hq).trans (h1.1 q h0 hq), fun i hi => (h2.2.1 i hi).trans (h1.2.1 i hi), fun q hq => (h2.2.2 q hq).trans (h1.2.2 q hq)⟩
theorem MatF.am {ν ν' : Mem} (h : MatF ν ν') : AmF ν ν' := ⟨fun q h0 hq => h.1 q h0 (by omega), fun i hi => h.2.1 i (by omega), fun q _ => by rw [h.2.2]⟩
theorem WmF.am {ν ν' : Mem} (h : WmF ν ν') : AmF ν ν' := ⟨fun q h0 hq => h.1 q h0 (by omega), fun i hi => h.2.1 i (by omega), h.2.2⟩
theorem CtF.am {ν ν' : Mem} (h : CtF ν ν') : AmF ν ν' := ⟨fun q h0 hq => h.1 q h0 (by omega), fun i hi => h.2.1 i (by omega), fun q _ => by rw [h.2.2]⟩
theorem PlF.am {ν ν' : Mem} (h : PlF ν ν') : AmF ν ν' := ⟨fun q h0 hq => h.1 q (by omega), fun i hi => by rw [h.1 0 (by omega)], fun q _ => by rw [h.2]⟩
theorem AmF.wi {ν : Mem} {j : Nat} {v : Int32} (h1 : 23 ≤ j) (h2 : j < 42) : AmF ν (wi ν 0 j v) := ⟨fun q h0 _ => wi_o h0, fun i hi => by rw [wi_g, if_neg (by omega)], fun _ _ => rfl⟩
theorem AJ.mvm {μ ν ν' : Mem} {s ne nf : Nat} {c le : Nat → Nat} {sf : Nat → Nat → Nat} (h : AJ μ ν s c ne le sf nf) (f : AmF ν ν') : AJ μ ν' s c ne le sf nf := by
  unfold AJ LxP
  rw [f.2.1 1 (by omega), f.2.1 8 (by omega), f.2.1 13 (by omega), f.2.1 14 (by omega), f.2.1 17 (by omega), f.1 1 (by omega) (by omega), f.1 2 (by omega) (by omega), f.1 3 (by omega) (by omega), f.1 4 (by omega) (by omega), f.1 5 (by omega) (by omega), f.1 6 (by omega) (by omega), f.1 7 (by omega) (by omega), f.1 8 (by omega) (by omega), f.1 9 (by omega) (by omega), f.1 10 (by omega) (by omega), f.1 11 (by omega) (by omega), f.1 12 (by omega) (by omega), f.1 13 (by omega) (by omega)]
  exact h
theorem AJ.mvx {μ μ' ν : Mem} {s ne nf : Nat} {c le : Nat → Nat} {sf : Nat → Nat → Nat} (h : AJ μ ν s c ne le sf nf) (f : AnF μ μ') : AJ μ' ν s c ne le sf nf := by
  unfold AJ LxP
  rw [f.1 1 (by omega) (by omega), f.1 2 (by omega) (by omega), f.1 3 (by omega) (by omega), f.1 5 (by omega) (by omega), f.1 6 (by omega) (by omega), f.1 7 (by omega) (by omega), f.1 8 (by omega) (by omega), f.1 9 (by omega) (by omega), f.1 10 (by omega) (by omega), f.1 11 (by omega) (by omega), f.1 12 (by omega) (by omega), f.1 13 (by omega) (by omega), f.1 14 (by omega) (by omega), f.1 15 (by omega) (by omega), f.1 16 (by omega) (by omega), f.1 17 (by omega) (by omega), f.2.2.1 4 (by omega)]
  exact h
theorem cut_m {μ ν : Mem} {s ne nf n : Nat} {c le : Nat → Nat} {sf : Nat → Nat → Nat} (h : AJ μ ν s c ne le sf nf) (hn : 3100 < n) : ∃ ν', f_Mo_cut n ν = some ν' ∧ CrM ν' (GX μ s c ne le sf false) (enL μ s c ne le sf) (ctL μ s c ne le sf) (PX μ s c ne le sf false) (TX μ s c ne le sf) ∧ AmF ν ν' := by
  obtain ⟨νa, ν1, a1, a2, a3, a4, a5, a6⟩ := wk_m (n := n) h false (by omega)
  have hlB : (PX μ s c ne le sf true).length ≤ 24 := trc_len _ _ _
  have hlP : (PX μ s c ne le sf false).length ≤ 24 := trc_len _ _ _
  have F1 := a2.am.tr a3.am
  have W1 : AmF ν1 (wi ν1 0 32 (ν1.1 0 27)) := AmF.wi (by omega) (by omega)
  have gm1 : GmM (wi ν1 0 32 (ν1.1 0 27)) (GX μ s c ne le sf false) s (enL μ s c ne le sf) := by
    unfold GmM
    rw [wi_g, if_neg (by omega), wi_g, if_neg (by omega), wi_o (by omega), wi_o (by omega), wi_o (by omega), wi_o (by omega), wi_o (by omega), wi_o (by omega)]
    exact a5
  have pt1 : PtM (wi ν1 0 32 (ν1.1 0 27)) (PX μ s c ne le sf false) := by
    unfold PtM
    rw [wi_g, if_neg (by omega), wi_o (by omega)]
    exact ⟨hlP, a6.2.2.1, a6.2.2.2⟩
  obtain ⟨ν2, b1, b2, b3⟩ := plain_m (fun j k hk => ((h.path false).2 j k hk).1) (PX μ s c ne le sf false).length 0 n (wi ν1 0 32 (ν1.1 0 27)) (by omega) (by omega) gm1 pt1 (fun q k hq _ => by omega)
  have F2 := (F1.tr W1).tr b3.am
  have h2 := h.mvm F2
  have p32 : ν2.1 0 32 = nI (PX μ s c ne le sf false).length := by rw [b3.1 0 (by omega), wi_g, if_pos ⟨rfl, rfl⟩]; exact a6.2.2.1
  obtain ⟨νd, ν4, d1, d2, d3, d4, d5, d6⟩ := wk_m (n := n) h2 true (by omega)
  have K : ∀ q, 22 ≤ q → q ≤ 25 → ν4.1 q = ν2.1 q := fun q h1 h2 => by rw [d3.1 q (by omega) (by omega), d2.1 q (by omega) (by omega)]
  have K32 : ν4.1 0 32 = ν2.1 0 32 := by rw [d3.2.1 32 (by omega), d2.2.1 32 (by omega)]
  have F4 := (F2.tr d2.am).tr d3.am
  have ge4 : GeM ν4 (GX μ s c ne le sf true) s (enL μ s c ne le sf) (ctL μ s c ne le sf) := by
    refine ⟨d5, fun k hk => ?_⟩
    rw [F4.1 6 (by omega) (by omega)]
    rcases (h.en hk).2 with ⟨q1, q2, q3⟩ | q
    · exact Or.inl ⟨q1, q2.trans q3⟩
    · exact Or.inr q
  have W5 : CtF ν4 (wi ν4 0 37 0) := CtF.wi (by omega)
  have pt4 : PtM ν4 (PX μ s c ne le sf true) := ⟨hlB, d6.2.2.1, d6.2.2.2⟩
  obtain ⟨ν', e1, e2, e3⟩ := cut21_m (h.lt true) (h.path true).2 (PX μ s c ne le sf true).length n (wi ν4 0 37 0) (Nat.le_refl _) (by omega) (W5.ge ge4) (W5.pt pt4) (by
    rw [acT_z (Nat.le_refl _)]
    exact ⟨by rw [wi_g, if_pos ⟨rfl, rfl⟩]; exact nI_0.symm, fun i t ht => by cases ht⟩)
  have F6 := W5.tr e3
  have Fz := F4.tr F6.am
  refine ⟨ν', ?_, ⟨e2, ⟨hlP, ?_, ?_⟩, ?_⟩, Fz⟩
  · unfold f_Mo_cut f_Mo_plain
    rw [show (0 : Int32) = bz false from rfl, a1, cl_s, bd_e]
    rw [show (nI 0 : Int32) = bz false from rfl] at b1
    rw [b1, cl_s, show (1 : Int32) = bz true from rfl, d1, cl_s, bd_e, bd_e]
    have : (wi ν4 0 37 (bz false)).1 0 27 - bz true = iI (((PX μ s c ne le sf true).length : Int) - 1) := by
      rw [wi_g, if_neg (by omega), d6.2.2.1, show bz true = iI 1 from rfl]
      change nI (PX μ s c ne le sf true).length - iI 1 = _
      rw [← iI_nat (by omega), iI_sub]
    rw [this]
    exact e1
  · rw [F6.2.1 32 (by omega), K32]; exact p32
  · intro j k hk
    rw [F6.1 22 (by omega) (by omega), F6.1 23 (by omega) (by omega), F6.1 24 (by omega) (by omega), F6.1 25 (by omega) (by omega), K 22 (by omega) (by omega), K 23 (by omega) (by omega), K 24 (by omega) (by omega), K 25 (by omega) (by omega)]
    exact b2 j k hk
  · intro j k hk
    have km := ((h.path false).2 j k hk).1
    rw [Fz.1 6 (by omega) (by omega)]
    rcases (h.en km).2 with ⟨q1, q2, q3⟩ | q
    · exact Or.inl ⟨q1, q2.trans q3⟩
    · exact Or.inr q
