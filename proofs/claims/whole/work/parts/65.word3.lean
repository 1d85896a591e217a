/-! PURE: the dictionary behind word -/
theorem up_s {f : Nat → Int32} {k : Nat} {x : Int32} : upd f k x k = x := by unfold upd; rw [if_pos rfl]
theorem up_n {f : Nat → Int32} {k j : Nat} {x : Int32} (h : j ≠ k) : upd f k x j = f j := by unfold upd; rw [if_neg h]
theorem ul_s {f : Nat → Int64} {k : Nat} {x : Int64} : vp_updL f k x k = x := by unfold vp_updL; rw [if_pos rfl]
theorem ul_n {f : Nat → Int64} {k j : Nat} {x : Int64} (h : j ≠ k) : vp_updL f k x j = f j := by unfold vp_updL; rw [if_neg h]
theorem LxP.word {μ ν ν' : Mem} {ne s : Nat} {le : Nat → Nat} {sf : Nat → Nat → Nat} {c : Nat → Nat} {a1 a2 a3 a4 : Int32} (hx : LxP μ ν ne le sf) (ok : wordOK s ne (cnt (fun e => decide (tv (sf e) (le e) = tv c s)) ne) a1 a2 a3 a4) (hc : ∀ j, j < s → 1 ≤ c j ∧ c j ≤ 255) (hw : WmD ν ν' ne s 0 c a1 a2 a3 a4) :
    LxP (wordX μ ne s (tv c s) a1 a2 a3 a4) ν' (ne + 1) (fun e => if e = ne then s else le e) (fun e => if e = ne then c else sf e) := by
  obtain ⟨g1, g2, g3, g4, g5, g6, g7, g8⟩ := ok
  obtain ⟨w1, w2, w3, w4, w5, w6, w7, w8, w9⟩ := hw
  have m5 : (wordX μ ne s (tv c s) a1 a2 a3 a4).1 5 = upd (μ.1 5) ne (nI s) := rfl
  have m6 : (wordX μ ne s (tv c s) a1 a2 a3 a4).1 6 = upd (μ.1 6) ne a1 := rfl
  have m7 : (wordX μ ne s (tv c s) a1 a2 a3 a4).1 7 = upd (μ.1 7) ne a2 := rfl
  have m8 : (wordX μ ne s (tv c s) a1 a2 a3 a4).1 8 = upd (μ.1 8) ne a3 := rfl
  have m9 : (wordX μ ne s (tv c s) a1 a2 a3 a4).1 9 = upd (μ.1 9) ne a4 := rfl
  have m4 : (wordX μ ne s (tv c s) a1 a2 a3 a4).2 4 = vp_updL (μ.2 4) ne (lN (tv c s)) := rfl
  have m36 : (wordX μ ne s (tv c s) a1 a2 a3 a4).1 3 6 = nI ne + 1 := rfl
  refine ⟨⟨by omega, by rw [m36, nI_1], by rw [w7, up_s]⟩, fun e he => ?_, fun e he => ?_, fun x => ?_⟩
  · rw [m5, m4, w2]
    dsimp only
    by_cases e0 : e = ne
    · subst e0
      rw [if_pos rfl, if_pos rfl, up_s, up_s, ul_s]
      refine ⟨g1, fun k hk => ⟨hc k hk, ?_⟩, rfl, rfl, rfl⟩
      rw [w1, if_pos (by omega), Nat.add_sub_cancel_left]
    · rw [if_neg e0, if_neg e0, up_n e0, up_n e0, ul_n e0]
      obtain ⟨l1, l2, l3, l4, l5⟩ := hx.2.1 e (by omega)
      refine ⟨l1, fun k hk => ⟨(l2 k hk).1, ?_⟩, l3, l4, l5⟩
      rw [w1, if_neg (by omega)]
      exact (l2 k hk).2
  · rw [m6, m7, m8, m9, w3, w4, w5, w6]
    dsimp only
    by_cases e0 : e = ne
    · subst e0
      simp only [up_s, if_true]
      exact ⟨⟨trivial, g2⟩, ⟨trivial, g3⟩, ⟨trivial, g4⟩, trivial, g6⟩
    · rw [if_neg e0, up_n e0, up_n e0, up_n e0, up_n e0, up_n e0, up_n e0, up_n e0, up_n e0]
      exact hx.2.2.1 e (by omega)
  · have e1 : cnt (fun e => decide (tv (if e = ne then c else sf e) (if e = ne then s else le e) = x)) ne = cnt (fun e => decide (tv (sf e) (le e) = x)) ne := by
      refine cnt_eq ne (fun d hd => ?_)
      have e0 : ¬ d = ne := by omega
      simp only [e0, if_false]
    show cnt (fun e => decide (tv (if e = ne then c else sf e) (if e = ne then s else le e) = x)) ne + (if decide (tv (if ne = ne then c else sf ne) (if ne = ne then s else le ne) = x) = true then 1 else 0) ≤ 3
    rw [e1]
    simp only [if_true, decide_eq_true_eq]
    by_cases hxx : tv c s = x
    · rw [if_pos hxx]
      subst hxx
      omega
    · rw [if_neg hxx]
      have := hx.2.2.2 x
      omega
