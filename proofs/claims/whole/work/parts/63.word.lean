/-! PURE: word on both sides -/
def wordOK (s ne cn : Nat) (a1 a2 a3 a4 : Int32) : Prop := (1 ≤ s ∧ s ≤ 8) ∧ (1 ≤ a1.toInt ∧ a1.toInt ≤ 7) ∧ (-10000 ≤ a2.toInt ∧ a2.toInt ≤ 10000) ∧ cutsOK a3 s ∧ ne < 40 ∧ (-1 ≤ a4.toInt ∧ a4.toInt < ne) ∧ (a3 = 0 ∨ a4.toInt = -1) ∧ cn < 3
def wordX (μ : Mem) (ne s x : Nat) (a1 a2 a3 a4 : Int32) : Mem := wi (wi (wi (wi (wi (wi (wl (wi μ 0 10 0) 4 ne (lN x)) 5 ne (nI s)) 6 ne a1) 7 ne a2) 8 ne a3) 9 ne a4) 3 6 (nI ne + 1)
theorem put_x {μ ν : Mem} {ne s : Nat} {le : Nat → Nat} {sf : Nat → Nat → Nat} {c : Nat → Nat} {a1 a2 a3 a4 : Int32} {n : Nat} (hx : LxP μ ν ne le sf) (hs : s ≤ 8) (hc : ∀ j, j < s → 1 ≤ c j ∧ c j ≤ 255) (hn : 41 < n) :
    f_Lexicon_put n (wi μ 0 10 0) (lN (tv c s)) a1 a2 a3 a4 = if ne < 40 ∧ (-1 ≤ a4.toInt ∧ a4.toInt < ne) ∧ (a3 = 0 ∨ a4.toInt = -1) ∧ cnt (fun e => decide (tv (sf e) (le e) = tv c s)) ne < 3 then some (nI ne, wordX μ ne s (tv c s) a1 a2 a3 a4) else some (-1, wi μ 0 10 0) := by
  have hne := hx.1.1
  have hnei : (nI ne).toInt = ne := nI_toInt (by omega)
  have t64 := tv64 hs (fun k hk => (hc k hk).2)
  have hx' : LxP (wi μ 0 10 0) ν ne le sf := hx
  have hsame := same_x hx' t64 ne 0 n (by omega) (by omega)
  have hsame : f_Lexicon_sameSurfaces_5 (wi μ 0 10 0) n (lN (tv c s)) 0 0 = some (nI (cnt (fun e => decide (tv (sf e) (le e) = tv c s)) ne)) := hsame
  have h36 : (wi μ 0 10 0).1 3 6 = nI ne := hx.1.2.1
  have hcl := cnt_le (fun e => decide (tv (sf e) (le e) = tv c s)) ne
  have h37 : f_Lexicon_put_37 n (wi μ 0 10 0) (lN (tv c s)) a1 a2 a3 a4 = if ne < 40 → cnt (fun e => decide (tv (sf e) (le e) = tv c s)) ne < 3 then (if ne < 40 then some (nI ne, wordX μ ne s (tv c s) a1 a2 a3 a4) else f_Lexicon_put_37 n (wi μ 0 10 0) (lN (tv c s)) a1 a2 a3 a4) else some (-1, wi μ 0 10 0) := by
    by_cases h40 : ne < 40
    · unfold f_Lexicon_put_37 f_Lexicon_sameSurfaces
      rw [hsame, cl_s, h36]
      by_cases h3 : cnt (fun e => decide (tv (sf e) (le e) = tv c s)) ne < 3
      · have hg : ∀ {x : Option (Int32 × Mem)}, gd (inb (nI ne) 40) x = x := gd_i (by rw [hnei]; omega)
        rw [if_pos (show nI (cnt (fun e => decide (tv (sf e) (le e) = tv c s)) ne) < 3 from nI_lt (b := 3) h3 (by decide)), if_pos (fun _ => h3), if_pos h40]
        simp only [bd_e, hg, nI_clamp (show ne < 2 ^ 31 by omega)]
        rw [size_v t64 (by omega), szT_tv hs hc, cl_s]
        have e9 : (wi (wi (wi (wi (wi (wl (wi μ 0 10 0) 4 ne (lN (tv c s))) 5 ne (nI s)) 6 ne a1) 7 ne a2) 8 ne a3) 9 ne a4).1 3 6 = nI ne := hx.1.2.1
        rw [e9]
        rfl
      · rw [if_neg (show ¬ nI (cnt (fun e => decide (tv (sf e) (le e) = tv c s)) ne) < 3 from nI_nlt (b := 3) (by omega) (by omega)), if_neg (fun z => h3 (z h40))]
    · rw [if_pos (fun z => absurd z h40), if_neg h40]
  unfold f_Lexicon_put
  rw [h36, h37]
  simp only [i_le, i_lt, i_eq a4, i_eq a3, hnei, v_40, v_m1, v_0]
  repeat' split
  all_goals first | rfl | (exfalso; omega)
/-- Lexicon.put refuses, or adds the entry; word asks for more before that -/
def cutsB (a : Int32) (s : Nat) : Bool := decide ((a &&& ((((1 : Int32) <<< (nI s &&& 31)) - 2) ^^^ (-1))) = 0)
theorem word_x {μ ν : Mem} {ne s : Nat} {le : Nat → Nat} {sf : Nat → Nat → Nat} {c : Nat → Nat} {a1 a2 a3 a4 : Int32} {n : Nat} (hx : LxP μ ν ne le sf) (hs : s ≤ 24) (h0 : μ.1 1 1 = nI s) (hd : ∀ j, j < s → (1 ≤ c j ∧ c j ≤ 255) ∧ μ.1 2 j = nI (c j)) (hn : 41 < n) :
    (wordOK s ne (cnt (fun e => decide (tv (sf e) (le e) = tv c s)) ne) a1 a2 a3 a4 → f_X_word n μ a1 a2 a3 a4 = some (nI ne, wordX μ ne s (tv c s) a1 a2 a3 a4)) ∧ (¬ wordOK s ne (cnt (fun e => decide (tv (sf e) (le e) = tv c s)) ne) a1 a2 a3 a4 → ∃ μ', f_X_word n μ a1 a2 a3 a4 = some (-1, μ') ∧ (μ' = μ ∨ μ' = wi μ 0 10 0)) := by
  have hsi : (nI s).toInt = s := nI_toInt (by omega)
  have hcut : f_X_areCuts n a3 (nI s) = some (cutsB a3 s) := by
    unfold f_X_areCuts
    rw [bd_e]
    by_cases h : (a3 &&& ((((1 : Int32) <<< (nI s &&& 31)) - 2) ^^^ (-1))) = 0
    · rw [if_pos h]; exact congrArg some (decide_eq_true h).symm
    · rw [if_neg h]; exact congrArg some (decide_eq_false h).symm
  have hcb : cutsB a3 s = false ↔ ¬ cutsOK a3 s := decide_eq_false_iff_not
  have htext : s ≤ 8 → f_Draft_text n (wi μ 0 10 0) 0 (nI s) = some (lN (tv c s)) := by
    intro h8
    have e := text_v (μ := wi μ 0 10 0) (s := s) (b := 0) (len := s) (n := n) (c := c) h0 (fun j hj => ⟨(hd j hj).1.2, (hd j hj).2⟩) hs (by omega) (by omega) (by omega)
    rw [show min (min s 8) (s - 0) = s by omega] at e
    have e2 : tv (fun q => c (0 + q)) s = tv c s := tv_eq s (fun k _ => by rw [Nat.zero_add])
    rw [e2] at e
    exact e
  unfold f_X_word f_Draft_size
  rw [h0, cl_s, isWordPart_v, isCost_v, hcut]
  simp only [cl_s, bz_0, decide_eq_false_iff_not, i_lt, hsi, v_1, v_8, bd_e]
  unfold wordOK
  constructor
  · rintro ⟨g1, g2, g3, g4, g5, g6, g7, g8⟩
    rw [if_neg (by omega), if_neg (by omega), if_neg (fun z => z g2), if_neg (fun z => z g3), if_neg (fun z => hcb.mp z g4), htext g1.2, cl_s, put_x hx g1.2 (fun j hj => (hd j hj).1) hn, if_pos ⟨g5, g6, g7, g8⟩, cl2_s]
  · intro h
    by_cases k1 : (s : Int) < 1
    · rw [if_pos k1]; exact ⟨μ, rfl, Or.inl rfl⟩
    rw [if_neg k1]
    by_cases k2 : (8 : Int) < s
    · rw [if_pos k2]; exact ⟨μ, rfl, Or.inl rfl⟩
    rw [if_neg k2]
    by_cases k3 : 1 ≤ a1.toInt ∧ a1.toInt ≤ 7
    case neg => rw [if_pos k3]; exact ⟨μ, rfl, Or.inl rfl⟩
    rw [if_neg (fun z => z k3)]
    by_cases k4 : -10000 ≤ a2.toInt ∧ a2.toInt ≤ 10000
    case neg => rw [if_pos k4]; exact ⟨μ, rfl, Or.inl rfl⟩
    rw [if_neg (fun z => z k4)]
    by_cases k5 : cutsOK a3 s
    case neg => rw [if_pos (hcb.mpr k5)]; exact ⟨μ, rfl, Or.inl rfl⟩
    rw [if_neg (fun z => hcb.mp z k5), htext (by omega), cl_s, put_x hx (by omega) (fun j hj => (hd j hj).1) hn, if_neg (fun z => h ⟨⟨by omega, by omega⟩, k3, k4, k5, z⟩), cl2_s]
    exact ⟨_, rfl, Or.inr rfl⟩
