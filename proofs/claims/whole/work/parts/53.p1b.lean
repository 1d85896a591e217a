set_option maxHeartbeats 4000000 in
set_option maxRecDepth 100000 in
/-- add() on an empty draft -/
theorem add_empty (l : Launch) (μ : Mem) (δ : Dx) (h0 : μ.1 1 1 = 0) : AddMet l μ δ (-1) μ δ := by
  intro D g ad dr pl Ax sz hDx hδ
  refine Met.ofW (cc := b_X_add) (maxL := 3) (ret := some .int) (by decide) rfl ?_
  intro p e s m args below meth c s₁ B hml hv
  obtain ⟨rfl, hz, hP, hK, hO⟩ := hv
  have hts0 := atoms_spec (ws := Cond.code y_X_add b_X_add 3 (some .int) :: ww) B.pre
  have hts : ∀ w ∈ ww, w.before ([.ref (ad 0)] : List Value).toArray s = true := fun w hw => hts0 w (List.mem_cons_of_mem _ hw)
  have hown : s.vm.findClass R_X = some m.cls := findClass_of_methodNamed B.named
  have hx := B.exec
  have hb := B.bytes
  have hr := B.returns
  have hlk := B.notSynchronized
  have S : CallFix p m c b_X_add 3 s ([.ref (ad 0)] : List Value).toArray ww R_X := ⟨hx, hb, hml, hown, hts⟩
  have hl := lv_entry ([.ref (ad 0)]) (n := 3) (Nat.le_of_ble_eq_true rfl)
  rw [lg_entry_eq]
  generalize (lg_sl ([.ref (ad 0)]) ++ List.replicate (3 - (lg_sl ([.ref (ad 0)])).length) Slot.unset).toArray = ls at hl ⊢
  have hl : lv_has ls 3 [(0, .ref (ad 0))] := hl
  refine lv_aload_n hx hb d_X_add_0 rfl (lv_at hl 0 rfl) ?_
  refine xg_0_0 hx hb hts hown hK hP q_246 d_X_add_1 ?_
  refine rdV (As := []) (rest := []) S K_Draft_size q_303 (c_Draft_size (n := 0) (μ := μ) (r := μ.1 1 1) rfl) hK hP ⟨rfl, rfl⟩ ⟨Nat.le_of_ble_eq_true rfl, Nat.le_of_ble_eq_true rfl⟩ (xr_1 hK hP) rfl hl.1 rfl (Nat.le_of_ble_eq_true rfl) d_X_add_4 ⟨Nat.le_of_ble_eq_true rfl, Nat.le_of_ble_eq_true rfl⟩ ?_
  refine lv_if_eq (tgt := 20) hx hb d_X_add_7 rfl (fun _ => ?_) (fun hc => absurd h0 hc)
  refine lv_iconst (v := -1) hx hb d_X_add_20 (by decide) ?_
  refine W.widen (k := 3) (n := 51) (Nat.le_of_ble_eq_true rfl) (Nat.le_of_ble_eq_true rfl) ?_
  exact W.iret hx hb hr (fun t ht _ => ⟨rfl, ⟨dr, pl, by rw [ht]; exact hP, hδ, fun μ => (hDx μ).weaken (fun _ _ _ h => Or.inl h)⟩, ⟨by rw [ht]; exact Nat.le_refl _, fun q _ _ => by rw [ht]⟩⟩) (fun _ h => by cases h) d_X_add_21
theorem of_m1 {α β : Type} {o : Option (α × β)} {r : α} (h : o.map Prod.fst = some r) : ∃ w, o = some (r, w) := by
  cases o with
  | none => cases h
  | some a => cases h; exact ⟨a.2, rfl⟩
theorem of_m2 {α β : Type} {o : Option α} {F : α → β} {r : β} (h : o.map F = some r) : ∃ w, o = some w ∧ F w = r := by
  cases o with
  | none => cases h
  | some a => cases h; exact ⟨a, rfl, rfl⟩
theorem an0 : ∃ μ, f_X_analyse 1000 mu0x = some μ ∧ μ.1 35 7 = 0 ∧ μ.1 41 1 = 0 := by
  obtain ⟨μ, h1, h2⟩ := of_m2 s_an_x
  exact ⟨μ, h1, congrArg Prod.fst h2, congrArg (fun z => z.2.1) h2⟩
theorem cut0 : ∃ μ, f_Mo_cut 1000 mu0m = some μ ∧ μ.1 0 37 = 0 ∧ μ.1 0 50 = 0 := by
  obtain ⟨μ, h1, h2⟩ := of_m2 s_cut_m
  exact ⟨μ, h1, congrArg Prod.fst h2, congrArg Prod.snd h2⟩
theorem ask0 : ∃ μ, f_Mo_ask 1000 mu0m = some μ ∧ μ.1 0 50 = 0 := by
  obtain ⟨μ, h1, h2⟩ := of_m2 (show (f_Mo_ask 1000 mu0m).map (fun μ => μ.1 0 50) = some 0 by decide +kernel)
  exact ⟨μ, h1, h2⟩
theorem has0 (n : Nat) (μ : Mem) (h : μ.1 35 7 = 0) (a : Int32) : f_TokenRow_has n μ a = some false := by
  unfold f_TokenRow_has
  rw [h]
  simp only [i_lt, i_le, v_0]
  split
  · rfl
  · rw [if_pos (by omega)]
theorem in0 (n : Nat) (a : Int32) : f_Mo_in n a 0 (0 - 1) = some false := by
  rw [in_v]
  rw [decide_eq_false]
  rw [show ((0 : Int32) - 1).toInt = -1 from by decide, v_0]
  omega
theorem snap0 (n : Nat) (μ : Mem) (δ : Dx) (h : μ.1 41 1 = 0) (a : Int32) : f_Shelf_inSnapshot n δ μ a = some false := by
  unfold f_Shelf_inSnapshot
  rw [h]
  simp only [i_lt, i_le, v_0]
  split
  · rfl
  · rw [if_pos (by omega)]
theorem occ0 (n : Nat) (μ : Mem) (δ : Dx) (h : μ.1 41 1 = 0) (a b : Int32) : f_X_occurrencesIn n δ μ a b = some 0 := by
  unfold f_X_occurrencesIn
  rw [snap0 n μ δ h]
  rfl
theorem match0 (μ : Mem) (δ : Dx) (h : μ.1 41 1 = 0) (c : Int32) : ∀ (j n : Nat) (x : Int32), 0 ≤ x.toInt → 40 ≤ x.toInt + j → j < n → f_X_match_15 δ n μ c x = some (-1, μ) := by
  intro j
  induction j with
  | zero =>
    intro n x h1 h2 h3
    obtain ⟨n, rfl⟩ : ∃ z, n = z + 1 := ⟨n - 1, by omega⟩
    rw [f_X_match_15, if_pos (by rw [i_le, v_40]; omega)]
  | succ j ih =>
    intro n x h1 h2 h3
    obtain ⟨n, rfl⟩ : ∃ z, n = z + 1 := ⟨n - 1, by omega⟩
    rw [f_X_match_15]
    by_cases h4 : 40 ≤ x.toInt
    · rw [if_pos (by rw [i_le, v_40]; exact h4)]
    · rw [if_neg (by rw [i_le, v_40]; exact h4), occ0 n μ δ h, cl_s, if_pos (by decide), bd_e]
      obtain ⟨y, hy, rfl⟩ := nI_of2 (M := 40) (n := 40) (by decide) (x := x) (by rw [i_lt, v_0]; omega) (by rw [i_le, v_40]; omega)
      rw [nI_toInt (by omega)] at h1 h2 h4
      rw [nI_1]
      exact ih n (nI (y + 1)) (by rw [nI_toInt (by omega)]; omega) (by rw [nI_toInt (by omega)]; omega) (by omega)
theorem rq0 (μ : Mem) (h : μ.1 35 7 = 0) : f_X_readQuery 1000 μ = some (0, μ) := by
  unfold f_X_readQuery
  rw [show (1000 : Nat) = 999 + 1 from rfl, f_X_readQuery_2]
  unfold f_TokenRow_count
  rw [h]
  rfl
