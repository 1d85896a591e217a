/-- before the first call: both at the start; behind it nothing is asked -/
def J1 (k : Nat) (μ : Mem) (δ : Dx) (ν : Mem) : Prop := k = 0 → μ = mu0x ∧ δ = (fun _ => none) ∧ ν = mu0m
theorem J1_s (k : Nat) (μ : Mem) (δ : Dx) (ν : Mem) : J1 (k + 1) μ δ ν := fun h => absurd h (Nat.succ_ne_zero k)
theorem bzf : bz false = 0 := (bz_0 false).mpr rfl
theorem p1_type (a : Int64) : ∃ (n1 n2 : Nat) (r : Bool) (μ' ν' : Mem), f_X_type n1 mu0x a = some (r, μ') ∧ f_Mo_type n2 mu0m a = some (r, ν') := by
  obtain ⟨m, hm, rfl⟩ := wb_of a
  have X := type_x hm (s := 0) (by omega) (n := 30) (by omega) mu0x rfl
  have M := type_m hm (s := 0) (by omega) (n := 30) (by omega) mu0m rfl
  by_cases h : m = 0
  · exact ⟨30, 30, true, _, _, X.1 h, M.1 h⟩
  · by_cases h1 : typeOK m 0
    · obtain ⟨μ', e1, -⟩ := X.2.1 h h1
      obtain ⟨ν', e2, -⟩ := M.2.1 h h1
      exact ⟨30, 30, true, _, _, e1, e2⟩
    · exact ⟨30, 30, false, _, _, X.2.2 h h1, M.2.2 h h1⟩
theorem p1_word (a1 a2 a3 a4 : Int32) : f_X_word 0 mu0x a1 a2 a3 a4 = some (-1, mu0x) ∧ f_Mo_word 0 mu0m a1 a2 a3 a4 = some (-1, mu0m) := by
  constructor
  · unfold f_X_word f_Draft_size
    rw [cl_s, if_pos (show mu0x.1 1 1 < (1 : Int32) by decide)]
  · unfold f_Mo_word
    rw [in_v, cl_s, if_pos]
    rw [bz_0]
    decide
theorem p1_rule (μ ν : Mem) (a1 a2 a3 a4 : Int32) : ∃ (n1 n2 : Nat) (r : Bool) (μ' ν' : Mem), f_X_rule n1 μ a1 a2 a3 a4 = some (r, μ') ∧ f_Mo_rule n2 ν a1 a2 a3 a4 = some (r, ν') := by
  by_cases h : ruleOK a1 a2 a3 a4
  · exact ⟨0, 0, _, _, _, (rule_x 0 μ a1 a2 a3 a4).1 h, (rule_m 0 ν a1 a2 a3 a4).1 h⟩
  · exact ⟨0, 0, _, _, _, (rule_x 0 μ a1 a2 a3 a4).2 h, (rule_m 0 ν a1 a2 a3 a4).2 h⟩
theorem p1_link (μ ν : Mem) (a1 a2 a3 : Int32) : ∃ (n1 n2 : Nat) (r : Bool) (μ' ν' : Mem), f_X_link n1 μ a1 a2 a3 = some (r, μ') ∧ f_Mo_link n2 ν a1 a2 a3 = some (r, ν') := by
  by_cases h : linkOK a1 a2 a3
  · exact ⟨0, 0, _, _, _, (link_x 0 μ a1 a2 a3).1 h, (link_m 0 ν a1 a2 a3).1 h⟩
  · exact ⟨0, 0, _, _, _, (link_x 0 μ a1 a2 a3).2 h, (link_m 0 ν a1 a2 a3).2 h⟩
theorem p1_mode (μ ν : Mem) (a1 a2 : Int32) : ∃ (n1 n2 : Nat) (r : Bool) (μ' ν' : Mem), f_X_mode n1 μ a1 a2 = some (r, μ') ∧ f_Mo_mode n2 ν a1 a2 = some (r, ν') := by
  by_cases h : modeOK a1 a2
  · exact ⟨0, 0, _, _, _, (mode_x 0 μ a1 a2).1 h, (mode_m 0 ν a1 a2).1 h⟩
  · exact ⟨0, 0, _, _, _, (mode_x 0 μ a1 a2).2 h, (mode_m 0 ν a1 a2).2 h⟩
theorem p1_chain (a1 a2 : Int32) : ∃ (n1 n2 : Nat) (r : Bool) (μ' ν' : Mem), f_X_chain n1 mu0x a1 a2 = some (r, μ') ∧ f_Mo_chain n2 mu0m a1 a2 = some (r, ν') := by
  have X := chain_x 0 mu0x a1 a2 0 (by omega) rfl
  have M := chain_m 0 mu0m a1 a2 0 (by omega) rfl
  by_cases h : a1 = -1
  · exact ⟨0, 0, _, _, _, X.1 h, M.1 h⟩
  · by_cases h1 : chainOK a1 a2 ∧ 0 < 6
    · exact ⟨0, 0, _, _, _, X.2.1 h h1, M.2.1 h h1⟩
    · exact ⟨0, 0, _, _, _, X.2.2 h h1, M.2.2 h h1⟩
theorem p1_token (a b : Int32) : ∃ (n1 n2 : Nat) (r : Int32) (μ' ν' : Mem), f_X_token n1 mu0x a b = some (r, μ') ∧ f_Mo_token n2 mu0m a b = some (r, ν') := by
  obtain ⟨μ1, e1, e2, e3⟩ := an0
  obtain ⟨ν1, g1, g2, g3⟩ := cut0
  refine ⟨1000, 1000, -1, μ1, ν1, ?_, ?_⟩
  · unfold f_X_token
    rw [e1, cl_s, has0 1000 μ1 e2, cl_s, if_pos bzf]
  · unfold f_Mo_token
    rw [g1, cl_s, g2, in0, cl_s, if_pos bzf]
theorem p1_term (a : Int32) : ∃ (n1 n2 : Nat) (r : Int64) (μ' ν' : Mem), f_X_term n1 mu0x a = some (r, μ') ∧ f_Mo_term n2 mu0m a = some (r, ν') := by
  obtain ⟨μ1, e1, e2, e3⟩ := an0
  obtain ⟨ν1, g1, g2, g3⟩ := cut0
  refine ⟨1000, 1000, 0, μ1, ν1, ?_, ?_⟩
  · unfold f_X_term
    rw [e1, cl_s, has0 1000 μ1 e2, cl_s, if_pos bzf]
  · unfold f_Mo_term
    rw [g1, cl_s, g2, in0, cl_s, if_pos bzf]
theorem p1_drop (a : Int32) : f_X_drop 0 mu0x a = some (false, mu0x) ∧ f_Mo_drop 0 mu0m a = some (false, mu0m) := by
  constructor
  · unfold f_X_drop f_Shelf_discard
    rw [show mu0x.1 41 1 = 0 from rfl]
    simp only [i_lt, i_le, v_0]
    split
    · rfl
    · rw [if_pos (by omega)]
      rfl
  · unfold f_Mo_drop
    rw [show mu0m.1 0 50 = 0 from rfl, in0, cl_s, if_pos bzf]
theorem p1_segment (a : Int32) : ∃ (n1 n2 : Nat) (r : Int32), f_X_segment n1 mu0x a = some r ∧ f_Mo_segment n2 mu0m a = some r := by
  by_cases h : a = -1
  · refine ⟨0, 0, 0, ?_, ?_⟩
    · unfold f_X_segment
      rw [if_pos h]
      rfl
    · unfold f_Mo_segment
      rw [if_pos h]
      rfl
  · refine ⟨0, 0, -1, ?_, ?_⟩
    · unfold f_X_segment f_Shelf_segmentSize
      rw [if_neg h, show mu0x.1 41 6 = 0 from rfl]
      by_cases h1 : a < 0
      · rw [if_pos h1]; rfl
      · rw [if_neg h1, if_neg h1]; rfl
    · unfold f_Mo_segment
      rw [if_neg h, show mu0m.1 0 51 = 0 from rfl, in0, cl_s, if_pos bzf]
theorem p1_match (a : Int32) : ∃ (n1 n2 : Nat) (r : Int32) (μ' ν' : Mem), f_X_match n1 (fun _ => none) mu0x a = some (r, μ') ∧ f_Mo_match n2 mu0m a = some (r, ν') := by
  obtain ⟨μ1, e1, e2, e3⟩ := an0
  obtain ⟨ν1, g1, g2⟩ := ask0
  refine ⟨1000, 1000, -1, μ1, ν1, ?_, ?_⟩
  · unfold f_X_match
    rw [e1, cl_s, rq0 μ1 e2, cl2_s, bd_e]
    by_cases h : a < 0
    · rw [if_pos h]
      exact match0 μ1 _ e3 0 40 1000 0 (by decide) (by decide) (by decide)
    · rw [if_neg h]
      rw [i_lt, v_0] at h
      exact match0 μ1 _ e3 0 40 1000 a (by omega) (by omega) (by decide)
  · unfold f_Mo_match f_Mo_match_13
    rw [g1, cl_s, show (1000 : Nat) = 999 + 1 from rfl, f_Mo_match_14, g2]
    by_cases h : 0 ≤ a
    · rw [if_pos h, if_pos h]
    · rw [if_neg h, f_Mo_match_14, g2, if_pos (by decide)]
theorem p1_places (a : Int32) : ∃ (n1 n2 : Nat) (r : Int32) (μ' ν' : Mem), f_X_places n1 (fun _ => none) mu0x a = some (r, μ') ∧ f_Mo_places n2 mu0m a = some (r, ν') := by
  obtain ⟨μ1, e1, e2, e3⟩ := an0
  obtain ⟨ν1, g1, g2⟩ := ask0
  refine ⟨1000, 1000, 0, μ1, ν1, ?_, ?_⟩
  · unfold f_X_places
    rw [e1, cl_s, rq0 μ1 e2, cl2_s, occ0 1000 μ1 _ e3, cl_s]
  · unfold f_Mo_places
    rw [g1, cl_s, g2, in0, cl_s, if_pos bzf]
/-- the law on a script of at most one call -/
theorem first_call {p : Program} {e : Env} {s : State} {m : MethodId} {below : List Frame} {meth : Method} {c : Code} (l : Launch) {b L : Nat} {xs : Nat → Int32} (hL : L ≤ 5) (C0 : lw_At p s m meth c b L xs) : W p l e room_1 s m #[Value.ref b] below meth c s.heap [] 0 0 (lw_Z below #[Value.ref b] s) (entryFrame m ([Value.ref b] : List Value).toArray 4) := by
  have hk : ∀ k, 5 * k + 5 ≤ L → k = 0 := fun k h => by omega
  refine law_start l (by omega) C0 J1 (fun _ => ⟨rfl, rfl, rfl⟩) ?_ ?_ ?_ ?_ ?_ ?_ ?_ ?_ ?_ ?_ ?_ ?_ ?_ ?_ ?_ ?_ ?_ ?_ ?_ (fun k μ δ ν _ _ => J1_s k μ δ ν)
  · intro k μ δ ν h5 hJ a
    obtain ⟨rfl, rfl, rfl⟩ := hJ (hk k h5)
    obtain ⟨n1, n2, r, μ', ν', h1, h2⟩ := p1_type a
    exact ⟨n1, n2, r, μ', ν', h1, h2, J1_s _ _ _ _⟩
  · intro k μ δ ν h5 hJ a1 a2 a3 a4
    obtain ⟨rfl, rfl, rfl⟩ := hJ (hk k h5)
    exact ⟨0, 0, _, _, _, (p1_word a1 a2 a3 a4).1, (p1_word a1 a2 a3 a4).2, J1_s _ _ _ _⟩
  · intro k μ δ ν h5 hJ a1 a2 a3 a4
    obtain ⟨n1, n2, r, μ', ν', h1, h2⟩ := p1_rule μ ν a1 a2 a3 a4
    exact ⟨n1, n2, r, μ', ν', h1, h2, J1_s _ _ _ _⟩
  · intro k μ δ ν h5 hJ a1 a2 a3
    obtain ⟨n1, n2, r, μ', ν', h1, h2⟩ := p1_link μ ν a1 a2 a3
    exact ⟨n1, n2, r, μ', ν', h1, h2, J1_s _ _ _ _⟩
  · intro k μ δ ν h5 hJ a1 a2
    obtain ⟨n1, n2, r, μ', ν', h1, h2⟩ := p1_mode μ ν a1 a2
    exact ⟨n1, n2, r, μ', ν', h1, h2, J1_s _ _ _ _⟩
  · intro k μ δ ν h5 hJ a1 a2
    obtain ⟨rfl, rfl, rfl⟩ := hJ (hk k h5)
    obtain ⟨n1, n2, r, μ', ν', h1, h2⟩ := p1_chain a1 a2
    exact ⟨n1, n2, r, μ', ν', h1, h2, J1_s _ _ _ _⟩
  · intro k μ δ ν h5 hJ _
    obtain ⟨rfl, rfl, rfl⟩ := hJ (hk k h5)
    obtain ⟨μ', h1⟩ := of_m1 s_cost_x
    obtain ⟨ν', h2⟩ := of_m1 s_cost_m
    exact ⟨_, _, _, _, _, h1, h2, J1_s _ _ _ _⟩
  · intro k μ δ ν h5 hJ _
    obtain ⟨rfl, rfl, rfl⟩ := hJ (hk k h5)
    obtain ⟨μ', h1⟩ := of_m1 s_paths_x
    obtain ⟨ν', h2⟩ := of_m1 s_paths_m
    exact ⟨_, _, _, _, _, h1, h2, J1_s _ _ _ _⟩
  · intro k μ δ ν h5 hJ _
    obtain ⟨rfl, rfl, rfl⟩ := hJ (hk k h5)
    obtain ⟨μ', h1⟩ := of_m1 s_nodes_x
    obtain ⟨ν', h2⟩ := of_m1 s_nodes_m
    exact ⟨_, _, _, _, _, h1, h2, J1_s _ _ _ _⟩
  · intro k μ δ ν h5 hJ _
    obtain ⟨rfl, rfl, rfl⟩ := hJ (hk k h5)
    obtain ⟨μ', h1⟩ := of_m1 s_tokens_x
    obtain ⟨ν', h2⟩ := of_m1 s_tokens_m
    exact ⟨_, _, _, _, _, h1, h2, J1_s _ _ _ _⟩
  · intro k μ δ ν h5 hJ a1 a2
    obtain ⟨rfl, rfl, rfl⟩ := hJ (hk k h5)
    obtain ⟨n1, n2, r, μ', ν', h1, h2⟩ := p1_token a1 a2
    exact ⟨n1, n2, r, μ', ν', h1, h2, J1_s _ _ _ _⟩
  · intro k μ δ ν h5 hJ a1
    obtain ⟨rfl, rfl, rfl⟩ := hJ (hk k h5)
    obtain ⟨n1, n2, r, μ', ν', h1, h2⟩ := p1_term a1
    exact ⟨n1, n2, r, μ', ν', h1, h2, J1_s _ _ _ _⟩
  · intro l k μ δ ν h5 hJ
    obtain ⟨rfl, rfl, rfl⟩ := hJ (hk k h5)
    obtain ⟨ν', h2⟩ := of_m1 s_add_m
    exact ⟨-1, mu0x, _, _, ν', add_empty l mu0x _ rfl, h2, J1_s _ _ _ _⟩
  · intro k μ δ ν h5 hJ a1
    obtain ⟨rfl, rfl, rfl⟩ := hJ (hk k h5)
    exact ⟨0, 0, _, _, _, (p1_drop a1).1, (p1_drop a1).2, J1_s _ _ _ _⟩
  · intro k μ δ ν h5 hJ _
    obtain ⟨rfl, rfl, rfl⟩ := hJ (hk k h5)
    obtain ⟨μ', h1⟩ := of_m1 s_flush_x
    obtain ⟨ν', h2⟩ := of_m1 s_flush_m
    exact ⟨_, _, _, _, _, h1, h2, J1_s _ _ _ _⟩
  · intro k μ δ ν h5 hJ a1
    obtain ⟨rfl, rfl, rfl⟩ := hJ (hk k h5)
    obtain ⟨n1, n2, r, h1, h2⟩ := p1_segment a1
    exact ⟨n1, n2, r, h1, h2, J1_s _ _ _ _⟩
  · intro k μ δ ν h5 hJ _
    obtain ⟨rfl, rfl, rfl⟩ := hJ (hk k h5)
    obtain ⟨μ', h1⟩ := of_m1 s_open_x
    obtain ⟨ν', h2⟩ := of_m1 s_open_m
    exact ⟨_, _, _, _, _, h1, h2, J1_s _ _ _ _⟩
  · intro k μ δ ν h5 hJ a1
    obtain ⟨rfl, rfl, rfl⟩ := hJ (hk k h5)
    obtain ⟨n1, n2, r, μ', ν', h1, h2⟩ := p1_match a1
    exact ⟨n1, n2, r, μ', ν', h1, h2, J1_s _ _ _ _⟩
  · intro k μ δ ν h5 hJ a1
    obtain ⟨rfl, rfl, rfl⟩ := hJ (hk k h5)
    obtain ⟨n1, n2, r, μ', ν', h1, h2⟩ := p1_places a1
    exact ⟨n1, n2, r, μ', ν', h1, h2, J1_s _ _ _ _⟩
