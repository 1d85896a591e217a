theorem d_X_type_0 : decode b_X_type 0 = .ok (.lload_n 1, 1) := by decide +kernel
theorem d_X_type_1 : decode b_X_type 1 = .ok (.lconst 0, 1) := by decide +kernel
theorem d_X_type_2 : decode b_X_type 2 = .ok (.lcmp, 1) := by decide +kernel
theorem d_X_type_3 : decode b_X_type 3 = .ok (.ifCond .ne 13, 3) := by decide +kernel
theorem d_X_type_6 : decode b_X_type 6 = .ok (.aload_n 0, 1) := by decide +kernel
theorem d_X_type_7 : decode b_X_type 7 = .ok (.getfield 12, 3) := by decide +kernel
theorem d_X_type_10 : decode b_X_type 10 = .ok (.invokevirtual 82, 3) := by decide +kernel
theorem d_X_type_13 : decode b_X_type 13 = .ok (.goto 16, 3) := by decide +kernel
theorem d_X_type_16 : decode b_X_type 16 = .ok (.aload_n 0, 1) := by decide +kernel
theorem d_X_type_17 : decode b_X_type 17 = .ok (.getfield 12, 3) := by decide +kernel
theorem d_X_type_20 : decode b_X_type 20 = .ok (.lload_n 1, 1) := by decide +kernel
theorem d_X_type_21 : decode b_X_type 21 = .ok (.invokevirtual 85, 3) := by decide +kernel
theorem d_X_type_24 : decode b_X_type 24 = .ok (.ifCond .ne 5, 3) := by decide +kernel
theorem d_X_type_27 : decode b_X_type 27 = .ok (.iconst 0, 1) := by decide +kernel
theorem d_X_type_28 : decode b_X_type 28 = .ok (.ireturn, 1) := by decide +kernel
theorem d_X_type_29 : decode b_X_type 29 = .ok (.aload_n 0, 1) := by decide +kernel
theorem d_X_type_30 : decode b_X_type 30 = .ok (.iconst 0, 1) := by decide +kernel
theorem d_X_type_31 : decode b_X_type 31 = .ok (.putfield 78, 3) := by decide +kernel
theorem d_X_type_34 : decode b_X_type 34 = .ok (.iconst 1, 1) := by decide +kernel
theorem d_X_type_35 : decode b_X_type 35 = .ok (.ireturn, 1) := by decide +kernel
abbrev rm_X_type : Room := { frames := 3, cells := 0, slots := 0, locals := 68 }
def f_X_type_29 (n : Nat) (μ : Mem) : Option (Bool × Mem) := bd (wi μ 0 10 (0 : Int32)) (fun μ1 => some (true, μ1))
set_option maxHeartbeats 4000000 in
set_option maxRecDepth 100000 in
theorem w_X_type_29 {p : Program} {l : Launch} {e : Env} {s : State} {m : MethodId} {args : Array Value} {below : List Frame} {meth : Method} {c : Code} {D : va_G} {g : Nat → ClassId} {ad : Nat → Nat} {dr : Nat → Option Nat} {pl : va_W} {r : Bool} {μ' : Mem} {A : Nat → Prop} {n : Nat} {μ : Mem} {ls : Array Slot} {H : Heap} {locs : List Loc} (X : Cx p s m args meth c b_X_type 3 R_X (some .boolean) D CL (TY g)) (hDA : ∀ μ : Mem, va_D A (WX g ad dr pl μ)) (hP : va_P D CL (WX g ad dr pl μ) H) (hS : va_S A s.heap H locs) (hl : lv_has ls 3 [(0, .ref (ad 0))]) (hf : f_X_type_29 n μ = some (r, μ')) : WU p l e rm_X_type s m args below meth c H locs D (WX g ad dr pl μ') A (some (.int (bz r))) (F0 m 29 ls []) := by
  obtain ⟨S, hr, hlk, hK⟩ := id X
  obtain ⟨hx, hb, hml, hown, hts⟩ := id S
  rw [f_X_type_29] at hf
  refine lv_aload_n hx hb d_X_type_29 rfl (lv_at hl 0 rfl) ?_
  refine lv_iconst (v := 0) hx hb d_X_type_30 (by decide) ?_
  obtain ⟨μ1, hμ1, hf⟩ := bd_x hf
  refine xp_0_10 hx hb hts hown hK (hDA _) hP hS q_256 rfl rfl d_X_type_31 hμ1 (fun H locs hP hS => ?_)
  refine lv_iconst (v := 1) hx hb d_X_type_34 (by decide) ?_
  obtain ⟨h1, h2⟩ := Prod.mk.inj (Option.some.inj hf)
  subst h1; subst h2
  exact W.zret hx hb hr (by first | rfl | exact bz_nar _) (fun t ht _ => ⟨rfl, by rw [ht]; exact hP, hS.F ht⟩) hS.2.2 d_X_type_35
def f_X_type (n : Nat) (μ : Mem) (a1 : Int64) : Option (Bool × Mem) := (if (lg_cmp a1 (0 : Int64)) = 0 then (cl (f_Draft_clear n μ) (fun μ4 => f_X_type_29 n μ4)) else (cl2 (f_Draft_append n μ a1) (fun v1 μ2 => (if (bz v1) = 0 then (some (false, μ2)) else (f_X_type_29 n μ2)))))
set_option maxHeartbeats 4000000 in
set_option maxRecDepth 100000 in
theorem w_X_type {p : Program} {l : Launch} {e : Env} {s : State} {m : MethodId} {args : Array Value} {below : List Frame} {meth : Method} {c : Code} {D : va_G} {g : Nat → ClassId} {ad : Nat → Nat} {dr : Nat → Option Nat} {pl : va_W} {r : Bool} {μ' : Mem} {A : Nat → Prop} {n : Nat} {μ : Mem} {a1 : Int64} {ls : Array Slot} {H : Heap} {locs : List Loc} (X : Cx p s m args meth c b_X_type 3 R_X (some .boolean) D CL (TY g)) (hDA : ∀ μ : Mem, va_D A (WX g ad dr pl μ)) (hP : va_P D CL (WX g ad dr pl μ) H) (hS : va_S A s.heap H locs) (hl : lv_has ls 3 [(0, .ref (ad 0)), (1, .long a1)]) (hf : f_X_type n μ a1 = some (r, μ')) : WU p l e rm_X_type s m args below meth c H locs D (WX g ad dr pl μ') A (some (.int (bz r))) (F0 m 0 ls []) := by
  obtain ⟨S, hr, hlk, hK⟩ := id X
  obtain ⟨hx, hb, hml, hown, hts⟩ := id S
  rw [f_X_type] at hf
  refine lv_lload_n hx hb d_X_type_0 rfl (lv_at hl 1 rfl) ?_
  refine lv_lconst (v := 0) hx hb d_X_type_1 (by decide) ?_
  refine W.lcmp hx hb d_X_type_2 ?_
  refine lv_if_ne (tgt := 16) hx hb d_X_type_3 rfl (fun hc => ?_) (fun hc => ?_)
  · replace hf := br_n hc hf
    refine lv_aload_n hx hb d_X_type_16 rfl (lv_at hl 0 rfl) ?_
    refine xg_0_0 hx hb hts hown hK hP q_246 d_X_type_17 ?_
    refine lv_lload_n hx hb d_X_type_20 rfl (lv_at hl 1 rfl) ?_
    obtain ⟨v1, μ2, hv1, hf⟩ := cl2_x hf
    refine wrV (As := [.long a1]) (rest := []) S K_Draft_append q_288 (c_Draft_append hDA hv1) hK hP hS ⟨rfl, rfl⟩ ⟨Nat.le_of_ble_eq_true rfl, Nat.le_of_ble_eq_true rfl⟩ (xr_1 hK hP) rfl hl.1 rfl (Nat.le_of_ble_eq_true rfl) d_X_type_21 ⟨Nat.le_refl _, Nat.le_refl _⟩ (fun H locs hP hS => ?_)
    refine lv_if_ne (tgt := 29) hx hb d_X_type_24 rfl (fun hc => ?_) (fun hc => ?_)
    · replace hf := br_n hc hf
      exact w_X_type_29 X hDA hP hS (lv_sub (l' := [(0, .ref (ad 0))]) hl [0] rfl) hf
    · replace hf := br_p hc hf
      refine lv_iconst (v := 0) hx hb d_X_type_27 (by decide) ?_
      obtain ⟨h1, h2⟩ := Prod.mk.inj (Option.some.inj hf)
      subst h1; subst h2
      exact W.zret hx hb hr (by first | rfl | exact bz_nar _) (fun t ht _ => ⟨rfl, by rw [ht]; exact hP, hS.F ht⟩) hS.2.2 d_X_type_28
  · replace hf := br_p hc hf
    refine lv_aload_n hx hb d_X_type_6 rfl (lv_at hl 0 rfl) ?_
    refine xg_0_0 hx hb hts hown hK hP q_246 d_X_type_7 ?_
    obtain ⟨μ4, hv3, hf⟩ := cl_x hf
    refine wrV (As := []) (rest := []) S K_Draft_clear q_284 (c_Draft_clear hDA hv3) hK hP hS ⟨rfl, rfl⟩ ⟨Nat.le_of_ble_eq_true rfl, Nat.le_of_ble_eq_true rfl⟩ (xr_1 hK hP) rfl hl.1 rfl (Nat.le_of_ble_eq_true rfl) d_X_type_10 ⟨Nat.le_refl _, Nat.le_refl _⟩ (fun H locs hP hS => ?_)
    refine lv_goto (tgt := 29) hx hb d_X_type_13 rfl ?_
    exact w_X_type_29 X hDA hP hS (lv_sub (l' := [(0, .ref (ad 0))]) hl [0] rfl) hf
theorem c_X_type {l : Launch} {D : va_G} {g : Nat → ClassId} {ad : Nat → Nat} {dr : Nat → Option Nat} {pl : va_W} {μ : Mem} {r : Bool} {μ' : Mem} {A : Nat → Prop} {n : Nat} {a1 : Int64} (hDA : ∀ μ : Mem, va_D A (WX g ad dr pl μ)) (hf : f_X_type n μ a1 = some (r, μ')) : Met l y_X_type (Cond.code y_X_type b_X_type 3 (some .boolean) :: ww) rm_X_type (RP D CL (TY g) (WX g ad dr pl μ) [.ref (ad 0), .long a1]) (QW D CL (WX g ad dr pl μ') A (some (.int (bz r)))) 0 0 A := by
  refine met_of (by decide) (Nat.le_of_ble_eq_true rfl) ?_
  intro p e s m below meth c ls X hP hl
  have hl : lv_has ls 3 [(0, .ref (ad 0)), (1, .long a1)] := hl
  exact w_X_type X hDA hP va_S.rf hl hf
theorem d_X_isPart_0 : decode b_X_isPart 0 = .ok (.iload_n 0, 1) := by decide +kernel
theorem d_X_isPart_1 : decode b_X_isPart 1 = .ok (.ifCond .lt 13, 3) := by decide +kernel
theorem d_X_isPart_4 : decode b_X_isPart 4 = .ok (.iload_n 0, 1) := by decide +kernel
theorem d_X_isPart_5 : decode b_X_isPart 5 = .ok (.bipush 8, 2) := by decide +kernel
theorem d_X_isPart_7 : decode b_X_isPart 7 = .ok (.if_icmp .ge 7, 3) := by decide +kernel
theorem d_X_isPart_10 : decode b_X_isPart 10 = .ok (.iconst 1, 1) := by decide +kernel
theorem d_X_isPart_11 : decode b_X_isPart 11 = .ok (.goto 4, 3) := by decide +kernel
theorem d_X_isPart_14 : decode b_X_isPart 14 = .ok (.iconst 0, 1) := by decide +kernel
theorem d_X_isPart_15 : decode b_X_isPart 15 = .ok (.ireturn, 1) := by decide +kernel
abbrev rm_X_isPart : Room := { frames := 0, cells := 0, slots := 0, locals := 0 }
def f_X_isPart (n : Nat) (a0 : Int32) : Option Bool := (if a0 < 0 then (some false) else (if (8 : Int32) ≤ a0 then (some false) else (some true)))
set_option maxHeartbeats 4000000 in
set_option maxRecDepth 100000 in
theorem w_X_isPart {p : Program} {l : Launch} {e : Env} {s : State} {m : MethodId} {args : Array Value} {below : List Frame} {meth : Method} {c : Code} {D : va_G} {g : Nat → ClassId} {w : va_W} {r : Bool} {n : Nat} {a0 : Int32} {ls : Array Slot} (X : Cx p s m args meth c b_X_isPart 1 R_X (some .boolean) D CL (TY g)) (hP : va_P D CL w s.heap) (hl : lv_has ls 1 [(0, .int a0)]) (hf : f_X_isPart n a0 = some r) : WR p l e rm_X_isPart s m args below meth c (.int (bz r)) (F0 m 0 ls []) := by
  obtain ⟨S, hr, hlk, hK⟩ := id X
  obtain ⟨hx, hb, hml, hown, hts⟩ := id S
  rw [f_X_isPart] at hf
  refine lv_iload_n hx hb d_X_isPart_0 rfl (lv_at hl 0 rfl) ?_
  refine lv_if_lt (tgt := 14) hx hb d_X_isPart_1 rfl (fun hc => ?_) (fun hc => ?_)
  · replace hf := br_p hc hf
    refine lv_iconst (v := 0) hx hb d_X_isPart_14 (by decide) ?_
    have h1 := Option.some.inj hf
    subst h1
    exact W.zret hx hb hr (by first | rfl | exact bz_nar _) (fun t ht _ => ⟨rfl, ht⟩) (fun _ h => by cases h) d_X_isPart_15
  · replace hf := br_n hc hf
    refine lv_iload_n hx hb d_X_isPart_4 rfl (lv_at hl 0 rfl) ?_
    refine lv_bipush (v := 8) hx hb d_X_isPart_5 (by decide) ?_
    refine lv_icmp_ge (tgt := 14) hx hb d_X_isPart_7 rfl (fun hc => ?_) (fun hc => ?_)
    · replace hf := br_p hc hf
      refine lv_iconst (v := 0) hx hb d_X_isPart_14 (by decide) ?_
      have h1 := Option.some.inj hf
      subst h1
      exact W.zret hx hb hr (by first | rfl | exact bz_nar _) (fun t ht _ => ⟨rfl, ht⟩) (fun _ h => by cases h) d_X_isPart_15
    · replace hf := br_n hc hf
      refine lv_iconst (v := 1) hx hb d_X_isPart_10 (by decide) ?_
      refine lv_goto (tgt := 15) hx hb d_X_isPart_11 rfl ?_
      have h1 := Option.some.inj hf
      subst h1
      exact W.zret hx hb hr (by first | rfl | exact bz_nar _) (fun t ht _ => ⟨rfl, ht⟩) (fun _ h => by cases h) d_X_isPart_15
theorem c_X_isPart {l : Launch} {D : va_G} {g : Nat → ClassId} {w : va_W} {r : Bool} {n : Nat} {a0 : Int32} (hf : f_X_isPart n a0 = some r) : Met l y_X_isPart (Cond.code y_X_isPart b_X_isPart 1 (some .boolean) :: ww) rm_X_isPart (RP D CL (TY g) w [.int a0]) (k2_QcV (.int (bz r))) 0 0 (fun _ => False) := by
  refine met_of (by decide) (Nat.le_of_ble_eq_true rfl) ?_
  intro p e s m below meth c ls X hP hl
  have hl : lv_has ls 1 [(0, .int a0)] := hl
  exact w_X_isPart X hP hl hf
theorem d_X_isWordPart_0 : decode b_X_isWordPart 0 = .ok (.iload_n 0, 1) := by decide +kernel
theorem d_X_isWordPart_1 : decode b_X_isWordPart 1 = .ok (.ifCond .eq 14, 3) := by decide +kernel
theorem d_X_isWordPart_4 : decode b_X_isWordPart 4 = .ok (.iload_n 0, 1) := by decide +kernel
theorem d_X_isWordPart_5 : decode b_X_isWordPart 5 = .ok (.invokestatic 116, 3) := by decide +kernel
theorem d_X_isWordPart_8 : decode b_X_isWordPart 8 = .ok (.ifCond .eq 7, 3) := by decide +kernel
theorem d_X_isWordPart_11 : decode b_X_isWordPart 11 = .ok (.iconst 1, 1) := by decide +kernel
theorem d_X_isWordPart_12 : decode b_X_isWordPart 12 = .ok (.goto 4, 3) := by decide +kernel
theorem d_X_isWordPart_15 : decode b_X_isWordPart 15 = .ok (.iconst 0, 1) := by decide +kernel
theorem d_X_isWordPart_16 : decode b_X_isWordPart 16 = .ok (.ireturn, 1) := by decide +kernel
abbrev rm_X_isWordPart : Room := { frames := 1, cells := 0, slots := 0, locals := 20 }
def f_X_isWordPart (n : Nat) (a0 : Int32) : Option Bool := (if a0 = 0 then (some false) else (cl (f_X_isPart n a0) (fun v1 => (if (bz v1) = 0 then (some false) else (some true)))))
set_option maxHeartbeats 4000000 in
set_option maxRecDepth 100000 in
theorem w_X_isWordPart {p : Program} {l : Launch} {e : Env} {s : State} {m : MethodId} {args : Array Value} {below : List Frame} {meth : Method} {c : Code} {D : va_G} {g : Nat → ClassId} {w : va_W} {r : Bool} {n : Nat} {a0 : Int32} {ls : Array Slot} (X : Cx p s m args meth c b_X_isWordPart 1 R_X (some .boolean) D CL (TY g)) (hP : va_P D CL w s.heap) (hl : lv_has ls 1 [(0, .int a0)]) (hf : f_X_isWordPart n a0 = some r) : WR p l e rm_X_isWordPart s m args below meth c (.int (bz r)) (F0 m 0 ls []) := by
  obtain ⟨S, hr, hlk, hK⟩ := id X
  obtain ⟨hx, hb, hml, hown, hts⟩ := id S
  rw [f_X_isWordPart] at hf
  refine lv_iload_n hx hb d_X_isWordPart_0 rfl (lv_at hl 0 rfl) ?_
  refine lv_if_eq (tgt := 15) hx hb d_X_isWordPart_1 rfl (fun hc => ?_) (fun hc => ?_)
  · replace hf := br_p hc hf
    refine lv_iconst (v := 0) hx hb d_X_isWordPart_15 (by decide) ?_
    have h1 := Option.some.inj hf
    subst h1
    exact W.zret hx hb hr (by first | rfl | exact bz_nar _) (fun t ht _ => ⟨rfl, ht⟩) (fun _ h => by cases h) d_X_isWordPart_16
  · replace hf := br_n hc hf
    refine lv_iload_n hx hb d_X_isWordPart_4 rfl (lv_at hl 0 rfl) ?_
    obtain ⟨v1, hv1, hf⟩ := cl_x hf
    refine rdS (As := [.int a0]) (rest := []) S K_X_isPart q_310 (c_X_isPart (w := w) hv1) hK hP ⟨rfl, rfl⟩ ⟨Nat.le_of_ble_eq_true rfl, Nat.le_of_ble_eq_true rfl⟩ rfl hl.1 rfl (Nat.le_of_ble_eq_true rfl) d_X_isWordPart_5 ⟨Nat.le_refl _, Nat.le_refl _⟩ ?_
    refine lv_if_eq (tgt := 15) hx hb d_X_isWordPart_8 rfl (fun hc => ?_) (fun hc => ?_)
    · replace hf := br_p hc hf
      refine lv_iconst (v := 0) hx hb d_X_isWordPart_15 (by decide) ?_
      have h1 := Option.some.inj hf
      subst h1
      exact W.zret hx hb hr (by first | rfl | exact bz_nar _) (fun t ht _ => ⟨rfl, ht⟩) (fun _ h => by cases h) d_X_isWordPart_16
    · replace hf := br_n hc hf
      refine lv_iconst (v := 1) hx hb d_X_isWordPart_11 (by decide) ?_
      refine lv_goto (tgt := 16) hx hb d_X_isWordPart_12 rfl ?_
      have h1 := Option.some.inj hf
      subst h1
      exact W.zret hx hb hr (by first | rfl | exact bz_nar _) (fun t ht _ => ⟨rfl, ht⟩) (fun _ h => by cases h) d_X_isWordPart_16
theorem c_X_isWordPart {l : Launch} {D : va_G} {g : Nat → ClassId} {w : va_W} {r : Bool} {n : Nat} {a0 : Int32} (hf : f_X_isWordPart n a0 = some r) : Met l y_X_isWordPart (Cond.code y_X_isWordPart b_X_isWordPart 1 (some .boolean) :: ww) rm_X_isWordPart (RP D CL (TY g) w [.int a0]) (k2_QcV (.int (bz r))) 0 0 (fun _ => False) := by
  refine met_of (by decide) (Nat.le_of_ble_eq_true rfl) ?_
  intro p e s m below meth c ls X hP hl
  have hl : lv_has ls 1 [(0, .int a0)] := hl
  exact w_X_isWordPart X hP hl hf
theorem d_X_isCost_0 : decode b_X_isCost 0 = .ok (.iload_n 0, 1) := by decide +kernel
theorem d_X_isCost_1 : decode b_X_isCost 1 = .ok (.sipush (-10000), 3) := by decide +kernel
theorem d_X_isCost_4 : decode b_X_isCost 4 = .ok (.if_icmp .lt 14, 3) := by decide +kernel
theorem d_X_isCost_7 : decode b_X_isCost 7 = .ok (.iload_n 0, 1) := by decide +kernel
theorem d_X_isCost_8 : decode b_X_isCost 8 = .ok (.sipush 10000, 3) := by decide +kernel
theorem d_X_isCost_11 : decode b_X_isCost 11 = .ok (.if_icmp .gt 7, 3) := by decide +kernel
theorem d_X_isCost_14 : decode b_X_isCost 14 = .ok (.iconst 1, 1) := by decide +kernel
theorem d_X_isCost_15 : decode b_X_isCost 15 = .ok (.goto 4, 3) := by decide +kernel
theorem d_X_isCost_18 : decode b_X_isCost 18 = .ok (.iconst 0, 1) := by decide +kernel
theorem d_X_isCost_19 : decode b_X_isCost 19 = .ok (.ireturn, 1) := by decide +kernel
abbrev rm_X_isCost : Room := { frames := 0, cells := 0, slots := 0, locals := 0 }
def f_X_isCost (n : Nat) (a0 : Int32) : Option Bool := (if a0 < (-10000 : Int32) then (some false) else (if (10000 : Int32) < a0 then (some false) else (some true)))
set_option maxHeartbeats 4000000 in
set_option maxRecDepth 100000 in
theorem w_X_isCost {p : Program} {l : Launch} {e : Env} {s : State} {m : MethodId} {args : Array Value} {below : List Frame} {meth : Method} {c : Code} {D : va_G} {g : Nat → ClassId} {w : va_W} {r : Bool} {n : Nat} {a0 : Int32} {ls : Array Slot} (X : Cx p s m args meth c b_X_isCost 1 R_X (some .boolean) D CL (TY g)) (hP : va_P D CL w s.heap) (hl : lv_has ls 1 [(0, .int a0)]) (hf : f_X_isCost n a0 = some r) : WR p l e rm_X_isCost s m args below meth c (.int (bz r)) (F0 m 0 ls []) := by
  obtain ⟨S, hr, hlk, hK⟩ := id X
  obtain ⟨hx, hb, hml, hown, hts⟩ := id S
  rw [f_X_isCost] at hf
  refine lv_iload_n hx hb d_X_isCost_0 rfl (lv_at hl 0 rfl) ?_
  refine lv_sipush (v := -10000) hx hb d_X_isCost_1 (by decide) ?_
  refine lv_icmp_lt (tgt := 18) hx hb d_X_isCost_4 rfl (fun hc => ?_) (fun hc => ?_)
  · replace hf := br_p hc hf
    refine lv_iconst (v := 0) hx hb d_X_isCost_18 (by decide) ?_
    have h1 := Option.some.inj hf
    subst h1
    exact W.zret hx hb hr (by first | rfl | exact bz_nar _) (fun t ht _ => ⟨rfl, ht⟩) (fun _ h => by cases h) d_X_isCost_19
  · replace hf := br_n hc hf
    refine lv_iload_n hx hb d_X_isCost_7 rfl (lv_at hl 0 rfl) ?_
    refine lv_sipush (v := 10000) hx hb d_X_isCost_8 (by decide) ?_
    refine lv_icmp_gt (tgt := 18) hx hb d_X_isCost_11 rfl (fun hc => ?_) (fun hc => ?_)
    · replace hf := br_p hc hf
      refine lv_iconst (v := 0) hx hb d_X_isCost_18 (by decide) ?_
      have h1 := Option.some.inj hf
      subst h1
      exact W.zret hx hb hr (by first | rfl | exact bz_nar _) (fun t ht _ => ⟨rfl, ht⟩) (fun _ h => by cases h) d_X_isCost_19
    · replace hf := br_n hc hf
      refine lv_iconst (v := 1) hx hb d_X_isCost_14 (by decide) ?_
      refine lv_goto (tgt := 19) hx hb d_X_isCost_15 rfl ?_
      have h1 := Option.some.inj hf
      subst h1
      exact W.zret hx hb hr (by first | rfl | exact bz_nar _) (fun t ht _ => ⟨rfl, ht⟩) (fun _ h => by cases h) d_X_isCost_19
theorem c_X_isCost {l : Launch} {D : va_G} {g : Nat → ClassId} {w : va_W} {r : Bool} {n : Nat} {a0 : Int32} (hf : f_X_isCost n a0 = some r) : Met l y_X_isCost (Cond.code y_X_isCost b_X_isCost 1 (some .boolean) :: ww) rm_X_isCost (RP D CL (TY g) w [.int a0]) (k2_QcV (.int (bz r))) 0 0 (fun _ => False) := by
  refine met_of (by decide) (Nat.le_of_ble_eq_true rfl) ?_
  intro p e s m below meth c ls X hP hl
  have hl : lv_has ls 1 [(0, .int a0)] := hl
  exact w_X_isCost X hP hl hf
theorem d_X_areCuts_0 : decode b_X_areCuts 0 = .ok (.iconst 1, 1) := by decide +kernel
theorem d_X_areCuts_1 : decode b_X_areCuts 1 = .ok (.iload_n 1, 1) := by decide +kernel
theorem d_X_areCuts_2 : decode b_X_areCuts 2 = .ok (.ishl, 1) := by decide +kernel
theorem d_X_areCuts_3 : decode b_X_areCuts 3 = .ok (.iconst 2, 1) := by decide +kernel
theorem d_X_areCuts_4 : decode b_X_areCuts 4 = .ok (.isub, 1) := by decide +kernel
theorem d_X_areCuts_5 : decode b_X_areCuts 5 = .ok (.istore_n 2, 1) := by decide +kernel
theorem d_X_areCuts_6 : decode b_X_areCuts 6 = .ok (.iload_n 0, 1) := by decide +kernel
theorem d_X_areCuts_7 : decode b_X_areCuts 7 = .ok (.iload_n 2, 1) := by decide +kernel
theorem d_X_areCuts_8 : decode b_X_areCuts 8 = .ok (.iconst (-1), 1) := by decide +kernel
theorem d_X_areCuts_9 : decode b_X_areCuts 9 = .ok (.ixor, 1) := by decide +kernel
theorem d_X_areCuts_10 : decode b_X_areCuts 10 = .ok (.iand, 1) := by decide +kernel
theorem d_X_areCuts_11 : decode b_X_areCuts 11 = .ok (.ifCond .ne 7, 3) := by decide +kernel
theorem d_X_areCuts_14 : decode b_X_areCuts 14 = .ok (.iconst 1, 1) := by decide +kernel
theorem d_X_areCuts_15 : decode b_X_areCuts 15 = .ok (.goto 4, 3) := by decide +kernel
theorem d_X_areCuts_18 : decode b_X_areCuts 18 = .ok (.iconst 0, 1) := by decide +kernel
theorem d_X_areCuts_19 : decode b_X_areCuts 19 = .ok (.ireturn, 1) := by decide +kernel
abbrev rm_X_areCuts : Room := { frames := 0, cells := 0, slots := 0, locals := 0 }
def f_X_areCuts (n : Nat) (a0 : Int32) (a1 : Int32) : Option Bool := bd (((1 : Int32) <<< (a1 &&& 31)) - (2 : Int32)) (fun v1 => (if (a0 &&& (v1 ^^^ (-1 : Int32))) = 0 then (some true) else (some false)))
set_option maxHeartbeats 4000000 in
set_option maxRecDepth 100000 in
theorem w_X_areCuts {p : Program} {l : Launch} {e : Env} {s : State} {m : MethodId} {args : Array Value} {below : List Frame} {meth : Method} {c : Code} {D : va_G} {g : Nat → ClassId} {w : va_W} {r : Bool} {n : Nat} {a0 : Int32} {a1 : Int32} {ls : Array Slot} (X : Cx p s m args meth c b_X_areCuts 3 R_X (some .boolean) D CL (TY g)) (hP : va_P D CL w s.heap) (hl : lv_has ls 3 [(0, .int a0), (1, .int a1)]) (hf : f_X_areCuts n a0 a1 = some r) : WR p l e rm_X_areCuts s m args below meth c (.int (bz r)) (F0 m 0 ls []) := by
  obtain ⟨S, hr, hlk, hK⟩ := id X
  obtain ⟨hx, hb, hml, hown, hts⟩ := id S
  rw [f_X_areCuts] at hf
  refine lv_iconst (v := 1) hx hb d_X_areCuts_0 (by decide) ?_
  refine lv_iload_n hx hb d_X_areCuts_1 rfl (lv_at hl 1 rfl) ?_
  refine lv_ishl hx hb d_X_areCuts_2 ?_
  refine lv_iconst (v := 2) hx hb d_X_areCuts_3 (by decide) ?_
  refine lv_isub hx hb d_X_areCuts_4 ?_
  obtain ⟨v1, hv1, hf⟩ := bd_x hf
  refine top_i hv1 ?_
  refine lv_istore_n (lv' := [(2, .int v1), (0, .int a0), (1, .int a1)]) hx hb d_X_areCuts_5 rfl hl (Nat.le_of_ble_eq_true rfl) rfl (fun ls hl => ?_)
  refine lv_iload_n hx hb d_X_areCuts_6 rfl (lv_at hl 1 rfl) ?_
  refine lv_iload_n hx hb d_X_areCuts_7 rfl (lv_at hl 0 rfl) ?_
  refine lv_iconst (v := -1) hx hb d_X_areCuts_8 (by decide) ?_
  refine lv_ixor hx hb d_X_areCuts_9 ?_
  refine lv_iand hx hb d_X_areCuts_10 ?_
  refine lv_if_ne (tgt := 18) hx hb d_X_areCuts_11 rfl (fun hc => ?_) (fun hc => ?_)
  · replace hf := br_n hc hf
    refine lv_iconst (v := 0) hx hb d_X_areCuts_18 (by decide) ?_
    have h1 := Option.some.inj hf
    subst h1
    exact W.zret hx hb hr (by first | rfl | exact bz_nar _) (fun t ht _ => ⟨rfl, ht⟩) (fun _ h => by cases h) d_X_areCuts_19
  · replace hf := br_p hc hf
    refine lv_iconst (v := 1) hx hb d_X_areCuts_14 (by decide) ?_
    refine lv_goto (tgt := 19) hx hb d_X_areCuts_15 rfl ?_
    have h1 := Option.some.inj hf
    subst h1
    exact W.zret hx hb hr (by first | rfl | exact bz_nar _) (fun t ht _ => ⟨rfl, ht⟩) (fun _ h => by cases h) d_X_areCuts_19
theorem c_X_areCuts {l : Launch} {D : va_G} {g : Nat → ClassId} {w : va_W} {r : Bool} {n : Nat} {a0 : Int32} {a1 : Int32} (hf : f_X_areCuts n a0 a1 = some r) : Met l y_X_areCuts (Cond.code y_X_areCuts b_X_areCuts 3 (some .boolean) :: ww) rm_X_areCuts (RP D CL (TY g) w [.int a0, .int a1]) (k2_QcV (.int (bz r))) 0 0 (fun _ => False) := by
  refine met_of (by decide) (Nat.le_of_ble_eq_true rfl) ?_
  intro p e s m below meth c ls X hP hl
  have hl : lv_has ls 3 [(0, .int a0), (1, .int a1)] := hl
  exact w_X_areCuts X hP hl hf
theorem d_X_word_0 : decode b_X_word 0 = .ok (.aload_n 0, 1) := by decide +kernel
theorem d_X_word_1 : decode b_X_word 1 = .ok (.getfield 12, 3) := by decide +kernel
theorem d_X_word_4 : decode b_X_word 4 = .ok (.invokevirtual 89, 3) := by decide +kernel
theorem d_X_word_7 : decode b_X_word 7 = .ok (.istore 5, 2) := by decide +kernel
theorem d_X_word_9 : decode b_X_word 9 = .ok (.iload 5, 2) := by decide +kernel
theorem d_X_word_11 : decode b_X_word 11 = .ok (.iconst 1, 1) := by decide +kernel
theorem d_X_word_12 : decode b_X_word 12 = .ok (.if_icmp .lt 24, 3) := by decide +kernel
theorem d_X_word_15 : decode b_X_word 15 = .ok (.iload 5, 2) := by decide +kernel
theorem d_X_word_17 : decode b_X_word 17 = .ok (.bipush 8, 2) := by decide +kernel
theorem d_X_word_19 : decode b_X_word 19 = .ok (.if_icmp .gt 17, 3) := by decide +kernel
theorem d_X_word_22 : decode b_X_word 22 = .ok (.iload_n 1, 1) := by decide +kernel
theorem d_X_word_23 : decode b_X_word 23 = .ok (.invokestatic 93, 3) := by decide +kernel
theorem d_X_word_26 : decode b_X_word 26 = .ok (.ifCond .eq 10, 3) := by decide +kernel
theorem d_X_word_29 : decode b_X_word 29 = .ok (.iload_n 2, 1) := by decide +kernel
theorem d_X_word_30 : decode b_X_word 30 = .ok (.invokestatic 97, 3) := by decide +kernel
theorem d_X_word_33 : decode b_X_word 33 = .ok (.ifCond .ne 5, 3) := by decide +kernel
theorem d_X_word_36 : decode b_X_word 36 = .ok (.iconst (-1), 1) := by decide +kernel
theorem d_X_word_37 : decode b_X_word 37 = .ok (.ireturn, 1) := by decide +kernel
theorem d_X_word_38 : decode b_X_word 38 = .ok (.iload_n 3, 1) := by decide +kernel
theorem d_X_word_39 : decode b_X_word 39 = .ok (.iload 5, 2) := by decide +kernel
theorem d_X_word_41 : decode b_X_word 41 = .ok (.invokestatic 100, 3) := by decide +kernel
theorem d_X_word_44 : decode b_X_word 44 = .ok (.ifCond .ne 5, 3) := by decide +kernel
theorem d_X_word_47 : decode b_X_word 47 = .ok (.iconst (-1), 1) := by decide +kernel
theorem d_X_word_48 : decode b_X_word 48 = .ok (.ireturn, 1) := by decide +kernel
theorem d_X_word_49 : decode b_X_word 49 = .ok (.aload_n 0, 1) := by decide +kernel
theorem d_X_word_50 : decode b_X_word 50 = .ok (.iconst 0, 1) := by decide +kernel
theorem d_X_word_51 : decode b_X_word 51 = .ok (.putfield 78, 3) := by decide +kernel
theorem d_X_word_54 : decode b_X_word 54 = .ok (.aload_n 0, 1) := by decide +kernel
theorem d_X_word_55 : decode b_X_word 55 = .ok (.getfield 19, 3) := by decide +kernel
theorem d_X_word_58 : decode b_X_word 58 = .ok (.aload_n 0, 1) := by decide +kernel
theorem d_X_word_59 : decode b_X_word 59 = .ok (.getfield 12, 3) := by decide +kernel
theorem d_X_word_62 : decode b_X_word 62 = .ok (.iconst 0, 1) := by decide +kernel
theorem d_X_word_63 : decode b_X_word 63 = .ok (.iload 5, 2) := by decide +kernel
theorem d_X_word_65 : decode b_X_word 65 = .ok (.invokevirtual 104, 3) := by decide +kernel
theorem d_X_word_68 : decode b_X_word 68 = .ok (.iload_n 1, 1) := by decide +kernel
theorem d_X_word_69 : decode b_X_word 69 = .ok (.iload_n 2, 1) := by decide +kernel
theorem d_X_word_70 : decode b_X_word 70 = .ok (.iload_n 3, 1) := by decide +kernel
theorem d_X_word_71 : decode b_X_word 71 = .ok (.iload 4, 2) := by decide +kernel
theorem d_X_word_73 : decode b_X_word 73 = .ok (.invokevirtual 108, 3) := by decide +kernel
theorem d_X_word_76 : decode b_X_word 76 = .ok (.ireturn, 1) := by decide +kernel
abbrev rm_X_word : Room := { frames := 3, cells := 0, slots := 0, locals := 71 }
def f_X_word (n : Nat) (μ : Mem) (a1 : Int32) (a2 : Int32) (a3 : Int32) (a4 : Int32) : Option (Int32 × Mem) := cl (f_Draft_size n μ) (fun v1 => (if v1 < (1 : Int32) then (some ((-1 : Int32), μ)) else (if (8 : Int32) < v1 then (some ((-1 : Int32), μ)) else (cl (f_X_isWordPart n a1) (fun v2 => (if (bz v2) = 0 then (some ((-1 : Int32), μ)) else (cl (f_X_isCost n a2) (fun v3 => (if (bz v3) = 0 then (some ((-1 : Int32), μ)) else (cl (f_X_areCuts n a3 v1) (fun v4 => (if (bz v4) = 0 then (some ((-1 : Int32), μ)) else (bd (wi μ 0 10 (0 : Int32)) (fun μ5 => cl (f_Draft_text n μ5 (0 : Int32) v1) (fun v6 => cl2 (f_Lexicon_put n μ5 v6 a1 a2 a3 a4) (fun v7 μ8 => some (v7, μ8)))))))))))))))))
set_option maxHeartbeats 4000000 in
set_option maxRecDepth 100000 in
theorem w_X_word {p : Program} {l : Launch} {e : Env} {s : State} {m : MethodId} {args : Array Value} {below : List Frame} {meth : Method} {c : Code} {D : va_G} {g : Nat → ClassId} {ad : Nat → Nat} {dr : Nat → Option Nat} {pl : va_W} {r : Int32} {μ' : Mem} {A : Nat → Prop} {n : Nat} {μ : Mem} {a1 : Int32} {a2 : Int32} {a3 : Int32} {a4 : Int32} {ls : Array Slot} {H : Heap} {locs : List Loc} (X : Cx p s m args meth c b_X_word 6 R_X (some .int) D CL (TY g)) (hDA : ∀ μ : Mem, va_D A (WX g ad dr pl μ)) (hP : va_P D CL (WX g ad dr pl μ) H) (hS : va_S A s.heap H locs) (hl : lv_has ls 6 [(0, .ref (ad 0)), (1, .int a1), (2, .int a2), (3, .int a3), (4, .int a4)]) (hf : f_X_word n μ a1 a2 a3 a4 = some (r, μ')) : WU p l e rm_X_word s m args below meth c H locs D (WX g ad dr pl μ') A (some (.int r)) (F0 m 0 ls []) := by
  obtain ⟨S, hr, hlk, hK⟩ := id X
  obtain ⟨hx, hb, hml, hown, hts⟩ := id S
  rw [f_X_word] at hf
  refine lv_aload_n hx hb d_X_word_0 rfl (lv_at hl 0 rfl) ?_
  refine xg_0_0 hx hb hts hown hK hP q_246 d_X_word_1 ?_
  obtain ⟨v1, hv1, hf⟩ := cl_x hf
  refine rdV (As := []) (rest := []) S K_Draft_size q_303 (c_Draft_size hv1) hK hP ⟨rfl, rfl⟩ ⟨Nat.le_of_ble_eq_true rfl, Nat.le_of_ble_eq_true rfl⟩ (xr_1 hK hP) rfl hl.1 rfl (Nat.le_of_ble_eq_true rfl) d_X_word_4 ⟨Nat.le_refl _, Nat.le_refl _⟩ ?_
  refine lv_istore (lv' := [(5, .int v1), (0, .ref (ad 0)), (1, .int a1), (2, .int a2), (3, .int a3), (4, .int a4)]) hx hb d_X_word_7 hl (Nat.le_of_ble_eq_true rfl) rfl (fun ls hl => ?_)
  refine lv_iload hx hb d_X_word_9 (lv_at hl 0 rfl) ?_
  refine lv_iconst (v := 1) hx hb d_X_word_11 (by decide) ?_
  refine lv_icmp_lt (tgt := 36) hx hb d_X_word_12 rfl (fun hc => ?_) (fun hc => ?_)
  · replace hf := br_p hc hf
    refine lv_iconst (v := -1) hx hb d_X_word_36 (by decide) ?_
    obtain ⟨h1, h2⟩ := Prod.mk.inj (Option.some.inj hf)
    subst h1; subst h2
    exact W.iret hx hb hr (fun t ht _ => ⟨rfl, by rw [ht]; exact hP, hS.F ht⟩) hS.2.2 d_X_word_37
  · replace hf := br_n hc hf
    refine lv_iload hx hb d_X_word_15 (lv_at hl 0 rfl) ?_
    refine lv_bipush (v := 8) hx hb d_X_word_17 (by decide) ?_
    refine lv_icmp_gt (tgt := 36) hx hb d_X_word_19 rfl (fun hc => ?_) (fun hc => ?_)
    · replace hf := br_p hc hf
      refine lv_iconst (v := -1) hx hb d_X_word_36 (by decide) ?_
      obtain ⟨h1, h2⟩ := Prod.mk.inj (Option.some.inj hf)
      subst h1; subst h2
      exact W.iret hx hb hr (fun t ht _ => ⟨rfl, by rw [ht]; exact hP, hS.F ht⟩) hS.2.2 d_X_word_37
    · replace hf := br_n hc hf
      refine lv_iload_n hx hb d_X_word_22 rfl (lv_at hl 2 rfl) ?_
      obtain ⟨v2, hv2, hf⟩ := cl_x hf
      refine rdS (As := [.int a1]) (rest := []) S K_X_isWordPart q_307 (c_X_isWordPart (w := (WX g ad dr pl μ)) hv2) hK hP ⟨rfl, rfl⟩ ⟨Nat.le_of_ble_eq_true rfl, Nat.le_of_ble_eq_true rfl⟩ rfl hl.1 rfl (Nat.le_of_ble_eq_true rfl) d_X_word_23 ⟨Nat.le_refl _, Nat.le_refl _⟩ ?_
      refine lv_if_eq (tgt := 36) hx hb d_X_word_26 rfl (fun hc => ?_) (fun hc => ?_)
      · replace hf := br_p hc hf
        refine lv_iconst (v := -1) hx hb d_X_word_36 (by decide) ?_
        obtain ⟨h1, h2⟩ := Prod.mk.inj (Option.some.inj hf)
        subst h1; subst h2
        exact W.iret hx hb hr (fun t ht _ => ⟨rfl, by rw [ht]; exact hP, hS.F ht⟩) hS.2.2 d_X_word_37
      · replace hf := br_n hc hf
        refine lv_iload_n hx hb d_X_word_29 rfl (lv_at hl 3 rfl) ?_
        obtain ⟨v3, hv3, hf⟩ := cl_x hf
        refine rdS (As := [.int a2]) (rest := []) S K_X_isCost q_313 (c_X_isCost (w := (WX g ad dr pl μ)) hv3) hK hP ⟨rfl, rfl⟩ ⟨Nat.le_of_ble_eq_true rfl, Nat.le_of_ble_eq_true rfl⟩ rfl hl.1 rfl (Nat.le_of_ble_eq_true rfl) d_X_word_30 ⟨Nat.le_refl _, Nat.le_refl _⟩ ?_
        refine lv_if_ne (tgt := 38) hx hb d_X_word_33 rfl (fun hc => ?_) (fun hc => ?_)
        · replace hf := br_n hc hf
          refine lv_iload_n hx hb d_X_word_38 rfl (lv_at hl 4 rfl) ?_
          refine lv_iload hx hb d_X_word_39 (lv_at hl 0 rfl) ?_
          obtain ⟨v4, hv4, hf⟩ := cl_x hf
          refine rdS (As := [.int a3, .int v1]) (rest := []) S K_X_areCuts q_316 (c_X_areCuts (w := (WX g ad dr pl μ)) hv4) hK hP ⟨rfl, rfl⟩ ⟨Nat.le_of_ble_eq_true rfl, Nat.le_of_ble_eq_true rfl⟩ rfl hl.1 rfl (Nat.le_of_ble_eq_true rfl) d_X_word_41 ⟨Nat.le_refl _, Nat.le_refl _⟩ ?_
          refine lv_if_ne (tgt := 49) hx hb d_X_word_44 rfl (fun hc => ?_) (fun hc => ?_)
          · replace hf := br_n hc hf
            refine lv_aload_n hx hb d_X_word_49 rfl (lv_at hl 1 rfl) ?_
            refine lv_iconst (v := 0) hx hb d_X_word_50 (by decide) ?_
            obtain ⟨μ5, hμ5, hf⟩ := bd_x hf
            refine xp_0_10 hx hb hts hown hK (hDA _) hP hS q_256 rfl rfl d_X_word_51 hμ5 (fun H locs hP hS => ?_)
            refine lv_aload_n hx hb d_X_word_54 rfl (lv_at hl 1 rfl) ?_
            refine xg_0_1 hx hb hts hown hK hP q_247 d_X_word_55 ?_
            refine lv_aload_n hx hb d_X_word_58 rfl (lv_at hl 1 rfl) ?_
            refine xg_0_0 hx hb hts hown hK hP q_246 d_X_word_59 ?_
            refine lv_iconst (v := 0) hx hb d_X_word_62 (by decide) ?_
            refine lv_iload hx hb d_X_word_63 (lv_at hl 0 rfl) ?_
            obtain ⟨v6, hv6, hf⟩ := cl_x hf
            refine rdV (As := [.int (0 : Int32), .int v1]) (rest := [.ref (ad 3)]) S K_Draft_text q_319 (c_Draft_text hv6) hK hP ⟨rfl, rfl⟩ ⟨Nat.le_of_ble_eq_true rfl, Nat.le_of_ble_eq_true rfl⟩ (xr_1 hK hP) rfl hl.1 rfl (Nat.le_of_ble_eq_true rfl) d_X_word_65 ⟨Nat.le_refl _, Nat.le_refl _⟩ ?_
            refine lv_iload_n hx hb d_X_word_68 rfl (lv_at hl 2 rfl) ?_
            refine lv_iload_n hx hb d_X_word_69 rfl (lv_at hl 3 rfl) ?_
            refine lv_iload_n hx hb d_X_word_70 rfl (lv_at hl 4 rfl) ?_
            refine lv_iload hx hb d_X_word_71 (lv_at hl 5 rfl) ?_
            obtain ⟨v7, μ8, hv7, hf⟩ := cl2_x hf
            refine wrV (As := [.long v6, .int a1, .int a2, .int a3, .int a4]) (rest := []) S K_Lexicon_put q_326 (c_Lexicon_put hDA hv7) hK hP hS ⟨rfl, rfl⟩ ⟨Nat.le_of_ble_eq_true rfl, Nat.le_of_ble_eq_true rfl⟩ (xr_3 hK hP) rfl hl.1 rfl (Nat.le_of_ble_eq_true rfl) d_X_word_73 ⟨Nat.le_refl _, Nat.le_refl _⟩ (fun H locs hP hS => ?_)
            obtain ⟨h1, h2⟩ := Prod.mk.inj (Option.some.inj hf)
            subst h1; subst h2
            exact W.iret hx hb hr (fun t ht _ => ⟨rfl, by rw [ht]; exact hP, hS.F ht⟩) hS.2.2 d_X_word_76
          · replace hf := br_p hc hf
            refine lv_iconst (v := -1) hx hb d_X_word_47 (by decide) ?_
            obtain ⟨h1, h2⟩ := Prod.mk.inj (Option.some.inj hf)
            subst h1; subst h2
            exact W.iret hx hb hr (fun t ht _ => ⟨rfl, by rw [ht]; exact hP, hS.F ht⟩) hS.2.2 d_X_word_48
        · replace hf := br_p hc hf
          refine lv_iconst (v := -1) hx hb d_X_word_36 (by decide) ?_
          obtain ⟨h1, h2⟩ := Prod.mk.inj (Option.some.inj hf)
          subst h1; subst h2
          exact W.iret hx hb hr (fun t ht _ => ⟨rfl, by rw [ht]; exact hP, hS.F ht⟩) hS.2.2 d_X_word_37
theorem c_X_word {l : Launch} {D : va_G} {g : Nat → ClassId} {ad : Nat → Nat} {dr : Nat → Option Nat} {pl : va_W} {μ : Mem} {r : Int32} {μ' : Mem} {A : Nat → Prop} {n : Nat} {a1 : Int32} {a2 : Int32} {a3 : Int32} {a4 : Int32} (hDA : ∀ μ : Mem, va_D A (WX g ad dr pl μ)) (hf : f_X_word n μ a1 a2 a3 a4 = some (r, μ')) : Met l y_X_word (Cond.code y_X_word b_X_word 6 (some .int) :: ww) rm_X_word (RP D CL (TY g) (WX g ad dr pl μ) [.ref (ad 0), .int a1, .int a2, .int a3, .int a4]) (QW D CL (WX g ad dr pl μ') A (some (.int r))) 0 0 A := by
  refine met_of (by decide) (Nat.le_of_ble_eq_true rfl) ?_
  intro p e s m below meth c ls X hP hl
  have hl : lv_has ls 6 [(0, .ref (ad 0)), (1, .int a1), (2, .int a2), (3, .int a3), (4, .int a4)] := hl
  exact w_X_word X hDA hP va_S.rf hl hf
theorem d_X_rule_0 : decode b_X_rule 0 = .ok (.iload_n 1, 1) := by decide +kernel
theorem d_X_rule_1 : decode b_X_rule 1 = .ok (.ifCond .lt 18, 3) := by decide +kernel
theorem d_X_rule_4 : decode b_X_rule 4 = .ok (.iload_n 1, 1) := by decide +kernel
theorem d_X_rule_5 : decode b_X_rule 5 = .ok (.iconst 4, 1) := by decide +kernel
theorem d_X_rule_6 : decode b_X_rule 6 = .ok (.if_icmp .ge 13, 3) := by decide +kernel
theorem d_X_rule_9 : decode b_X_rule 9 = .ok (.iload_n 2, 1) := by decide +kernel
theorem d_X_rule_10 : decode b_X_rule 10 = .ok (.ifCond .lt 9, 3) := by decide +kernel
theorem d_X_rule_13 : decode b_X_rule 13 = .ok (.iload_n 2, 1) := by decide +kernel
theorem d_X_rule_14 : decode b_X_rule 14 = .ok (.bipush 19, 2) := by decide +kernel
theorem d_X_rule_16 : decode b_X_rule 16 = .ok (.if_icmp .le 5, 3) := by decide +kernel
theorem d_X_rule_19 : decode b_X_rule 19 = .ok (.iconst 0, 1) := by decide +kernel
theorem d_X_rule_20 : decode b_X_rule 20 = .ok (.ireturn, 1) := by decide +kernel
theorem d_X_rule_21 : decode b_X_rule 21 = .ok (.iload_n 3, 1) := by decide +kernel
theorem d_X_rule_22 : decode b_X_rule 22 = .ok (.invokestatic 93, 3) := by decide +kernel
theorem d_X_rule_25 : decode b_X_rule 25 = .ok (.ifCond .eq 11, 3) := by decide +kernel
theorem d_X_rule_28 : decode b_X_rule 28 = .ok (.iload 4, 2) := by decide +kernel
theorem d_X_rule_30 : decode b_X_rule 30 = .ok (.invokestatic 97, 3) := by decide +kernel
theorem d_X_rule_33 : decode b_X_rule 33 = .ok (.ifCond .ne 5, 3) := by decide +kernel
theorem d_X_rule_36 : decode b_X_rule 36 = .ok (.iconst 0, 1) := by decide +kernel
theorem d_X_rule_37 : decode b_X_rule 37 = .ok (.ireturn, 1) := by decide +kernel
theorem d_X_rule_38 : decode b_X_rule 38 = .ok (.aload_n 0, 1) := by decide +kernel
theorem d_X_rule_39 : decode b_X_rule 39 = .ok (.getfield 26, 3) := by decide +kernel
theorem d_X_rule_42 : decode b_X_rule 42 = .ok (.iload_n 1, 1) := by decide +kernel
theorem d_X_rule_43 : decode b_X_rule 43 = .ok (.iload_n 2, 1) := by decide +kernel
theorem d_X_rule_44 : decode b_X_rule 44 = .ok (.iload_n 3, 1) := by decide +kernel
theorem d_X_rule_45 : decode b_X_rule 45 = .ok (.iload 4, 2) := by decide +kernel
theorem d_X_rule_47 : decode b_X_rule 47 = .ok (.invokevirtual 112, 3) := by decide +kernel
theorem d_X_rule_50 : decode b_X_rule 50 = .ok (.aload_n 0, 1) := by decide +kernel
theorem d_X_rule_51 : decode b_X_rule 51 = .ok (.iconst 0, 1) := by decide +kernel
theorem d_X_rule_52 : decode b_X_rule 52 = .ok (.putfield 78, 3) := by decide +kernel
theorem d_X_rule_55 : decode b_X_rule 55 = .ok (.iconst 1, 1) := by decide +kernel
theorem d_X_rule_56 : decode b_X_rule 56 = .ok (.ireturn, 1) := by decide +kernel
abbrev rm_X_rule : Room := { frames := 2, cells := 0, slots := 0, locals := 40 }
def f_X_rule (n : Nat) (μ : Mem) (a1 : Int32) (a2 : Int32) (a3 : Int32) (a4 : Int32) : Option (Bool × Mem) := (if a1 < 0 then (some (false, μ)) else (if (4 : Int32) ≤ a1 then (some (false, μ)) else (if a2 < 0 then (some (false, μ)) else (if a2 ≤ (19 : Int32) then (cl (f_X_isWordPart n a3) (fun v1 => (if (bz v1) = 0 then (some (false, μ)) else (cl (f_X_isCost n a4) (fun v2 => (if (bz v2) = 0 then (some (false, μ)) else (cl (f_Grammar_setRule n μ a1 a2 a3 a4) (fun μ4 => bd (wi μ4 0 10 (0 : Int32)) (fun μ5 => some (true, μ5)))))))))) else (some (false, μ))))))
set_option maxHeartbeats 4000000 in
set_option maxRecDepth 100000 in
theorem w_X_rule {p : Program} {l : Launch} {e : Env} {s : State} {m : MethodId} {args : Array Value} {below : List Frame} {meth : Method} {c : Code} {D : va_G} {g : Nat → ClassId} {ad : Nat → Nat} {dr : Nat → Option Nat} {pl : va_W} {r : Bool} {μ' : Mem} {A : Nat → Prop} {n : Nat} {μ : Mem} {a1 : Int32} {a2 : Int32} {a3 : Int32} {a4 : Int32} {ls : Array Slot} {H : Heap} {locs : List Loc} (X : Cx p s m args meth c b_X_rule 5 R_X (some .boolean) D CL (TY g)) (hDA : ∀ μ : Mem, va_D A (WX g ad dr pl μ)) (hP : va_P D CL (WX g ad dr pl μ) H) (hS : va_S A s.heap H locs) (hl : lv_has ls 5 [(0, .ref (ad 0)), (1, .int a1), (2, .int a2), (3, .int a3), (4, .int a4)]) (hf : f_X_rule n μ a1 a2 a3 a4 = some (r, μ')) : WU p l e rm_X_rule s m args below meth c H locs D (WX g ad dr pl μ') A (some (.int (bz r))) (F0 m 0 ls []) := by
  obtain ⟨S, hr, hlk, hK⟩ := id X
  obtain ⟨hx, hb, hml, hown, hts⟩ := id S
  rw [f_X_rule] at hf
  refine lv_iload_n hx hb d_X_rule_0 rfl (lv_at hl 1 rfl) ?_
  refine lv_if_lt (tgt := 19) hx hb d_X_rule_1 rfl (fun hc => ?_) (fun hc => ?_)
  · replace hf := br_p hc hf
    refine lv_iconst (v := 0) hx hb d_X_rule_19 (by decide) ?_
    obtain ⟨h1, h2⟩ := Prod.mk.inj (Option.some.inj hf)
    subst h1; subst h2
    exact W.zret hx hb hr (by first | rfl | exact bz_nar _) (fun t ht _ => ⟨rfl, by rw [ht]; exact hP, hS.F ht⟩) hS.2.2 d_X_rule_20
  · replace hf := br_n hc hf
    refine lv_iload_n hx hb d_X_rule_4 rfl (lv_at hl 1 rfl) ?_
    refine lv_iconst (v := 4) hx hb d_X_rule_5 (by decide) ?_
    refine lv_icmp_ge (tgt := 19) hx hb d_X_rule_6 rfl (fun hc => ?_) (fun hc => ?_)
    · replace hf := br_p hc hf
      refine lv_iconst (v := 0) hx hb d_X_rule_19 (by decide) ?_
      obtain ⟨h1, h2⟩ := Prod.mk.inj (Option.some.inj hf)
      subst h1; subst h2
      exact W.zret hx hb hr (by first | rfl | exact bz_nar _) (fun t ht _ => ⟨rfl, by rw [ht]; exact hP, hS.F ht⟩) hS.2.2 d_X_rule_20
    · replace hf := br_n hc hf
      refine lv_iload_n hx hb d_X_rule_9 rfl (lv_at hl 2 rfl) ?_
      refine lv_if_lt (tgt := 19) hx hb d_X_rule_10 rfl (fun hc => ?_) (fun hc => ?_)
      · replace hf := br_p hc hf
        refine lv_iconst (v := 0) hx hb d_X_rule_19 (by decide) ?_
        obtain ⟨h1, h2⟩ := Prod.mk.inj (Option.some.inj hf)
        subst h1; subst h2
        exact W.zret hx hb hr (by first | rfl | exact bz_nar _) (fun t ht _ => ⟨rfl, by rw [ht]; exact hP, hS.F ht⟩) hS.2.2 d_X_rule_20
      · replace hf := br_n hc hf
        refine lv_iload_n hx hb d_X_rule_13 rfl (lv_at hl 2 rfl) ?_
        refine lv_bipush (v := 19) hx hb d_X_rule_14 (by decide) ?_
        refine lv_icmp_le (tgt := 21) hx hb d_X_rule_16 rfl (fun hc => ?_) (fun hc => ?_)
        · replace hf := br_p hc hf
          refine lv_iload_n hx hb d_X_rule_21 rfl (lv_at hl 3 rfl) ?_
          obtain ⟨v1, hv1, hf⟩ := cl_x hf
          refine rdS (As := [.int a3]) (rest := []) S K_X_isWordPart q_307 (c_X_isWordPart (w := (WX g ad dr pl μ)) hv1) hK hP ⟨rfl, rfl⟩ ⟨Nat.le_of_ble_eq_true rfl, Nat.le_of_ble_eq_true rfl⟩ rfl hl.1 rfl (Nat.le_of_ble_eq_true rfl) d_X_rule_22 ⟨Nat.le_refl _, Nat.le_refl _⟩ ?_
          refine lv_if_eq (tgt := 36) hx hb d_X_rule_25 rfl (fun hc => ?_) (fun hc => ?_)
          · replace hf := br_p hc hf
            refine lv_iconst (v := 0) hx hb d_X_rule_36 (by decide) ?_
            obtain ⟨h1, h2⟩ := Prod.mk.inj (Option.some.inj hf)
            subst h1; subst h2
            exact W.zret hx hb hr (by first | rfl | exact bz_nar _) (fun t ht _ => ⟨rfl, by rw [ht]; exact hP, hS.F ht⟩) hS.2.2 d_X_rule_37
          · replace hf := br_n hc hf
            refine lv_iload hx hb d_X_rule_28 (lv_at hl 4 rfl) ?_
            obtain ⟨v2, hv2, hf⟩ := cl_x hf
            refine rdS (As := [.int a4]) (rest := []) S K_X_isCost q_313 (c_X_isCost (w := (WX g ad dr pl μ)) hv2) hK hP ⟨rfl, rfl⟩ ⟨Nat.le_of_ble_eq_true rfl, Nat.le_of_ble_eq_true rfl⟩ rfl hl.1 rfl (Nat.le_of_ble_eq_true rfl) d_X_rule_30 ⟨Nat.le_refl _, Nat.le_refl _⟩ ?_
            refine lv_if_ne (tgt := 38) hx hb d_X_rule_33 rfl (fun hc => ?_) (fun hc => ?_)
            · replace hf := br_n hc hf
              refine lv_aload_n hx hb d_X_rule_38 rfl (lv_at hl 0 rfl) ?_
              refine xg_0_2 hx hb hts hown hK hP q_248 d_X_rule_39 ?_
              refine lv_iload_n hx hb d_X_rule_42 rfl (lv_at hl 1 rfl) ?_
              refine lv_iload_n hx hb d_X_rule_43 rfl (lv_at hl 2 rfl) ?_
              refine lv_iload_n hx hb d_X_rule_44 rfl (lv_at hl 3 rfl) ?_
              refine lv_iload hx hb d_X_rule_45 (lv_at hl 4 rfl) ?_
              obtain ⟨μ4, hv3, hf⟩ := cl_x hf
              refine wrV (As := [.int a1, .int a2, .int a3, .int a4]) (rest := []) S K_Grammar_setRule q_339 (c_Grammar_setRule hDA hv3) hK hP hS ⟨rfl, rfl⟩ ⟨Nat.le_of_ble_eq_true rfl, Nat.le_of_ble_eq_true rfl⟩ (xr_10 hK hP) rfl hl.1 rfl (Nat.le_of_ble_eq_true rfl) d_X_rule_47 ⟨Nat.le_refl _, Nat.le_refl _⟩ (fun H locs hP hS => ?_)
              refine lv_aload_n hx hb d_X_rule_50 rfl (lv_at hl 0 rfl) ?_
              refine lv_iconst (v := 0) hx hb d_X_rule_51 (by decide) ?_
              obtain ⟨μ5, hμ5, hf⟩ := bd_x hf
              refine xp_0_10 hx hb hts hown hK (hDA _) hP hS q_256 rfl rfl d_X_rule_52 hμ5 (fun H locs hP hS => ?_)
              refine lv_iconst (v := 1) hx hb d_X_rule_55 (by decide) ?_
              obtain ⟨h1, h2⟩ := Prod.mk.inj (Option.some.inj hf)
              subst h1; subst h2
              exact W.zret hx hb hr (by first | rfl | exact bz_nar _) (fun t ht _ => ⟨rfl, by rw [ht]; exact hP, hS.F ht⟩) hS.2.2 d_X_rule_56
            · replace hf := br_p hc hf
              refine lv_iconst (v := 0) hx hb d_X_rule_36 (by decide) ?_
              obtain ⟨h1, h2⟩ := Prod.mk.inj (Option.some.inj hf)
              subst h1; subst h2
              exact W.zret hx hb hr (by first | rfl | exact bz_nar _) (fun t ht _ => ⟨rfl, by rw [ht]; exact hP, hS.F ht⟩) hS.2.2 d_X_rule_37
        · replace hf := br_n hc hf
          refine lv_iconst (v := 0) hx hb d_X_rule_19 (by decide) ?_
          obtain ⟨h1, h2⟩ := Prod.mk.inj (Option.some.inj hf)
          subst h1; subst h2
          exact W.zret hx hb hr (by first | rfl | exact bz_nar _) (fun t ht _ => ⟨rfl, by rw [ht]; exact hP, hS.F ht⟩) hS.2.2 d_X_rule_20
theorem c_X_rule {l : Launch} {D : va_G} {g : Nat → ClassId} {ad : Nat → Nat} {dr : Nat → Option Nat} {pl : va_W} {μ : Mem} {r : Bool} {μ' : Mem} {A : Nat → Prop} {n : Nat} {a1 : Int32} {a2 : Int32} {a3 : Int32} {a4 : Int32} (hDA : ∀ μ : Mem, va_D A (WX g ad dr pl μ)) (hf : f_X_rule n μ a1 a2 a3 a4 = some (r, μ')) : Met l y_X_rule (Cond.code y_X_rule b_X_rule 5 (some .boolean) :: ww) rm_X_rule (RP D CL (TY g) (WX g ad dr pl μ) [.ref (ad 0), .int a1, .int a2, .int a3, .int a4]) (QW D CL (WX g ad dr pl μ') A (some (.int (bz r)))) 0 0 A := by
  refine met_of (by decide) (Nat.le_of_ble_eq_true rfl) ?_
  intro p e s m below meth c ls X hP hl
  have hl : lv_has ls 5 [(0, .ref (ad 0)), (1, .int a1), (2, .int a2), (3, .int a3), (4, .int a4)] := hl
  exact w_X_rule X hDA hP va_S.rf hl hf
theorem d_X_link_0 : decode b_X_link 0 = .ok (.iload_n 1, 1) := by decide +kernel
theorem d_X_link_1 : decode b_X_link 1 = .ok (.invokestatic 116, 3) := by decide +kernel
theorem d_X_link_4 : decode b_X_link 4 = .ok (.ifCond .eq 17, 3) := by decide +kernel
theorem d_X_link_7 : decode b_X_link 7 = .ok (.iload_n 2, 1) := by decide +kernel
theorem d_X_link_8 : decode b_X_link 8 = .ok (.invokestatic 116, 3) := by decide +kernel
theorem d_X_link_11 : decode b_X_link 11 = .ok (.ifCond .eq 10, 3) := by decide +kernel
theorem d_X_link_14 : decode b_X_link 14 = .ok (.iload_n 3, 1) := by decide +kernel
theorem d_X_link_15 : decode b_X_link 15 = .ok (.invokestatic 97, 3) := by decide +kernel
theorem d_X_link_18 : decode b_X_link 18 = .ok (.ifCond .ne 5, 3) := by decide +kernel
theorem d_X_link_21 : decode b_X_link 21 = .ok (.iconst 0, 1) := by decide +kernel
theorem d_X_link_22 : decode b_X_link 22 = .ok (.ireturn, 1) := by decide +kernel
theorem d_X_link_23 : decode b_X_link 23 = .ok (.aload_n 0, 1) := by decide +kernel
theorem d_X_link_24 : decode b_X_link 24 = .ok (.getfield 26, 3) := by decide +kernel
theorem d_X_link_27 : decode b_X_link 27 = .ok (.iload_n 1, 1) := by decide +kernel
theorem d_X_link_28 : decode b_X_link 28 = .ok (.iload_n 2, 1) := by decide +kernel
theorem d_X_link_29 : decode b_X_link 29 = .ok (.iload_n 3, 1) := by decide +kernel
theorem d_X_link_30 : decode b_X_link 30 = .ok (.invokevirtual 119, 3) := by decide +kernel
theorem d_X_link_33 : decode b_X_link 33 = .ok (.aload_n 0, 1) := by decide +kernel
theorem d_X_link_34 : decode b_X_link 34 = .ok (.iconst 0, 1) := by decide +kernel
theorem d_X_link_35 : decode b_X_link 35 = .ok (.putfield 78, 3) := by decide +kernel
theorem d_X_link_38 : decode b_X_link 38 = .ok (.iconst 1, 1) := by decide +kernel
theorem d_X_link_39 : decode b_X_link 39 = .ok (.ireturn, 1) := by decide +kernel
abbrev rm_X_link : Room := { frames := 1, cells := 0, slots := 0, locals := 23 }
def f_X_link (n : Nat) (μ : Mem) (a1 : Int32) (a2 : Int32) (a3 : Int32) : Option (Bool × Mem) := cl (f_X_isPart n a1) (fun v1 => (if (bz v1) = 0 then (some (false, μ)) else (cl (f_X_isPart n a2) (fun v2 => (if (bz v2) = 0 then (some (false, μ)) else (cl (f_X_isCost n a3) (fun v3 => (if (bz v3) = 0 then (some (false, μ)) else (cl (f_Grammar_setLink n μ a1 a2 a3) (fun μ5 => bd (wi μ5 0 10 (0 : Int32)) (fun μ6 => some (true, μ6))))))))))))
set_option maxHeartbeats 4000000 in
set_option maxRecDepth 100000 in
theorem w_X_link {p : Program} {l : Launch} {e : Env} {s : State} {m : MethodId} {args : Array Value} {below : List Frame} {meth : Method} {c : Code} {D : va_G} {g : Nat → ClassId} {ad : Nat → Nat} {dr : Nat → Option Nat} {pl : va_W} {r : Bool} {μ' : Mem} {A : Nat → Prop} {n : Nat} {μ : Mem} {a1 : Int32} {a2 : Int32} {a3 : Int32} {ls : Array Slot} {H : Heap} {locs : List Loc} (X : Cx p s m args meth c b_X_link 4 R_X (some .boolean) D CL (TY g)) (hDA : ∀ μ : Mem, va_D A (WX g ad dr pl μ)) (hP : va_P D CL (WX g ad dr pl μ) H) (hS : va_S A s.heap H locs) (hl : lv_has ls 4 [(0, .ref (ad 0)), (1, .int a1), (2, .int a2), (3, .int a3)]) (hf : f_X_link n μ a1 a2 a3 = some (r, μ')) : WU p l e rm_X_link s m args below meth c H locs D (WX g ad dr pl μ') A (some (.int (bz r))) (F0 m 0 ls []) := by
  obtain ⟨S, hr, hlk, hK⟩ := id X
  obtain ⟨hx, hb, hml, hown, hts⟩ := id S
  rw [f_X_link] at hf
  refine lv_iload_n hx hb d_X_link_0 rfl (lv_at hl 1 rfl) ?_
  obtain ⟨v1, hv1, hf⟩ := cl_x hf
  refine rdS (As := [.int a1]) (rest := []) S K_X_isPart q_310 (c_X_isPart (w := (WX g ad dr pl μ)) hv1) hK hP ⟨rfl, rfl⟩ ⟨Nat.le_of_ble_eq_true rfl, Nat.le_of_ble_eq_true rfl⟩ rfl hl.1 rfl (Nat.le_of_ble_eq_true rfl) d_X_link_1 ⟨Nat.le_refl _, Nat.le_refl _⟩ ?_
  refine lv_if_eq (tgt := 21) hx hb d_X_link_4 rfl (fun hc => ?_) (fun hc => ?_)
  · replace hf := br_p hc hf
    refine lv_iconst (v := 0) hx hb d_X_link_21 (by decide) ?_
    obtain ⟨h1, h2⟩ := Prod.mk.inj (Option.some.inj hf)
    subst h1; subst h2
    exact W.zret hx hb hr (by first | rfl | exact bz_nar _) (fun t ht _ => ⟨rfl, by rw [ht]; exact hP, hS.F ht⟩) hS.2.2 d_X_link_22
  · replace hf := br_n hc hf
    refine lv_iload_n hx hb d_X_link_7 rfl (lv_at hl 2 rfl) ?_
    obtain ⟨v2, hv2, hf⟩ := cl_x hf
    refine rdS (As := [.int a2]) (rest := []) S K_X_isPart q_310 (c_X_isPart (w := (WX g ad dr pl μ)) hv2) hK hP ⟨rfl, rfl⟩ ⟨Nat.le_of_ble_eq_true rfl, Nat.le_of_ble_eq_true rfl⟩ rfl hl.1 rfl (Nat.le_of_ble_eq_true rfl) d_X_link_8 ⟨Nat.le_refl _, Nat.le_refl _⟩ ?_
    refine lv_if_eq (tgt := 21) hx hb d_X_link_11 rfl (fun hc => ?_) (fun hc => ?_)
    · replace hf := br_p hc hf
      refine lv_iconst (v := 0) hx hb d_X_link_21 (by decide) ?_
      obtain ⟨h1, h2⟩ := Prod.mk.inj (Option.some.inj hf)
      subst h1; subst h2
      exact W.zret hx hb hr (by first | rfl | exact bz_nar _) (fun t ht _ => ⟨rfl, by rw [ht]; exact hP, hS.F ht⟩) hS.2.2 d_X_link_22
    · replace hf := br_n hc hf
      refine lv_iload_n hx hb d_X_link_14 rfl (lv_at hl 3 rfl) ?_
      obtain ⟨v3, hv3, hf⟩ := cl_x hf
      refine rdS (As := [.int a3]) (rest := []) S K_X_isCost q_313 (c_X_isCost (w := (WX g ad dr pl μ)) hv3) hK hP ⟨rfl, rfl⟩ ⟨Nat.le_of_ble_eq_true rfl, Nat.le_of_ble_eq_true rfl⟩ rfl hl.1 rfl (Nat.le_of_ble_eq_true rfl) d_X_link_15 ⟨Nat.le_refl _, Nat.le_refl _⟩ ?_
      refine lv_if_ne (tgt := 23) hx hb d_X_link_18 rfl (fun hc => ?_) (fun hc => ?_)
      · replace hf := br_n hc hf
        refine lv_aload_n hx hb d_X_link_23 rfl (lv_at hl 0 rfl) ?_
        refine xg_0_2 hx hb hts hown hK hP q_248 d_X_link_24 ?_
        refine lv_iload_n hx hb d_X_link_27 rfl (lv_at hl 1 rfl) ?_
        refine lv_iload_n hx hb d_X_link_28 rfl (lv_at hl 2 rfl) ?_
        refine lv_iload_n hx hb d_X_link_29 rfl (lv_at hl 3 rfl) ?_
        obtain ⟨μ5, hv4, hf⟩ := cl_x hf
        refine wrV (As := [.int a1, .int a2, .int a3]) (rest := []) S K_Grammar_setLink q_347 (c_Grammar_setLink hDA hv4) hK hP hS ⟨rfl, rfl⟩ ⟨Nat.le_of_ble_eq_true rfl, Nat.le_of_ble_eq_true rfl⟩ (xr_10 hK hP) rfl hl.1 rfl (Nat.le_of_ble_eq_true rfl) d_X_link_30 ⟨Nat.le_refl _, Nat.le_refl _⟩ (fun H locs hP hS => ?_)
        refine lv_aload_n hx hb d_X_link_33 rfl (lv_at hl 0 rfl) ?_
        refine lv_iconst (v := 0) hx hb d_X_link_34 (by decide) ?_
        obtain ⟨μ6, hμ6, hf⟩ := bd_x hf
        refine xp_0_10 hx hb hts hown hK (hDA _) hP hS q_256 rfl rfl d_X_link_35 hμ6 (fun H locs hP hS => ?_)
        refine lv_iconst (v := 1) hx hb d_X_link_38 (by decide) ?_
        obtain ⟨h1, h2⟩ := Prod.mk.inj (Option.some.inj hf)
        subst h1; subst h2
        exact W.zret hx hb hr (by first | rfl | exact bz_nar _) (fun t ht _ => ⟨rfl, by rw [ht]; exact hP, hS.F ht⟩) hS.2.2 d_X_link_39
      · replace hf := br_p hc hf
        refine lv_iconst (v := 0) hx hb d_X_link_21 (by decide) ?_
        obtain ⟨h1, h2⟩ := Prod.mk.inj (Option.some.inj hf)
        subst h1; subst h2
        exact W.zret hx hb hr (by first | rfl | exact bz_nar _) (fun t ht _ => ⟨rfl, by rw [ht]; exact hP, hS.F ht⟩) hS.2.2 d_X_link_22
theorem c_X_link {l : Launch} {D : va_G} {g : Nat → ClassId} {ad : Nat → Nat} {dr : Nat → Option Nat} {pl : va_W} {μ : Mem} {r : Bool} {μ' : Mem} {A : Nat → Prop} {n : Nat} {a1 : Int32} {a2 : Int32} {a3 : Int32} (hDA : ∀ μ : Mem, va_D A (WX g ad dr pl μ)) (hf : f_X_link n μ a1 a2 a3 = some (r, μ')) : Met l y_X_link (Cond.code y_X_link b_X_link 4 (some .boolean) :: ww) rm_X_link (RP D CL (TY g) (WX g ad dr pl μ) [.ref (ad 0), .int a1, .int a2, .int a3]) (QW D CL (WX g ad dr pl μ') A (some (.int (bz r)))) 0 0 A := by
  refine met_of (by decide) (Nat.le_of_ble_eq_true rfl) ?_
  intro p e s m below meth c ls X hP hl
  have hl : lv_has ls 4 [(0, .ref (ad 0)), (1, .int a1), (2, .int a2), (3, .int a3)] := hl
  exact w_X_link X hDA hP va_S.rf hl hf
theorem d_X_mode_0 : decode b_X_mode 0 = .ok (.iload_n 1, 1) := by decide +kernel
theorem d_X_mode_1 : decode b_X_mode 1 = .ok (.ifCond .lt 21, 3) := by decide +kernel
theorem d_X_mode_4 : decode b_X_mode 4 = .ok (.iload_n 1, 1) := by decide +kernel
theorem d_X_mode_5 : decode b_X_mode 5 = .ok (.sipush 10000, 3) := by decide +kernel
theorem d_X_mode_8 : decode b_X_mode 8 = .ok (.if_icmp .gt 14, 3) := by decide +kernel
theorem d_X_mode_11 : decode b_X_mode 11 = .ok (.iload_n 2, 1) := by decide +kernel
theorem d_X_mode_12 : decode b_X_mode 12 = .ok (.ifCond .lt 10, 3) := by decide +kernel
theorem d_X_mode_15 : decode b_X_mode 15 = .ok (.iload_n 2, 1) := by decide +kernel
theorem d_X_mode_16 : decode b_X_mode 16 = .ok (.sipush 10000, 3) := by decide +kernel
theorem d_X_mode_19 : decode b_X_mode 19 = .ok (.if_icmp .le 5, 3) := by decide +kernel
theorem d_X_mode_22 : decode b_X_mode 22 = .ok (.iconst 0, 1) := by decide +kernel
theorem d_X_mode_23 : decode b_X_mode 23 = .ok (.ireturn, 1) := by decide +kernel
theorem d_X_mode_24 : decode b_X_mode 24 = .ok (.aload_n 0, 1) := by decide +kernel
theorem d_X_mode_25 : decode b_X_mode 25 = .ok (.getfield 26, 3) := by decide +kernel
theorem d_X_mode_28 : decode b_X_mode 28 = .ok (.iload_n 1, 1) := by decide +kernel
theorem d_X_mode_29 : decode b_X_mode 29 = .ok (.iload_n 2, 1) := by decide +kernel
theorem d_X_mode_30 : decode b_X_mode 30 = .ok (.invokevirtual 123, 3) := by decide +kernel
theorem d_X_mode_33 : decode b_X_mode 33 = .ok (.aload_n 0, 1) := by decide +kernel
theorem d_X_mode_34 : decode b_X_mode 34 = .ok (.iconst 0, 1) := by decide +kernel
theorem d_X_mode_35 : decode b_X_mode 35 = .ok (.putfield 78, 3) := by decide +kernel
theorem d_X_mode_38 : decode b_X_mode 38 = .ok (.iconst 1, 1) := by decide +kernel
theorem d_X_mode_39 : decode b_X_mode 39 = .ok (.ireturn, 1) := by decide +kernel
abbrev rm_X_mode : Room := { frames := 1, cells := 0, slots := 0, locals := 22 }
def f_X_mode (n : Nat) (μ : Mem) (a1 : Int32) (a2 : Int32) : Option (Bool × Mem) := (if a1 < 0 then (some (false, μ)) else (if (10000 : Int32) < a1 then (some (false, μ)) else (if a2 < 0 then (some (false, μ)) else (if a2 ≤ (10000 : Int32) then (cl (f_Grammar_setMode n μ a1 a2) (fun μ2 => bd (wi μ2 0 10 (0 : Int32)) (fun μ3 => some (true, μ3)))) else (some (false, μ))))))
set_option maxHeartbeats 4000000 in
set_option maxRecDepth 100000 in
theorem w_X_mode {p : Program} {l : Launch} {e : Env} {s : State} {m : MethodId} {args : Array Value} {below : List Frame} {meth : Method} {c : Code} {D : va_G} {g : Nat → ClassId} {ad : Nat → Nat} {dr : Nat → Option Nat} {pl : va_W} {r : Bool} {μ' : Mem} {A : Nat → Prop} {n : Nat} {μ : Mem} {a1 : Int32} {a2 : Int32} {ls : Array Slot} {H : Heap} {locs : List Loc} (X : Cx p s m args meth c b_X_mode 3 R_X (some .boolean) D CL (TY g)) (hDA : ∀ μ : Mem, va_D A (WX g ad dr pl μ)) (hP : va_P D CL (WX g ad dr pl μ) H) (hS : va_S A s.heap H locs) (hl : lv_has ls 3 [(0, .ref (ad 0)), (1, .int a1), (2, .int a2)]) (hf : f_X_mode n μ a1 a2 = some (r, μ')) : WU p l e rm_X_mode s m args below meth c H locs D (WX g ad dr pl μ') A (some (.int (bz r))) (F0 m 0 ls []) := by
  obtain ⟨S, hr, hlk, hK⟩ := id X
  obtain ⟨hx, hb, hml, hown, hts⟩ := id S
  rw [f_X_mode] at hf
  refine lv_iload_n hx hb d_X_mode_0 rfl (lv_at hl 1 rfl) ?_
  refine lv_if_lt (tgt := 22) hx hb d_X_mode_1 rfl (fun hc => ?_) (fun hc => ?_)
  · replace hf := br_p hc hf
    refine lv_iconst (v := 0) hx hb d_X_mode_22 (by decide) ?_
    obtain ⟨h1, h2⟩ := Prod.mk.inj (Option.some.inj hf)
    subst h1; subst h2
    exact W.zret hx hb hr (by first | rfl | exact bz_nar _) (fun t ht _ => ⟨rfl, by rw [ht]; exact hP, hS.F ht⟩) hS.2.2 d_X_mode_23
  · replace hf := br_n hc hf
    refine lv_iload_n hx hb d_X_mode_4 rfl (lv_at hl 1 rfl) ?_
    refine lv_sipush (v := 10000) hx hb d_X_mode_5 (by decide) ?_
    refine lv_icmp_gt (tgt := 22) hx hb d_X_mode_8 rfl (fun hc => ?_) (fun hc => ?_)
    · replace hf := br_p hc hf
      refine lv_iconst (v := 0) hx hb d_X_mode_22 (by decide) ?_
      obtain ⟨h1, h2⟩ := Prod.mk.inj (Option.some.inj hf)
      subst h1; subst h2
      exact W.zret hx hb hr (by first | rfl | exact bz_nar _) (fun t ht _ => ⟨rfl, by rw [ht]; exact hP, hS.F ht⟩) hS.2.2 d_X_mode_23
    · replace hf := br_n hc hf
      refine lv_iload_n hx hb d_X_mode_11 rfl (lv_at hl 2 rfl) ?_
      refine lv_if_lt (tgt := 22) hx hb d_X_mode_12 rfl (fun hc => ?_) (fun hc => ?_)
      · replace hf := br_p hc hf
        refine lv_iconst (v := 0) hx hb d_X_mode_22 (by decide) ?_
        obtain ⟨h1, h2⟩ := Prod.mk.inj (Option.some.inj hf)
        subst h1; subst h2
        exact W.zret hx hb hr (by first | rfl | exact bz_nar _) (fun t ht _ => ⟨rfl, by rw [ht]; exact hP, hS.F ht⟩) hS.2.2 d_X_mode_23
      · replace hf := br_n hc hf
        refine lv_iload_n hx hb d_X_mode_15 rfl (lv_at hl 2 rfl) ?_
        refine lv_sipush (v := 10000) hx hb d_X_mode_16 (by decide) ?_
        refine lv_icmp_le (tgt := 24) hx hb d_X_mode_19 rfl (fun hc => ?_) (fun hc => ?_)
        · replace hf := br_p hc hf
          refine lv_aload_n hx hb d_X_mode_24 rfl (lv_at hl 0 rfl) ?_
          refine xg_0_2 hx hb hts hown hK hP q_248 d_X_mode_25 ?_
          refine lv_iload_n hx hb d_X_mode_28 rfl (lv_at hl 1 rfl) ?_
          refine lv_iload_n hx hb d_X_mode_29 rfl (lv_at hl 2 rfl) ?_
          obtain ⟨μ2, hv1, hf⟩ := cl_x hf
          refine wrV (As := [.int a1, .int a2]) (rest := []) S K_Grammar_setMode q_355 (c_Grammar_setMode hDA hv1) hK hP hS ⟨rfl, rfl⟩ ⟨Nat.le_of_ble_eq_true rfl, Nat.le_of_ble_eq_true rfl⟩ (xr_10 hK hP) rfl hl.1 rfl (Nat.le_of_ble_eq_true rfl) d_X_mode_30 ⟨Nat.le_refl _, Nat.le_refl _⟩ (fun H locs hP hS => ?_)
          refine lv_aload_n hx hb d_X_mode_33 rfl (lv_at hl 0 rfl) ?_
          refine lv_iconst (v := 0) hx hb d_X_mode_34 (by decide) ?_
          obtain ⟨μ3, hμ3, hf⟩ := bd_x hf
          refine xp_0_10 hx hb hts hown hK (hDA _) hP hS q_256 rfl rfl d_X_mode_35 hμ3 (fun H locs hP hS => ?_)
          refine lv_iconst (v := 1) hx hb d_X_mode_38 (by decide) ?_
          obtain ⟨h1, h2⟩ := Prod.mk.inj (Option.some.inj hf)
          subst h1; subst h2
          exact W.zret hx hb hr (by first | rfl | exact bz_nar _) (fun t ht _ => ⟨rfl, by rw [ht]; exact hP, hS.F ht⟩) hS.2.2 d_X_mode_39
        · replace hf := br_n hc hf
          refine lv_iconst (v := 0) hx hb d_X_mode_22 (by decide) ?_
          obtain ⟨h1, h2⟩ := Prod.mk.inj (Option.some.inj hf)
          subst h1; subst h2
          exact W.zret hx hb hr (by first | rfl | exact bz_nar _) (fun t ht _ => ⟨rfl, by rw [ht]; exact hP, hS.F ht⟩) hS.2.2 d_X_mode_23
theorem c_X_mode {l : Launch} {D : va_G} {g : Nat → ClassId} {ad : Nat → Nat} {dr : Nat → Option Nat} {pl : va_W} {μ : Mem} {r : Bool} {μ' : Mem} {A : Nat → Prop} {n : Nat} {a1 : Int32} {a2 : Int32} (hDA : ∀ μ : Mem, va_D A (WX g ad dr pl μ)) (hf : f_X_mode n μ a1 a2 = some (r, μ')) : Met l y_X_mode (Cond.code y_X_mode b_X_mode 3 (some .boolean) :: ww) rm_X_mode (RP D CL (TY g) (WX g ad dr pl μ) [.ref (ad 0), .int a1, .int a2]) (QW D CL (WX g ad dr pl μ') A (some (.int (bz r)))) 0 0 A := by
  refine met_of (by decide) (Nat.le_of_ble_eq_true rfl) ?_
  intro p e s m below meth c ls X hP hl
  have hl : lv_has ls 3 [(0, .ref (ad 0)), (1, .int a1), (2, .int a2)] := hl
  exact w_X_mode X hDA hP va_S.rf hl hf
theorem d_X_chain_0 : decode b_X_chain 0 = .ok (.iload_n 1, 1) := by decide +kernel
theorem d_X_chain_1 : decode b_X_chain 1 = .ok (.iconst (-1), 1) := by decide +kernel
theorem d_X_chain_2 : decode b_X_chain 2 = .ok (.if_icmp .ne 12, 3) := by decide +kernel
theorem d_X_chain_5 : decode b_X_chain 5 = .ok (.aload_n 0, 1) := by decide +kernel
theorem d_X_chain_6 : decode b_X_chain 6 = .ok (.getfield 33, 3) := by decide +kernel
theorem d_X_chain_9 : decode b_X_chain 9 = .ok (.invokevirtual 127, 3) := by decide +kernel
theorem d_X_chain_12 : decode b_X_chain 12 = .ok (.iconst 1, 1) := by decide +kernel
theorem d_X_chain_13 : decode b_X_chain 13 = .ok (.ireturn, 1) := by decide +kernel
theorem d_X_chain_14 : decode b_X_chain 14 = .ok (.aload_n 0, 1) := by decide +kernel
theorem d_X_chain_15 : decode b_X_chain 15 = .ok (.getfield 33, 3) := by decide +kernel
theorem d_X_chain_18 : decode b_X_chain 18 = .ok (.iload_n 1, 1) := by decide +kernel
theorem d_X_chain_19 : decode b_X_chain 19 = .ok (.iload_n 2, 1) := by decide +kernel
theorem d_X_chain_20 : decode b_X_chain 20 = .ok (.invokevirtual 128, 3) := by decide +kernel
theorem d_X_chain_23 : decode b_X_chain 23 = .ok (.ireturn, 1) := by decide +kernel
abbrev rm_X_chain : Room := { frames := 2, cells := 0, slots := 0, locals := 43 }
def f_X_chain (n : Nat) (μ : Mem) (a1 : Int32) (a2 : Int32) : Option (Bool × Mem) := (if a1 = (-1 : Int32) then (cl (f_Filters_clear n μ) (fun μ4 => some (true, μ4))) else (cl2 (f_Filters_append n μ a1 a2) (fun v1 μ2 => some (v1, μ2))))
set_option maxHeartbeats 4000000 in
set_option maxRecDepth 100000 in
theorem w_X_chain {p : Program} {l : Launch} {e : Env} {s : State} {m : MethodId} {args : Array Value} {below : List Frame} {meth : Method} {c : Code} {D : va_G} {g : Nat → ClassId} {ad : Nat → Nat} {dr : Nat → Option Nat} {pl : va_W} {r : Bool} {μ' : Mem} {A : Nat → Prop} {n : Nat} {μ : Mem} {a1 : Int32} {a2 : Int32} {ls : Array Slot} {H : Heap} {locs : List Loc} (X : Cx p s m args meth c b_X_chain 3 R_X (some .boolean) D CL (TY g)) (hDA : ∀ μ : Mem, va_D A (WX g ad dr pl μ)) (hP : va_P D CL (WX g ad dr pl μ) H) (hS : va_S A s.heap H locs) (hl : lv_has ls 3 [(0, .ref (ad 0)), (1, .int a1), (2, .int a2)]) (hf : f_X_chain n μ a1 a2 = some (r, μ')) : WU p l e rm_X_chain s m args below meth c H locs D (WX g ad dr pl μ') A (some (.int (bz r))) (F0 m 0 ls []) := by
  obtain ⟨S, hr, hlk, hK⟩ := id X
  obtain ⟨hx, hb, hml, hown, hts⟩ := id S
  rw [f_X_chain] at hf
  refine lv_iload_n hx hb d_X_chain_0 rfl (lv_at hl 1 rfl) ?_
  refine lv_iconst (v := -1) hx hb d_X_chain_1 (by decide) ?_
  refine lv_icmp_ne (tgt := 14) hx hb d_X_chain_2 rfl (fun hc => ?_) (fun hc => ?_)
  · replace hf := br_n hc hf
    refine lv_aload_n hx hb d_X_chain_14 rfl (lv_at hl 0 rfl) ?_
    refine xg_0_3 hx hb hts hown hK hP q_249 d_X_chain_15 ?_
    refine lv_iload_n hx hb d_X_chain_18 rfl (lv_at hl 1 rfl) ?_
    refine lv_iload_n hx hb d_X_chain_19 rfl (lv_at hl 2 rfl) ?_
    obtain ⟨v1, μ2, hv1, hf⟩ := cl2_x hf
    refine wrV (As := [.int a1, .int a2]) (rest := []) S K_Filters_append q_367 (c_Filters_append hDA hv1) hK hP hS ⟨rfl, rfl⟩ ⟨Nat.le_of_ble_eq_true rfl, Nat.le_of_ble_eq_true rfl⟩ (xr_15 hK hP) rfl hl.1 rfl (Nat.le_of_ble_eq_true rfl) d_X_chain_20 ⟨Nat.le_refl _, Nat.le_refl _⟩ (fun H locs hP hS => ?_)
    obtain ⟨h1, h2⟩ := Prod.mk.inj (Option.some.inj hf)
    subst h1; subst h2
    exact W.zret hx hb hr (by first | rfl | exact bz_nar _) (fun t ht _ => ⟨rfl, by rw [ht]; exact hP, hS.F ht⟩) hS.2.2 d_X_chain_23
  · replace hf := br_p hc hf
    refine lv_aload_n hx hb d_X_chain_5 rfl (lv_at hl 0 rfl) ?_
    refine xg_0_3 hx hb hts hown hK hP q_249 d_X_chain_6 ?_
    obtain ⟨μ4, hv3, hf⟩ := cl_x hf
    refine wrV (As := []) (rest := []) S K_Filters_clear q_363 (c_Filters_clear hDA hv3) hK hP hS ⟨rfl, rfl⟩ ⟨Nat.le_of_ble_eq_true rfl, Nat.le_of_ble_eq_true rfl⟩ (xr_15 hK hP) rfl hl.1 rfl (Nat.le_of_ble_eq_true rfl) d_X_chain_9 ⟨Nat.le_refl _, Nat.le_refl _⟩ (fun H locs hP hS => ?_)
    refine lv_iconst (v := 1) hx hb d_X_chain_12 (by decide) ?_
    obtain ⟨h1, h2⟩ := Prod.mk.inj (Option.some.inj hf)
    subst h1; subst h2
    exact W.zret hx hb hr (by first | rfl | exact bz_nar _) (fun t ht _ => ⟨rfl, by rw [ht]; exact hP, hS.F ht⟩) hS.2.2 d_X_chain_13
theorem c_X_chain {l : Launch} {D : va_G} {g : Nat → ClassId} {ad : Nat → Nat} {dr : Nat → Option Nat} {pl : va_W} {μ : Mem} {r : Bool} {μ' : Mem} {A : Nat → Prop} {n : Nat} {a1 : Int32} {a2 : Int32} (hDA : ∀ μ : Mem, va_D A (WX g ad dr pl μ)) (hf : f_X_chain n μ a1 a2 = some (r, μ')) : Met l y_X_chain (Cond.code y_X_chain b_X_chain 3 (some .boolean) :: ww) rm_X_chain (RP D CL (TY g) (WX g ad dr pl μ) [.ref (ad 0), .int a1, .int a2]) (QW D CL (WX g ad dr pl μ') A (some (.int (bz r)))) 0 0 A := by
  refine met_of (by decide) (Nat.le_of_ble_eq_true rfl) ?_
  intro p e s m below meth c ls X hP hl
  have hl : lv_has ls 3 [(0, .ref (ad 0)), (1, .int a1), (2, .int a2)] := hl
  exact w_X_chain X hDA hP va_S.rf hl hf
theorem d_X_analyse_0 : decode b_X_analyse 0 = .ok (.aload_n 0, 1) := by decide +kernel
theorem d_X_analyse_1 : decode b_X_analyse 1 = .ok (.getfield 78, 3) := by decide +kernel
theorem d_X_analyse_4 : decode b_X_analyse 4 = .ok (.ifCond .eq 4, 3) := by decide +kernel
theorem d_X_analyse_7 : decode b_X_analyse 7 = .ok (.return_, 1) := by decide +kernel
theorem d_X_analyse_8 : decode b_X_analyse 8 = .ok (.aload_n 0, 1) := by decide +kernel
theorem d_X_analyse_9 : decode b_X_analyse 9 = .ok (.getfield 42, 3) := by decide +kernel
theorem d_X_analyse_12 : decode b_X_analyse 12 = .ok (.invokevirtual 213, 3) := by decide +kernel
theorem d_X_analyse_15 : decode b_X_analyse 15 = .ok (.aload_n 0, 1) := by decide +kernel
theorem d_X_analyse_16 : decode b_X_analyse 16 = .ok (.getfield 51, 3) := by decide +kernel
theorem d_X_analyse_19 : decode b_X_analyse 19 = .ok (.invokevirtual 216, 3) := by decide +kernel
theorem d_X_analyse_22 : decode b_X_analyse 22 = .ok (.aload_n 0, 1) := by decide +kernel
theorem d_X_analyse_23 : decode b_X_analyse 23 = .ok (.getfield 55, 3) := by decide +kernel
theorem d_X_analyse_26 : decode b_X_analyse 26 = .ok (.invokevirtual 216, 3) := by decide +kernel
theorem d_X_analyse_29 : decode b_X_analyse 29 = .ok (.aload_n 0, 1) := by decide +kernel
theorem d_X_analyse_30 : decode b_X_analyse 30 = .ok (.getfield 63, 3) := by decide +kernel
theorem d_X_analyse_33 : decode b_X_analyse 33 = .ok (.aload_n 0, 1) := by decide +kernel
theorem d_X_analyse_34 : decode b_X_analyse 34 = .ok (.getfield 51, 3) := by decide +kernel
theorem d_X_analyse_37 : decode b_X_analyse 37 = .ok (.aload_n 0, 1) := by decide +kernel
theorem d_X_analyse_38 : decode b_X_analyse 38 = .ok (.getfield 55, 3) := by decide +kernel
theorem d_X_analyse_41 : decode b_X_analyse 41 = .ok (.invokevirtual 219, 3) := by decide +kernel
theorem d_X_analyse_44 : decode b_X_analyse 44 = .ok (.aload_n 0, 1) := by decide +kernel
theorem d_X_analyse_45 : decode b_X_analyse 45 = .ok (.iconst 1, 1) := by decide +kernel
theorem d_X_analyse_46 : decode b_X_analyse 46 = .ok (.putfield 78, 3) := by decide +kernel
theorem d_X_analyse_49 : decode b_X_analyse 49 = .ok (.return_, 1) := by decide +kernel
abbrev rm_X_analyse : Room := { frames := 5, cells := 0, slots := 0, locals := 117 }
def f_X_analyse (n : Nat) (μ : Mem) : Option Mem := (if (μ.1 0 10) = 0 then (cl (f_Lattice_rebuild n μ) (fun μ2 => cl (f_RouteB_find n μ2) (fun μ4 => cl (f_RouteP_find n μ4) (fun μ6 => cl (f_TokenRow_rebuild n μ6) (fun μ8 => bd (wi μ8 0 10 (1 : Int32)) (fun μ9 => some μ9)))))) else (some μ))
set_option maxHeartbeats 4000000 in
set_option maxRecDepth 100000 in
theorem w_X_analyse {p : Program} {l : Launch} {e : Env} {s : State} {m : MethodId} {args : Array Value} {below : List Frame} {meth : Method} {c : Code} {D : va_G} {g : Nat → ClassId} {ad : Nat → Nat} {dr : Nat → Option Nat} {pl : va_W} {μ' : Mem} {A : Nat → Prop} {n : Nat} {μ : Mem} {ls : Array Slot} {H : Heap} {locs : List Loc} (X : Cx p s m args meth c b_X_analyse 1 R_X none D CL (TY g)) (hDA : ∀ μ : Mem, va_D A (WX g ad dr pl μ)) (hP : va_P D CL (WX g ad dr pl μ) H) (hS : va_S A s.heap H locs) (hl : lv_has ls 1 [(0, .ref (ad 0))]) (hf : f_X_analyse n μ = some μ') : WU p l e rm_X_analyse s m args below meth c H locs D (WX g ad dr pl μ') A none (F0 m 0 ls []) := by
  obtain ⟨S, hr, hlk, hK⟩ := id X
  obtain ⟨hx, hb, hml, hown, hts⟩ := id S
  rw [f_X_analyse] at hf
  refine lv_aload_n hx hb d_X_analyse_0 rfl (lv_at hl 0 rfl) ?_
  refine xg_0_10 hx hb hts hown hK hP q_256 d_X_analyse_1 ?_
  refine lv_if_eq (tgt := 8) hx hb d_X_analyse_4 rfl (fun hc => ?_) (fun hc => ?_)
  · replace hf := br_p hc hf
    refine lv_aload_n hx hb d_X_analyse_8 rfl (lv_at hl 0 rfl) ?_
    refine xg_0_4 hx hb hts hown hK hP q_250 d_X_analyse_9 ?_
    obtain ⟨μ2, hv1, hf⟩ := cl_x hf
    refine wrV (As := []) (rest := []) S K_Lattice_rebuild q_382 (c_Lattice_rebuild hDA hv1) hK hP hS ⟨rfl, rfl⟩ ⟨Nat.le_of_ble_eq_true rfl, Nat.le_of_ble_eq_true rfl⟩ (xr_18 hK hP) rfl hl.1 rfl (Nat.le_of_ble_eq_true rfl) d_X_analyse_12 ⟨Nat.le_refl _, Nat.le_refl _⟩ (fun H locs hP hS => ?_)
    refine lv_aload_n hx hb d_X_analyse_15 rfl (lv_at hl 0 rfl) ?_
    refine xg_0_5 hx hb hts hown hK hP q_251 d_X_analyse_16 ?_
    obtain ⟨μ4, hv3, hf⟩ := cl_x hf
    refine wrV (As := []) (rest := []) S K_Route_find q_476 (c_RouteB_find hDA hv3) hK hP hS ⟨rfl, rfl⟩ ⟨Nat.le_of_ble_eq_true rfl, Nat.le_of_ble_eq_true rfl⟩ (xr_25 hK hP) rfl hl.1 rfl (Nat.le_of_ble_eq_true rfl) d_X_analyse_19 ⟨Nat.le_refl _, Nat.le_refl _⟩ (fun H locs hP hS => ?_)
    refine lv_aload_n hx hb d_X_analyse_22 rfl (lv_at hl 0 rfl) ?_
    refine xg_0_6 hx hb hts hown hK hP q_252 d_X_analyse_23 ?_
    obtain ⟨μ6, hv5, hf⟩ := cl_x hf
    refine wrV (As := []) (rest := []) S K_Route_find q_476 (c_RouteP_find hDA hv5) hK hP hS ⟨rfl, rfl⟩ ⟨Nat.le_of_ble_eq_true rfl, Nat.le_of_ble_eq_true rfl⟩ (xr_30 hK hP) rfl hl.1 rfl (Nat.le_of_ble_eq_true rfl) d_X_analyse_26 ⟨Nat.le_refl _, Nat.le_refl _⟩ (fun H locs hP hS => ?_)
    refine lv_aload_n hx hb d_X_analyse_29 rfl (lv_at hl 0 rfl) ?_
    refine xg_0_7 hx hb hts hown hK hP q_253 d_X_analyse_30 ?_
    refine lv_aload_n hx hb d_X_analyse_33 rfl (lv_at hl 0 rfl) ?_
    refine xg_0_5 hx hb hts hown hK hP q_251 d_X_analyse_34 ?_
    refine lv_aload_n hx hb d_X_analyse_37 rfl (lv_at hl 0 rfl) ?_
    refine xg_0_6 hx hb hts hown hK hP q_252 d_X_analyse_38 ?_
    obtain ⟨μ8, hv7, hf⟩ := cl_x hf
    refine wrV (As := [.ref (ad 25), .ref (ad 30)]) (rest := []) S K_TokenRow_rebuild q_537 (c_TokenRow_rebuild hDA hv7) hK hP hS ⟨rfl, rfl⟩ ⟨Nat.le_of_ble_eq_true rfl, Nat.le_of_ble_eq_true rfl⟩ (xr_35 hK hP) rfl hl.1 rfl (Nat.le_of_ble_eq_true rfl) d_X_analyse_41 ⟨Nat.le_refl _, Nat.le_refl _⟩ (fun H locs hP hS => ?_)
    refine lv_aload_n hx hb d_X_analyse_44 rfl (lv_at hl 0 rfl) ?_
    refine lv_iconst (v := 1) hx hb d_X_analyse_45 (by decide) ?_
    obtain ⟨μ9, hμ9, hf⟩ := bd_x hf
    refine xp_0_10 hx hb hts hown hK (hDA _) hP hS q_256 rfl rfl d_X_analyse_46 hμ9 (fun H locs hP hS => ?_)
    obtain rfl := Option.some.inj hf
    exact W.vret hx hb hr (fun t ht _ => ⟨rfl, by rw [ht]; exact hP, hS.F ht⟩) hS.2.2 d_X_analyse_49
  · replace hf := br_n hc hf
    obtain rfl := Option.some.inj hf
    exact W.vret hx hb hr (fun t ht _ => ⟨rfl, by rw [ht]; exact hP, hS.F ht⟩) hS.2.2 d_X_analyse_7
theorem c_X_analyse {l : Launch} {D : va_G} {g : Nat → ClassId} {ad : Nat → Nat} {dr : Nat → Option Nat} {pl : va_W} {μ : Mem} {μ' : Mem} {A : Nat → Prop} {n : Nat} (hDA : ∀ μ : Mem, va_D A (WX g ad dr pl μ)) (hf : f_X_analyse n μ = some μ') : Met l y_X_analyse (Cond.code y_X_analyse b_X_analyse 1 none :: ww) rm_X_analyse (RP D CL (TY g) (WX g ad dr pl μ) [.ref (ad 0)]) (QW D CL (WX g ad dr pl μ') A none) 0 0 A := by
  refine met_of (by decide) (Nat.le_of_ble_eq_true rfl) ?_
  intro p e s m below meth c ls X hP hl
  have hl : lv_has ls 1 [(0, .ref (ad 0))] := hl
  exact w_X_analyse X hDA hP va_S.rf hl hf
theorem d_X_cost_0 : decode b_X_cost 0 = .ok (.aload_n 0, 1) := by decide +kernel
theorem d_X_cost_1 : decode b_X_cost 1 = .ok (.invokevirtual 130, 3) := by decide +kernel
theorem d_X_cost_4 : decode b_X_cost 4 = .ok (.aload_n 0, 1) := by decide +kernel
theorem d_X_cost_5 : decode b_X_cost 5 = .ok (.getfield 51, 3) := by decide +kernel
theorem d_X_cost_8 : decode b_X_cost 8 = .ok (.invokevirtual 133, 3) := by decide +kernel
theorem d_X_cost_11 : decode b_X_cost 11 = .ok (.ireturn, 1) := by decide +kernel
abbrev rm_X_cost : Room := { frames := 6, cells := 0, slots := 0, locals := 137 }
def f_X_cost (n : Nat) (μ : Mem) : Option (Int32 × Mem) := cl (f_X_analyse n μ) (fun μ2 => cl (f_RouteB_leastCost n μ2) (fun v3 => some (v3, μ2)))
set_option maxHeartbeats 4000000 in
set_option maxRecDepth 100000 in
theorem w_X_cost {p : Program} {l : Launch} {e : Env} {s : State} {m : MethodId} {args : Array Value} {below : List Frame} {meth : Method} {c : Code} {D : va_G} {g : Nat → ClassId} {ad : Nat → Nat} {dr : Nat → Option Nat} {pl : va_W} {r : Int32} {μ' : Mem} {A : Nat → Prop} {n : Nat} {μ : Mem} {ls : Array Slot} {H : Heap} {locs : List Loc} (X : Cx p s m args meth c b_X_cost 1 R_X (some .int) D CL (TY g)) (hDA : ∀ μ : Mem, va_D A (WX g ad dr pl μ)) (hP : va_P D CL (WX g ad dr pl μ) H) (hS : va_S A s.heap H locs) (hl : lv_has ls 1 [(0, .ref (ad 0))]) (hf : f_X_cost n μ = some (r, μ')) : WU p l e rm_X_cost s m args below meth c H locs D (WX g ad dr pl μ') A (some (.int r)) (F0 m 0 ls []) := by
  obtain ⟨S, hr, hlk, hK⟩ := id X
  obtain ⟨hx, hb, hml, hown, hts⟩ := id S
  rw [f_X_cost] at hf
  refine lv_aload_n hx hb d_X_cost_0 rfl (lv_at hl 0 rfl) ?_
  obtain ⟨μ2, hv1, hf⟩ := cl_x hf
  refine wrV (As := []) (rest := []) S K_X_analyse q_378 (c_X_analyse hDA hv1) hK hP hS ⟨rfl, rfl⟩ ⟨Nat.le_of_ble_eq_true rfl, Nat.le_of_ble_eq_true rfl⟩ (xr_0 hK hP) rfl hl.1 rfl (Nat.le_of_ble_eq_true rfl) d_X_cost_1 ⟨Nat.le_refl _, Nat.le_refl _⟩ (fun H locs hP hS => ?_)
  refine lv_aload_n hx hb d_X_cost_4 rfl (lv_at hl 0 rfl) ?_
  refine xg_0_5 hx hb hts hown hK hP q_251 d_X_cost_5 ?_
  obtain ⟨v3, hv3, hf⟩ := cl_x hf
  refine rdV (As := []) (rest := []) S K_Route_leastCost q_581 (c_RouteB_leastCost hv3) hK hP ⟨rfl, rfl⟩ ⟨Nat.le_of_ble_eq_true rfl, Nat.le_of_ble_eq_true rfl⟩ (xr_25 hK hP) rfl hl.1 rfl (Nat.le_of_ble_eq_true rfl) d_X_cost_8 ⟨Nat.le_refl _, Nat.le_refl _⟩ ?_
  obtain ⟨h1, h2⟩ := Prod.mk.inj (Option.some.inj hf)
  subst h1; subst h2
  exact W.iret hx hb hr (fun t ht _ => ⟨rfl, by rw [ht]; exact hP, hS.F ht⟩) hS.2.2 d_X_cost_11
theorem c_X_cost {l : Launch} {D : va_G} {g : Nat → ClassId} {ad : Nat → Nat} {dr : Nat → Option Nat} {pl : va_W} {μ : Mem} {r : Int32} {μ' : Mem} {A : Nat → Prop} {n : Nat} (hDA : ∀ μ : Mem, va_D A (WX g ad dr pl μ)) (hf : f_X_cost n μ = some (r, μ')) : Met l y_X_cost (Cond.code y_X_cost b_X_cost 1 (some .int) :: ww) rm_X_cost (RP D CL (TY g) (WX g ad dr pl μ) [.ref (ad 0)]) (QW D CL (WX g ad dr pl μ') A (some (.int r))) 0 0 A := by
  refine met_of (by decide) (Nat.le_of_ble_eq_true rfl) ?_
  intro p e s m below meth c ls X hP hl
  have hl : lv_has ls 1 [(0, .ref (ad 0))] := hl
  exact w_X_cost X hDA hP va_S.rf hl hf
theorem d_X_paths_0 : decode b_X_paths 0 = .ok (.aload_n 0, 1) := by decide +kernel
theorem d_X_paths_1 : decode b_X_paths 1 = .ok (.invokevirtual 130, 3) := by decide +kernel
theorem d_X_paths_4 : decode b_X_paths 4 = .ok (.aload_n 0, 1) := by decide +kernel
theorem d_X_paths_5 : decode b_X_paths 5 = .ok (.getfield 51, 3) := by decide +kernel
theorem d_X_paths_8 : decode b_X_paths 8 = .ok (.invokevirtual 136, 3) := by decide +kernel
theorem d_X_paths_11 : decode b_X_paths 11 = .ok (.lreturn, 1) := by decide +kernel
abbrev rm_X_paths : Room := { frames := 6, cells := 0, slots := 0, locals := 137 }
def f_X_paths (n : Nat) (μ : Mem) : Option (Int64 × Mem) := cl (f_X_analyse n μ) (fun μ2 => cl (f_RouteB_leastCount n μ2) (fun v3 => some (v3, μ2)))
set_option maxHeartbeats 4000000 in
set_option maxRecDepth 100000 in
theorem w_X_paths {p : Program} {l : Launch} {e : Env} {s : State} {m : MethodId} {args : Array Value} {below : List Frame} {meth : Method} {c : Code} {D : va_G} {g : Nat → ClassId} {ad : Nat → Nat} {dr : Nat → Option Nat} {pl : va_W} {r : Int64} {μ' : Mem} {A : Nat → Prop} {n : Nat} {μ : Mem} {ls : Array Slot} {H : Heap} {locs : List Loc} (X : Cx p s m args meth c b_X_paths 1 R_X (some .long) D CL (TY g)) (hDA : ∀ μ : Mem, va_D A (WX g ad dr pl μ)) (hP : va_P D CL (WX g ad dr pl μ) H) (hS : va_S A s.heap H locs) (hl : lv_has ls 1 [(0, .ref (ad 0))]) (hf : f_X_paths n μ = some (r, μ')) : WU p l e rm_X_paths s m args below meth c H locs D (WX g ad dr pl μ') A (some (.long r)) (F0 m 0 ls []) := by
  obtain ⟨S, hr, hlk, hK⟩ := id X
  obtain ⟨hx, hb, hml, hown, hts⟩ := id S
  rw [f_X_paths] at hf
  refine lv_aload_n hx hb d_X_paths_0 rfl (lv_at hl 0 rfl) ?_
  obtain ⟨μ2, hv1, hf⟩ := cl_x hf
  refine wrV (As := []) (rest := []) S K_X_analyse q_378 (c_X_analyse hDA hv1) hK hP hS ⟨rfl, rfl⟩ ⟨Nat.le_of_ble_eq_true rfl, Nat.le_of_ble_eq_true rfl⟩ (xr_0 hK hP) rfl hl.1 rfl (Nat.le_of_ble_eq_true rfl) d_X_paths_1 ⟨Nat.le_refl _, Nat.le_refl _⟩ (fun H locs hP hS => ?_)
  refine lv_aload_n hx hb d_X_paths_4 rfl (lv_at hl 0 rfl) ?_
  refine xg_0_5 hx hb hts hown hK hP q_251 d_X_paths_5 ?_
  obtain ⟨v3, hv3, hf⟩ := cl_x hf
  refine rdV (As := []) (rest := []) S K_Route_leastCount q_589 (c_RouteB_leastCount hv3) hK hP ⟨rfl, rfl⟩ ⟨Nat.le_of_ble_eq_true rfl, Nat.le_of_ble_eq_true rfl⟩ (xr_25 hK hP) rfl hl.1 rfl (Nat.le_of_ble_eq_true rfl) d_X_paths_8 ⟨Nat.le_refl _, Nat.le_refl _⟩ ?_
  obtain ⟨h1, h2⟩ := Prod.mk.inj (Option.some.inj hf)
  subst h1; subst h2
  exact W.lret hx hb hr (fun t ht _ => ⟨rfl, by rw [ht]; exact hP, hS.F ht⟩) hS.2.2 d_X_paths_11
theorem c_X_paths {l : Launch} {D : va_G} {g : Nat → ClassId} {ad : Nat → Nat} {dr : Nat → Option Nat} {pl : va_W} {μ : Mem} {r : Int64} {μ' : Mem} {A : Nat → Prop} {n : Nat} (hDA : ∀ μ : Mem, va_D A (WX g ad dr pl μ)) (hf : f_X_paths n μ = some (r, μ')) : Met l y_X_paths (Cond.code y_X_paths b_X_paths 1 (some .long) :: ww) rm_X_paths (RP D CL (TY g) (WX g ad dr pl μ) [.ref (ad 0)]) (QW D CL (WX g ad dr pl μ') A (some (.long r))) 0 0 A := by
  refine met_of (by decide) (Nat.le_of_ble_eq_true rfl) ?_
  intro p e s m below meth c ls X hP hl
  have hl : lv_has ls 1 [(0, .ref (ad 0))] := hl
  exact w_X_paths X hDA hP va_S.rf hl hf
theorem d_X_nodes_0 : decode b_X_nodes 0 = .ok (.aload_n 0, 1) := by decide +kernel
theorem d_X_nodes_1 : decode b_X_nodes 1 = .ok (.invokevirtual 130, 3) := by decide +kernel
theorem d_X_nodes_4 : decode b_X_nodes 4 = .ok (.aload_n 0, 1) := by decide +kernel
theorem d_X_nodes_5 : decode b_X_nodes 5 = .ok (.getfield 42, 3) := by decide +kernel
theorem d_X_nodes_8 : decode b_X_nodes 8 = .ok (.invokevirtual 140, 3) := by decide +kernel
theorem d_X_nodes_11 : decode b_X_nodes 11 = .ok (.ireturn, 1) := by decide +kernel
abbrev rm_X_nodes : Room := { frames := 6, cells := 0, slots := 0, locals := 137 }
def f_X_nodes (n : Nat) (μ : Mem) : Option (Int32 × Mem) := cl (f_X_analyse n μ) (fun μ2 => cl (f_Lattice_count n μ2) (fun v3 => some (v3, μ2)))
set_option maxHeartbeats 4000000 in
set_option maxRecDepth 100000 in
theorem w_X_nodes {p : Program} {l : Launch} {e : Env} {s : State} {m : MethodId} {args : Array Value} {below : List Frame} {meth : Method} {c : Code} {D : va_G} {g : Nat → ClassId} {ad : Nat → Nat} {dr : Nat → Option Nat} {pl : va_W} {r : Int32} {μ' : Mem} {A : Nat → Prop} {n : Nat} {μ : Mem} {ls : Array Slot} {H : Heap} {locs : List Loc} (X : Cx p s m args meth c b_X_nodes 1 R_X (some .int) D CL (TY g)) (hDA : ∀ μ : Mem, va_D A (WX g ad dr pl μ)) (hP : va_P D CL (WX g ad dr pl μ) H) (hS : va_S A s.heap H locs) (hl : lv_has ls 1 [(0, .ref (ad 0))]) (hf : f_X_nodes n μ = some (r, μ')) : WU p l e rm_X_nodes s m args below meth c H locs D (WX g ad dr pl μ') A (some (.int r)) (F0 m 0 ls []) := by
  obtain ⟨S, hr, hlk, hK⟩ := id X
  obtain ⟨hx, hb, hml, hown, hts⟩ := id S
  rw [f_X_nodes] at hf
  refine lv_aload_n hx hb d_X_nodes_0 rfl (lv_at hl 0 rfl) ?_
  obtain ⟨μ2, hv1, hf⟩ := cl_x hf
  refine wrV (As := []) (rest := []) S K_X_analyse q_378 (c_X_analyse hDA hv1) hK hP hS ⟨rfl, rfl⟩ ⟨Nat.le_of_ble_eq_true rfl, Nat.le_of_ble_eq_true rfl⟩ (xr_0 hK hP) rfl hl.1 rfl (Nat.le_of_ble_eq_true rfl) d_X_nodes_1 ⟨Nat.le_refl _, Nat.le_refl _⟩ (fun H locs hP hS => ?_)
  refine lv_aload_n hx hb d_X_nodes_4 rfl (lv_at hl 0 rfl) ?_
  refine xg_0_4 hx hb hts hown hK hP q_250 d_X_nodes_5 ?_
  obtain ⟨v3, hv3, hf⟩ := cl_x hf
  refine rdV (As := []) (rest := []) S K_Lattice_count q_597 (c_Lattice_count hv3) hK hP ⟨rfl, rfl⟩ ⟨Nat.le_of_ble_eq_true rfl, Nat.le_of_ble_eq_true rfl⟩ (xr_18 hK hP) rfl hl.1 rfl (Nat.le_of_ble_eq_true rfl) d_X_nodes_8 ⟨Nat.le_refl _, Nat.le_refl _⟩ ?_
  obtain ⟨h1, h2⟩ := Prod.mk.inj (Option.some.inj hf)
  subst h1; subst h2
  exact W.iret hx hb hr (fun t ht _ => ⟨rfl, by rw [ht]; exact hP, hS.F ht⟩) hS.2.2 d_X_nodes_11
theorem c_X_nodes {l : Launch} {D : va_G} {g : Nat → ClassId} {ad : Nat → Nat} {dr : Nat → Option Nat} {pl : va_W} {μ : Mem} {r : Int32} {μ' : Mem} {A : Nat → Prop} {n : Nat} (hDA : ∀ μ : Mem, va_D A (WX g ad dr pl μ)) (hf : f_X_nodes n μ = some (r, μ')) : Met l y_X_nodes (Cond.code y_X_nodes b_X_nodes 1 (some .int) :: ww) rm_X_nodes (RP D CL (TY g) (WX g ad dr pl μ) [.ref (ad 0)]) (QW D CL (WX g ad dr pl μ') A (some (.int r))) 0 0 A := by
  refine met_of (by decide) (Nat.le_of_ble_eq_true rfl) ?_
  intro p e s m below meth c ls X hP hl
  have hl : lv_has ls 1 [(0, .ref (ad 0))] := hl
  exact w_X_nodes X hDA hP va_S.rf hl hf
theorem d_X_tokens_0 : decode b_X_tokens 0 = .ok (.aload_n 0, 1) := by decide +kernel
theorem d_X_tokens_1 : decode b_X_tokens 1 = .ok (.invokevirtual 130, 3) := by decide +kernel
theorem d_X_tokens_4 : decode b_X_tokens 4 = .ok (.aload_n 0, 1) := by decide +kernel
theorem d_X_tokens_5 : decode b_X_tokens 5 = .ok (.getfield 63, 3) := by decide +kernel
theorem d_X_tokens_8 : decode b_X_tokens 8 = .ok (.invokevirtual 143, 3) := by decide +kernel
theorem d_X_tokens_11 : decode b_X_tokens 11 = .ok (.ireturn, 1) := by decide +kernel
abbrev rm_X_tokens : Room := { frames := 6, cells := 0, slots := 0, locals := 137 }
def f_X_tokens (n : Nat) (μ : Mem) : Option (Int32 × Mem) := cl (f_X_analyse n μ) (fun μ2 => cl (f_TokenRow_count n μ2) (fun v3 => some (v3, μ2)))
set_option maxHeartbeats 4000000 in
set_option maxRecDepth 100000 in
theorem w_X_tokens {p : Program} {l : Launch} {e : Env} {s : State} {m : MethodId} {args : Array Value} {below : List Frame} {meth : Method} {c : Code} {D : va_G} {g : Nat → ClassId} {ad : Nat → Nat} {dr : Nat → Option Nat} {pl : va_W} {r : Int32} {μ' : Mem} {A : Nat → Prop} {n : Nat} {μ : Mem} {ls : Array Slot} {H : Heap} {locs : List Loc} (X : Cx p s m args meth c b_X_tokens 1 R_X (some .int) D CL (TY g)) (hDA : ∀ μ : Mem, va_D A (WX g ad dr pl μ)) (hP : va_P D CL (WX g ad dr pl μ) H) (hS : va_S A s.heap H locs) (hl : lv_has ls 1 [(0, .ref (ad 0))]) (hf : f_X_tokens n μ = some (r, μ')) : WU p l e rm_X_tokens s m args below meth c H locs D (WX g ad dr pl μ') A (some (.int r)) (F0 m 0 ls []) := by
  obtain ⟨S, hr, hlk, hK⟩ := id X
  obtain ⟨hx, hb, hml, hown, hts⟩ := id S
  rw [f_X_tokens] at hf
  refine lv_aload_n hx hb d_X_tokens_0 rfl (lv_at hl 0 rfl) ?_
  obtain ⟨μ2, hv1, hf⟩ := cl_x hf
  refine wrV (As := []) (rest := []) S K_X_analyse q_378 (c_X_analyse hDA hv1) hK hP hS ⟨rfl, rfl⟩ ⟨Nat.le_of_ble_eq_true rfl, Nat.le_of_ble_eq_true rfl⟩ (xr_0 hK hP) rfl hl.1 rfl (Nat.le_of_ble_eq_true rfl) d_X_tokens_1 ⟨Nat.le_refl _, Nat.le_refl _⟩ (fun H locs hP hS => ?_)
  refine lv_aload_n hx hb d_X_tokens_4 rfl (lv_at hl 0 rfl) ?_
  refine xg_0_7 hx hb hts hown hK hP q_253 d_X_tokens_5 ?_
  obtain ⟨v3, hv3, hf⟩ := cl_x hf
  refine rdV (As := []) (rest := []) S K_TokenRow_count q_602 (c_TokenRow_count hv3) hK hP ⟨rfl, rfl⟩ ⟨Nat.le_of_ble_eq_true rfl, Nat.le_of_ble_eq_true rfl⟩ (xr_35 hK hP) rfl hl.1 rfl (Nat.le_of_ble_eq_true rfl) d_X_tokens_8 ⟨Nat.le_refl _, Nat.le_refl _⟩ ?_
  obtain ⟨h1, h2⟩ := Prod.mk.inj (Option.some.inj hf)
  subst h1; subst h2
  exact W.iret hx hb hr (fun t ht _ => ⟨rfl, by rw [ht]; exact hP, hS.F ht⟩) hS.2.2 d_X_tokens_11
theorem c_X_tokens {l : Launch} {D : va_G} {g : Nat → ClassId} {ad : Nat → Nat} {dr : Nat → Option Nat} {pl : va_W} {μ : Mem} {r : Int32} {μ' : Mem} {A : Nat → Prop} {n : Nat} (hDA : ∀ μ : Mem, va_D A (WX g ad dr pl μ)) (hf : f_X_tokens n μ = some (r, μ')) : Met l y_X_tokens (Cond.code y_X_tokens b_X_tokens 1 (some .int) :: ww) rm_X_tokens (RP D CL (TY g) (WX g ad dr pl μ) [.ref (ad 0)]) (QW D CL (WX g ad dr pl μ') A (some (.int r))) 0 0 A := by
  refine met_of (by decide) (Nat.le_of_ble_eq_true rfl) ?_
  intro p e s m below meth c ls X hP hl
  have hl : lv_has ls 1 [(0, .ref (ad 0))] := hl
  exact w_X_tokens X hDA hP va_S.rf hl hf
theorem d_X_compoundLength_0 : decode b_X_compoundLength 0 = .ok (.aload_n 0, 1) := by decide +kernel
theorem d_X_compoundLength_1 : decode b_X_compoundLength 1 = .ok (.getfield 63, 3) := by decide +kernel
theorem d_X_compoundLength_4 : decode b_X_compoundLength 4 = .ok (.iload_n 1, 1) := by decide +kernel
theorem d_X_compoundLength_5 : decode b_X_compoundLength 5 = .ok (.invokevirtual 228, 3) := by decide +kernel
theorem d_X_compoundLength_8 : decode b_X_compoundLength 8 = .ok (.istore_n 2, 1) := by decide +kernel
theorem d_X_compoundLength_9 : decode b_X_compoundLength 9 = .ok (.iload_n 2, 1) := by decide +kernel
theorem d_X_compoundLength_10 : decode b_X_compoundLength 10 = .ok (.iconst (-1), 1) := by decide +kernel
theorem d_X_compoundLength_11 : decode b_X_compoundLength 11 = .ok (.if_icmp .ne 7, 3) := by decide +kernel
theorem d_X_compoundLength_14 : decode b_X_compoundLength 14 = .ok (.iconst 0, 1) := by decide +kernel
theorem d_X_compoundLength_15 : decode b_X_compoundLength 15 = .ok (.goto 11, 3) := by decide +kernel
theorem d_X_compoundLength_18 : decode b_X_compoundLength 18 = .ok (.aload_n 0, 1) := by decide +kernel
theorem d_X_compoundLength_19 : decode b_X_compoundLength 19 = .ok (.getfield 42, 3) := by decide +kernel
theorem d_X_compoundLength_22 : decode b_X_compoundLength 22 = .ok (.iload_n 2, 1) := by decide +kernel
theorem d_X_compoundLength_23 : decode b_X_compoundLength 23 = .ok (.invokevirtual 231, 3) := by decide +kernel
theorem d_X_compoundLength_26 : decode b_X_compoundLength 26 = .ok (.ireturn, 1) := by decide +kernel
abbrev rm_X_compoundLength : Room := { frames := 1, cells := 0, slots := 0, locals := 21 }
def f_X_compoundLength (n : Nat) (μ : Mem) (a1 : Int32) : Option Int32 := cl (f_TokenRow_compound n μ a1) (fun v1 => (if v1 = (-1 : Int32) then (some (0 : Int32)) else (cl (f_Lattice_length n μ v1) (fun v2 => some v2))))
set_option maxHeartbeats 4000000 in
set_option maxRecDepth 100000 in
theorem w_X_compoundLength {p : Program} {l : Launch} {e : Env} {s : State} {m : MethodId} {args : Array Value} {below : List Frame} {meth : Method} {c : Code} {D : va_G} {g : Nat → ClassId} {ad : Nat → Nat} {dr : Nat → Option Nat} {pl : va_W} {μ : Mem} {r : Int32} {n : Nat} {a1 : Int32} {ls : Array Slot} (X : Cx p s m args meth c b_X_compoundLength 3 R_X (some .int) D CL (TY g)) (hP : va_P D CL (WX g ad dr pl μ) s.heap) (hl : lv_has ls 3 [(0, .ref (ad 0)), (1, .int a1)]) (hf : f_X_compoundLength n μ a1 = some r) : WR p l e rm_X_compoundLength s m args below meth c (.int r) (F0 m 0 ls []) := by
  obtain ⟨S, hr, hlk, hK⟩ := id X
  obtain ⟨hx, hb, hml, hown, hts⟩ := id S
  rw [f_X_compoundLength] at hf
  refine lv_aload_n hx hb d_X_compoundLength_0 rfl (lv_at hl 0 rfl) ?_
  refine xg_0_7 hx hb hts hown hK hP q_253 d_X_compoundLength_1 ?_
  refine lv_iload_n hx hb d_X_compoundLength_4 rfl (lv_at hl 1 rfl) ?_
  obtain ⟨v1, hv1, hf⟩ := cl_x hf
  refine rdV (As := [.int a1]) (rest := []) S K_TokenRow_compound q_639 (c_TokenRow_compound hv1) hK hP ⟨rfl, rfl⟩ ⟨Nat.le_of_ble_eq_true rfl, Nat.le_of_ble_eq_true rfl⟩ (xr_35 hK hP) rfl hl.1 rfl (Nat.le_of_ble_eq_true rfl) d_X_compoundLength_5 ⟨Nat.le_refl _, Nat.le_refl _⟩ ?_
  refine lv_istore_n (lv' := [(2, .int v1), (0, .ref (ad 0)), (1, .int a1)]) hx hb d_X_compoundLength_8 rfl hl (Nat.le_of_ble_eq_true rfl) rfl (fun ls hl => ?_)
  refine lv_iload_n hx hb d_X_compoundLength_9 rfl (lv_at hl 0 rfl) ?_
  refine lv_iconst (v := -1) hx hb d_X_compoundLength_10 (by decide) ?_
  refine lv_icmp_ne (tgt := 18) hx hb d_X_compoundLength_11 rfl (fun hc => ?_) (fun hc => ?_)
  · replace hf := br_n hc hf
    refine lv_aload_n hx hb d_X_compoundLength_18 rfl (lv_at hl 1 rfl) ?_
    refine xg_0_4 hx hb hts hown hK hP q_250 d_X_compoundLength_19 ?_
    refine lv_iload_n hx hb d_X_compoundLength_22 rfl (lv_at hl 0 rfl) ?_
    obtain ⟨v2, hv2, hf⟩ := cl_x hf
    refine rdV (As := [.int v1]) (rest := []) S K_Lattice_length q_643 (c_Lattice_length hv2) hK hP ⟨rfl, rfl⟩ ⟨Nat.le_of_ble_eq_true rfl, Nat.le_of_ble_eq_true rfl⟩ (xr_18 hK hP) rfl hl.1 rfl (Nat.le_of_ble_eq_true rfl) d_X_compoundLength_23 ⟨Nat.le_refl _, Nat.le_refl _⟩ ?_
    have h1 := Option.some.inj hf
    subst h1
    exact W.iret hx hb hr (fun t ht _ => ⟨rfl, ht⟩) (fun _ h => by cases h) d_X_compoundLength_26
  · replace hf := br_p hc hf
    refine lv_iconst (v := 0) hx hb d_X_compoundLength_14 (by decide) ?_
    refine lv_goto (tgt := 26) hx hb d_X_compoundLength_15 rfl ?_
    have h1 := Option.some.inj hf
    subst h1
    exact W.iret hx hb hr (fun t ht _ => ⟨rfl, ht⟩) (fun _ h => by cases h) d_X_compoundLength_26
theorem c_X_compoundLength {l : Launch} {D : va_G} {g : Nat → ClassId} {ad : Nat → Nat} {dr : Nat → Option Nat} {pl : va_W} {μ : Mem} {r : Int32} {n : Nat} {a1 : Int32} (hf : f_X_compoundLength n μ a1 = some r) : Met l y_X_compoundLength (Cond.code y_X_compoundLength b_X_compoundLength 3 (some .int) :: ww) rm_X_compoundLength (RP D CL (TY g) (WX g ad dr pl μ) [.ref (ad 0), .int a1]) (k2_QcV (.int r)) 0 0 (fun _ => False) := by
  refine met_of (by decide) (Nat.le_of_ble_eq_true rfl) ?_
  intro p e s m below meth c ls X hP hl
  have hl : lv_has ls 3 [(0, .ref (ad 0)), (1, .int a1)] := hl
  exact w_X_compoundLength X hP hl hf
theorem d_X_originOf_0 : decode b_X_originOf 0 = .ok (.aload_n 0, 1) := by decide +kernel
theorem d_X_originOf_1 : decode b_X_originOf 1 = .ok (.getfield 63, 3) := by decide +kernel
theorem d_X_originOf_4 : decode b_X_originOf 4 = .ok (.iload_n 1, 1) := by decide +kernel
theorem d_X_originOf_5 : decode b_X_originOf 5 = .ok (.invokevirtual 222, 3) := by decide +kernel
theorem d_X_originOf_8 : decode b_X_originOf 8 = .ok (.istore_n 2, 1) := by decide +kernel
theorem d_X_originOf_9 : decode b_X_originOf 9 = .ok (.iload_n 2, 1) := by decide +kernel
theorem d_X_originOf_10 : decode b_X_originOf 10 = .ok (.iconst (-1), 1) := by decide +kernel
theorem d_X_originOf_11 : decode b_X_originOf 11 = .ok (.if_icmp .eq 7, 3) := by decide +kernel
theorem d_X_originOf_14 : decode b_X_originOf 14 = .ok (.iload_n 2, 1) := by decide +kernel
theorem d_X_originOf_15 : decode b_X_originOf 15 = .ok (.goto 21, 3) := by decide +kernel
theorem d_X_originOf_18 : decode b_X_originOf 18 = .ok (.bipush 100, 2) := by decide +kernel
theorem d_X_originOf_20 : decode b_X_originOf 20 = .ok (.aload_n 0, 1) := by decide +kernel
theorem d_X_originOf_21 : decode b_X_originOf 21 = .ok (.getfield 12, 3) := by decide +kernel
theorem d_X_originOf_24 : decode b_X_originOf 24 = .ok (.aload_n 0, 1) := by decide +kernel
theorem d_X_originOf_25 : decode b_X_originOf 25 = .ok (.getfield 63, 3) := by decide +kernel
theorem d_X_originOf_28 : decode b_X_originOf 28 = .ok (.iload_n 1, 1) := by decide +kernel
theorem d_X_originOf_29 : decode b_X_originOf 29 = .ok (.invokevirtual 147, 3) := by decide +kernel
theorem d_X_originOf_32 : decode b_X_originOf 32 = .ok (.invokevirtual 225, 3) := by decide +kernel
theorem d_X_originOf_35 : decode b_X_originOf 35 = .ok (.iadd, 1) := by decide +kernel
theorem d_X_originOf_36 : decode b_X_originOf 36 = .ok (.ireturn, 1) := by decide +kernel
abbrev rm_X_originOf : Room := { frames := 2, cells := 0, slots := 0, locals := 41 }
def f_X_originOf (n : Nat) (μ : Mem) (a1 : Int32) : Option Int32 := cl (f_TokenRow_entry n μ a1) (fun v1 => (if v1 = (-1 : Int32) then (cl (f_TokenRow_begin n μ a1) (fun v2 => cl (f_Draft_classAt n μ v2) (fun v3 => some ((100 : Int32) + v3)))) else (some v1)))
set_option maxHeartbeats 4000000 in
set_option maxRecDepth 100000 in
theorem w_X_originOf {p : Program} {l : Launch} {e : Env} {s : State} {m : MethodId} {args : Array Value} {below : List Frame} {meth : Method} {c : Code} {D : va_G} {g : Nat → ClassId} {ad : Nat → Nat} {dr : Nat → Option Nat} {pl : va_W} {μ : Mem} {r : Int32} {n : Nat} {a1 : Int32} {ls : Array Slot} (X : Cx p s m args meth c b_X_originOf 3 R_X (some .int) D CL (TY g)) (hP : va_P D CL (WX g ad dr pl μ) s.heap) (hl : lv_has ls 3 [(0, .ref (ad 0)), (1, .int a1)]) (hf : f_X_originOf n μ a1 = some r) : WR p l e rm_X_originOf s m args below meth c (.int r) (F0 m 0 ls []) := by
  obtain ⟨S, hr, hlk, hK⟩ := id X
  obtain ⟨hx, hb, hml, hown, hts⟩ := id S
  rw [f_X_originOf] at hf
  refine lv_aload_n hx hb d_X_originOf_0 rfl (lv_at hl 0 rfl) ?_
  refine xg_0_7 hx hb hts hown hK hP q_253 d_X_originOf_1 ?_
  refine lv_iload_n hx hb d_X_originOf_4 rfl (lv_at hl 1 rfl) ?_
  obtain ⟨v1, hv1, hf⟩ := cl_x hf
  refine rdV (As := [.int a1]) (rest := []) S K_TokenRow_entry q_630 (c_TokenRow_entry hv1) hK hP ⟨rfl, rfl⟩ ⟨Nat.le_of_ble_eq_true rfl, Nat.le_of_ble_eq_true rfl⟩ (xr_35 hK hP) rfl hl.1 rfl (Nat.le_of_ble_eq_true rfl) d_X_originOf_5 ⟨Nat.le_refl _, Nat.le_refl _⟩ ?_
  refine lv_istore_n (lv' := [(2, .int v1), (0, .ref (ad 0)), (1, .int a1)]) hx hb d_X_originOf_8 rfl hl (Nat.le_of_ble_eq_true rfl) rfl (fun ls hl => ?_)
  refine lv_iload_n hx hb d_X_originOf_9 rfl (lv_at hl 0 rfl) ?_
  refine lv_iconst (v := -1) hx hb d_X_originOf_10 (by decide) ?_
  refine lv_icmp_eq (tgt := 18) hx hb d_X_originOf_11 rfl (fun hc => ?_) (fun hc => ?_)
  · replace hf := br_p hc hf
    refine lv_bipush (v := 100) hx hb d_X_originOf_18 (by decide) ?_
    refine lv_aload_n hx hb d_X_originOf_20 rfl (lv_at hl 1 rfl) ?_
    refine xg_0_0 hx hb hts hown hK hP q_246 d_X_originOf_21 ?_
    refine lv_aload_n hx hb d_X_originOf_24 rfl (lv_at hl 1 rfl) ?_
    refine xg_0_7 hx hb hts hown hK hP q_253 d_X_originOf_25 ?_
    refine lv_iload_n hx hb d_X_originOf_28 rfl (lv_at hl 2 rfl) ?_
    obtain ⟨v2, hv2, hf⟩ := cl_x hf
    refine rdV (As := [.int a1]) (rest := [.ref (ad 1), .int (100 : Int32)]) S K_TokenRow_begin q_614 (c_TokenRow_begin hv2) hK hP ⟨rfl, rfl⟩ ⟨Nat.le_of_ble_eq_true rfl, Nat.le_of_ble_eq_true rfl⟩ (xr_35 hK hP) rfl hl.1 rfl (Nat.le_of_ble_eq_true rfl) d_X_originOf_29 ⟨Nat.le_refl _, Nat.le_refl _⟩ ?_
    obtain ⟨v3, hv3, hf⟩ := cl_x hf
    refine rdV (As := [.int v2]) (rest := [.int (100 : Int32)]) S K_Draft_classAt q_634 (c_Draft_classAt hv3) hK hP ⟨rfl, rfl⟩ ⟨Nat.le_of_ble_eq_true rfl, Nat.le_of_ble_eq_true rfl⟩ (xr_1 hK hP) rfl hl.1 rfl (Nat.le_of_ble_eq_true rfl) d_X_originOf_32 ⟨Nat.le_refl _, Nat.le_refl _⟩ ?_
    refine lv_iadd hx hb d_X_originOf_35 ?_
    have h1 := Option.some.inj hf
    subst h1
    exact W.iret hx hb hr (fun t ht _ => ⟨rfl, ht⟩) (fun _ h => by cases h) d_X_originOf_36
  · replace hf := br_n hc hf
    refine lv_iload_n hx hb d_X_originOf_14 rfl (lv_at hl 0 rfl) ?_
    refine lv_goto (tgt := 36) hx hb d_X_originOf_15 rfl ?_
    have h1 := Option.some.inj hf
    subst h1
    exact W.iret hx hb hr (fun t ht _ => ⟨rfl, ht⟩) (fun _ h => by cases h) d_X_originOf_36
theorem c_X_originOf {l : Launch} {D : va_G} {g : Nat → ClassId} {ad : Nat → Nat} {dr : Nat → Option Nat} {pl : va_W} {μ : Mem} {r : Int32} {n : Nat} {a1 : Int32} (hf : f_X_originOf n μ a1 = some r) : Met l y_X_originOf (Cond.code y_X_originOf b_X_originOf 3 (some .int) :: ww) rm_X_originOf (RP D CL (TY g) (WX g ad dr pl μ) [.ref (ad 0), .int a1]) (k2_QcV (.int r)) 0 0 (fun _ => False) := by
  refine met_of (by decide) (Nat.le_of_ble_eq_true rfl) ?_
  intro p e s m below meth c ls X hP hl
  have hl : lv_has ls 3 [(0, .ref (ad 0)), (1, .int a1)] := hl
  exact w_X_originOf X hP hl hf
theorem d_X_token_0 : decode b_X_token 0 = .ok (.aload_n 0, 1) := by decide +kernel
theorem d_X_token_1 : decode b_X_token 1 = .ok (.invokevirtual 130, 3) := by decide +kernel
theorem d_X_token_4 : decode b_X_token 4 = .ok (.aload_n 0, 1) := by decide +kernel
theorem d_X_token_5 : decode b_X_token 5 = .ok (.getfield 63, 3) := by decide +kernel
theorem d_X_token_8 : decode b_X_token 8 = .ok (.iload_n 1, 1) := by decide +kernel
theorem d_X_token_9 : decode b_X_token 9 = .ok (.invokevirtual 144, 3) := by decide +kernel
theorem d_X_token_12 : decode b_X_token 12 = .ok (.ifCond .ne 5, 3) := by decide +kernel
theorem d_X_token_15 : decode b_X_token 15 = .ok (.iconst (-1), 1) := by decide +kernel
theorem d_X_token_16 : decode b_X_token 16 = .ok (.ireturn, 1) := by decide +kernel
theorem d_X_token_17 : decode b_X_token 17 = .ok (.iload_n 2, 1) := by decide +kernel
theorem d_X_token_18 : decode b_X_token 18 = .ok (.tableswitch 73 0 4 #[34, 43, 52, 61, 67], 34) := by decide +kernel
theorem d_X_token_52 : decode b_X_token 52 = .ok (.aload_n 0, 1) := by decide +kernel
theorem d_X_token_53 : decode b_X_token 53 = .ok (.getfield 63, 3) := by decide +kernel
theorem d_X_token_56 : decode b_X_token 56 = .ok (.iload_n 1, 1) := by decide +kernel
theorem d_X_token_57 : decode b_X_token 57 = .ok (.invokevirtual 147, 3) := by decide +kernel
theorem d_X_token_60 : decode b_X_token 60 = .ok (.ireturn, 1) := by decide +kernel
theorem d_X_token_61 : decode b_X_token 61 = .ok (.aload_n 0, 1) := by decide +kernel
theorem d_X_token_62 : decode b_X_token 62 = .ok (.getfield 63, 3) := by decide +kernel
theorem d_X_token_65 : decode b_X_token 65 = .ok (.iload_n 1, 1) := by decide +kernel
theorem d_X_token_66 : decode b_X_token 66 = .ok (.invokevirtual 151, 3) := by decide +kernel
theorem d_X_token_69 : decode b_X_token 69 = .ok (.ireturn, 1) := by decide +kernel
theorem d_X_token_70 : decode b_X_token 70 = .ok (.aload_n 0, 1) := by decide +kernel
theorem d_X_token_71 : decode b_X_token 71 = .ok (.getfield 63, 3) := by decide +kernel
theorem d_X_token_74 : decode b_X_token 74 = .ok (.iload_n 1, 1) := by decide +kernel
theorem d_X_token_75 : decode b_X_token 75 = .ok (.invokevirtual 154, 3) := by decide +kernel
theorem d_X_token_78 : decode b_X_token 78 = .ok (.ireturn, 1) := by decide +kernel
theorem d_X_token_79 : decode b_X_token 79 = .ok (.aload_n 0, 1) := by decide +kernel
theorem d_X_token_80 : decode b_X_token 80 = .ok (.iload_n 1, 1) := by decide +kernel
theorem d_X_token_81 : decode b_X_token 81 = .ok (.invokevirtual 157, 3) := by decide +kernel
theorem d_X_token_84 : decode b_X_token 84 = .ok (.ireturn, 1) := by decide +kernel
theorem d_X_token_85 : decode b_X_token 85 = .ok (.aload_n 0, 1) := by decide +kernel
theorem d_X_token_86 : decode b_X_token 86 = .ok (.iload_n 1, 1) := by decide +kernel
theorem d_X_token_87 : decode b_X_token 87 = .ok (.invokevirtual 160, 3) := by decide +kernel
theorem d_X_token_90 : decode b_X_token 90 = .ok (.ireturn, 1) := by decide +kernel
theorem d_X_token_91 : decode b_X_token 91 = .ok (.iconst (-1), 1) := by decide +kernel
theorem d_X_token_92 : decode b_X_token 92 = .ok (.ireturn, 1) := by decide +kernel
abbrev rm_X_token : Room := { frames := 6, cells := 0, slots := 0, locals := 137 }
def f_X_token (n : Nat) (μ : Mem) (a1 : Int32) (a2 : Int32) : Option (Int32 × Mem) := cl (f_X_analyse n μ) (fun μ2 => cl (f_TokenRow_has n μ2 a1) (fun v3 => (if (bz v3) = 0 then (some ((-1 : Int32), μ2)) else (if a2 = 0 then (cl (f_TokenRow_begin n μ2 a1) (fun v4 => some (v4, μ2))) else (if a2 = 1 then (cl (f_TokenRow_length n μ2 a1) (fun v5 => some (v5, μ2))) else (if a2 = 2 then (cl (f_TokenRow_part n μ2 a1) (fun v6 => some (v6, μ2))) else (if a2 = 3 then (cl (f_X_originOf n μ2 a1) (fun v7 => some (v7, μ2))) else (if a2 = 4 then (cl (f_X_compoundLength n μ2 a1) (fun v8 => some (v8, μ2))) else (some ((-1 : Int32), μ2))))))))))
set_option maxHeartbeats 4000000 in
set_option maxRecDepth 100000 in
theorem w_X_token {p : Program} {l : Launch} {e : Env} {s : State} {m : MethodId} {args : Array Value} {below : List Frame} {meth : Method} {c : Code} {D : va_G} {g : Nat → ClassId} {ad : Nat → Nat} {dr : Nat → Option Nat} {pl : va_W} {r : Int32} {μ' : Mem} {A : Nat → Prop} {n : Nat} {μ : Mem} {a1 : Int32} {a2 : Int32} {ls : Array Slot} {H : Heap} {locs : List Loc} (X : Cx p s m args meth c b_X_token 3 R_X (some .int) D CL (TY g)) (hDA : ∀ μ : Mem, va_D A (WX g ad dr pl μ)) (hP : va_P D CL (WX g ad dr pl μ) H) (hS : va_S A s.heap H locs) (hl : lv_has ls 3 [(0, .ref (ad 0)), (1, .int a1), (2, .int a2)]) (hf : f_X_token n μ a1 a2 = some (r, μ')) : WU p l e rm_X_token s m args below meth c H locs D (WX g ad dr pl μ') A (some (.int r)) (F0 m 0 ls []) := by
  obtain ⟨S, hr, hlk, hK⟩ := id X
  obtain ⟨hx, hb, hml, hown, hts⟩ := id S
  rw [f_X_token] at hf
  refine lv_aload_n hx hb d_X_token_0 rfl (lv_at hl 0 rfl) ?_
  obtain ⟨μ2, hv1, hf⟩ := cl_x hf
  refine wrV (As := []) (rest := []) S K_X_analyse q_378 (c_X_analyse hDA hv1) hK hP hS ⟨rfl, rfl⟩ ⟨Nat.le_of_ble_eq_true rfl, Nat.le_of_ble_eq_true rfl⟩ (xr_0 hK hP) rfl hl.1 rfl (Nat.le_of_ble_eq_true rfl) d_X_token_1 ⟨Nat.le_refl _, Nat.le_refl _⟩ (fun H locs hP hS => ?_)
  refine lv_aload_n hx hb d_X_token_4 rfl (lv_at hl 0 rfl) ?_
  refine xg_0_7 hx hb hts hown hK hP q_253 d_X_token_5 ?_
  refine lv_iload_n hx hb d_X_token_8 rfl (lv_at hl 1 rfl) ?_
  obtain ⟨v3, hv3, hf⟩ := cl_x hf
  refine rdV (As := [.int a1]) (rest := []) S K_TokenRow_has q_610 (c_TokenRow_has hv3) hK hP ⟨rfl, rfl⟩ ⟨Nat.le_of_ble_eq_true rfl, Nat.le_of_ble_eq_true rfl⟩ (xr_35 hK hP) rfl hl.1 rfl (Nat.le_of_ble_eq_true rfl) d_X_token_9 ⟨Nat.le_refl _, Nat.le_refl _⟩ ?_
  refine lv_if_ne (tgt := 17) hx hb d_X_token_12 rfl (fun hc => ?_) (fun hc => ?_)
  · replace hf := br_n hc hf
    refine lv_iload_n hx hb d_X_token_17 rfl (lv_at hl 2 rfl) ?_
    by_cases hc0 : a2 = 0
    · replace hf := br_p hc0 hf
      refine lv_tableIn (tgt := 52) hx hb d_X_token_18 (by rw [hc0]; decide) (by rw [hc0]; decide) (by rw [hc0]; rfl) rfl ?_
      refine lv_aload_n hx hb d_X_token_52 rfl (lv_at hl 0 rfl) ?_
      refine xg_0_7 hx hb hts hown hK hP q_253 d_X_token_53 ?_
      refine lv_iload_n hx hb d_X_token_56 rfl (lv_at hl 1 rfl) ?_
      obtain ⟨v4, hv4, hf⟩ := cl_x hf
      refine rdV (As := [.int a1]) (rest := []) S K_TokenRow_begin q_614 (c_TokenRow_begin hv4) hK hP ⟨rfl, rfl⟩ ⟨Nat.le_of_ble_eq_true rfl, Nat.le_of_ble_eq_true rfl⟩ (xr_35 hK hP) rfl hl.1 rfl (Nat.le_of_ble_eq_true rfl) d_X_token_57 ⟨Nat.le_refl _, Nat.le_refl _⟩ ?_
      obtain ⟨h1, h2⟩ := Prod.mk.inj (Option.some.inj hf)
      subst h1; subst h2
      exact W.iret hx hb hr (fun t ht _ => ⟨rfl, by rw [ht]; exact hP, hS.F ht⟩) hS.2.2 d_X_token_60
    replace hf := br_n hc0 hf
    by_cases hc1 : a2 = 1
    · replace hf := br_p hc1 hf
      refine lv_tableIn (tgt := 61) hx hb d_X_token_18 (by rw [hc1]; decide) (by rw [hc1]; decide) (by rw [hc1]; rfl) rfl ?_
      refine lv_aload_n hx hb d_X_token_61 rfl (lv_at hl 0 rfl) ?_
      refine xg_0_7 hx hb hts hown hK hP q_253 d_X_token_62 ?_
      refine lv_iload_n hx hb d_X_token_65 rfl (lv_at hl 1 rfl) ?_
      obtain ⟨v5, hv5, hf⟩ := cl_x hf
      refine rdV (As := [.int a1]) (rest := []) S K_TokenRow_length q_618 (c_TokenRow_length hv5) hK hP ⟨rfl, rfl⟩ ⟨Nat.le_of_ble_eq_true rfl, Nat.le_of_ble_eq_true rfl⟩ (xr_35 hK hP) rfl hl.1 rfl (Nat.le_of_ble_eq_true rfl) d_X_token_66 ⟨Nat.le_refl _, Nat.le_refl _⟩ ?_
      obtain ⟨h1, h2⟩ := Prod.mk.inj (Option.some.inj hf)
      subst h1; subst h2
      exact W.iret hx hb hr (fun t ht _ => ⟨rfl, by rw [ht]; exact hP, hS.F ht⟩) hS.2.2 d_X_token_69
    replace hf := br_n hc1 hf
    by_cases hc2 : a2 = 2
    · replace hf := br_p hc2 hf
      refine lv_tableIn (tgt := 70) hx hb d_X_token_18 (by rw [hc2]; decide) (by rw [hc2]; decide) (by rw [hc2]; rfl) rfl ?_
      refine lv_aload_n hx hb d_X_token_70 rfl (lv_at hl 0 rfl) ?_
      refine xg_0_7 hx hb hts hown hK hP q_253 d_X_token_71 ?_
      refine lv_iload_n hx hb d_X_token_74 rfl (lv_at hl 1 rfl) ?_
      obtain ⟨v6, hv6, hf⟩ := cl_x hf
      refine rdV (As := [.int a1]) (rest := []) S K_TokenRow_part q_622 (c_TokenRow_part hv6) hK hP ⟨rfl, rfl⟩ ⟨Nat.le_of_ble_eq_true rfl, Nat.le_of_ble_eq_true rfl⟩ (xr_35 hK hP) rfl hl.1 rfl (Nat.le_of_ble_eq_true rfl) d_X_token_75 ⟨Nat.le_refl _, Nat.le_refl _⟩ ?_
      obtain ⟨h1, h2⟩ := Prod.mk.inj (Option.some.inj hf)
      subst h1; subst h2
      exact W.iret hx hb hr (fun t ht _ => ⟨rfl, by rw [ht]; exact hP, hS.F ht⟩) hS.2.2 d_X_token_78
    replace hf := br_n hc2 hf
    by_cases hc3 : a2 = 3
    · replace hf := br_p hc3 hf
      refine lv_tableIn (tgt := 79) hx hb d_X_token_18 (by rw [hc3]; decide) (by rw [hc3]; decide) (by rw [hc3]; rfl) rfl ?_
      refine lv_aload_n hx hb d_X_token_79 rfl (lv_at hl 0 rfl) ?_
      refine lv_iload_n hx hb d_X_token_80 rfl (lv_at hl 1 rfl) ?_
      obtain ⟨v7, hv7, hf⟩ := cl_x hf
      refine rdV (As := [.int a1]) (rest := []) S K_X_originOf q_626 (c_X_originOf hv7) hK hP ⟨rfl, rfl⟩ ⟨Nat.le_of_ble_eq_true rfl, Nat.le_of_ble_eq_true rfl⟩ (xr_0 hK hP) rfl hl.1 rfl (Nat.le_of_ble_eq_true rfl) d_X_token_81 ⟨Nat.le_refl _, Nat.le_refl _⟩ ?_
      obtain ⟨h1, h2⟩ := Prod.mk.inj (Option.some.inj hf)
      subst h1; subst h2
      exact W.iret hx hb hr (fun t ht _ => ⟨rfl, by rw [ht]; exact hP, hS.F ht⟩) hS.2.2 d_X_token_84
    replace hf := br_n hc3 hf
    by_cases hc4 : a2 = 4
    · replace hf := br_p hc4 hf
      refine lv_tableIn (tgt := 85) hx hb d_X_token_18 (by rw [hc4]; decide) (by rw [hc4]; decide) (by rw [hc4]; rfl) rfl ?_
      refine lv_aload_n hx hb d_X_token_85 rfl (lv_at hl 0 rfl) ?_
      refine lv_iload_n hx hb d_X_token_86 rfl (lv_at hl 1 rfl) ?_
      obtain ⟨v8, hv8, hf⟩ := cl_x hf
      refine rdV (As := [.int a1]) (rest := []) S K_X_compoundLength q_635 (c_X_compoundLength hv8) hK hP ⟨rfl, rfl⟩ ⟨Nat.le_of_ble_eq_true rfl, Nat.le_of_ble_eq_true rfl⟩ (xr_0 hK hP) rfl hl.1 rfl (Nat.le_of_ble_eq_true rfl) d_X_token_87 ⟨Nat.le_refl _, Nat.le_refl _⟩ ?_
      obtain ⟨h1, h2⟩ := Prod.mk.inj (Option.some.inj hf)
      subst h1; subst h2
      exact W.iret hx hb hr (fun t ht _ => ⟨rfl, by rw [ht]; exact hP, hS.F ht⟩) hS.2.2 d_X_token_90
    replace hf := br_n hc4 hf
    have hz0 : ¬ (a2).toInt = 0 := lv_neT hc0 (by decide)
    have hz1 : ¬ (a2).toInt = 1 := lv_neT hc1 (by decide)
    have hz2 : ¬ (a2).toInt = 2 := lv_neT hc2 (by decide)
    have hz3 : ¬ (a2).toInt = 3 := lv_neT hc3 (by decide)
    have hz4 : ¬ (a2).toInt = 4 := lv_neT hc4 (by decide)
    refine lv_tableOut (tgt := 91) hx hb d_X_token_18 (by omega) rfl ?_
    refine lv_iconst (v := -1) hx hb d_X_token_91 (by decide) ?_
    obtain ⟨h1, h2⟩ := Prod.mk.inj (Option.some.inj hf)
    subst h1; subst h2
    exact W.iret hx hb hr (fun t ht _ => ⟨rfl, by rw [ht]; exact hP, hS.F ht⟩) hS.2.2 d_X_token_92
  · replace hf := br_p hc hf
    refine lv_iconst (v := -1) hx hb d_X_token_15 (by decide) ?_
    obtain ⟨h1, h2⟩ := Prod.mk.inj (Option.some.inj hf)
    subst h1; subst h2
    exact W.iret hx hb hr (fun t ht _ => ⟨rfl, by rw [ht]; exact hP, hS.F ht⟩) hS.2.2 d_X_token_16
theorem c_X_token {l : Launch} {D : va_G} {g : Nat → ClassId} {ad : Nat → Nat} {dr : Nat → Option Nat} {pl : va_W} {μ : Mem} {r : Int32} {μ' : Mem} {A : Nat → Prop} {n : Nat} {a1 : Int32} {a2 : Int32} (hDA : ∀ μ : Mem, va_D A (WX g ad dr pl μ)) (hf : f_X_token n μ a1 a2 = some (r, μ')) : Met l y_X_token (Cond.code y_X_token b_X_token 3 (some .int) :: ww) rm_X_token (RP D CL (TY g) (WX g ad dr pl μ) [.ref (ad 0), .int a1, .int a2]) (QW D CL (WX g ad dr pl μ') A (some (.int r))) 0 0 A := by
  refine met_of (by decide) (Nat.le_of_ble_eq_true rfl) ?_
  intro p e s m below meth c ls X hP hl
  have hl : lv_has ls 3 [(0, .ref (ad 0)), (1, .int a1), (2, .int a2)] := hl
  exact w_X_token X hDA hP va_S.rf hl hf
theorem d_X_tokenTerm_0 : decode b_X_tokenTerm 0 = .ok (.aload_n 0, 1) := by decide +kernel
theorem d_X_tokenTerm_1 : decode b_X_tokenTerm 1 = .ok (.getfield 12, 3) := by decide +kernel
theorem d_X_tokenTerm_4 : decode b_X_tokenTerm 4 = .ok (.aload_n 0, 1) := by decide +kernel
theorem d_X_tokenTerm_5 : decode b_X_tokenTerm 5 = .ok (.getfield 63, 3) := by decide +kernel
theorem d_X_tokenTerm_8 : decode b_X_tokenTerm 8 = .ok (.iload_n 1, 1) := by decide +kernel
theorem d_X_tokenTerm_9 : decode b_X_tokenTerm 9 = .ok (.invokevirtual 147, 3) := by decide +kernel
theorem d_X_tokenTerm_12 : decode b_X_tokenTerm 12 = .ok (.aload_n 0, 1) := by decide +kernel
theorem d_X_tokenTerm_13 : decode b_X_tokenTerm 13 = .ok (.getfield 63, 3) := by decide +kernel
theorem d_X_tokenTerm_16 : decode b_X_tokenTerm 16 = .ok (.iload_n 1, 1) := by decide +kernel
theorem d_X_tokenTerm_17 : decode b_X_tokenTerm 17 = .ok (.invokevirtual 151, 3) := by decide +kernel
theorem d_X_tokenTerm_20 : decode b_X_tokenTerm 20 = .ok (.invokevirtual 104, 3) := by decide +kernel
theorem d_X_tokenTerm_23 : decode b_X_tokenTerm 23 = .ok (.lstore_n 2, 1) := by decide +kernel
theorem d_X_tokenTerm_24 : decode b_X_tokenTerm 24 = .ok (.aload_n 0, 1) := by decide +kernel
theorem d_X_tokenTerm_25 : decode b_X_tokenTerm 25 = .ok (.getfield 33, 3) := by decide +kernel
theorem d_X_tokenTerm_28 : decode b_X_tokenTerm 28 = .ok (.lload_n 2, 1) := by decide +kernel
theorem d_X_tokenTerm_29 : decode b_X_tokenTerm 29 = .ok (.aload_n 0, 1) := by decide +kernel
theorem d_X_tokenTerm_30 : decode b_X_tokenTerm 30 = .ok (.getfield 63, 3) := by decide +kernel
theorem d_X_tokenTerm_33 : decode b_X_tokenTerm 33 = .ok (.iload_n 1, 1) := by decide +kernel
theorem d_X_tokenTerm_34 : decode b_X_tokenTerm 34 = .ok (.invokevirtual 154, 3) := by decide +kernel
theorem d_X_tokenTerm_37 : decode b_X_tokenTerm 37 = .ok (.aload_n 0, 1) := by decide +kernel
theorem d_X_tokenTerm_38 : decode b_X_tokenTerm 38 = .ok (.getfield 19, 3) := by decide +kernel
theorem d_X_tokenTerm_41 : decode b_X_tokenTerm 41 = .ok (.aload_n 0, 1) := by decide +kernel
theorem d_X_tokenTerm_42 : decode b_X_tokenTerm 42 = .ok (.getfield 63, 3) := by decide +kernel
theorem d_X_tokenTerm_45 : decode b_X_tokenTerm 45 = .ok (.iload_n 1, 1) := by decide +kernel
theorem d_X_tokenTerm_46 : decode b_X_tokenTerm 46 = .ok (.invokevirtual 222, 3) := by decide +kernel
theorem d_X_tokenTerm_49 : decode b_X_tokenTerm 49 = .ok (.invokevirtual 232, 3) := by decide +kernel
theorem d_X_tokenTerm_52 : decode b_X_tokenTerm 52 = .ok (.invokevirtual 235, 3) := by decide +kernel
theorem d_X_tokenTerm_55 : decode b_X_tokenTerm 55 = .ok (.lreturn, 1) := by decide +kernel
abbrev rm_X_tokenTerm : Room := { frames := 4, cells := 0, slots := 0, locals := 97 }
def f_X_tokenTerm (n : Nat) (μ : Mem) (a1 : Int32) : Option Int64 := cl (f_TokenRow_begin n μ a1) (fun v1 => cl (f_TokenRow_length n μ a1) (fun v2 => cl (f_Draft_text n μ v1 v2) (fun v3 => cl (f_TokenRow_part n μ a1) (fun v4 => cl (f_TokenRow_entry n μ a1) (fun v5 => cl (f_Lexicon_baseSurface n μ v5) (fun v6 => cl (f_Filters_pass n μ v3 v4 v6) (fun v7 => some v7)))))))
set_option maxHeartbeats 4000000 in
set_option maxRecDepth 100000 in
theorem w_X_tokenTerm {p : Program} {l : Launch} {e : Env} {s : State} {m : MethodId} {args : Array Value} {below : List Frame} {meth : Method} {c : Code} {D : va_G} {g : Nat → ClassId} {ad : Nat → Nat} {dr : Nat → Option Nat} {pl : va_W} {μ : Mem} {r : Int64} {n : Nat} {a1 : Int32} {ls : Array Slot} (X : Cx p s m args meth c b_X_tokenTerm 4 R_X (some .long) D CL (TY g)) (hP : va_P D CL (WX g ad dr pl μ) s.heap) (hl : lv_has ls 4 [(0, .ref (ad 0)), (1, .int a1)]) (hf : f_X_tokenTerm n μ a1 = some r) : WR p l e rm_X_tokenTerm s m args below meth c (.long r) (F0 m 0 ls []) := by
  obtain ⟨S, hr, hlk, hK⟩ := id X
  obtain ⟨hx, hb, hml, hown, hts⟩ := id S
  rw [f_X_tokenTerm] at hf
  refine lv_aload_n hx hb d_X_tokenTerm_0 rfl (lv_at hl 0 rfl) ?_
  refine xg_0_0 hx hb hts hown hK hP q_246 d_X_tokenTerm_1 ?_
  refine lv_aload_n hx hb d_X_tokenTerm_4 rfl (lv_at hl 0 rfl) ?_
  refine xg_0_7 hx hb hts hown hK hP q_253 d_X_tokenTerm_5 ?_
  refine lv_iload_n hx hb d_X_tokenTerm_8 rfl (lv_at hl 1 rfl) ?_
  obtain ⟨v1, hv1, hf⟩ := cl_x hf
  refine rdV (As := [.int a1]) (rest := [.ref (ad 1)]) S K_TokenRow_begin q_614 (c_TokenRow_begin hv1) hK hP ⟨rfl, rfl⟩ ⟨Nat.le_of_ble_eq_true rfl, Nat.le_of_ble_eq_true rfl⟩ (xr_35 hK hP) rfl hl.1 rfl (Nat.le_of_ble_eq_true rfl) d_X_tokenTerm_9 ⟨Nat.le_refl _, Nat.le_refl _⟩ ?_
  refine lv_aload_n hx hb d_X_tokenTerm_12 rfl (lv_at hl 0 rfl) ?_
  refine xg_0_7 hx hb hts hown hK hP q_253 d_X_tokenTerm_13 ?_
  refine lv_iload_n hx hb d_X_tokenTerm_16 rfl (lv_at hl 1 rfl) ?_
  obtain ⟨v2, hv2, hf⟩ := cl_x hf
  refine rdV (As := [.int a1]) (rest := [.int v1, .ref (ad 1)]) S K_TokenRow_length q_618 (c_TokenRow_length hv2) hK hP ⟨rfl, rfl⟩ ⟨Nat.le_of_ble_eq_true rfl, Nat.le_of_ble_eq_true rfl⟩ (xr_35 hK hP) rfl hl.1 rfl (Nat.le_of_ble_eq_true rfl) d_X_tokenTerm_17 ⟨Nat.le_refl _, Nat.le_refl _⟩ ?_
  obtain ⟨v3, hv3, hf⟩ := cl_x hf
  refine rdV (As := [.int v1, .int v2]) (rest := []) S K_Draft_text q_319 (c_Draft_text hv3) hK hP ⟨rfl, rfl⟩ ⟨Nat.le_of_ble_eq_true rfl, Nat.le_of_ble_eq_true rfl⟩ (xr_1 hK hP) rfl hl.1 rfl (Nat.le_of_ble_eq_true rfl) d_X_tokenTerm_20 ⟨Nat.le_refl _, Nat.le_refl _⟩ ?_
  refine lv_lstore_n (lv' := [(2, .long v3), (0, .ref (ad 0)), (1, .int a1)]) hx hb d_X_tokenTerm_23 rfl hl (Nat.le_of_ble_eq_true rfl) rfl (fun ls hl => ?_)
  refine lv_aload_n hx hb d_X_tokenTerm_24 rfl (lv_at hl 1 rfl) ?_
  refine xg_0_3 hx hb hts hown hK hP q_249 d_X_tokenTerm_25 ?_
  refine lv_lload_n hx hb d_X_tokenTerm_28 rfl (lv_at hl 0 rfl) ?_
  refine lv_aload_n hx hb d_X_tokenTerm_29 rfl (lv_at hl 1 rfl) ?_
  refine xg_0_7 hx hb hts hown hK hP q_253 d_X_tokenTerm_30 ?_
  refine lv_iload_n hx hb d_X_tokenTerm_33 rfl (lv_at hl 2 rfl) ?_
  obtain ⟨v4, hv4, hf⟩ := cl_x hf
  refine rdV (As := [.int a1]) (rest := [.long v3, .ref (ad 15)]) S K_TokenRow_part q_622 (c_TokenRow_part hv4) hK hP ⟨rfl, rfl⟩ ⟨Nat.le_of_ble_eq_true rfl, Nat.le_of_ble_eq_true rfl⟩ (xr_35 hK hP) rfl hl.1 rfl (Nat.le_of_ble_eq_true rfl) d_X_tokenTerm_34 ⟨Nat.le_refl _, Nat.le_refl _⟩ ?_
  refine lv_aload_n hx hb d_X_tokenTerm_37 rfl (lv_at hl 1 rfl) ?_
  refine xg_0_1 hx hb hts hown hK hP q_247 d_X_tokenTerm_38 ?_
  refine lv_aload_n hx hb d_X_tokenTerm_41 rfl (lv_at hl 1 rfl) ?_
  refine xg_0_7 hx hb hts hown hK hP q_253 d_X_tokenTerm_42 ?_
  refine lv_iload_n hx hb d_X_tokenTerm_45 rfl (lv_at hl 2 rfl) ?_
  obtain ⟨v5, hv5, hf⟩ := cl_x hf
  refine rdV (As := [.int a1]) (rest := [.ref (ad 3), .int v4, .long v3, .ref (ad 15)]) S K_TokenRow_entry q_630 (c_TokenRow_entry hv5) hK hP ⟨rfl, rfl⟩ ⟨Nat.le_of_ble_eq_true rfl, Nat.le_of_ble_eq_true rfl⟩ (xr_35 hK hP) rfl hl.1 rfl (Nat.le_of_ble_eq_true rfl) d_X_tokenTerm_46 ⟨Nat.le_refl _, Nat.le_refl _⟩ ?_
  obtain ⟨v6, hv6, hf⟩ := cl_x hf
  refine rdV (As := [.int v5]) (rest := [.int v4, .long v3, .ref (ad 15)]) S K_Lexicon_baseSurface q_652 (c_Lexicon_baseSurface hv6) hK hP ⟨rfl, rfl⟩ ⟨Nat.le_of_ble_eq_true rfl, Nat.le_of_ble_eq_true rfl⟩ (xr_3 hK hP) rfl hl.1 rfl (Nat.le_of_ble_eq_true rfl) d_X_tokenTerm_49 ⟨Nat.le_refl _, Nat.le_refl _⟩ ?_
  obtain ⟨v7, hv7, hf⟩ := cl_x hf
  refine rdV (As := [.long v3, .int v4, .long v6]) (rest := []) S K_Filters_pass q_656 (c_Filters_pass hv7) hK hP ⟨rfl, rfl⟩ ⟨Nat.le_of_ble_eq_true rfl, Nat.le_of_ble_eq_true rfl⟩ (xr_15 hK hP) rfl hl.1 rfl (Nat.le_of_ble_eq_true rfl) d_X_tokenTerm_52 ⟨Nat.le_refl _, Nat.le_refl _⟩ ?_
  have h1 := Option.some.inj hf
  subst h1
  exact W.lret hx hb hr (fun t ht _ => ⟨rfl, ht⟩) (fun _ h => by cases h) d_X_tokenTerm_55
theorem c_X_tokenTerm {l : Launch} {D : va_G} {g : Nat → ClassId} {ad : Nat → Nat} {dr : Nat → Option Nat} {pl : va_W} {μ : Mem} {r : Int64} {n : Nat} {a1 : Int32} (hf : f_X_tokenTerm n μ a1 = some r) : Met l y_X_tokenTerm (Cond.code y_X_tokenTerm b_X_tokenTerm 4 (some .long) :: ww) rm_X_tokenTerm (RP D CL (TY g) (WX g ad dr pl μ) [.ref (ad 0), .int a1]) (k2_QcV (.long r)) 0 0 (fun _ => False) := by
  refine met_of (by decide) (Nat.le_of_ble_eq_true rfl) ?_
  intro p e s m below meth c ls X hP hl
  have hl : lv_has ls 4 [(0, .ref (ad 0)), (1, .int a1)] := hl
  exact w_X_tokenTerm X hP hl hf
theorem d_X_term_0 : decode b_X_term 0 = .ok (.aload_n 0, 1) := by decide +kernel
theorem d_X_term_1 : decode b_X_term 1 = .ok (.invokevirtual 130, 3) := by decide +kernel
theorem d_X_term_4 : decode b_X_term 4 = .ok (.aload_n 0, 1) := by decide +kernel
theorem d_X_term_5 : decode b_X_term 5 = .ok (.getfield 63, 3) := by decide +kernel
theorem d_X_term_8 : decode b_X_term 8 = .ok (.iload_n 1, 1) := by decide +kernel
theorem d_X_term_9 : decode b_X_term 9 = .ok (.invokevirtual 144, 3) := by decide +kernel
theorem d_X_term_12 : decode b_X_term 12 = .ok (.ifCond .eq 11, 3) := by decide +kernel
theorem d_X_term_15 : decode b_X_term 15 = .ok (.aload_n 0, 1) := by decide +kernel
theorem d_X_term_16 : decode b_X_term 16 = .ok (.iload_n 1, 1) := by decide +kernel
theorem d_X_term_17 : decode b_X_term 17 = .ok (.invokevirtual 163, 3) := by decide +kernel
theorem d_X_term_20 : decode b_X_term 20 = .ok (.goto 4, 3) := by decide +kernel
theorem d_X_term_23 : decode b_X_term 23 = .ok (.lconst 0, 1) := by decide +kernel
theorem d_X_term_24 : decode b_X_term 24 = .ok (.lreturn, 1) := by decide +kernel
abbrev rm_X_term : Room := { frames := 6, cells := 0, slots := 0, locals := 137 }
def f_X_term (n : Nat) (μ : Mem) (a1 : Int32) : Option (Int64 × Mem) := cl (f_X_analyse n μ) (fun μ2 => cl (f_TokenRow_has n μ2 a1) (fun v3 => (if (bz v3) = 0 then (some ((0 : Int64), μ2)) else (cl (f_X_tokenTerm n μ2 a1) (fun v4 => some (v4, μ2))))))
set_option maxHeartbeats 4000000 in
set_option maxRecDepth 100000 in
theorem w_X_term {p : Program} {l : Launch} {e : Env} {s : State} {m : MethodId} {args : Array Value} {below : List Frame} {meth : Method} {c : Code} {D : va_G} {g : Nat → ClassId} {ad : Nat → Nat} {dr : Nat → Option Nat} {pl : va_W} {r : Int64} {μ' : Mem} {A : Nat → Prop} {n : Nat} {μ : Mem} {a1 : Int32} {ls : Array Slot} {H : Heap} {locs : List Loc} (X : Cx p s m args meth c b_X_term 2 R_X (some .long) D CL (TY g)) (hDA : ∀ μ : Mem, va_D A (WX g ad dr pl μ)) (hP : va_P D CL (WX g ad dr pl μ) H) (hS : va_S A s.heap H locs) (hl : lv_has ls 2 [(0, .ref (ad 0)), (1, .int a1)]) (hf : f_X_term n μ a1 = some (r, μ')) : WU p l e rm_X_term s m args below meth c H locs D (WX g ad dr pl μ') A (some (.long r)) (F0 m 0 ls []) := by
  obtain ⟨S, hr, hlk, hK⟩ := id X
  obtain ⟨hx, hb, hml, hown, hts⟩ := id S
  rw [f_X_term] at hf
  refine lv_aload_n hx hb d_X_term_0 rfl (lv_at hl 0 rfl) ?_
  obtain ⟨μ2, hv1, hf⟩ := cl_x hf
  refine wrV (As := []) (rest := []) S K_X_analyse q_378 (c_X_analyse hDA hv1) hK hP hS ⟨rfl, rfl⟩ ⟨Nat.le_of_ble_eq_true rfl, Nat.le_of_ble_eq_true rfl⟩ (xr_0 hK hP) rfl hl.1 rfl (Nat.le_of_ble_eq_true rfl) d_X_term_1 ⟨Nat.le_refl _, Nat.le_refl _⟩ (fun H locs hP hS => ?_)
  refine lv_aload_n hx hb d_X_term_4 rfl (lv_at hl 0 rfl) ?_
  refine xg_0_7 hx hb hts hown hK hP q_253 d_X_term_5 ?_
  refine lv_iload_n hx hb d_X_term_8 rfl (lv_at hl 1 rfl) ?_
  obtain ⟨v3, hv3, hf⟩ := cl_x hf
  refine rdV (As := [.int a1]) (rest := []) S K_TokenRow_has q_610 (c_TokenRow_has hv3) hK hP ⟨rfl, rfl⟩ ⟨Nat.le_of_ble_eq_true rfl, Nat.le_of_ble_eq_true rfl⟩ (xr_35 hK hP) rfl hl.1 rfl (Nat.le_of_ble_eq_true rfl) d_X_term_9 ⟨Nat.le_refl _, Nat.le_refl _⟩ ?_
  refine lv_if_eq (tgt := 23) hx hb d_X_term_12 rfl (fun hc => ?_) (fun hc => ?_)
  · replace hf := br_p hc hf
    refine lv_lconst (v := 0) hx hb d_X_term_23 (by decide) ?_
    obtain ⟨h1, h2⟩ := Prod.mk.inj (Option.some.inj hf)
    subst h1; subst h2
    exact W.lret hx hb hr (fun t ht _ => ⟨rfl, by rw [ht]; exact hP, hS.F ht⟩) hS.2.2 d_X_term_24
  · replace hf := br_n hc hf
    refine lv_aload_n hx hb d_X_term_15 rfl (lv_at hl 0 rfl) ?_
    refine lv_iload_n hx hb d_X_term_16 rfl (lv_at hl 1 rfl) ?_
    obtain ⟨v4, hv4, hf⟩ := cl_x hf
    refine rdV (As := [.int a1]) (rest := []) S K_X_tokenTerm q_648 (c_X_tokenTerm hv4) hK hP ⟨rfl, rfl⟩ ⟨Nat.le_of_ble_eq_true rfl, Nat.le_of_ble_eq_true rfl⟩ (xr_0 hK hP) rfl hl.1 rfl (Nat.le_of_ble_eq_true rfl) d_X_term_17 ⟨Nat.le_refl _, Nat.le_refl _⟩ ?_
    refine lv_goto (tgt := 24) hx hb d_X_term_20 rfl ?_
    obtain ⟨h1, h2⟩ := Prod.mk.inj (Option.some.inj hf)
    subst h1; subst h2
    exact W.lret hx hb hr (fun t ht _ => ⟨rfl, by rw [ht]; exact hP, hS.F ht⟩) hS.2.2 d_X_term_24
theorem c_X_term {l : Launch} {D : va_G} {g : Nat → ClassId} {ad : Nat → Nat} {dr : Nat → Option Nat} {pl : va_W} {μ : Mem} {r : Int64} {μ' : Mem} {A : Nat → Prop} {n : Nat} {a1 : Int32} (hDA : ∀ μ : Mem, va_D A (WX g ad dr pl μ)) (hf : f_X_term n μ a1 = some (r, μ')) : Met l y_X_term (Cond.code y_X_term b_X_term 2 (some .long) :: ww) rm_X_term (RP D CL (TY g) (WX g ad dr pl μ) [.ref (ad 0), .int a1]) (QW D CL (WX g ad dr pl μ') A (some (.long r))) 0 0 A := by
  refine met_of (by decide) (Nat.le_of_ble_eq_true rfl) ?_
  intro p e s m below meth c ls X hP hl
  have hl : lv_has ls 2 [(0, .ref (ad 0)), (1, .int a1)] := hl
  exact w_X_term X hDA hP va_S.rf hl hf
theorem d_X_drop_0 : decode b_X_drop 0 = .ok (.aload_n 0, 1) := by decide +kernel
theorem d_X_drop_1 : decode b_X_drop 1 = .ok (.getfield 70, 3) := by decide +kernel
theorem d_X_drop_4 : decode b_X_drop 4 = .ok (.iload_n 1, 1) := by decide +kernel
theorem d_X_drop_5 : decode b_X_drop 5 = .ok (.invokevirtual 186, 3) := by decide +kernel
theorem d_X_drop_8 : decode b_X_drop 8 = .ok (.ireturn, 1) := by decide +kernel
abbrev rm_X_drop : Room := { frames := 2, cells := 0, slots := 0, locals := 43 }
def f_X_drop (n : Nat) (μ : Mem) (a1 : Int32) : Option (Bool × Mem) := cl2 (f_Shelf_discard n μ a1) (fun v1 μ2 => some (v1, μ2))
set_option maxHeartbeats 4000000 in
set_option maxRecDepth 100000 in
theorem w_X_drop {p : Program} {l : Launch} {e : Env} {s : State} {m : MethodId} {args : Array Value} {below : List Frame} {meth : Method} {c : Code} {D : va_G} {g : Nat → ClassId} {ad : Nat → Nat} {dr : Nat → Option Nat} {pl : va_W} {r : Bool} {μ' : Mem} {A : Nat → Prop} {n : Nat} {μ : Mem} {a1 : Int32} {ls : Array Slot} {H : Heap} {locs : List Loc} (X : Cx p s m args meth c b_X_drop 2 R_X (some .boolean) D CL (TY g)) (hDA : ∀ μ : Mem, va_D A (WX g ad dr pl μ)) (hP : va_P D CL (WX g ad dr pl μ) H) (hS : va_S A s.heap H locs) (hl : lv_has ls 2 [(0, .ref (ad 0)), (1, .int a1)]) (hf : f_X_drop n μ a1 = some (r, μ')) : WU p l e rm_X_drop s m args below meth c H locs D (WX g ad dr pl μ') A (some (.int (bz r))) (F0 m 0 ls []) := by
  obtain ⟨S, hr, hlk, hK⟩ := id X
  obtain ⟨hx, hb, hml, hown, hts⟩ := id S
  rw [f_X_drop] at hf
  refine lv_aload_n hx hb d_X_drop_0 rfl (lv_at hl 0 rfl) ?_
  refine xg_0_8 hx hb hts hown hK hP q_254 d_X_drop_1 ?_
  refine lv_iload_n hx hb d_X_drop_4 rfl (lv_at hl 1 rfl) ?_
  obtain ⟨v1, μ2, hv1, hf⟩ := cl2_x hf
  refine wrV (As := [.int a1]) (rest := []) S K_Shelf_discard q_720 (c_Shelf_discard hDA hv1) hK hP hS ⟨rfl, rfl⟩ ⟨Nat.le_of_ble_eq_true rfl, Nat.le_of_ble_eq_true rfl⟩ (xr_41 hK hP) rfl hl.1 rfl (Nat.le_of_ble_eq_true rfl) d_X_drop_5 ⟨Nat.le_refl _, Nat.le_refl _⟩ (fun H locs hP hS => ?_)
  obtain ⟨h1, h2⟩ := Prod.mk.inj (Option.some.inj hf)
  subst h1; subst h2
  exact W.zret hx hb hr (by first | rfl | exact bz_nar _) (fun t ht _ => ⟨rfl, by rw [ht]; exact hP, hS.F ht⟩) hS.2.2 d_X_drop_8
theorem c_X_drop {l : Launch} {D : va_G} {g : Nat → ClassId} {ad : Nat → Nat} {dr : Nat → Option Nat} {pl : va_W} {μ : Mem} {r : Bool} {μ' : Mem} {A : Nat → Prop} {n : Nat} {a1 : Int32} (hDA : ∀ μ : Mem, va_D A (WX g ad dr pl μ)) (hf : f_X_drop n μ a1 = some (r, μ')) : Met l y_X_drop (Cond.code y_X_drop b_X_drop 2 (some .boolean) :: ww) rm_X_drop (RP D CL (TY g) (WX g ad dr pl μ) [.ref (ad 0), .int a1]) (QW D CL (WX g ad dr pl μ') A (some (.int (bz r)))) 0 0 A := by
  refine met_of (by decide) (Nat.le_of_ble_eq_true rfl) ?_
  intro p e s m below meth c ls X hP hl
  have hl : lv_has ls 2 [(0, .ref (ad 0)), (1, .int a1)] := hl
  exact w_X_drop X hDA hP va_S.rf hl hf
theorem d_X_segment_0 : decode b_X_segment 0 = .ok (.iload_n 1, 1) := by decide +kernel
theorem d_X_segment_1 : decode b_X_segment 1 = .ok (.iconst (-1), 1) := by decide +kernel
theorem d_X_segment_2 : decode b_X_segment 2 = .ok (.if_icmp .ne 13, 3) := by decide +kernel
theorem d_X_segment_5 : decode b_X_segment 5 = .ok (.aload_n 0, 1) := by decide +kernel
theorem d_X_segment_6 : decode b_X_segment 6 = .ok (.getfield 70, 3) := by decide +kernel
theorem d_X_segment_9 : decode b_X_segment 9 = .ok (.invokevirtual 192, 3) := by decide +kernel
theorem d_X_segment_12 : decode b_X_segment 12 = .ok (.goto 11, 3) := by decide +kernel
theorem d_X_segment_15 : decode b_X_segment 15 = .ok (.aload_n 0, 1) := by decide +kernel
theorem d_X_segment_16 : decode b_X_segment 16 = .ok (.getfield 70, 3) := by decide +kernel
theorem d_X_segment_19 : decode b_X_segment 19 = .ok (.iload_n 1, 1) := by decide +kernel
theorem d_X_segment_20 : decode b_X_segment 20 = .ok (.invokevirtual 195, 3) := by decide +kernel
theorem d_X_segment_23 : decode b_X_segment 23 = .ok (.ireturn, 1) := by decide +kernel
abbrev rm_X_segment : Room := { frames := 2, cells := 0, slots := 0, locals := 42 }
def f_X_segment (n : Nat) (μ : Mem) (a1 : Int32) : Option Int32 := (if a1 = (-1 : Int32) then (cl (f_Shelf_segmentCount n μ) (fun v2 => some v2)) else (cl (f_Shelf_segmentSize n μ a1) (fun v1 => some v1)))
set_option maxHeartbeats 4000000 in
set_option maxRecDepth 100000 in
theorem w_X_segment {p : Program} {l : Launch} {e : Env} {s : State} {m : MethodId} {args : Array Value} {below : List Frame} {meth : Method} {c : Code} {D : va_G} {g : Nat → ClassId} {ad : Nat → Nat} {dr : Nat → Option Nat} {pl : va_W} {μ : Mem} {r : Int32} {n : Nat} {a1 : Int32} {ls : Array Slot} (X : Cx p s m args meth c b_X_segment 2 R_X (some .int) D CL (TY g)) (hP : va_P D CL (WX g ad dr pl μ) s.heap) (hl : lv_has ls 2 [(0, .ref (ad 0)), (1, .int a1)]) (hf : f_X_segment n μ a1 = some r) : WR p l e rm_X_segment s m args below meth c (.int r) (F0 m 0 ls []) := by
  obtain ⟨S, hr, hlk, hK⟩ := id X
  obtain ⟨hx, hb, hml, hown, hts⟩ := id S
  rw [f_X_segment] at hf
  refine lv_iload_n hx hb d_X_segment_0 rfl (lv_at hl 1 rfl) ?_
  refine lv_iconst (v := -1) hx hb d_X_segment_1 (by decide) ?_
  refine lv_icmp_ne (tgt := 15) hx hb d_X_segment_2 rfl (fun hc => ?_) (fun hc => ?_)
  · replace hf := br_n hc hf
    refine lv_aload_n hx hb d_X_segment_15 rfl (lv_at hl 0 rfl) ?_
    refine xg_0_8 hx hb hts hown hK hP q_254 d_X_segment_16 ?_
    refine lv_iload_n hx hb d_X_segment_19 rfl (lv_at hl 1 rfl) ?_
    obtain ⟨v1, hv1, hf⟩ := cl_x hf
    refine rdV (As := [.int a1]) (rest := []) S K_Shelf_segmentSize q_768 (c_Shelf_segmentSize hv1) hK hP ⟨rfl, rfl⟩ ⟨Nat.le_of_ble_eq_true rfl, Nat.le_of_ble_eq_true rfl⟩ (xr_41 hK hP) rfl hl.1 rfl (Nat.le_of_ble_eq_true rfl) d_X_segment_20 ⟨Nat.le_refl _, Nat.le_refl _⟩ ?_
    have h1 := Option.some.inj hf
    subst h1
    exact W.iret hx hb hr (fun t ht _ => ⟨rfl, ht⟩) (fun _ h => by cases h) d_X_segment_23
  · replace hf := br_p hc hf
    refine lv_aload_n hx hb d_X_segment_5 rfl (lv_at hl 0 rfl) ?_
    refine xg_0_8 hx hb hts hown hK hP q_254 d_X_segment_6 ?_
    obtain ⟨v2, hv2, hf⟩ := cl_x hf
    refine rdV (As := []) (rest := []) S K_Shelf_segmentCount q_764 (c_Shelf_segmentCount hv2) hK hP ⟨rfl, rfl⟩ ⟨Nat.le_of_ble_eq_true rfl, Nat.le_of_ble_eq_true rfl⟩ (xr_41 hK hP) rfl hl.1 rfl (Nat.le_of_ble_eq_true rfl) d_X_segment_9 ⟨Nat.le_refl _, Nat.le_refl _⟩ ?_
    refine lv_goto (tgt := 23) hx hb d_X_segment_12 rfl ?_
    have h1 := Option.some.inj hf
    subst h1
    exact W.iret hx hb hr (fun t ht _ => ⟨rfl, ht⟩) (fun _ h => by cases h) d_X_segment_23
theorem c_X_segment {l : Launch} {D : va_G} {g : Nat → ClassId} {ad : Nat → Nat} {dr : Nat → Option Nat} {pl : va_W} {μ : Mem} {r : Int32} {n : Nat} {a1 : Int32} (hf : f_X_segment n μ a1 = some r) : Met l y_X_segment (Cond.code y_X_segment b_X_segment 2 (some .int) :: ww) rm_X_segment (RP D CL (TY g) (WX g ad dr pl μ) [.ref (ad 0), .int a1]) (k2_QcV (.int r)) 0 0 (fun _ => False) := by
  refine met_of (by decide) (Nat.le_of_ble_eq_true rfl) ?_
  intro p e s m below meth c ls X hP hl
  have hl : lv_has ls 2 [(0, .ref (ad 0)), (1, .int a1)] := hl
  exact w_X_segment X hP hl hf
theorem d_X_open_0 : decode b_X_open 0 = .ok (.aload_n 0, 1) := by decide +kernel
theorem d_X_open_1 : decode b_X_open 1 = .ok (.getfield 70, 3) := by decide +kernel
theorem d_X_open_4 : decode b_X_open 4 = .ok (.invokevirtual 198, 3) := by decide +kernel
theorem d_X_open_7 : decode b_X_open 7 = .ok (.ireturn, 1) := by decide +kernel
abbrev rm_X_open : Room := { frames := 2, cells := 0, slots := 0, locals := 44 }
def f_X_open (n : Nat) (μ : Mem) : Option (Int32 × Mem) := cl2 (f_Shelf_takeSnapshot n μ) (fun v1 μ2 => some (v1, μ2))
set_option maxHeartbeats 4000000 in
set_option maxRecDepth 100000 in
theorem w_X_open {p : Program} {l : Launch} {e : Env} {s : State} {m : MethodId} {args : Array Value} {below : List Frame} {meth : Method} {c : Code} {D : va_G} {g : Nat → ClassId} {ad : Nat → Nat} {dr : Nat → Option Nat} {pl : va_W} {r : Int32} {μ' : Mem} {A : Nat → Prop} {n : Nat} {μ : Mem} {ls : Array Slot} {H : Heap} {locs : List Loc} (X : Cx p s m args meth c b_X_open 1 R_X (some .int) D CL (TY g)) (hDA : ∀ μ : Mem, va_D A (WX g ad dr pl μ)) (hP : va_P D CL (WX g ad dr pl μ) H) (hS : va_S A s.heap H locs) (hl : lv_has ls 1 [(0, .ref (ad 0))]) (hf : f_X_open n μ = some (r, μ')) : WU p l e rm_X_open s m args below meth c H locs D (WX g ad dr pl μ') A (some (.int r)) (F0 m 0 ls []) := by
  obtain ⟨S, hr, hlk, hK⟩ := id X
  obtain ⟨hx, hb, hml, hown, hts⟩ := id S
  rw [f_X_open] at hf
  refine lv_aload_n hx hb d_X_open_0 rfl (lv_at hl 0 rfl) ?_
  refine xg_0_8 hx hb hts hown hK hP q_254 d_X_open_1 ?_
  obtain ⟨v1, μ2, hv1, hf⟩ := cl2_x hf
  refine wrV (As := []) (rest := []) S K_Shelf_takeSnapshot q_773 (c_Shelf_takeSnapshot hDA hv1) hK hP hS ⟨rfl, rfl⟩ ⟨Nat.le_of_ble_eq_true rfl, Nat.le_of_ble_eq_true rfl⟩ (xr_41 hK hP) rfl hl.1 rfl (Nat.le_of_ble_eq_true rfl) d_X_open_4 ⟨Nat.le_refl _, Nat.le_refl _⟩ (fun H locs hP hS => ?_)
  obtain ⟨h1, h2⟩ := Prod.mk.inj (Option.some.inj hf)
  subst h1; subst h2
  exact W.iret hx hb hr (fun t ht _ => ⟨rfl, by rw [ht]; exact hP, hS.F ht⟩) hS.2.2 d_X_open_7
theorem c_X_open {l : Launch} {D : va_G} {g : Nat → ClassId} {ad : Nat → Nat} {dr : Nat → Option Nat} {pl : va_W} {μ : Mem} {r : Int32} {μ' : Mem} {A : Nat → Prop} {n : Nat} (hDA : ∀ μ : Mem, va_D A (WX g ad dr pl μ)) (hf : f_X_open n μ = some (r, μ')) : Met l y_X_open (Cond.code y_X_open b_X_open 1 (some .int) :: ww) rm_X_open (RP D CL (TY g) (WX g ad dr pl μ) [.ref (ad 0)]) (QW D CL (WX g ad dr pl μ') A (some (.int r))) 0 0 A := by
  refine met_of (by decide) (Nat.le_of_ble_eq_true rfl) ?_
  intro p e s m below meth c ls X hP hl
  have hl : lv_has ls 1 [(0, .ref (ad 0))] := hl
  exact w_X_open X hDA hP va_S.rf hl hf
theorem d_X_compoundTerm_0 : decode b_X_compoundTerm 0 = .ok (.aload_n 0, 1) := by decide +kernel
theorem d_X_compoundTerm_1 : decode b_X_compoundTerm 1 = .ok (.getfield 63, 3) := by decide +kernel
theorem d_X_compoundTerm_4 : decode b_X_compoundTerm 4 = .ok (.iload_n 1, 1) := by decide +kernel
theorem d_X_compoundTerm_5 : decode b_X_compoundTerm 5 = .ok (.invokevirtual 228, 3) := by decide +kernel
theorem d_X_compoundTerm_8 : decode b_X_compoundTerm 8 = .ok (.istore_n 2, 1) := by decide +kernel
theorem d_X_compoundTerm_9 : decode b_X_compoundTerm 9 = .ok (.iload_n 2, 1) := by decide +kernel
theorem d_X_compoundTerm_10 : decode b_X_compoundTerm 10 = .ok (.iconst (-1), 1) := by decide +kernel
theorem d_X_compoundTerm_11 : decode b_X_compoundTerm 11 = .ok (.if_icmp .ne 5, 3) := by decide +kernel
theorem d_X_compoundTerm_14 : decode b_X_compoundTerm 14 = .ok (.lconst 0, 1) := by decide +kernel
theorem d_X_compoundTerm_15 : decode b_X_compoundTerm 15 = .ok (.lreturn, 1) := by decide +kernel
theorem d_X_compoundTerm_16 : decode b_X_compoundTerm 16 = .ok (.aload_n 0, 1) := by decide +kernel
theorem d_X_compoundTerm_17 : decode b_X_compoundTerm 17 = .ok (.getfield 12, 3) := by decide +kernel
theorem d_X_compoundTerm_20 : decode b_X_compoundTerm 20 = .ok (.aload_n 0, 1) := by decide +kernel
theorem d_X_compoundTerm_21 : decode b_X_compoundTerm 21 = .ok (.getfield 42, 3) := by decide +kernel
theorem d_X_compoundTerm_24 : decode b_X_compoundTerm 24 = .ok (.iload_n 2, 1) := by decide +kernel
theorem d_X_compoundTerm_25 : decode b_X_compoundTerm 25 = .ok (.invokevirtual 239, 3) := by decide +kernel
theorem d_X_compoundTerm_28 : decode b_X_compoundTerm 28 = .ok (.aload_n 0, 1) := by decide +kernel
theorem d_X_compoundTerm_29 : decode b_X_compoundTerm 29 = .ok (.getfield 42, 3) := by decide +kernel
theorem d_X_compoundTerm_32 : decode b_X_compoundTerm 32 = .ok (.iload_n 2, 1) := by decide +kernel
theorem d_X_compoundTerm_33 : decode b_X_compoundTerm 33 = .ok (.invokevirtual 231, 3) := by decide +kernel
theorem d_X_compoundTerm_36 : decode b_X_compoundTerm 36 = .ok (.invokevirtual 104, 3) := by decide +kernel
theorem d_X_compoundTerm_39 : decode b_X_compoundTerm 39 = .ok (.lstore_n 3, 1) := by decide +kernel
theorem d_X_compoundTerm_40 : decode b_X_compoundTerm 40 = .ok (.aload_n 0, 1) := by decide +kernel
theorem d_X_compoundTerm_41 : decode b_X_compoundTerm 41 = .ok (.getfield 33, 3) := by decide +kernel
theorem d_X_compoundTerm_44 : decode b_X_compoundTerm 44 = .ok (.lload_n 3, 1) := by decide +kernel
theorem d_X_compoundTerm_45 : decode b_X_compoundTerm 45 = .ok (.aload_n 0, 1) := by decide +kernel
theorem d_X_compoundTerm_46 : decode b_X_compoundTerm 46 = .ok (.getfield 42, 3) := by decide +kernel
theorem d_X_compoundTerm_49 : decode b_X_compoundTerm 49 = .ok (.iload_n 2, 1) := by decide +kernel
theorem d_X_compoundTerm_50 : decode b_X_compoundTerm 50 = .ok (.invokevirtual 240, 3) := by decide +kernel
theorem d_X_compoundTerm_53 : decode b_X_compoundTerm 53 = .ok (.aload_n 0, 1) := by decide +kernel
theorem d_X_compoundTerm_54 : decode b_X_compoundTerm 54 = .ok (.getfield 19, 3) := by decide +kernel
theorem d_X_compoundTerm_57 : decode b_X_compoundTerm 57 = .ok (.aload_n 0, 1) := by decide +kernel
theorem d_X_compoundTerm_58 : decode b_X_compoundTerm 58 = .ok (.getfield 42, 3) := by decide +kernel
theorem d_X_compoundTerm_61 : decode b_X_compoundTerm 61 = .ok (.iload_n 2, 1) := by decide +kernel
theorem d_X_compoundTerm_62 : decode b_X_compoundTerm 62 = .ok (.invokevirtual 241, 3) := by decide +kernel
theorem d_X_compoundTerm_65 : decode b_X_compoundTerm 65 = .ok (.invokevirtual 232, 3) := by decide +kernel
theorem d_X_compoundTerm_68 : decode b_X_compoundTerm 68 = .ok (.invokevirtual 235, 3) := by decide +kernel
theorem d_X_compoundTerm_71 : decode b_X_compoundTerm 71 = .ok (.lreturn, 1) := by decide +kernel
abbrev rm_X_compoundTerm : Room := { frames := 4, cells := 0, slots := 0, locals := 97 }
def f_X_compoundTerm (n : Nat) (μ : Mem) (a1 : Int32) : Option Int64 := cl (f_TokenRow_compound n μ a1) (fun v1 => (if v1 = (-1 : Int32) then (some (0 : Int64)) else (cl (f_Lattice_begin n μ v1) (fun v2 => cl (f_Lattice_length n μ v1) (fun v3 => cl (f_Draft_text n μ v2 v3) (fun v4 => cl (f_Lattice_part n μ v1) (fun v5 => cl (f_Lattice_entry n μ v1) (fun v6 => cl (f_Lexicon_baseSurface n μ v6) (fun v7 => cl (f_Filters_pass n μ v4 v5 v7) (fun v8 => some v8))))))))))
set_option maxHeartbeats 4000000 in
set_option maxRecDepth 100000 in
theorem w_X_compoundTerm {p : Program} {l : Launch} {e : Env} {s : State} {m : MethodId} {args : Array Value} {below : List Frame} {meth : Method} {c : Code} {D : va_G} {g : Nat → ClassId} {ad : Nat → Nat} {dr : Nat → Option Nat} {pl : va_W} {μ : Mem} {r : Int64} {n : Nat} {a1 : Int32} {ls : Array Slot} (X : Cx p s m args meth c b_X_compoundTerm 5 R_X (some .long) D CL (TY g)) (hP : va_P D CL (WX g ad dr pl μ) s.heap) (hl : lv_has ls 5 [(0, .ref (ad 0)), (1, .int a1)]) (hf : f_X_compoundTerm n μ a1 = some r) : WR p l e rm_X_compoundTerm s m args below meth c (.long r) (F0 m 0 ls []) := by
  obtain ⟨S, hr, hlk, hK⟩ := id X
  obtain ⟨hx, hb, hml, hown, hts⟩ := id S
  rw [f_X_compoundTerm] at hf
  refine lv_aload_n hx hb d_X_compoundTerm_0 rfl (lv_at hl 0 rfl) ?_
  refine xg_0_7 hx hb hts hown hK hP q_253 d_X_compoundTerm_1 ?_
  refine lv_iload_n hx hb d_X_compoundTerm_4 rfl (lv_at hl 1 rfl) ?_
  obtain ⟨v1, hv1, hf⟩ := cl_x hf
  refine rdV (As := [.int a1]) (rest := []) S K_TokenRow_compound q_639 (c_TokenRow_compound hv1) hK hP ⟨rfl, rfl⟩ ⟨Nat.le_of_ble_eq_true rfl, Nat.le_of_ble_eq_true rfl⟩ (xr_35 hK hP) rfl hl.1 rfl (Nat.le_of_ble_eq_true rfl) d_X_compoundTerm_5 ⟨Nat.le_refl _, Nat.le_refl _⟩ ?_
  refine lv_istore_n (lv' := [(2, .int v1), (0, .ref (ad 0)), (1, .int a1)]) hx hb d_X_compoundTerm_8 rfl hl (Nat.le_of_ble_eq_true rfl) rfl (fun ls hl => ?_)
  refine lv_iload_n hx hb d_X_compoundTerm_9 rfl (lv_at hl 0 rfl) ?_
  refine lv_iconst (v := -1) hx hb d_X_compoundTerm_10 (by decide) ?_
  refine lv_icmp_ne (tgt := 16) hx hb d_X_compoundTerm_11 rfl (fun hc => ?_) (fun hc => ?_)
  · replace hf := br_n hc hf
    refine lv_aload_n hx hb d_X_compoundTerm_16 rfl (lv_at hl 1 rfl) ?_
    refine xg_0_0 hx hb hts hown hK hP q_246 d_X_compoundTerm_17 ?_
    refine lv_aload_n hx hb d_X_compoundTerm_20 rfl (lv_at hl 1 rfl) ?_
    refine xg_0_4 hx hb hts hown hK hP q_250 d_X_compoundTerm_21 ?_
    refine lv_iload_n hx hb d_X_compoundTerm_24 rfl (lv_at hl 0 rfl) ?_
    obtain ⟨v2, hv2, hf⟩ := cl_x hf
    refine rdV (As := [.int v1]) (rest := [.ref (ad 1)]) S K_Lattice_begin q_704 (c_Lattice_begin hv2) hK hP ⟨rfl, rfl⟩ ⟨Nat.le_of_ble_eq_true rfl, Nat.le_of_ble_eq_true rfl⟩ (xr_18 hK hP) rfl hl.1 rfl (Nat.le_of_ble_eq_true rfl) d_X_compoundTerm_25 ⟨Nat.le_refl _, Nat.le_refl _⟩ ?_
    refine lv_aload_n hx hb d_X_compoundTerm_28 rfl (lv_at hl 1 rfl) ?_
    refine xg_0_4 hx hb hts hown hK hP q_250 d_X_compoundTerm_29 ?_
    refine lv_iload_n hx hb d_X_compoundTerm_32 rfl (lv_at hl 0 rfl) ?_
    obtain ⟨v3, hv3, hf⟩ := cl_x hf
    refine rdV (As := [.int v1]) (rest := [.int v2, .ref (ad 1)]) S K_Lattice_length q_643 (c_Lattice_length hv3) hK hP ⟨rfl, rfl⟩ ⟨Nat.le_of_ble_eq_true rfl, Nat.le_of_ble_eq_true rfl⟩ (xr_18 hK hP) rfl hl.1 rfl (Nat.le_of_ble_eq_true rfl) d_X_compoundTerm_33 ⟨Nat.le_refl _, Nat.le_refl _⟩ ?_
    obtain ⟨v4, hv4, hf⟩ := cl_x hf
    refine rdV (As := [.int v2, .int v3]) (rest := []) S K_Draft_text q_319 (c_Draft_text hv4) hK hP ⟨rfl, rfl⟩ ⟨Nat.le_of_ble_eq_true rfl, Nat.le_of_ble_eq_true rfl⟩ (xr_1 hK hP) rfl hl.1 rfl (Nat.le_of_ble_eq_true rfl) d_X_compoundTerm_36 ⟨Nat.le_refl _, Nat.le_refl _⟩ ?_
    refine lv_lstore_n (lv' := [(3, .long v4), (2, .int v1), (0, .ref (ad 0)), (1, .int a1)]) hx hb d_X_compoundTerm_39 rfl hl (Nat.le_of_ble_eq_true rfl) rfl (fun ls hl => ?_)
    refine lv_aload_n hx hb d_X_compoundTerm_40 rfl (lv_at hl 2 rfl) ?_
    refine xg_0_3 hx hb hts hown hK hP q_249 d_X_compoundTerm_41 ?_
    refine lv_lload_n hx hb d_X_compoundTerm_44 rfl (lv_at hl 0 rfl) ?_
    refine lv_aload_n hx hb d_X_compoundTerm_45 rfl (lv_at hl 2 rfl) ?_
    refine xg_0_4 hx hb hts hown hK hP q_250 d_X_compoundTerm_46 ?_
    refine lv_iload_n hx hb d_X_compoundTerm_49 rfl (lv_at hl 1 rfl) ?_
    obtain ⟨v5, hv5, hf⟩ := cl_x hf
    refine rdV (As := [.int v1]) (rest := [.long v4, .ref (ad 15)]) S K_Lattice_part q_705 (c_Lattice_part hv5) hK hP ⟨rfl, rfl⟩ ⟨Nat.le_of_ble_eq_true rfl, Nat.le_of_ble_eq_true rfl⟩ (xr_18 hK hP) rfl hl.1 rfl (Nat.le_of_ble_eq_true rfl) d_X_compoundTerm_50 ⟨Nat.le_refl _, Nat.le_refl _⟩ ?_
    refine lv_aload_n hx hb d_X_compoundTerm_53 rfl (lv_at hl 2 rfl) ?_
    refine xg_0_1 hx hb hts hown hK hP q_247 d_X_compoundTerm_54 ?_
    refine lv_aload_n hx hb d_X_compoundTerm_57 rfl (lv_at hl 2 rfl) ?_
    refine xg_0_4 hx hb hts hown hK hP q_250 d_X_compoundTerm_58 ?_
    refine lv_iload_n hx hb d_X_compoundTerm_61 rfl (lv_at hl 1 rfl) ?_
    obtain ⟨v6, hv6, hf⟩ := cl_x hf
    refine rdV (As := [.int v1]) (rest := [.ref (ad 3), .int v5, .long v4, .ref (ad 15)]) S K_Lattice_entry q_706 (c_Lattice_entry hv6) hK hP ⟨rfl, rfl⟩ ⟨Nat.le_of_ble_eq_true rfl, Nat.le_of_ble_eq_true rfl⟩ (xr_18 hK hP) rfl hl.1 rfl (Nat.le_of_ble_eq_true rfl) d_X_compoundTerm_62 ⟨Nat.le_refl _, Nat.le_refl _⟩ ?_
    obtain ⟨v7, hv7, hf⟩ := cl_x hf
    refine rdV (As := [.int v6]) (rest := [.int v5, .long v4, .ref (ad 15)]) S K_Lexicon_baseSurface q_652 (c_Lexicon_baseSurface hv7) hK hP ⟨rfl, rfl⟩ ⟨Nat.le_of_ble_eq_true rfl, Nat.le_of_ble_eq_true rfl⟩ (xr_3 hK hP) rfl hl.1 rfl (Nat.le_of_ble_eq_true rfl) d_X_compoundTerm_65 ⟨Nat.le_refl _, Nat.le_refl _⟩ ?_
    obtain ⟨v8, hv8, hf⟩ := cl_x hf
    refine rdV (As := [.long v4, .int v5, .long v7]) (rest := []) S K_Filters_pass q_656 (c_Filters_pass hv8) hK hP ⟨rfl, rfl⟩ ⟨Nat.le_of_ble_eq_true rfl, Nat.le_of_ble_eq_true rfl⟩ (xr_15 hK hP) rfl hl.1 rfl (Nat.le_of_ble_eq_true rfl) d_X_compoundTerm_68 ⟨Nat.le_refl _, Nat.le_refl _⟩ ?_
    have h1 := Option.some.inj hf
    subst h1
    exact W.lret hx hb hr (fun t ht _ => ⟨rfl, ht⟩) (fun _ h => by cases h) d_X_compoundTerm_71
  · replace hf := br_p hc hf
    refine lv_lconst (v := 0) hx hb d_X_compoundTerm_14 (by decide) ?_
    have h1 := Option.some.inj hf
    subst h1
    exact W.lret hx hb hr (fun t ht _ => ⟨rfl, ht⟩) (fun _ h => by cases h) d_X_compoundTerm_15
theorem c_X_compoundTerm {l : Launch} {D : va_G} {g : Nat → ClassId} {ad : Nat → Nat} {dr : Nat → Option Nat} {pl : va_W} {μ : Mem} {r : Int64} {n : Nat} {a1 : Int32} (hf : f_X_compoundTerm n μ a1 = some r) : Met l y_X_compoundTerm (Cond.code y_X_compoundTerm b_X_compoundTerm 5 (some .long) :: ww) rm_X_compoundTerm (RP D CL (TY g) (WX g ad dr pl μ) [.ref (ad 0), .int a1]) (k2_QcV (.long r)) 0 0 (fun _ => False) := by
  refine met_of (by decide) (Nat.le_of_ble_eq_true rfl) ?_
  intro p e s m below meth c ls X hP hl
  have hl : lv_has ls 5 [(0, .ref (ad 0)), (1, .int a1)] := hl
  exact w_X_compoundTerm X hP hl hf
theorem d_X_readQuery_0 : decode b_X_readQuery 0 = .ok (.iconst 0, 1) := by decide +kernel
theorem d_X_readQuery_1 : decode b_X_readQuery 1 = .ok (.istore_n 1, 1) := by decide +kernel
theorem d_X_readQuery_2 : decode b_X_readQuery 2 = .ok (.iload_n 1, 1) := by decide +kernel
theorem d_X_readQuery_3 : decode b_X_readQuery 3 = .ok (.aload_n 0, 1) := by decide +kernel
theorem d_X_readQuery_4 : decode b_X_readQuery 4 = .ok (.getfield 63, 3) := by decide +kernel
theorem d_X_readQuery_7 : decode b_X_readQuery 7 = .ok (.invokevirtual 143, 3) := by decide +kernel
theorem d_X_readQuery_10 : decode b_X_readQuery 10 = .ok (.if_icmp .ge 20, 3) := by decide +kernel
theorem d_X_readQuery_13 : decode b_X_readQuery 13 = .ok (.aload_n 0, 1) := by decide +kernel
theorem d_X_readQuery_14 : decode b_X_readQuery 14 = .ok (.getfield 74, 3) := by decide +kernel
theorem d_X_readQuery_17 : decode b_X_readQuery 17 = .ok (.iload_n 1, 1) := by decide +kernel
theorem d_X_readQuery_18 : decode b_X_readQuery 18 = .ok (.aload_n 0, 1) := by decide +kernel
theorem d_X_readQuery_19 : decode b_X_readQuery 19 = .ok (.iload_n 1, 1) := by decide +kernel
theorem d_X_readQuery_20 : decode b_X_readQuery 20 = .ok (.invokevirtual 163, 3) := by decide +kernel
theorem d_X_readQuery_23 : decode b_X_readQuery 23 = .ok (.lastore, 1) := by decide +kernel
theorem d_X_readQuery_24 : decode b_X_readQuery 24 = .ok (.iinc 1 1, 3) := by decide +kernel
theorem d_X_readQuery_27 : decode b_X_readQuery 27 = .ok (.goto (-25), 3) := by decide +kernel
theorem d_X_readQuery_30 : decode b_X_readQuery 30 = .ok (.aload_n 0, 1) := by decide +kernel
theorem d_X_readQuery_31 : decode b_X_readQuery 31 = .ok (.getfield 63, 3) := by decide +kernel
theorem d_X_readQuery_34 : decode b_X_readQuery 34 = .ok (.invokevirtual 143, 3) := by decide +kernel
theorem d_X_readQuery_37 : decode b_X_readQuery 37 = .ok (.ireturn, 1) := by decide +kernel
abbrev rm_X_readQuery : Room := { frames := 5, cells := 0, slots := 0, locals := 120 }
def f_X_readQuery_2 : Nat → Mem → Int32 → Option (Int32 × Mem)
  | 0, _, _ => none
  | n + 1, μ, x1 => cl (f_TokenRow_count n μ) (fun v1 => (if v1 ≤ x1 then (cl (f_TokenRow_count n μ) (fun v2 => some (v2, μ))) else (cl (f_X_tokenTerm n μ x1) (fun v3 => gd (inb x1 24) (bd (wl μ 44 x1.toNatClampNeg v3) (fun μ4 => bd (x1 + 1) (fun v5 => (f_X_readQuery_2 n) μ4 v5)))))))
set_option maxHeartbeats 4000000 in
set_option maxRecDepth 100000 in
theorem w_X_readQuery_2 {p : Program} {l : Launch} {e : Env} {s : State} {m : MethodId} {args : Array Value} {below : List Frame} {meth : Method} {c : Code} {D : va_G} {g : Nat → ClassId} {ad : Nat → Nat} {dr : Nat → Option Nat} {pl : va_W} {r : Int32} {μ' : Mem} {A : Nat → Prop} (X : Cx p s m args meth c b_X_readQuery 2 R_X (some .int) D CL (TY g)) (hDA : ∀ μ : Mem, va_D A (WX g ad dr pl μ)) : ∀ (n : Nat) (μ : Mem) (x1 : Int32) (ls : Array Slot) (H : Heap) (locs : List Loc), va_P D CL (WX g ad dr pl μ) H → va_S A s.heap H locs → lv_has ls 2 [(0, .ref (ad 0)), (1, .int x1)] → f_X_readQuery_2 n μ x1 = some (r, μ') → WU p l e rm_X_readQuery s m args below meth c H locs D (WX g ad dr pl μ') A (some (.int r)) (F0 m 2 ls []) := by
  intro n
  induction n with
  | zero => intro μ x1 ls H locs hP hS hl hf; rw [f_X_readQuery_2] at hf; cases hf
  | succ n ih =>
    intro μ x1 ls H locs hP hS hl hf
    obtain ⟨S, hr, hlk, hK⟩ := id X
    obtain ⟨hx, hb, hml, hown, hts⟩ := id S
    rw [f_X_readQuery_2] at hf
    refine lv_iload_n hx hb d_X_readQuery_2 rfl (lv_at hl 1 rfl) ?_
    refine lv_aload_n hx hb d_X_readQuery_3 rfl (lv_at hl 0 rfl) ?_
    refine xg_0_7 hx hb hts hown hK hP q_253 d_X_readQuery_4 ?_
    obtain ⟨v1, hv1, hf⟩ := cl_x hf
    refine rdV (As := []) (rest := [.int x1]) S K_TokenRow_count q_602 (c_TokenRow_count hv1) hK hP ⟨rfl, rfl⟩ ⟨Nat.le_of_ble_eq_true rfl, Nat.le_of_ble_eq_true rfl⟩ (xr_35 hK hP) rfl hl.1 rfl (Nat.le_of_ble_eq_true rfl) d_X_readQuery_7 ⟨Nat.le_refl _, Nat.le_refl _⟩ ?_
    refine lv_icmp_ge (tgt := 30) hx hb d_X_readQuery_10 rfl (fun hc => ?_) (fun hc => ?_)
    · replace hf := br_p hc hf
      refine lv_aload_n hx hb d_X_readQuery_30 rfl (lv_at hl 0 rfl) ?_
      refine xg_0_7 hx hb hts hown hK hP q_253 d_X_readQuery_31 ?_
      obtain ⟨v2, hv2, hf⟩ := cl_x hf
      refine rdV (As := []) (rest := []) S K_TokenRow_count q_602 (c_TokenRow_count hv2) hK hP ⟨rfl, rfl⟩ ⟨Nat.le_of_ble_eq_true rfl, Nat.le_of_ble_eq_true rfl⟩ (xr_35 hK hP) rfl hl.1 rfl (Nat.le_of_ble_eq_true rfl) d_X_readQuery_34 ⟨Nat.le_refl _, Nat.le_refl _⟩ ?_
      obtain ⟨h1, h2⟩ := Prod.mk.inj (Option.some.inj hf)
      subst h1; subst h2
      exact W.iret hx hb hr (fun t ht _ => ⟨rfl, by rw [ht]; exact hP, hS.F ht⟩) hS.2.2 d_X_readQuery_37
    · replace hf := br_n hc hf
      refine lv_aload_n hx hb d_X_readQuery_13 rfl (lv_at hl 0 rfl) ?_
      refine xg_0_9 hx hb hts hown hK hP q_255 d_X_readQuery_14 ?_
      refine lv_iload_n hx hb d_X_readQuery_17 rfl (lv_at hl 1 rfl) ?_
      refine lv_aload_n hx hb d_X_readQuery_18 rfl (lv_at hl 0 rfl) ?_
      refine lv_iload_n hx hb d_X_readQuery_19 rfl (lv_at hl 1 rfl) ?_
      obtain ⟨v3, hv3, hf⟩ := cl_x hf
      refine rdV (As := [.int x1]) (rest := [.int x1, .ref (ad 44)]) S K_X_tokenTerm q_648 (c_X_tokenTerm hv3) hK hP ⟨rfl, rfl⟩ ⟨Nat.le_of_ble_eq_true rfl, Nat.le_of_ble_eq_true rfl⟩ (xr_0 hK hP) rfl hl.1 rfl (Nat.le_of_ble_eq_true rfl) d_X_readQuery_20 ⟨Nat.le_refl _, Nat.le_refl _⟩ ?_
      obtain ⟨hi, hf⟩ := gd_x hf
      obtain ⟨μ4, hμ4, hf⟩ := bd_x hf
      refine xs_44 hx hb hK (hDA _) hP hS (inb_in hi) d_X_readQuery_23 hμ4 (fun H locs hP hS => ?_)
      obtain ⟨v5, hv5, hf⟩ := bd_x hf
      refine lv_iinc (lv' := [(1, .int v5), (0, .ref (ad 0))]) hx hb d_X_readQuery_24 hl (k := 1) rfl (show x1 + Int32.ofInt (1) = v5 from hv5) (Nat.le_of_ble_eq_true rfl) rfl (fun ls hl => ?_)
      refine lv_goto (tgt := 2) hx hb d_X_readQuery_27 rfl ?_
      exact ih _ _ _ _ _ hP hS (lv_sub (l' := [(0, .ref (ad 0)), (1, .int v5)]) hl [1, 0] rfl) hf
def f_X_readQuery (n : Nat) (μ : Mem) : Option (Int32 × Mem) := f_X_readQuery_2 n μ (0 : Int32)
set_option maxHeartbeats 4000000 in
set_option maxRecDepth 100000 in
theorem w_X_readQuery {p : Program} {l : Launch} {e : Env} {s : State} {m : MethodId} {args : Array Value} {below : List Frame} {meth : Method} {c : Code} {D : va_G} {g : Nat → ClassId} {ad : Nat → Nat} {dr : Nat → Option Nat} {pl : va_W} {r : Int32} {μ' : Mem} {A : Nat → Prop} {n : Nat} {μ : Mem} {ls : Array Slot} {H : Heap} {locs : List Loc} (X : Cx p s m args meth c b_X_readQuery 2 R_X (some .int) D CL (TY g)) (hDA : ∀ μ : Mem, va_D A (WX g ad dr pl μ)) (hP : va_P D CL (WX g ad dr pl μ) H) (hS : va_S A s.heap H locs) (hl : lv_has ls 2 [(0, .ref (ad 0))]) (hf : f_X_readQuery n μ = some (r, μ')) : WU p l e rm_X_readQuery s m args below meth c H locs D (WX g ad dr pl μ') A (some (.int r)) (F0 m 0 ls []) := by
  obtain ⟨S, hr, hlk, hK⟩ := id X
  obtain ⟨hx, hb, hml, hown, hts⟩ := id S
  rw [f_X_readQuery] at hf
  refine lv_iconst (v := 0) hx hb d_X_readQuery_0 (by decide) ?_
  refine lv_istore_n (lv' := [(1, .int (0 : Int32)), (0, .ref (ad 0))]) hx hb d_X_readQuery_1 rfl hl (Nat.le_of_ble_eq_true rfl) rfl (fun ls hl => ?_)
  exact w_X_readQuery_2 X hDA _ _ _ _ _ _ hP hS (lv_sub (l' := [(0, .ref (ad 0)), (1, .int (0 : Int32))]) hl [1, 0] rfl) hf
theorem c_X_readQuery {l : Launch} {D : va_G} {g : Nat → ClassId} {ad : Nat → Nat} {dr : Nat → Option Nat} {pl : va_W} {μ : Mem} {r : Int32} {μ' : Mem} {A : Nat → Prop} {n : Nat} (hDA : ∀ μ : Mem, va_D A (WX g ad dr pl μ)) (hf : f_X_readQuery n μ = some (r, μ')) : Met l y_X_readQuery (Cond.code y_X_readQuery b_X_readQuery 2 (some .int) :: ww) rm_X_readQuery (RP D CL (TY g) (WX g ad dr pl μ) [.ref (ad 0)]) (QW D CL (WX g ad dr pl μ') A (some (.int r))) 0 0 A := by
  refine met_of (by decide) (Nat.le_of_ble_eq_true rfl) ?_
  intro p e s m below meth c ls X hP hl
  have hl : lv_has ls 2 [(0, .ref (ad 0))] := hl
  exact w_X_readQuery X hDA hP va_S.rf hl hf
