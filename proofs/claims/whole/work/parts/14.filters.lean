theorem d_Filters_clear_0 : decode b_Filters_clear 0 = .ok (.aload_n 0, 1) := by decide +kernel
theorem d_Filters_clear_1 : decode b_Filters_clear 1 = .ok (.iconst 0, 1) := by decide +kernel
theorem d_Filters_clear_2 : decode b_Filters_clear 2 = .ok (.putfield 18, 3) := by decide +kernel
theorem d_Filters_clear_5 : decode b_Filters_clear 5 = .ok (.return_, 1) := by decide +kernel
abbrev rm_Filters_clear : Room := { frames := 0, cells := 0, slots := 0, locals := 0 }
def f_Filters_clear (n : Nat) (μ : Mem) : Option Mem := bd (wi μ 15 2 (0 : Int32)) (fun μ1 => some μ1)
set_option maxHeartbeats 4000000 in
set_option maxRecDepth 100000 in
theorem w_Filters_clear {p : Program} {l : Launch} {e : Env} {s : State} {m : MethodId} {args : Array Value} {below : List Frame} {meth : Method} {c : Code} {D : va_G} {g : Nat → ClassId} {ad : Nat → Nat} {dr : Nat → Option Nat} {pl : va_W} {μ' : Mem} {A : Nat → Prop} {n : Nat} {μ : Mem} {ls : Array Slot} {H : Heap} {locs : List Loc} (X : Cx p s m args meth c b_Filters_clear 1 R_Filters none D CL (TY g)) (hDA : ∀ μ : Mem, va_D A (WX g ad dr pl μ)) (hP : va_P D CL (WX g ad dr pl μ) H) (hS : va_S A s.heap H locs) (hl : lv_has ls 1 [(0, .ref (ad 15))]) (hf : f_Filters_clear n μ = some μ') : WU p l e rm_Filters_clear s m args below meth c H locs D (WX g ad dr pl μ') A none (F0 m 0 ls []) := by
  obtain ⟨S, hr, hlk, hK⟩ := id X
  obtain ⟨hx, hb, hml, hown, hts⟩ := id S
  rw [f_Filters_clear] at hf
  refine lv_aload_n hx hb d_Filters_clear_0 rfl (lv_at hl 0 rfl) ?_
  refine lv_iconst (v := 0) hx hb d_Filters_clear_1 (by decide) ?_
  obtain ⟨μ1, hμ1, hf⟩ := bd_x hf
  refine xp_15_2 hx hb hts hown hK (hDA _) hP hS q_103 d_Filters_clear_2 hμ1 (fun H locs hP hS => ?_)
  obtain rfl := Option.some.inj hf
  exact W.vret hx hb hr (fun t ht _ => ⟨rfl, by rw [ht]; exact hP, hS.F ht⟩) hS.2.2 d_Filters_clear_5
theorem c_Filters_clear {l : Launch} {D : va_G} {g : Nat → ClassId} {ad : Nat → Nat} {dr : Nat → Option Nat} {pl : va_W} {μ : Mem} {μ' : Mem} {A : Nat → Prop} {n : Nat} (hDA : ∀ μ : Mem, va_D A (WX g ad dr pl μ)) (hf : f_Filters_clear n μ = some μ') : Met l y_Filters_clear (Cond.code y_Filters_clear b_Filters_clear 1 none :: ww) rm_Filters_clear (RP D CL (TY g) (WX g ad dr pl μ) [.ref (ad 15)]) (QW D CL (WX g ad dr pl μ') A none) 0 0 A := by
  refine met_of (by decide) (Nat.le_of_ble_eq_true rfl) ?_
  intro p e s m below meth c ls X hP hl
  have hl : lv_has ls 1 [(0, .ref (ad 15))] := hl
  exact w_Filters_clear X hDA hP va_S.rf hl hf
theorem d_Filters_isFilter_0 : decode b_Filters_isFilter 0 = .ok (.iload_n 0, 1) := by decide +kernel
theorem d_Filters_isFilter_1 : decode b_Filters_isFilter 1 = .ok (.tableswitch 58 0 3 #[31, 48, 48, 31], 31) := by decide +kernel
theorem d_Filters_isFilter_32 : decode b_Filters_isFilter 32 = .ok (.iload_n 1, 1) := by decide +kernel
theorem d_Filters_isFilter_33 : decode b_Filters_isFilter 33 = .ok (.iconst 1, 1) := by decide +kernel
theorem d_Filters_isFilter_34 : decode b_Filters_isFilter 34 = .ok (.if_icmp .lt 13, 3) := by decide +kernel
theorem d_Filters_isFilter_37 : decode b_Filters_isFilter 37 = .ok (.iload_n 1, 1) := by decide +kernel
theorem d_Filters_isFilter_38 : decode b_Filters_isFilter 38 = .ok (.bipush 7, 2) := by decide +kernel
theorem d_Filters_isFilter_40 : decode b_Filters_isFilter 40 = .ok (.if_icmp .gt 7, 3) := by decide +kernel
theorem d_Filters_isFilter_43 : decode b_Filters_isFilter 43 = .ok (.iconst 1, 1) := by decide +kernel
theorem d_Filters_isFilter_44 : decode b_Filters_isFilter 44 = .ok (.goto 4, 3) := by decide +kernel
theorem d_Filters_isFilter_47 : decode b_Filters_isFilter 47 = .ok (.iconst 0, 1) := by decide +kernel
theorem d_Filters_isFilter_48 : decode b_Filters_isFilter 48 = .ok (.ireturn, 1) := by decide +kernel
theorem d_Filters_isFilter_49 : decode b_Filters_isFilter 49 = .ok (.iload_n 1, 1) := by decide +kernel
theorem d_Filters_isFilter_50 : decode b_Filters_isFilter 50 = .ok (.ifCond .ne 7, 3) := by decide +kernel
theorem d_Filters_isFilter_53 : decode b_Filters_isFilter 53 = .ok (.iconst 1, 1) := by decide +kernel
theorem d_Filters_isFilter_54 : decode b_Filters_isFilter 54 = .ok (.goto 4, 3) := by decide +kernel
theorem d_Filters_isFilter_57 : decode b_Filters_isFilter 57 = .ok (.iconst 0, 1) := by decide +kernel
theorem d_Filters_isFilter_58 : decode b_Filters_isFilter 58 = .ok (.ireturn, 1) := by decide +kernel
theorem d_Filters_isFilter_59 : decode b_Filters_isFilter 59 = .ok (.iconst 0, 1) := by decide +kernel
theorem d_Filters_isFilter_60 : decode b_Filters_isFilter 60 = .ok (.ireturn, 1) := by decide +kernel
abbrev rm_Filters_isFilter : Room := { frames := 0, cells := 0, slots := 0, locals := 0 }
def f_Filters_isFilter_32 (n : Nat) (x1 : Int32) : Option Bool := (if x1 < (1 : Int32) then (some false) else (if (7 : Int32) < x1 then (some false) else (some true)))
set_option maxHeartbeats 4000000 in
set_option maxRecDepth 100000 in
theorem w_Filters_isFilter_32 {p : Program} {l : Launch} {e : Env} {s : State} {m : MethodId} {args : Array Value} {below : List Frame} {meth : Method} {c : Code} {D : va_G} {g : Nat → ClassId} {w : va_W} {r : Bool} {n : Nat} {x1 : Int32} {ls : Array Slot} (X : Cx p s m args meth c b_Filters_isFilter 2 R_Filters (some .boolean) D CL (TY g)) (hP : va_P D CL w s.heap) (hl : lv_has ls 2 [(1, .int x1)]) (hf : f_Filters_isFilter_32 n x1 = some r) : WR p l e rm_Filters_isFilter s m args below meth c (.int (bz r)) (F0 m 32 ls []) := by
  obtain ⟨S, hr, hlk, hK⟩ := id X
  obtain ⟨hx, hb, hml, hown, hts⟩ := id S
  rw [f_Filters_isFilter_32] at hf
  refine lv_iload_n hx hb d_Filters_isFilter_32 rfl (lv_at hl 0 rfl) ?_
  refine lv_iconst (v := 1) hx hb d_Filters_isFilter_33 (by decide) ?_
  refine lv_icmp_lt (tgt := 47) hx hb d_Filters_isFilter_34 rfl (fun hc => ?_) (fun hc => ?_)
  · replace hf := br_p hc hf
    refine lv_iconst (v := 0) hx hb d_Filters_isFilter_47 (by decide) ?_
    have h1 := Option.some.inj hf
    subst h1
    exact W.zret hx hb hr (by first | rfl | exact bz_nar _) (fun t ht _ => ⟨rfl, ht⟩) (fun _ h => by cases h) d_Filters_isFilter_48
  · replace hf := br_n hc hf
    refine lv_iload_n hx hb d_Filters_isFilter_37 rfl (lv_at hl 0 rfl) ?_
    refine lv_bipush (v := 7) hx hb d_Filters_isFilter_38 (by decide) ?_
    refine lv_icmp_gt (tgt := 47) hx hb d_Filters_isFilter_40 rfl (fun hc => ?_) (fun hc => ?_)
    · replace hf := br_p hc hf
      refine lv_iconst (v := 0) hx hb d_Filters_isFilter_47 (by decide) ?_
      have h1 := Option.some.inj hf
      subst h1
      exact W.zret hx hb hr (by first | rfl | exact bz_nar _) (fun t ht _ => ⟨rfl, ht⟩) (fun _ h => by cases h) d_Filters_isFilter_48
    · replace hf := br_n hc hf
      refine lv_iconst (v := 1) hx hb d_Filters_isFilter_43 (by decide) ?_
      refine lv_goto (tgt := 48) hx hb d_Filters_isFilter_44 rfl ?_
      have h1 := Option.some.inj hf
      subst h1
      exact W.zret hx hb hr (by first | rfl | exact bz_nar _) (fun t ht _ => ⟨rfl, ht⟩) (fun _ h => by cases h) d_Filters_isFilter_48
def f_Filters_isFilter_49 (n : Nat) (x1 : Int32) : Option Bool := (if x1 = 0 then (some true) else (some false))
set_option maxHeartbeats 4000000 in
set_option maxRecDepth 100000 in
theorem w_Filters_isFilter_49 {p : Program} {l : Launch} {e : Env} {s : State} {m : MethodId} {args : Array Value} {below : List Frame} {meth : Method} {c : Code} {D : va_G} {g : Nat → ClassId} {w : va_W} {r : Bool} {n : Nat} {x1 : Int32} {ls : Array Slot} (X : Cx p s m args meth c b_Filters_isFilter 2 R_Filters (some .boolean) D CL (TY g)) (hP : va_P D CL w s.heap) (hl : lv_has ls 2 [(1, .int x1)]) (hf : f_Filters_isFilter_49 n x1 = some r) : WR p l e rm_Filters_isFilter s m args below meth c (.int (bz r)) (F0 m 49 ls []) := by
  obtain ⟨S, hr, hlk, hK⟩ := id X
  obtain ⟨hx, hb, hml, hown, hts⟩ := id S
  rw [f_Filters_isFilter_49] at hf
  refine lv_iload_n hx hb d_Filters_isFilter_49 rfl (lv_at hl 0 rfl) ?_
  refine lv_if_ne (tgt := 57) hx hb d_Filters_isFilter_50 rfl (fun hc => ?_) (fun hc => ?_)
  · replace hf := br_n hc hf
    refine lv_iconst (v := 0) hx hb d_Filters_isFilter_57 (by decide) ?_
    have h1 := Option.some.inj hf
    subst h1
    exact W.zret hx hb hr (by first | rfl | exact bz_nar _) (fun t ht _ => ⟨rfl, ht⟩) (fun _ h => by cases h) d_Filters_isFilter_58
  · replace hf := br_p hc hf
    refine lv_iconst (v := 1) hx hb d_Filters_isFilter_53 (by decide) ?_
    refine lv_goto (tgt := 58) hx hb d_Filters_isFilter_54 rfl ?_
    have h1 := Option.some.inj hf
    subst h1
    exact W.zret hx hb hr (by first | rfl | exact bz_nar _) (fun t ht _ => ⟨rfl, ht⟩) (fun _ h => by cases h) d_Filters_isFilter_58
def f_Filters_isFilter (n : Nat) (a0 : Int32) (a1 : Int32) : Option Bool := (if a0 = 0 then (f_Filters_isFilter_32 n a1) else (if a0 = 1 then (f_Filters_isFilter_49 n a1) else (if a0 = 2 then (f_Filters_isFilter_49 n a1) else (if a0 = 3 then (f_Filters_isFilter_32 n a1) else (some false)))))
set_option maxHeartbeats 4000000 in
set_option maxRecDepth 100000 in
theorem w_Filters_isFilter {p : Program} {l : Launch} {e : Env} {s : State} {m : MethodId} {args : Array Value} {below : List Frame} {meth : Method} {c : Code} {D : va_G} {g : Nat → ClassId} {w : va_W} {r : Bool} {n : Nat} {a0 : Int32} {a1 : Int32} {ls : Array Slot} (X : Cx p s m args meth c b_Filters_isFilter 2 R_Filters (some .boolean) D CL (TY g)) (hP : va_P D CL w s.heap) (hl : lv_has ls 2 [(0, .int a0), (1, .int a1)]) (hf : f_Filters_isFilter n a0 a1 = some r) : WR p l e rm_Filters_isFilter s m args below meth c (.int (bz r)) (F0 m 0 ls []) := by
  obtain ⟨S, hr, hlk, hK⟩ := id X
  obtain ⟨hx, hb, hml, hown, hts⟩ := id S
  rw [f_Filters_isFilter] at hf
  refine lv_iload_n hx hb d_Filters_isFilter_0 rfl (lv_at hl 0 rfl) ?_
  by_cases hc0 : a0 = 0
  · replace hf := br_p hc0 hf
    refine lv_tableIn (tgt := 32) hx hb d_Filters_isFilter_1 (by rw [hc0]; decide) (by rw [hc0]; decide) (by rw [hc0]; rfl) rfl ?_
    exact w_Filters_isFilter_32 X hP (lv_sub (l' := [(1, .int a1)]) hl [1] rfl) hf
  replace hf := br_n hc0 hf
  by_cases hc1 : a0 = 1
  · replace hf := br_p hc1 hf
    refine lv_tableIn (tgt := 49) hx hb d_Filters_isFilter_1 (by rw [hc1]; decide) (by rw [hc1]; decide) (by rw [hc1]; rfl) rfl ?_
    exact w_Filters_isFilter_49 X hP (lv_sub (l' := [(1, .int a1)]) hl [1] rfl) hf
  replace hf := br_n hc1 hf
  by_cases hc2 : a0 = 2
  · replace hf := br_p hc2 hf
    refine lv_tableIn (tgt := 49) hx hb d_Filters_isFilter_1 (by rw [hc2]; decide) (by rw [hc2]; decide) (by rw [hc2]; rfl) rfl ?_
    exact w_Filters_isFilter_49 X hP (lv_sub (l' := [(1, .int a1)]) hl [1] rfl) hf
  replace hf := br_n hc2 hf
  by_cases hc3 : a0 = 3
  · replace hf := br_p hc3 hf
    refine lv_tableIn (tgt := 32) hx hb d_Filters_isFilter_1 (by rw [hc3]; decide) (by rw [hc3]; decide) (by rw [hc3]; rfl) rfl ?_
    exact w_Filters_isFilter_32 X hP (lv_sub (l' := [(1, .int a1)]) hl [1] rfl) hf
  replace hf := br_n hc3 hf
  have hz0 : ¬ (a0).toInt = 0 := lv_neT hc0 (by decide)
  have hz1 : ¬ (a0).toInt = 1 := lv_neT hc1 (by decide)
  have hz2 : ¬ (a0).toInt = 2 := lv_neT hc2 (by decide)
  have hz3 : ¬ (a0).toInt = 3 := lv_neT hc3 (by decide)
  refine lv_tableOut (tgt := 59) hx hb d_Filters_isFilter_1 (by omega) rfl ?_
  refine lv_iconst (v := 0) hx hb d_Filters_isFilter_59 (by decide) ?_
  have h1 := Option.some.inj hf
  subst h1
  exact W.zret hx hb hr (by first | rfl | exact bz_nar _) (fun t ht _ => ⟨rfl, ht⟩) (fun _ h => by cases h) d_Filters_isFilter_60
theorem c_Filters_isFilter {l : Launch} {D : va_G} {g : Nat → ClassId} {w : va_W} {r : Bool} {n : Nat} {a0 : Int32} {a1 : Int32} (hf : f_Filters_isFilter n a0 a1 = some r) : Met l y_Filters_isFilter (Cond.code y_Filters_isFilter b_Filters_isFilter 2 (some .boolean) :: ww) rm_Filters_isFilter (RP D CL (TY g) w [.int a0, .int a1]) (k2_QcV (.int (bz r))) 0 0 (fun _ => False) := by
  refine met_of (by decide) (Nat.le_of_ble_eq_true rfl) ?_
  intro p e s m below meth c ls X hP hl
  have hl : lv_has ls 2 [(0, .int a0), (1, .int a1)] := hl
  exact w_Filters_isFilter X hP hl hf
theorem d_Filters_append_0 : decode b_Filters_append 0 = .ok (.aload_n 0, 1) := by decide +kernel
theorem d_Filters_append_1 : decode b_Filters_append 1 = .ok (.getfield 18, 3) := by decide +kernel
theorem d_Filters_append_4 : decode b_Filters_append 4 = .ok (.bipush 6, 2) := by decide +kernel
theorem d_Filters_append_6 : decode b_Filters_append 6 = .ok (.if_icmp .ge 11, 3) := by decide +kernel
theorem d_Filters_append_9 : decode b_Filters_append 9 = .ok (.iload_n 1, 1) := by decide +kernel
theorem d_Filters_append_10 : decode b_Filters_append 10 = .ok (.iload_n 2, 1) := by decide +kernel
theorem d_Filters_append_11 : decode b_Filters_append 11 = .ok (.invokestatic 22, 3) := by decide +kernel
theorem d_Filters_append_14 : decode b_Filters_append 14 = .ok (.ifCond .ne 5, 3) := by decide +kernel
theorem d_Filters_append_17 : decode b_Filters_append 17 = .ok (.iconst 0, 1) := by decide +kernel
theorem d_Filters_append_18 : decode b_Filters_append 18 = .ok (.ireturn, 1) := by decide +kernel
theorem d_Filters_append_19 : decode b_Filters_append 19 = .ok (.aload_n 0, 1) := by decide +kernel
theorem d_Filters_append_20 : decode b_Filters_append 20 = .ok (.getfield 9, 3) := by decide +kernel
theorem d_Filters_append_23 : decode b_Filters_append 23 = .ok (.aload_n 0, 1) := by decide +kernel
theorem d_Filters_append_24 : decode b_Filters_append 24 = .ok (.getfield 18, 3) := by decide +kernel
theorem d_Filters_append_27 : decode b_Filters_append 27 = .ok (.iload_n 1, 1) := by decide +kernel
theorem d_Filters_append_28 : decode b_Filters_append 28 = .ok (.iastore, 1) := by decide +kernel
theorem d_Filters_append_29 : decode b_Filters_append 29 = .ok (.aload_n 0, 1) := by decide +kernel
theorem d_Filters_append_30 : decode b_Filters_append 30 = .ok (.getfield 15, 3) := by decide +kernel
theorem d_Filters_append_33 : decode b_Filters_append 33 = .ok (.aload_n 0, 1) := by decide +kernel
theorem d_Filters_append_34 : decode b_Filters_append 34 = .ok (.getfield 18, 3) := by decide +kernel
theorem d_Filters_append_37 : decode b_Filters_append 37 = .ok (.iload_n 2, 1) := by decide +kernel
theorem d_Filters_append_38 : decode b_Filters_append 38 = .ok (.iastore, 1) := by decide +kernel
theorem d_Filters_append_39 : decode b_Filters_append 39 = .ok (.aload_n 0, 1) := by decide +kernel
theorem d_Filters_append_40 : decode b_Filters_append 40 = .ok (.dup, 1) := by decide +kernel
theorem d_Filters_append_41 : decode b_Filters_append 41 = .ok (.getfield 18, 3) := by decide +kernel
theorem d_Filters_append_44 : decode b_Filters_append 44 = .ok (.iconst 1, 1) := by decide +kernel
theorem d_Filters_append_45 : decode b_Filters_append 45 = .ok (.iadd, 1) := by decide +kernel
theorem d_Filters_append_46 : decode b_Filters_append 46 = .ok (.putfield 18, 3) := by decide +kernel
theorem d_Filters_append_49 : decode b_Filters_append 49 = .ok (.iconst 1, 1) := by decide +kernel
theorem d_Filters_append_50 : decode b_Filters_append 50 = .ok (.ireturn, 1) := by decide +kernel
abbrev rm_Filters_append : Room := { frames := 1, cells := 0, slots := 0, locals := 21 }
def f_Filters_append (n : Nat) (μ : Mem) (a1 : Int32) (a2 : Int32) : Option (Bool × Mem) := (if (6 : Int32) ≤ (μ.1 15 2) then (some (false, μ)) else (cl (f_Filters_isFilter n a1 a2) (fun v1 => (if (bz v1) = 0 then (some (false, μ)) else (gd (inb (μ.1 15 2) 6) (bd (wi μ 16 (μ.1 15 2).toNatClampNeg a1) (fun μ2 => gd (inb (μ2.1 15 2) 6) (bd (wi μ2 17 (μ2.1 15 2).toNatClampNeg a2) (fun μ3 => bd (wi μ3 15 2 ((μ3.1 15 2) + (1 : Int32))) (fun μ4 => some (true, μ4)))))))))))
set_option maxHeartbeats 4000000 in
set_option maxRecDepth 100000 in
theorem w_Filters_append {p : Program} {l : Launch} {e : Env} {s : State} {m : MethodId} {args : Array Value} {below : List Frame} {meth : Method} {c : Code} {D : va_G} {g : Nat → ClassId} {ad : Nat → Nat} {dr : Nat → Option Nat} {pl : va_W} {r : Bool} {μ' : Mem} {A : Nat → Prop} {n : Nat} {μ : Mem} {a1 : Int32} {a2 : Int32} {ls : Array Slot} {H : Heap} {locs : List Loc} (X : Cx p s m args meth c b_Filters_append 3 R_Filters (some .boolean) D CL (TY g)) (hDA : ∀ μ : Mem, va_D A (WX g ad dr pl μ)) (hP : va_P D CL (WX g ad dr pl μ) H) (hS : va_S A s.heap H locs) (hl : lv_has ls 3 [(0, .ref (ad 15)), (1, .int a1), (2, .int a2)]) (hf : f_Filters_append n μ a1 a2 = some (r, μ')) : WU p l e rm_Filters_append s m args below meth c H locs D (WX g ad dr pl μ') A (some (.int (bz r))) (F0 m 0 ls []) := by
  obtain ⟨S, hr, hlk, hK⟩ := id X
  obtain ⟨hx, hb, hml, hown, hts⟩ := id S
  rw [f_Filters_append] at hf
  refine lv_aload_n hx hb d_Filters_append_0 rfl (lv_at hl 0 rfl) ?_
  refine xg_15_2 hx hb hts hown hK hP q_103 d_Filters_append_1 ?_
  refine lv_bipush (v := 6) hx hb d_Filters_append_4 (by decide) ?_
  refine lv_icmp_ge (tgt := 17) hx hb d_Filters_append_6 rfl (fun hc => ?_) (fun hc => ?_)
  · replace hf := br_p hc hf
    refine lv_iconst (v := 0) hx hb d_Filters_append_17 (by decide) ?_
    obtain ⟨h1, h2⟩ := Prod.mk.inj (Option.some.inj hf)
    subst h1; subst h2
    exact W.zret hx hb hr (by first | rfl | exact bz_nar _) (fun t ht _ => ⟨rfl, by rw [ht]; exact hP, hS.F ht⟩) hS.2.2 d_Filters_append_18
  · replace hf := br_n hc hf
    refine lv_iload_n hx hb d_Filters_append_9 rfl (lv_at hl 1 rfl) ?_
    refine lv_iload_n hx hb d_Filters_append_10 rfl (lv_at hl 2 rfl) ?_
    obtain ⟨v1, hv1, hf⟩ := cl_x hf
    refine rdS (As := [.int a1, .int a2]) (rest := []) S K_Filters_isFilter q_371 (c_Filters_isFilter (w := (WX g ad dr pl μ)) hv1) hK hP ⟨rfl, rfl⟩ ⟨Nat.le_of_ble_eq_true rfl, Nat.le_of_ble_eq_true rfl⟩ rfl hl.1 rfl (Nat.le_of_ble_eq_true rfl) d_Filters_append_11 ⟨Nat.le_refl _, Nat.le_refl _⟩ ?_
    refine lv_if_ne (tgt := 19) hx hb d_Filters_append_14 rfl (fun hc => ?_) (fun hc => ?_)
    · replace hf := br_n hc hf
      refine lv_aload_n hx hb d_Filters_append_19 rfl (lv_at hl 0 rfl) ?_
      refine xg_15_0 hx hb hts hown hK hP q_101 d_Filters_append_20 ?_
      refine lv_aload_n hx hb d_Filters_append_23 rfl (lv_at hl 0 rfl) ?_
      refine xg_15_2 hx hb hts hown hK hP q_103 d_Filters_append_24 ?_
      refine lv_iload_n hx hb d_Filters_append_27 rfl (lv_at hl 1 rfl) ?_
      obtain ⟨hi, hf⟩ := gd_x hf
      obtain ⟨μ2, hμ2, hf⟩ := bd_x hf
      refine xs_16 hx hb hK (hDA _) hP hS (inb_in hi) d_Filters_append_28 hμ2 (fun H locs hP hS => ?_)
      refine lv_aload_n hx hb d_Filters_append_29 rfl (lv_at hl 0 rfl) ?_
      refine xg_15_1 hx hb hts hown hK hP q_102 d_Filters_append_30 ?_
      refine lv_aload_n hx hb d_Filters_append_33 rfl (lv_at hl 0 rfl) ?_
      refine xg_15_2 hx hb hts hown hK hP q_103 d_Filters_append_34 ?_
      refine lv_iload_n hx hb d_Filters_append_37 rfl (lv_at hl 2 rfl) ?_
      obtain ⟨hi, hf⟩ := gd_x hf
      obtain ⟨μ3, hμ3, hf⟩ := bd_x hf
      refine xs_17 hx hb hK (hDA _) hP hS (inb_in hi) d_Filters_append_38 hμ3 (fun H locs hP hS => ?_)
      refine lv_aload_n hx hb d_Filters_append_39 rfl (lv_at hl 0 rfl) ?_
      refine lv_dup hx hb d_Filters_append_40 rfl ?_
      refine xg_15_2 hx hb hts hown hK hP q_103 d_Filters_append_41 ?_
      refine lv_iconst (v := 1) hx hb d_Filters_append_44 (by decide) ?_
      refine lv_iadd hx hb d_Filters_append_45 ?_
      obtain ⟨μ4, hμ4, hf⟩ := bd_x hf
      refine xp_15_2 hx hb hts hown hK (hDA _) hP hS q_103 d_Filters_append_46 hμ4 (fun H locs hP hS => ?_)
      refine lv_iconst (v := 1) hx hb d_Filters_append_49 (by decide) ?_
      obtain ⟨h1, h2⟩ := Prod.mk.inj (Option.some.inj hf)
      subst h1; subst h2
      exact W.zret hx hb hr (by first | rfl | exact bz_nar _) (fun t ht _ => ⟨rfl, by rw [ht]; exact hP, hS.F ht⟩) hS.2.2 d_Filters_append_50
    · replace hf := br_p hc hf
      refine lv_iconst (v := 0) hx hb d_Filters_append_17 (by decide) ?_
      obtain ⟨h1, h2⟩ := Prod.mk.inj (Option.some.inj hf)
      subst h1; subst h2
      exact W.zret hx hb hr (by first | rfl | exact bz_nar _) (fun t ht _ => ⟨rfl, by rw [ht]; exact hP, hS.F ht⟩) hS.2.2 d_Filters_append_18
theorem c_Filters_append {l : Launch} {D : va_G} {g : Nat → ClassId} {ad : Nat → Nat} {dr : Nat → Option Nat} {pl : va_W} {μ : Mem} {r : Bool} {μ' : Mem} {A : Nat → Prop} {n : Nat} {a1 : Int32} {a2 : Int32} (hDA : ∀ μ : Mem, va_D A (WX g ad dr pl μ)) (hf : f_Filters_append n μ a1 a2 = some (r, μ')) : Met l y_Filters_append (Cond.code y_Filters_append b_Filters_append 3 (some .boolean) :: ww) rm_Filters_append (RP D CL (TY g) (WX g ad dr pl μ) [.ref (ad 15), .int a1, .int a2]) (QW D CL (WX g ad dr pl μ') A (some (.int (bz r)))) 0 0 A := by
  refine met_of (by decide) (Nat.le_of_ble_eq_true rfl) ?_
  intro p e s m below meth c ls X hP hl
  have hl : lv_has ls 3 [(0, .ref (ad 15)), (1, .int a1), (2, .int a2)] := hl
  exact w_Filters_append X hDA hP va_S.rf hl hf
theorem d_Filters_pass_0 : decode b_Filters_pass 0 = .ok (.lload_n 1, 1) := by decide +kernel
theorem d_Filters_pass_1 : decode b_Filters_pass 1 = .ok (.lstore 6, 2) := by decide +kernel
theorem d_Filters_pass_3 : decode b_Filters_pass 3 = .ok (.iconst 0, 1) := by decide +kernel
theorem d_Filters_pass_4 : decode b_Filters_pass 4 = .ok (.istore 8, 2) := by decide +kernel
theorem d_Filters_pass_6 : decode b_Filters_pass 6 = .ok (.iload 8, 2) := by decide +kernel
theorem d_Filters_pass_8 : decode b_Filters_pass 8 = .ok (.aload_n 0, 1) := by decide +kernel
theorem d_Filters_pass_9 : decode b_Filters_pass 9 = .ok (.getfield 18, 3) := by decide +kernel
theorem d_Filters_pass_12 : decode b_Filters_pass 12 = .ok (.if_icmp .ge 98, 3) := by decide +kernel
theorem d_Filters_pass_15 : decode b_Filters_pass 15 = .ok (.aload_n 0, 1) := by decide +kernel
theorem d_Filters_pass_16 : decode b_Filters_pass 16 = .ok (.getfield 9, 3) := by decide +kernel
theorem d_Filters_pass_19 : decode b_Filters_pass 19 = .ok (.iload 8, 2) := by decide +kernel
theorem d_Filters_pass_21 : decode b_Filters_pass 21 = .ok (.iaload, 1) := by decide +kernel
theorem d_Filters_pass_22 : decode b_Filters_pass 22 = .ok (.tableswitch 68 0 2 #[26, 39, 58], 26) := by decide +kernel
theorem d_Filters_pass_48 : decode b_Filters_pass 48 = .ok (.iload_n 3, 1) := by decide +kernel
theorem d_Filters_pass_49 : decode b_Filters_pass 49 = .ok (.aload_n 0, 1) := by decide +kernel
theorem d_Filters_pass_50 : decode b_Filters_pass 50 = .ok (.getfield 15, 3) := by decide +kernel
theorem d_Filters_pass_53 : decode b_Filters_pass 53 = .ok (.iload 8, 2) := by decide +kernel
theorem d_Filters_pass_55 : decode b_Filters_pass 55 = .ok (.iaload, 1) := by decide +kernel
theorem d_Filters_pass_56 : decode b_Filters_pass 56 = .ok (.if_icmp .ne 48, 3) := by decide +kernel
theorem d_Filters_pass_59 : decode b_Filters_pass 59 = .ok (.lconst 0, 1) := by decide +kernel
theorem d_Filters_pass_60 : decode b_Filters_pass 60 = .ok (.lreturn, 1) := by decide +kernel
theorem d_Filters_pass_61 : decode b_Filters_pass 61 = .ok (.lload 4, 2) := by decide +kernel
theorem d_Filters_pass_63 : decode b_Filters_pass 63 = .ok (.lconst 0, 1) := by decide +kernel
theorem d_Filters_pass_64 : decode b_Filters_pass 64 = .ok (.lcmp, 1) := by decide +kernel
theorem d_Filters_pass_65 : decode b_Filters_pass 65 = .ok (.ifCond .eq 8, 3) := by decide +kernel
theorem d_Filters_pass_68 : decode b_Filters_pass 68 = .ok (.lload 4, 2) := by decide +kernel
theorem d_Filters_pass_70 : decode b_Filters_pass 70 = .ok (.goto 5, 3) := by decide +kernel
theorem d_Filters_pass_73 : decode b_Filters_pass 73 = .ok (.lload 6, 2) := by decide +kernel
theorem d_Filters_pass_75 : decode b_Filters_pass 75 = .ok (.lstore 6, 2) := by decide +kernel
theorem d_Filters_pass_77 : decode b_Filters_pass 77 = .ok (.goto 27, 3) := by decide +kernel
theorem d_Filters_pass_80 : decode b_Filters_pass 80 = .ok (.lload 6, 2) := by decide +kernel
theorem d_Filters_pass_82 : decode b_Filters_pass 82 = .ok (.invokestatic 26, 3) := by decide +kernel
theorem d_Filters_pass_85 : decode b_Filters_pass 85 = .ok (.lstore 6, 2) := by decide +kernel
theorem d_Filters_pass_87 : decode b_Filters_pass 87 = .ok (.goto 17, 3) := by decide +kernel
theorem d_Filters_pass_90 : decode b_Filters_pass 90 = .ok (.lload 6, 2) := by decide +kernel
theorem d_Filters_pass_92 : decode b_Filters_pass 92 = .ok (.aload_n 0, 1) := by decide +kernel
theorem d_Filters_pass_93 : decode b_Filters_pass 93 = .ok (.getfield 15, 3) := by decide +kernel
theorem d_Filters_pass_96 : decode b_Filters_pass 96 = .ok (.iload 8, 2) := by decide +kernel
theorem d_Filters_pass_98 : decode b_Filters_pass 98 = .ok (.iaload, 1) := by decide +kernel
theorem d_Filters_pass_99 : decode b_Filters_pass 99 = .ok (.invokestatic 32, 3) := by decide +kernel
theorem d_Filters_pass_102 : decode b_Filters_pass 102 = .ok (.lstore 6, 2) := by decide +kernel
theorem d_Filters_pass_104 : decode b_Filters_pass 104 = .ok (.iinc 8 1, 3) := by decide +kernel
theorem d_Filters_pass_107 : decode b_Filters_pass 107 = .ok (.goto (-101), 3) := by decide +kernel
theorem d_Filters_pass_110 : decode b_Filters_pass 110 = .ok (.lload 6, 2) := by decide +kernel
theorem d_Filters_pass_112 : decode b_Filters_pass 112 = .ok (.lreturn, 1) := by decide +kernel
abbrev rm_Filters_pass : Room := { frames := 3, cells := 0, slots := 0, locals := 69 }
def f_Filters_pass_104 (κ6 : Int32 → Int64 → Int64 → Int32 → Option Int64) (μ : Mem) (n : Nat) (x3 : Int32) (x4 : Int64) (x6 : Int64) (x8 : Int32) : Option Int64 := bd (x8 + 1) (fun v1 => κ6 x3 x4 x6 v1)
set_option maxHeartbeats 4000000 in
set_option maxRecDepth 100000 in
theorem w_Filters_pass_104 {p : Program} {l : Launch} {e : Env} {s : State} {m : MethodId} {args : Array Value} {below : List Frame} {meth : Method} {c : Code} {D : va_G} {g : Nat → ClassId} {ad : Nat → Nat} {dr : Nat → Option Nat} {pl : va_W} {μ : Mem} {r : Int64} {κ6 : Int32 → Int64 → Int64 → Int32 → Option Int64} {n : Nat} {x3 : Int32} {x4 : Int64} {x6 : Int64} {x8 : Int32} {ls : Array Slot} (X : Cx p s m args meth c b_Filters_pass 9 R_Filters (some .long) D CL (TY g)) (hP : va_P D CL (WX g ad dr pl μ) s.heap) (hκ6 : ∀ (x3 : Int32) (x4 : Int64) (x6 : Int64) (x8 : Int32) (ls : Array Slot), lv_has ls 9 [(0, .ref (ad 15)), (3, .int x3), (4, .long x4), (6, .long x6), (8, .int x8)] → κ6 x3 x4 x6 x8 = some r → WR p l e rm_Filters_pass s m args below meth c (.long r) (F0 m 6 ls [])) (hl : lv_has ls 9 [(0, .ref (ad 15)), (3, .int x3), (4, .long x4), (6, .long x6), (8, .int x8)]) (hf : f_Filters_pass_104 κ6 μ n x3 x4 x6 x8 = some r) : WR p l e rm_Filters_pass s m args below meth c (.long r) (F0 m 104 ls []) := by
  obtain ⟨S, hr, hlk, hK⟩ := id X
  obtain ⟨hx, hb, hml, hown, hts⟩ := id S
  rw [f_Filters_pass_104] at hf
  obtain ⟨v1, hv1, hf⟩ := bd_x hf
  refine lv_iinc (lv' := [(8, .int v1), (0, .ref (ad 15)), (3, .int x3), (4, .long x4), (6, .long x6)]) hx hb d_Filters_pass_104 hl (k := 4) rfl (show x8 + Int32.ofInt (1) = v1 from hv1) (Nat.le_of_ble_eq_true rfl) rfl (fun ls hl => ?_)
  refine lv_goto (tgt := 6) hx hb d_Filters_pass_107 rfl ?_
  exact hκ6 _ _ _ _ _ (lv_sub (l' := [(0, .ref (ad 15)), (3, .int x3), (4, .long x4), (6, .long x6), (8, .int v1)]) hl [1, 2, 3, 4, 0] rfl) hf
def f_Filters_pass_75 (κ6 : Int32 → Int64 → Int64 → Int32 → Option Int64) (μ : Mem) (n : Nat) (x3 : Int32) (x4 : Int64) (x8 : Int32) (s0 : Int64) : Option Int64 := f_Filters_pass_104 κ6 μ n x3 x4 s0 x8
set_option maxHeartbeats 4000000 in
set_option maxRecDepth 100000 in
theorem w_Filters_pass_75 {p : Program} {l : Launch} {e : Env} {s : State} {m : MethodId} {args : Array Value} {below : List Frame} {meth : Method} {c : Code} {D : va_G} {g : Nat → ClassId} {ad : Nat → Nat} {dr : Nat → Option Nat} {pl : va_W} {μ : Mem} {r : Int64} {κ6 : Int32 → Int64 → Int64 → Int32 → Option Int64} {n : Nat} {x3 : Int32} {x4 : Int64} {x8 : Int32} {s0 : Int64} {ls : Array Slot} (X : Cx p s m args meth c b_Filters_pass 9 R_Filters (some .long) D CL (TY g)) (hP : va_P D CL (WX g ad dr pl μ) s.heap) (hκ6 : ∀ (x3 : Int32) (x4 : Int64) (x6 : Int64) (x8 : Int32) (ls : Array Slot), lv_has ls 9 [(0, .ref (ad 15)), (3, .int x3), (4, .long x4), (6, .long x6), (8, .int x8)] → κ6 x3 x4 x6 x8 = some r → WR p l e rm_Filters_pass s m args below meth c (.long r) (F0 m 6 ls [])) (hl : lv_has ls 9 [(0, .ref (ad 15)), (3, .int x3), (4, .long x4), (8, .int x8)]) (hf : f_Filters_pass_75 κ6 μ n x3 x4 x8 s0 = some r) : WR p l e rm_Filters_pass s m args below meth c (.long r) (F0 m 75 ls [.long s0]) := by
  obtain ⟨S, hr, hlk, hK⟩ := id X
  obtain ⟨hx, hb, hml, hown, hts⟩ := id S
  rw [f_Filters_pass_75] at hf
  refine lv_lstore (lv' := [(6, .long s0), (0, .ref (ad 15)), (3, .int x3), (4, .long x4), (8, .int x8)]) hx hb d_Filters_pass_75 hl (Nat.le_of_ble_eq_true rfl) rfl (fun ls hl => ?_)
  refine lv_goto (tgt := 104) hx hb d_Filters_pass_77 rfl ?_
  exact w_Filters_pass_104 X hP hκ6 (lv_sub (l' := [(0, .ref (ad 15)), (3, .int x3), (4, .long x4), (6, .long s0), (8, .int x8)]) hl [1, 2, 3, 0, 4] rfl) hf
def f_Filters_pass_6 (μ : Mem) : Nat → Int32 → Int64 → Int64 → Int32 → Option Int64
  | 0, _, _, _, _ => none
  | n + 1, x3, x4, x6, x8 => (if (μ.1 15 2) ≤ x8 then (some x6) else (gd (inb x8 6) ((if (μ.1 16 x8.toNatClampNeg) = 0 then (gd (inb x8 6) ((if x3 = (μ.1 17 x8.toNatClampNeg) then (some (0 : Int64)) else (f_Filters_pass_104 (f_Filters_pass_6 μ n) μ n x3 x4 x6 x8)))) else (if (μ.1 16 x8.toNatClampNeg) = 1 then (if (lg_cmp x4 (0 : Int64)) = 0 then (f_Filters_pass_75 (f_Filters_pass_6 μ n) μ n x3 x4 x8 x6) else (f_Filters_pass_75 (f_Filters_pass_6 μ n) μ n x3 x4 x8 x4)) else (if (μ.1 16 x8.toNatClampNeg) = 2 then (cl (f_Texts_narrowed n x6) (fun v1 => f_Filters_pass_104 (f_Filters_pass_6 μ n) μ n x3 x4 v1 x8)) else (gd (inb x8 6) (cl (f_Texts_stemmed n x6 (μ.1 17 x8.toNatClampNeg)) (fun v2 => f_Filters_pass_104 (f_Filters_pass_6 μ n) μ n x3 x4 v2 x8)))))))))
set_option maxHeartbeats 4000000 in
set_option maxRecDepth 100000 in
theorem w_Filters_pass_6 {p : Program} {l : Launch} {e : Env} {s : State} {m : MethodId} {args : Array Value} {below : List Frame} {meth : Method} {c : Code} {D : va_G} {g : Nat → ClassId} {ad : Nat → Nat} {dr : Nat → Option Nat} {pl : va_W} {μ : Mem} {r : Int64} (X : Cx p s m args meth c b_Filters_pass 9 R_Filters (some .long) D CL (TY g)) (hP : va_P D CL (WX g ad dr pl μ) s.heap) : ∀ (n : Nat) (x3 : Int32) (x4 : Int64) (x6 : Int64) (x8 : Int32) (ls : Array Slot), lv_has ls 9 [(0, .ref (ad 15)), (3, .int x3), (4, .long x4), (6, .long x6), (8, .int x8)] → f_Filters_pass_6 μ n x3 x4 x6 x8 = some r → WR p l e rm_Filters_pass s m args below meth c (.long r) (F0 m 6 ls []) := by
  intro n
  induction n with
  | zero => intro x3 x4 x6 x8 ls hl hf; rw [f_Filters_pass_6] at hf; cases hf
  | succ n ih =>
    intro x3 x4 x6 x8 ls hl hf
    obtain ⟨S, hr, hlk, hK⟩ := id X
    obtain ⟨hx, hb, hml, hown, hts⟩ := id S
    rw [f_Filters_pass_6] at hf
    refine lv_iload hx hb d_Filters_pass_6 (lv_at hl 4 rfl) ?_
    refine lv_aload_n hx hb d_Filters_pass_8 rfl (lv_at hl 0 rfl) ?_
    refine xg_15_2 hx hb hts hown hK hP q_103 d_Filters_pass_9 ?_
    refine lv_icmp_ge (tgt := 110) hx hb d_Filters_pass_12 rfl (fun hc => ?_) (fun hc => ?_)
    · replace hf := br_p hc hf
      refine lv_lload hx hb d_Filters_pass_110 (lv_at hl 3 rfl) ?_
      have h1 := Option.some.inj hf
      subst h1
      exact W.lret hx hb hr (fun t ht _ => ⟨rfl, ht⟩) (fun _ h => by cases h) d_Filters_pass_112
    · replace hf := br_n hc hf
      refine lv_aload_n hx hb d_Filters_pass_15 rfl (lv_at hl 0 rfl) ?_
      refine xg_15_0 hx hb hts hown hK hP q_101 d_Filters_pass_16 ?_
      refine lv_iload hx hb d_Filters_pass_19 (lv_at hl 4 rfl) ?_
      obtain ⟨hi, hf⟩ := gd_x hf
      refine xl_16 hx hb hK hP (inb_in hi) d_Filters_pass_21 ?_
      by_cases hc0 : (μ.1 16 x8.toNatClampNeg) = 0
      · replace hf := br_p hc0 hf
        refine lv_tableIn (tgt := 48) hx hb d_Filters_pass_22 (by rw [hc0]; decide) (by rw [hc0]; decide) (by rw [hc0]; rfl) rfl ?_
        refine lv_iload_n hx hb d_Filters_pass_48 rfl (lv_at hl 1 rfl) ?_
        refine lv_aload_n hx hb d_Filters_pass_49 rfl (lv_at hl 0 rfl) ?_
        refine xg_15_1 hx hb hts hown hK hP q_102 d_Filters_pass_50 ?_
        refine lv_iload hx hb d_Filters_pass_53 (lv_at hl 4 rfl) ?_
        obtain ⟨hi, hf⟩ := gd_x hf
        refine xl_17 hx hb hK hP (inb_in hi) d_Filters_pass_55 ?_
        refine lv_icmp_ne (tgt := 104) hx hb d_Filters_pass_56 rfl (fun hc => ?_) (fun hc => ?_)
        · replace hf := br_n hc hf
          exact w_Filters_pass_104 X hP ih (lv_sub (l' := [(0, .ref (ad 15)), (3, .int x3), (4, .long x4), (6, .long x6), (8, .int x8)]) hl [0, 1, 2, 3, 4] rfl) hf
        · replace hf := br_p hc hf
          refine lv_lconst (v := 0) hx hb d_Filters_pass_59 (by decide) ?_
          have h1 := Option.some.inj hf
          subst h1
          exact W.lret hx hb hr (fun t ht _ => ⟨rfl, ht⟩) (fun _ h => by cases h) d_Filters_pass_60
      replace hf := br_n hc0 hf
      by_cases hc1 : (μ.1 16 x8.toNatClampNeg) = 1
      · replace hf := br_p hc1 hf
        refine lv_tableIn (tgt := 61) hx hb d_Filters_pass_22 (by rw [hc1]; decide) (by rw [hc1]; decide) (by rw [hc1]; rfl) rfl ?_
        refine lv_lload hx hb d_Filters_pass_61 (lv_at hl 2 rfl) ?_
        refine lv_lconst (v := 0) hx hb d_Filters_pass_63 (by decide) ?_
        refine W.lcmp hx hb d_Filters_pass_64 ?_
        refine lv_if_eq (tgt := 73) hx hb d_Filters_pass_65 rfl (fun hc => ?_) (fun hc => ?_)
        · replace hf := br_p hc hf
          refine lv_lload hx hb d_Filters_pass_73 (lv_at hl 3 rfl) ?_
          exact w_Filters_pass_75 X hP ih (lv_sub (l' := [(0, .ref (ad 15)), (3, .int x3), (4, .long x4), (8, .int x8)]) hl [0, 1, 2, 4] rfl) hf
        · replace hf := br_n hc hf
          refine lv_lload hx hb d_Filters_pass_68 (lv_at hl 2 rfl) ?_
          refine lv_goto (tgt := 75) hx hb d_Filters_pass_70 rfl ?_
          exact w_Filters_pass_75 X hP ih (lv_sub (l' := [(0, .ref (ad 15)), (3, .int x3), (4, .long x4), (8, .int x8)]) hl [0, 1, 2, 4] rfl) hf
      replace hf := br_n hc1 hf
      by_cases hc2 : (μ.1 16 x8.toNatClampNeg) = 2
      · replace hf := br_p hc2 hf
        refine lv_tableIn (tgt := 80) hx hb d_Filters_pass_22 (by rw [hc2]; decide) (by rw [hc2]; decide) (by rw [hc2]; rfl) rfl ?_
        refine lv_lload hx hb d_Filters_pass_80 (lv_at hl 3 rfl) ?_
        obtain ⟨v1, hv1, hf⟩ := cl_x hf
        refine rdS (As := [.long x6]) (rest := []) S K_Texts_narrowed q_660 (c_Texts_narrowed (w := (WX g ad dr pl μ)) hv1) hK hP ⟨rfl, rfl⟩ ⟨Nat.le_of_ble_eq_true rfl, Nat.le_of_ble_eq_true rfl⟩ rfl hl.1 rfl (Nat.le_of_ble_eq_true rfl) d_Filters_pass_82 ⟨Nat.le_refl _, Nat.le_refl _⟩ ?_
        refine lv_lstore (lv' := [(6, .long v1), (0, .ref (ad 15)), (3, .int x3), (4, .long x4), (8, .int x8)]) hx hb d_Filters_pass_85 hl (Nat.le_of_ble_eq_true rfl) rfl (fun ls hl => ?_)
        refine lv_goto (tgt := 104) hx hb d_Filters_pass_87 rfl ?_
        exact w_Filters_pass_104 X hP ih (lv_sub (l' := [(0, .ref (ad 15)), (3, .int x3), (4, .long x4), (6, .long v1), (8, .int x8)]) hl [1, 2, 3, 0, 4] rfl) hf
      replace hf := br_n hc2 hf
      have hz0 : ¬ ((μ.1 16 x8.toNatClampNeg)).toInt = 0 := lv_neT hc0 (by decide)
      have hz1 : ¬ ((μ.1 16 x8.toNatClampNeg)).toInt = 1 := lv_neT hc1 (by decide)
      have hz2 : ¬ ((μ.1 16 x8.toNatClampNeg)).toInt = 2 := lv_neT hc2 (by decide)
      refine lv_tableOut (tgt := 90) hx hb d_Filters_pass_22 (by omega) rfl ?_
      refine lv_lload hx hb d_Filters_pass_90 (lv_at hl 3 rfl) ?_
      refine lv_aload_n hx hb d_Filters_pass_92 rfl (lv_at hl 0 rfl) ?_
      refine xg_15_1 hx hb hts hown hK hP q_102 d_Filters_pass_93 ?_
      refine lv_iload hx hb d_Filters_pass_96 (lv_at hl 4 rfl) ?_
      obtain ⟨hi, hf⟩ := gd_x hf
      refine xl_17 hx hb hK hP (inb_in hi) d_Filters_pass_98 ?_
      obtain ⟨v2, hv2, hf⟩ := cl_x hf
      refine rdS (As := [.long x6, .int (μ.1 17 x8.toNatClampNeg)]) (rest := []) S K_Texts_stemmed q_664 (c_Texts_stemmed (w := (WX g ad dr pl μ)) hv2) hK hP ⟨rfl, rfl⟩ ⟨Nat.le_of_ble_eq_true rfl, Nat.le_of_ble_eq_true rfl⟩ rfl hl.1 rfl (Nat.le_of_ble_eq_true rfl) d_Filters_pass_99 ⟨Nat.le_refl _, Nat.le_refl _⟩ ?_
      refine lv_lstore (lv' := [(6, .long v2), (0, .ref (ad 15)), (3, .int x3), (4, .long x4), (8, .int x8)]) hx hb d_Filters_pass_102 hl (Nat.le_of_ble_eq_true rfl) rfl (fun ls hl => ?_)
      exact w_Filters_pass_104 X hP ih (lv_sub (l' := [(0, .ref (ad 15)), (3, .int x3), (4, .long x4), (6, .long v2), (8, .int x8)]) hl [1, 2, 3, 0, 4] rfl) hf
def f_Filters_pass (n : Nat) (μ : Mem) (a1 : Int64) (a3 : Int32) (a4 : Int64) : Option Int64 := f_Filters_pass_6 μ n a3 a4 a1 (0 : Int32)
set_option maxHeartbeats 4000000 in
set_option maxRecDepth 100000 in
theorem w_Filters_pass {p : Program} {l : Launch} {e : Env} {s : State} {m : MethodId} {args : Array Value} {below : List Frame} {meth : Method} {c : Code} {D : va_G} {g : Nat → ClassId} {ad : Nat → Nat} {dr : Nat → Option Nat} {pl : va_W} {μ : Mem} {r : Int64} {n : Nat} {a1 : Int64} {a3 : Int32} {a4 : Int64} {ls : Array Slot} (X : Cx p s m args meth c b_Filters_pass 9 R_Filters (some .long) D CL (TY g)) (hP : va_P D CL (WX g ad dr pl μ) s.heap) (hl : lv_has ls 9 [(0, .ref (ad 15)), (1, .long a1), (3, .int a3), (4, .long a4)]) (hf : f_Filters_pass n μ a1 a3 a4 = some r) : WR p l e rm_Filters_pass s m args below meth c (.long r) (F0 m 0 ls []) := by
  obtain ⟨S, hr, hlk, hK⟩ := id X
  obtain ⟨hx, hb, hml, hown, hts⟩ := id S
  rw [f_Filters_pass] at hf
  refine lv_lload_n hx hb d_Filters_pass_0 rfl (lv_at hl 1 rfl) ?_
  refine lv_lstore (lv' := [(6, .long a1), (0, .ref (ad 15)), (1, .long a1), (3, .int a3), (4, .long a4)]) hx hb d_Filters_pass_1 hl (Nat.le_of_ble_eq_true rfl) rfl (fun ls hl => ?_)
  refine lv_iconst (v := 0) hx hb d_Filters_pass_3 (by decide) ?_
  refine lv_istore (lv' := [(8, .int (0 : Int32)), (6, .long a1), (0, .ref (ad 15)), (1, .long a1), (3, .int a3), (4, .long a4)]) hx hb d_Filters_pass_4 hl (Nat.le_of_ble_eq_true rfl) rfl (fun ls hl => ?_)
  exact w_Filters_pass_6 X hP _ _ _ _ _ _ (lv_sub (l' := [(0, .ref (ad 15)), (3, .int a3), (4, .long a4), (6, .long a1), (8, .int (0 : Int32))]) hl [2, 4, 5, 1, 0] rfl) hf
theorem c_Filters_pass {l : Launch} {D : va_G} {g : Nat → ClassId} {ad : Nat → Nat} {dr : Nat → Option Nat} {pl : va_W} {μ : Mem} {r : Int64} {n : Nat} {a1 : Int64} {a3 : Int32} {a4 : Int64} (hf : f_Filters_pass n μ a1 a3 a4 = some r) : Met l y_Filters_pass (Cond.code y_Filters_pass b_Filters_pass 9 (some .long) :: ww) rm_Filters_pass (RP D CL (TY g) (WX g ad dr pl μ) [.ref (ad 15), .long a1, .int a3, .long a4]) (k2_QcV (.long r)) 0 0 (fun _ => False) := by
  refine met_of (by decide) (Nat.le_of_ble_eq_true rfl) ?_
  intro p e s m below meth c ls X hP hl
  have hl : lv_has ls 9 [(0, .ref (ad 15)), (1, .long a1), (3, .int a3), (4, .long a4)] := hl
  exact w_Filters_pass X hP hl hf
