theorem d_Grammar_setRule_0 : decode b_Grammar_setRule 0 = .ok (.aload_n 0, 1) := by decide +kernel
theorem d_Grammar_setRule_1 : decode b_Grammar_setRule 1 = .ok (.getfield 9, 3) := by decide +kernel
theorem d_Grammar_setRule_4 : decode b_Grammar_setRule 4 = .ok (.iload_n 1, 1) := by decide +kernel
theorem d_Grammar_setRule_5 : decode b_Grammar_setRule 5 = .ok (.iload_n 2, 1) := by decide +kernel
theorem d_Grammar_setRule_6 : decode b_Grammar_setRule 6 = .ok (.iastore, 1) := by decide +kernel
theorem d_Grammar_setRule_7 : decode b_Grammar_setRule 7 = .ok (.aload_n 0, 1) := by decide +kernel
theorem d_Grammar_setRule_8 : decode b_Grammar_setRule 8 = .ok (.getfield 15, 3) := by decide +kernel
theorem d_Grammar_setRule_11 : decode b_Grammar_setRule 11 = .ok (.iload_n 1, 1) := by decide +kernel
theorem d_Grammar_setRule_12 : decode b_Grammar_setRule 12 = .ok (.iload_n 3, 1) := by decide +kernel
theorem d_Grammar_setRule_13 : decode b_Grammar_setRule 13 = .ok (.iastore, 1) := by decide +kernel
theorem d_Grammar_setRule_14 : decode b_Grammar_setRule 14 = .ok (.aload_n 0, 1) := by decide +kernel
theorem d_Grammar_setRule_15 : decode b_Grammar_setRule 15 = .ok (.getfield 18, 3) := by decide +kernel
theorem d_Grammar_setRule_18 : decode b_Grammar_setRule 18 = .ok (.iload_n 1, 1) := by decide +kernel
theorem d_Grammar_setRule_19 : decode b_Grammar_setRule 19 = .ok (.iload 4, 2) := by decide +kernel
theorem d_Grammar_setRule_21 : decode b_Grammar_setRule 21 = .ok (.iastore, 1) := by decide +kernel
theorem d_Grammar_setRule_22 : decode b_Grammar_setRule 22 = .ok (.return_, 1) := by decide +kernel
abbrev rm_Grammar_setRule : Room := { frames := 0, cells := 0, slots := 0, locals := 0 }
def f_Grammar_setRule (n : Nat) (μ : Mem) (a1 : Int32) (a2 : Int32) (a3 : Int32) (a4 : Int32) : Option Mem := gd (inb a1 4) (bd (wi μ 11 a1.toNatClampNeg a2) (fun μ1 => gd (inb a1 4) (bd (wi μ1 12 a1.toNatClampNeg a3) (fun μ2 => gd (inb a1 4) (bd (wi μ2 13 a1.toNatClampNeg a4) (fun μ3 => some μ3))))))
set_option maxHeartbeats 4000000 in
set_option maxRecDepth 100000 in
theorem w_Grammar_setRule {p : Program} {l : Launch} {e : Env} {s : State} {m : MethodId} {args : Array Value} {below : List Frame} {meth : Method} {c : Code} {D : va_G} {g : Nat → ClassId} {ad : Nat → Nat} {dr : Nat → Option Nat} {pl : va_W} {μ' : Mem} {A : Nat → Prop} {n : Nat} {μ : Mem} {a1 : Int32} {a2 : Int32} {a3 : Int32} {a4 : Int32} {ls : Array Slot} {H : Heap} {locs : List Loc} (X : Cx p s m args meth c b_Grammar_setRule 5 R_Grammar none D CL (TY g)) (hDA : ∀ μ : Mem, va_D A (WX g ad dr pl μ)) (hP : va_P D CL (WX g ad dr pl μ) H) (hS : va_S A s.heap H locs) (hl : lv_has ls 5 [(0, .ref (ad 10)), (1, .int a1), (2, .int a2), (3, .int a3), (4, .int a4)]) (hf : f_Grammar_setRule n μ a1 a2 a3 a4 = some μ') : WU p l e rm_Grammar_setRule s m args below meth c H locs D (WX g ad dr pl μ') A none (F0 m 0 ls []) := by
  obtain ⟨S, hr, hlk, hK⟩ := id X
  obtain ⟨hx, hb, hml, hown, hts⟩ := id S
  rw [f_Grammar_setRule] at hf
  refine lv_aload_n hx hb d_Grammar_setRule_0 rfl (lv_at hl 0 rfl) ?_
  refine xg_10_0 hx hb hts hown hK hP q_76 d_Grammar_setRule_1 ?_
  refine lv_iload_n hx hb d_Grammar_setRule_4 rfl (lv_at hl 1 rfl) ?_
  refine lv_iload_n hx hb d_Grammar_setRule_5 rfl (lv_at hl 2 rfl) ?_
  obtain ⟨hi, hf⟩ := gd_x hf
  obtain ⟨μ1, hμ1, hf⟩ := bd_x hf
  refine xs_11 hx hb hK (hDA _) hP hS (inb_in hi) d_Grammar_setRule_6 hμ1 (fun H locs hP hS => ?_)
  refine lv_aload_n hx hb d_Grammar_setRule_7 rfl (lv_at hl 0 rfl) ?_
  refine xg_10_1 hx hb hts hown hK hP q_77 d_Grammar_setRule_8 ?_
  refine lv_iload_n hx hb d_Grammar_setRule_11 rfl (lv_at hl 1 rfl) ?_
  refine lv_iload_n hx hb d_Grammar_setRule_12 rfl (lv_at hl 3 rfl) ?_
  obtain ⟨hi, hf⟩ := gd_x hf
  obtain ⟨μ2, hμ2, hf⟩ := bd_x hf
  refine xs_12 hx hb hK (hDA _) hP hS (inb_in hi) d_Grammar_setRule_13 hμ2 (fun H locs hP hS => ?_)
  refine lv_aload_n hx hb d_Grammar_setRule_14 rfl (lv_at hl 0 rfl) ?_
  refine xg_10_2 hx hb hts hown hK hP q_78 d_Grammar_setRule_15 ?_
  refine lv_iload_n hx hb d_Grammar_setRule_18 rfl (lv_at hl 1 rfl) ?_
  refine lv_iload hx hb d_Grammar_setRule_19 (lv_at hl 4 rfl) ?_
  obtain ⟨hi, hf⟩ := gd_x hf
  obtain ⟨μ3, hμ3, hf⟩ := bd_x hf
  refine xs_13 hx hb hK (hDA _) hP hS (inb_in hi) d_Grammar_setRule_21 hμ3 (fun H locs hP hS => ?_)
  obtain rfl := Option.some.inj hf
  exact W.vret hx hb hr (fun t ht _ => ⟨rfl, by rw [ht]; exact hP, hS.F ht⟩) hS.2.2 d_Grammar_setRule_22
theorem c_Grammar_setRule {l : Launch} {D : va_G} {g : Nat → ClassId} {ad : Nat → Nat} {dr : Nat → Option Nat} {pl : va_W} {μ : Mem} {μ' : Mem} {A : Nat → Prop} {n : Nat} {a1 : Int32} {a2 : Int32} {a3 : Int32} {a4 : Int32} (hDA : ∀ μ : Mem, va_D A (WX g ad dr pl μ)) (hf : f_Grammar_setRule n μ a1 a2 a3 a4 = some μ') : Met l y_Grammar_setRule (Cond.code y_Grammar_setRule b_Grammar_setRule 5 none :: ww) rm_Grammar_setRule (RP D CL (TY g) (WX g ad dr pl μ) [.ref (ad 10), .int a1, .int a2, .int a3, .int a4]) (QW D CL (WX g ad dr pl μ') A none) 0 0 A := by
  refine met_of (by decide) (Nat.le_of_ble_eq_true rfl) ?_
  intro p e s m below meth c ls X hP hl
  have hl : lv_has ls 5 [(0, .ref (ad 10)), (1, .int a1), (2, .int a2), (3, .int a3), (4, .int a4)] := hl
  exact w_Grammar_setRule X hDA hP va_S.rf hl hf
theorem d_Grammar_setLink_0 : decode b_Grammar_setLink 0 = .ok (.aload_n 0, 1) := by decide +kernel
theorem d_Grammar_setLink_1 : decode b_Grammar_setLink 1 = .ok (.getfield 27, 3) := by decide +kernel
theorem d_Grammar_setLink_4 : decode b_Grammar_setLink 4 = .ok (.iload_n 1, 1) := by decide +kernel
theorem d_Grammar_setLink_5 : decode b_Grammar_setLink 5 = .ok (.bipush 8, 2) := by decide +kernel
theorem d_Grammar_setLink_7 : decode b_Grammar_setLink 7 = .ok (.imul, 1) := by decide +kernel
theorem d_Grammar_setLink_8 : decode b_Grammar_setLink 8 = .ok (.iload_n 2, 1) := by decide +kernel
theorem d_Grammar_setLink_9 : decode b_Grammar_setLink 9 = .ok (.iadd, 1) := by decide +kernel
theorem d_Grammar_setLink_10 : decode b_Grammar_setLink 10 = .ok (.iload_n 3, 1) := by decide +kernel
theorem d_Grammar_setLink_11 : decode b_Grammar_setLink 11 = .ok (.iastore, 1) := by decide +kernel
theorem d_Grammar_setLink_12 : decode b_Grammar_setLink 12 = .ok (.return_, 1) := by decide +kernel
abbrev rm_Grammar_setLink : Room := { frames := 0, cells := 0, slots := 0, locals := 0 }
def f_Grammar_setLink (n : Nat) (μ : Mem) (a1 : Int32) (a2 : Int32) (a3 : Int32) : Option Mem := gd (inb ((a1 * (8 : Int32)) + a2) 64) (bd (wi μ 14 ((a1 * (8 : Int32)) + a2).toNatClampNeg a3) (fun μ1 => some μ1))
set_option maxHeartbeats 4000000 in
set_option maxRecDepth 100000 in
theorem w_Grammar_setLink {p : Program} {l : Launch} {e : Env} {s : State} {m : MethodId} {args : Array Value} {below : List Frame} {meth : Method} {c : Code} {D : va_G} {g : Nat → ClassId} {ad : Nat → Nat} {dr : Nat → Option Nat} {pl : va_W} {μ' : Mem} {A : Nat → Prop} {n : Nat} {μ : Mem} {a1 : Int32} {a2 : Int32} {a3 : Int32} {ls : Array Slot} {H : Heap} {locs : List Loc} (X : Cx p s m args meth c b_Grammar_setLink 4 R_Grammar none D CL (TY g)) (hDA : ∀ μ : Mem, va_D A (WX g ad dr pl μ)) (hP : va_P D CL (WX g ad dr pl μ) H) (hS : va_S A s.heap H locs) (hl : lv_has ls 4 [(0, .ref (ad 10)), (1, .int a1), (2, .int a2), (3, .int a3)]) (hf : f_Grammar_setLink n μ a1 a2 a3 = some μ') : WU p l e rm_Grammar_setLink s m args below meth c H locs D (WX g ad dr pl μ') A none (F0 m 0 ls []) := by
  obtain ⟨S, hr, hlk, hK⟩ := id X
  obtain ⟨hx, hb, hml, hown, hts⟩ := id S
  rw [f_Grammar_setLink] at hf
  refine lv_aload_n hx hb d_Grammar_setLink_0 rfl (lv_at hl 0 rfl) ?_
  refine xg_10_3 hx hb hts hown hK hP q_79 d_Grammar_setLink_1 ?_
  refine lv_iload_n hx hb d_Grammar_setLink_4 rfl (lv_at hl 1 rfl) ?_
  refine lv_bipush (v := 8) hx hb d_Grammar_setLink_5 (by decide) ?_
  refine lv_imul hx hb d_Grammar_setLink_7 ?_
  refine lv_iload_n hx hb d_Grammar_setLink_8 rfl (lv_at hl 2 rfl) ?_
  refine lv_iadd hx hb d_Grammar_setLink_9 ?_
  refine lv_iload_n hx hb d_Grammar_setLink_10 rfl (lv_at hl 3 rfl) ?_
  obtain ⟨hi, hf⟩ := gd_x hf
  obtain ⟨μ1, hμ1, hf⟩ := bd_x hf
  refine xs_14 hx hb hK (hDA _) hP hS (inb_in hi) d_Grammar_setLink_11 hμ1 (fun H locs hP hS => ?_)
  obtain rfl := Option.some.inj hf
  exact W.vret hx hb hr (fun t ht _ => ⟨rfl, by rw [ht]; exact hP, hS.F ht⟩) hS.2.2 d_Grammar_setLink_12
theorem c_Grammar_setLink {l : Launch} {D : va_G} {g : Nat → ClassId} {ad : Nat → Nat} {dr : Nat → Option Nat} {pl : va_W} {μ : Mem} {μ' : Mem} {A : Nat → Prop} {n : Nat} {a1 : Int32} {a2 : Int32} {a3 : Int32} (hDA : ∀ μ : Mem, va_D A (WX g ad dr pl μ)) (hf : f_Grammar_setLink n μ a1 a2 a3 = some μ') : Met l y_Grammar_setLink (Cond.code y_Grammar_setLink b_Grammar_setLink 4 none :: ww) rm_Grammar_setLink (RP D CL (TY g) (WX g ad dr pl μ) [.ref (ad 10), .int a1, .int a2, .int a3]) (QW D CL (WX g ad dr pl μ') A none) 0 0 A := by
  refine met_of (by decide) (Nat.le_of_ble_eq_true rfl) ?_
  intro p e s m below meth c ls X hP hl
  have hl : lv_has ls 4 [(0, .ref (ad 10)), (1, .int a1), (2, .int a2), (3, .int a3)] := hl
  exact w_Grammar_setLink X hDA hP va_S.rf hl hf
theorem d_Grammar_setMode_0 : decode b_Grammar_setMode 0 = .ok (.aload_n 0, 1) := by decide +kernel
theorem d_Grammar_setMode_1 : decode b_Grammar_setMode 1 = .ok (.iload_n 1, 1) := by decide +kernel
theorem d_Grammar_setMode_2 : decode b_Grammar_setMode 2 = .ok (.putfield 30, 3) := by decide +kernel
theorem d_Grammar_setMode_5 : decode b_Grammar_setMode 5 = .ok (.aload_n 0, 1) := by decide +kernel
theorem d_Grammar_setMode_6 : decode b_Grammar_setMode 6 = .ok (.iload_n 2, 1) := by decide +kernel
theorem d_Grammar_setMode_7 : decode b_Grammar_setMode 7 = .ok (.putfield 34, 3) := by decide +kernel
theorem d_Grammar_setMode_10 : decode b_Grammar_setMode 10 = .ok (.return_, 1) := by decide +kernel
abbrev rm_Grammar_setMode : Room := { frames := 0, cells := 0, slots := 0, locals := 0 }
def f_Grammar_setMode (n : Nat) (μ : Mem) (a1 : Int32) (a2 : Int32) : Option Mem := bd (wi μ 10 4 a1) (fun μ1 => bd (wi μ1 10 5 a2) (fun μ2 => some μ2))
set_option maxHeartbeats 4000000 in
set_option maxRecDepth 100000 in
theorem w_Grammar_setMode {p : Program} {l : Launch} {e : Env} {s : State} {m : MethodId} {args : Array Value} {below : List Frame} {meth : Method} {c : Code} {D : va_G} {g : Nat → ClassId} {ad : Nat → Nat} {dr : Nat → Option Nat} {pl : va_W} {μ' : Mem} {A : Nat → Prop} {n : Nat} {μ : Mem} {a1 : Int32} {a2 : Int32} {ls : Array Slot} {H : Heap} {locs : List Loc} (X : Cx p s m args meth c b_Grammar_setMode 3 R_Grammar none D CL (TY g)) (hDA : ∀ μ : Mem, va_D A (WX g ad dr pl μ)) (hP : va_P D CL (WX g ad dr pl μ) H) (hS : va_S A s.heap H locs) (hl : lv_has ls 3 [(0, .ref (ad 10)), (1, .int a1), (2, .int a2)]) (hf : f_Grammar_setMode n μ a1 a2 = some μ') : WU p l e rm_Grammar_setMode s m args below meth c H locs D (WX g ad dr pl μ') A none (F0 m 0 ls []) := by
  obtain ⟨S, hr, hlk, hK⟩ := id X
  obtain ⟨hx, hb, hml, hown, hts⟩ := id S
  rw [f_Grammar_setMode] at hf
  refine lv_aload_n hx hb d_Grammar_setMode_0 rfl (lv_at hl 0 rfl) ?_
  refine lv_iload_n hx hb d_Grammar_setMode_1 rfl (lv_at hl 1 rfl) ?_
  obtain ⟨μ1, hμ1, hf⟩ := bd_x hf
  refine xp_10_4 hx hb hts hown hK (hDA _) hP hS q_80 d_Grammar_setMode_2 hμ1 (fun H locs hP hS => ?_)
  refine lv_aload_n hx hb d_Grammar_setMode_5 rfl (lv_at hl 0 rfl) ?_
  refine lv_iload_n hx hb d_Grammar_setMode_6 rfl (lv_at hl 2 rfl) ?_
  obtain ⟨μ2, hμ2, hf⟩ := bd_x hf
  refine xp_10_5 hx hb hts hown hK (hDA _) hP hS q_81 d_Grammar_setMode_7 hμ2 (fun H locs hP hS => ?_)
  obtain rfl := Option.some.inj hf
  exact W.vret hx hb hr (fun t ht _ => ⟨rfl, by rw [ht]; exact hP, hS.F ht⟩) hS.2.2 d_Grammar_setMode_10
theorem c_Grammar_setMode {l : Launch} {D : va_G} {g : Nat → ClassId} {ad : Nat → Nat} {dr : Nat → Option Nat} {pl : va_W} {μ : Mem} {μ' : Mem} {A : Nat → Prop} {n : Nat} {a1 : Int32} {a2 : Int32} (hDA : ∀ μ : Mem, va_D A (WX g ad dr pl μ)) (hf : f_Grammar_setMode n μ a1 a2 = some μ') : Met l y_Grammar_setMode (Cond.code y_Grammar_setMode b_Grammar_setMode 3 none :: ww) rm_Grammar_setMode (RP D CL (TY g) (WX g ad dr pl μ) [.ref (ad 10), .int a1, .int a2]) (QW D CL (WX g ad dr pl μ') A none) 0 0 A := by
  refine met_of (by decide) (Nat.le_of_ble_eq_true rfl) ?_
  intro p e s m below meth c ls X hP hl
  have hl : lv_has ls 3 [(0, .ref (ad 10)), (1, .int a1), (2, .int a2)] := hl
  exact w_Grammar_setMode X hDA hP va_S.rf hl hf
theorem d_Grammar_invokes_0 : decode b_Grammar_invokes 0 = .ok (.aload_n 0, 1) := by decide +kernel
theorem d_Grammar_invokes_1 : decode b_Grammar_invokes 1 = .ok (.getfield 9, 3) := by decide +kernel
theorem d_Grammar_invokes_4 : decode b_Grammar_invokes 4 = .ok (.iload_n 1, 1) := by decide +kernel
theorem d_Grammar_invokes_5 : decode b_Grammar_invokes 5 = .ok (.iaload, 1) := by decide +kernel
theorem d_Grammar_invokes_6 : decode b_Grammar_invokes 6 = .ok (.iconst 1, 1) := by decide +kernel
theorem d_Grammar_invokes_7 : decode b_Grammar_invokes 7 = .ok (.iand, 1) := by decide +kernel
theorem d_Grammar_invokes_8 : decode b_Grammar_invokes 8 = .ok (.ifCond .eq 7, 3) := by decide +kernel
theorem d_Grammar_invokes_11 : decode b_Grammar_invokes 11 = .ok (.iconst 1, 1) := by decide +kernel
theorem d_Grammar_invokes_12 : decode b_Grammar_invokes 12 = .ok (.goto 4, 3) := by decide +kernel
theorem d_Grammar_invokes_15 : decode b_Grammar_invokes 15 = .ok (.iconst 0, 1) := by decide +kernel
theorem d_Grammar_invokes_16 : decode b_Grammar_invokes 16 = .ok (.ireturn, 1) := by decide +kernel
abbrev rm_Grammar_invokes : Room := { frames := 0, cells := 0, slots := 0, locals := 0 }
def f_Grammar_invokes (n : Nat) (μ : Mem) (a1 : Int32) : Option Bool := gd (inb a1 4) ((if ((μ.1 11 a1.toNatClampNeg) &&& (1 : Int32)) = 0 then (some false) else (some true)))
set_option maxHeartbeats 4000000 in
set_option maxRecDepth 100000 in
theorem w_Grammar_invokes {p : Program} {l : Launch} {e : Env} {s : State} {m : MethodId} {args : Array Value} {below : List Frame} {meth : Method} {c : Code} {D : va_G} {g : Nat → ClassId} {ad : Nat → Nat} {dr : Nat → Option Nat} {pl : va_W} {μ : Mem} {r : Bool} {n : Nat} {a1 : Int32} {ls : Array Slot} (X : Cx p s m args meth c b_Grammar_invokes 2 R_Grammar (some .boolean) D CL (TY g)) (hP : va_P D CL (WX g ad dr pl μ) s.heap) (hl : lv_has ls 2 [(0, .ref (ad 10)), (1, .int a1)]) (hf : f_Grammar_invokes n μ a1 = some r) : WR p l e rm_Grammar_invokes s m args below meth c (.int (bz r)) (F0 m 0 ls []) := by
  obtain ⟨S, hr, hlk, hK⟩ := id X
  obtain ⟨hx, hb, hml, hown, hts⟩ := id S
  rw [f_Grammar_invokes] at hf
  refine lv_aload_n hx hb d_Grammar_invokes_0 rfl (lv_at hl 0 rfl) ?_
  refine xg_10_0 hx hb hts hown hK hP q_76 d_Grammar_invokes_1 ?_
  refine lv_iload_n hx hb d_Grammar_invokes_4 rfl (lv_at hl 1 rfl) ?_
  obtain ⟨hi, hf⟩ := gd_x hf
  refine xl_11 hx hb hK hP (inb_in hi) d_Grammar_invokes_5 ?_
  refine lv_iconst (v := 1) hx hb d_Grammar_invokes_6 (by decide) ?_
  refine lv_iand hx hb d_Grammar_invokes_7 ?_
  refine lv_if_eq (tgt := 15) hx hb d_Grammar_invokes_8 rfl (fun hc => ?_) (fun hc => ?_)
  · replace hf := br_p hc hf
    refine lv_iconst (v := 0) hx hb d_Grammar_invokes_15 (by decide) ?_
    have h1 := Option.some.inj hf
    subst h1
    exact W.zret hx hb hr (by first | rfl | exact bz_nar _) (fun t ht _ => ⟨rfl, ht⟩) (fun _ h => by cases h) d_Grammar_invokes_16
  · replace hf := br_n hc hf
    refine lv_iconst (v := 1) hx hb d_Grammar_invokes_11 (by decide) ?_
    refine lv_goto (tgt := 16) hx hb d_Grammar_invokes_12 rfl ?_
    have h1 := Option.some.inj hf
    subst h1
    exact W.zret hx hb hr (by first | rfl | exact bz_nar _) (fun t ht _ => ⟨rfl, ht⟩) (fun _ h => by cases h) d_Grammar_invokes_16
theorem c_Grammar_invokes {l : Launch} {D : va_G} {g : Nat → ClassId} {ad : Nat → Nat} {dr : Nat → Option Nat} {pl : va_W} {μ : Mem} {r : Bool} {n : Nat} {a1 : Int32} (hf : f_Grammar_invokes n μ a1 = some r) : Met l y_Grammar_invokes (Cond.code y_Grammar_invokes b_Grammar_invokes 2 (some .boolean) :: ww) rm_Grammar_invokes (RP D CL (TY g) (WX g ad dr pl μ) [.ref (ad 10), .int a1]) (k2_QcV (.int (bz r))) 0 0 (fun _ => False) := by
  refine met_of (by decide) (Nat.le_of_ble_eq_true rfl) ?_
  intro p e s m below meth c ls X hP hl
  have hl : lv_has ls 2 [(0, .ref (ad 10)), (1, .int a1)] := hl
  exact w_Grammar_invokes X hP hl hf
theorem d_Grammar_groups_0 : decode b_Grammar_groups 0 = .ok (.aload_n 0, 1) := by decide +kernel
theorem d_Grammar_groups_1 : decode b_Grammar_groups 1 = .ok (.getfield 9, 3) := by decide +kernel
theorem d_Grammar_groups_4 : decode b_Grammar_groups 4 = .ok (.iload_n 1, 1) := by decide +kernel
theorem d_Grammar_groups_5 : decode b_Grammar_groups 5 = .ok (.iaload, 1) := by decide +kernel
theorem d_Grammar_groups_6 : decode b_Grammar_groups 6 = .ok (.iconst 2, 1) := by decide +kernel
theorem d_Grammar_groups_7 : decode b_Grammar_groups 7 = .ok (.iand, 1) := by decide +kernel
theorem d_Grammar_groups_8 : decode b_Grammar_groups 8 = .ok (.ifCond .eq 7, 3) := by decide +kernel
theorem d_Grammar_groups_11 : decode b_Grammar_groups 11 = .ok (.iconst 1, 1) := by decide +kernel
theorem d_Grammar_groups_12 : decode b_Grammar_groups 12 = .ok (.goto 4, 3) := by decide +kernel
theorem d_Grammar_groups_15 : decode b_Grammar_groups 15 = .ok (.iconst 0, 1) := by decide +kernel
theorem d_Grammar_groups_16 : decode b_Grammar_groups 16 = .ok (.ireturn, 1) := by decide +kernel
abbrev rm_Grammar_groups : Room := { frames := 0, cells := 0, slots := 0, locals := 0 }
def f_Grammar_groups (n : Nat) (μ : Mem) (a1 : Int32) : Option Bool := gd (inb a1 4) ((if ((μ.1 11 a1.toNatClampNeg) &&& (2 : Int32)) = 0 then (some false) else (some true)))
set_option maxHeartbeats 4000000 in
set_option maxRecDepth 100000 in
theorem w_Grammar_groups {p : Program} {l : Launch} {e : Env} {s : State} {m : MethodId} {args : Array Value} {below : List Frame} {meth : Method} {c : Code} {D : va_G} {g : Nat → ClassId} {ad : Nat → Nat} {dr : Nat → Option Nat} {pl : va_W} {μ : Mem} {r : Bool} {n : Nat} {a1 : Int32} {ls : Array Slot} (X : Cx p s m args meth c b_Grammar_groups 2 R_Grammar (some .boolean) D CL (TY g)) (hP : va_P D CL (WX g ad dr pl μ) s.heap) (hl : lv_has ls 2 [(0, .ref (ad 10)), (1, .int a1)]) (hf : f_Grammar_groups n μ a1 = some r) : WR p l e rm_Grammar_groups s m args below meth c (.int (bz r)) (F0 m 0 ls []) := by
  obtain ⟨S, hr, hlk, hK⟩ := id X
  obtain ⟨hx, hb, hml, hown, hts⟩ := id S
  rw [f_Grammar_groups] at hf
  refine lv_aload_n hx hb d_Grammar_groups_0 rfl (lv_at hl 0 rfl) ?_
  refine xg_10_0 hx hb hts hown hK hP q_76 d_Grammar_groups_1 ?_
  refine lv_iload_n hx hb d_Grammar_groups_4 rfl (lv_at hl 1 rfl) ?_
  obtain ⟨hi, hf⟩ := gd_x hf
  refine xl_11 hx hb hK hP (inb_in hi) d_Grammar_groups_5 ?_
  refine lv_iconst (v := 2) hx hb d_Grammar_groups_6 (by decide) ?_
  refine lv_iand hx hb d_Grammar_groups_7 ?_
  refine lv_if_eq (tgt := 15) hx hb d_Grammar_groups_8 rfl (fun hc => ?_) (fun hc => ?_)
  · replace hf := br_p hc hf
    refine lv_iconst (v := 0) hx hb d_Grammar_groups_15 (by decide) ?_
    have h1 := Option.some.inj hf
    subst h1
    exact W.zret hx hb hr (by first | rfl | exact bz_nar _) (fun t ht _ => ⟨rfl, ht⟩) (fun _ h => by cases h) d_Grammar_groups_16
  · replace hf := br_n hc hf
    refine lv_iconst (v := 1) hx hb d_Grammar_groups_11 (by decide) ?_
    refine lv_goto (tgt := 16) hx hb d_Grammar_groups_12 rfl ?_
    have h1 := Option.some.inj hf
    subst h1
    exact W.zret hx hb hr (by first | rfl | exact bz_nar _) (fun t ht _ => ⟨rfl, ht⟩) (fun _ h => by cases h) d_Grammar_groups_16
theorem c_Grammar_groups {l : Launch} {D : va_G} {g : Nat → ClassId} {ad : Nat → Nat} {dr : Nat → Option Nat} {pl : va_W} {μ : Mem} {r : Bool} {n : Nat} {a1 : Int32} (hf : f_Grammar_groups n μ a1 = some r) : Met l y_Grammar_groups (Cond.code y_Grammar_groups b_Grammar_groups 2 (some .boolean) :: ww) rm_Grammar_groups (RP D CL (TY g) (WX g ad dr pl μ) [.ref (ad 10), .int a1]) (k2_QcV (.int (bz r))) 0 0 (fun _ => False) := by
  refine met_of (by decide) (Nat.le_of_ble_eq_true rfl) ?_
  intro p e s m below meth c ls X hP hl
  have hl : lv_has ls 2 [(0, .ref (ad 10)), (1, .int a1)] := hl
  exact w_Grammar_groups X hP hl hf
theorem d_Grammar_lengths_0 : decode b_Grammar_lengths 0 = .ok (.aload_n 0, 1) := by decide +kernel
theorem d_Grammar_lengths_1 : decode b_Grammar_lengths 1 = .ok (.getfield 9, 3) := by decide +kernel
theorem d_Grammar_lengths_4 : decode b_Grammar_lengths 4 = .ok (.iload_n 1, 1) := by decide +kernel
theorem d_Grammar_lengths_5 : decode b_Grammar_lengths 5 = .ok (.iaload, 1) := by decide +kernel
theorem d_Grammar_lengths_6 : decode b_Grammar_lengths 6 = .ok (.iconst 4, 1) := by decide +kernel
theorem d_Grammar_lengths_7 : decode b_Grammar_lengths 7 = .ok (.idiv, 1) := by decide +kernel
theorem d_Grammar_lengths_8 : decode b_Grammar_lengths 8 = .ok (.ireturn, 1) := by decide +kernel
abbrev rm_Grammar_lengths : Room := { frames := 0, cells := 0, slots := 0, locals := 0 }
def f_Grammar_lengths (n : Nat) (μ : Mem) (a1 : Int32) : Option Int32 := gd (inb a1 4) (some ((μ.1 11 a1.toNatClampNeg) / (4 : Int32)))
set_option maxHeartbeats 4000000 in
set_option maxRecDepth 100000 in
theorem w_Grammar_lengths {p : Program} {l : Launch} {e : Env} {s : State} {m : MethodId} {args : Array Value} {below : List Frame} {meth : Method} {c : Code} {D : va_G} {g : Nat → ClassId} {ad : Nat → Nat} {dr : Nat → Option Nat} {pl : va_W} {μ : Mem} {r : Int32} {n : Nat} {a1 : Int32} {ls : Array Slot} (X : Cx p s m args meth c b_Grammar_lengths 2 R_Grammar (some .int) D CL (TY g)) (hP : va_P D CL (WX g ad dr pl μ) s.heap) (hl : lv_has ls 2 [(0, .ref (ad 10)), (1, .int a1)]) (hf : f_Grammar_lengths n μ a1 = some r) : WR p l e rm_Grammar_lengths s m args below meth c (.int r) (F0 m 0 ls []) := by
  obtain ⟨S, hr, hlk, hK⟩ := id X
  obtain ⟨hx, hb, hml, hown, hts⟩ := id S
  rw [f_Grammar_lengths] at hf
  refine lv_aload_n hx hb d_Grammar_lengths_0 rfl (lv_at hl 0 rfl) ?_
  refine xg_10_0 hx hb hts hown hK hP q_76 d_Grammar_lengths_1 ?_
  refine lv_iload_n hx hb d_Grammar_lengths_4 rfl (lv_at hl 1 rfl) ?_
  obtain ⟨hi, hf⟩ := gd_x hf
  refine xl_11 hx hb hK hP (inb_in hi) d_Grammar_lengths_5 ?_
  refine lv_iconst (v := 4) hx hb d_Grammar_lengths_6 (by decide) ?_
  refine lv_idiv hx hb d_Grammar_lengths_7 (by decide) ?_
  have h1 := Option.some.inj hf
  subst h1
  exact W.iret hx hb hr (fun t ht _ => ⟨rfl, ht⟩) (fun _ h => by cases h) d_Grammar_lengths_8
theorem c_Grammar_lengths {l : Launch} {D : va_G} {g : Nat → ClassId} {ad : Nat → Nat} {dr : Nat → Option Nat} {pl : va_W} {μ : Mem} {r : Int32} {n : Nat} {a1 : Int32} (hf : f_Grammar_lengths n μ a1 = some r) : Met l y_Grammar_lengths (Cond.code y_Grammar_lengths b_Grammar_lengths 2 (some .int) :: ww) rm_Grammar_lengths (RP D CL (TY g) (WX g ad dr pl μ) [.ref (ad 10), .int a1]) (k2_QcV (.int r)) 0 0 (fun _ => False) := by
  refine met_of (by decide) (Nat.le_of_ble_eq_true rfl) ?_
  intro p e s m below meth c ls X hP hl
  have hl : lv_has ls 2 [(0, .ref (ad 10)), (1, .int a1)] := hl
  exact w_Grammar_lengths X hP hl hf
theorem d_Grammar_unknownPart_0 : decode b_Grammar_unknownPart 0 = .ok (.aload_n 0, 1) := by decide +kernel
theorem d_Grammar_unknownPart_1 : decode b_Grammar_unknownPart 1 = .ok (.getfield 15, 3) := by decide +kernel
theorem d_Grammar_unknownPart_4 : decode b_Grammar_unknownPart 4 = .ok (.iload_n 1, 1) := by decide +kernel
theorem d_Grammar_unknownPart_5 : decode b_Grammar_unknownPart 5 = .ok (.iaload, 1) := by decide +kernel
theorem d_Grammar_unknownPart_6 : decode b_Grammar_unknownPart 6 = .ok (.ireturn, 1) := by decide +kernel
abbrev rm_Grammar_unknownPart : Room := { frames := 0, cells := 0, slots := 0, locals := 0 }
def f_Grammar_unknownPart (n : Nat) (μ : Mem) (a1 : Int32) : Option Int32 := gd (inb a1 4) (some (μ.1 12 a1.toNatClampNeg))
set_option maxHeartbeats 4000000 in
set_option maxRecDepth 100000 in
theorem w_Grammar_unknownPart {p : Program} {l : Launch} {e : Env} {s : State} {m : MethodId} {args : Array Value} {below : List Frame} {meth : Method} {c : Code} {D : va_G} {g : Nat → ClassId} {ad : Nat → Nat} {dr : Nat → Option Nat} {pl : va_W} {μ : Mem} {r : Int32} {n : Nat} {a1 : Int32} {ls : Array Slot} (X : Cx p s m args meth c b_Grammar_unknownPart 2 R_Grammar (some .int) D CL (TY g)) (hP : va_P D CL (WX g ad dr pl μ) s.heap) (hl : lv_has ls 2 [(0, .ref (ad 10)), (1, .int a1)]) (hf : f_Grammar_unknownPart n μ a1 = some r) : WR p l e rm_Grammar_unknownPart s m args below meth c (.int r) (F0 m 0 ls []) := by
  obtain ⟨S, hr, hlk, hK⟩ := id X
  obtain ⟨hx, hb, hml, hown, hts⟩ := id S
  rw [f_Grammar_unknownPart] at hf
  refine lv_aload_n hx hb d_Grammar_unknownPart_0 rfl (lv_at hl 0 rfl) ?_
  refine xg_10_1 hx hb hts hown hK hP q_77 d_Grammar_unknownPart_1 ?_
  refine lv_iload_n hx hb d_Grammar_unknownPart_4 rfl (lv_at hl 1 rfl) ?_
  obtain ⟨hi, hf⟩ := gd_x hf
  refine xl_12 hx hb hK hP (inb_in hi) d_Grammar_unknownPart_5 ?_
  have h1 := Option.some.inj hf
  subst h1
  exact W.iret hx hb hr (fun t ht _ => ⟨rfl, ht⟩) (fun _ h => by cases h) d_Grammar_unknownPart_6
theorem c_Grammar_unknownPart {l : Launch} {D : va_G} {g : Nat → ClassId} {ad : Nat → Nat} {dr : Nat → Option Nat} {pl : va_W} {μ : Mem} {r : Int32} {n : Nat} {a1 : Int32} (hf : f_Grammar_unknownPart n μ a1 = some r) : Met l y_Grammar_unknownPart (Cond.code y_Grammar_unknownPart b_Grammar_unknownPart 2 (some .int) :: ww) rm_Grammar_unknownPart (RP D CL (TY g) (WX g ad dr pl μ) [.ref (ad 10), .int a1]) (k2_QcV (.int r)) 0 0 (fun _ => False) := by
  refine met_of (by decide) (Nat.le_of_ble_eq_true rfl) ?_
  intro p e s m below meth c ls X hP hl
  have hl : lv_has ls 2 [(0, .ref (ad 10)), (1, .int a1)] := hl
  exact w_Grammar_unknownPart X hP hl hf
theorem d_Grammar_unknownPrice_0 : decode b_Grammar_unknownPrice 0 = .ok (.aload_n 0, 1) := by decide +kernel
theorem d_Grammar_unknownPrice_1 : decode b_Grammar_unknownPrice 1 = .ok (.getfield 18, 3) := by decide +kernel
theorem d_Grammar_unknownPrice_4 : decode b_Grammar_unknownPrice 4 = .ok (.iload_n 1, 1) := by decide +kernel
theorem d_Grammar_unknownPrice_5 : decode b_Grammar_unknownPrice 5 = .ok (.iaload, 1) := by decide +kernel
theorem d_Grammar_unknownPrice_6 : decode b_Grammar_unknownPrice 6 = .ok (.ireturn, 1) := by decide +kernel
abbrev rm_Grammar_unknownPrice : Room := { frames := 0, cells := 0, slots := 0, locals := 0 }
def f_Grammar_unknownPrice (n : Nat) (μ : Mem) (a1 : Int32) : Option Int32 := gd (inb a1 4) (some (μ.1 13 a1.toNatClampNeg))
set_option maxHeartbeats 4000000 in
set_option maxRecDepth 100000 in
theorem w_Grammar_unknownPrice {p : Program} {l : Launch} {e : Env} {s : State} {m : MethodId} {args : Array Value} {below : List Frame} {meth : Method} {c : Code} {D : va_G} {g : Nat → ClassId} {ad : Nat → Nat} {dr : Nat → Option Nat} {pl : va_W} {μ : Mem} {r : Int32} {n : Nat} {a1 : Int32} {ls : Array Slot} (X : Cx p s m args meth c b_Grammar_unknownPrice 2 R_Grammar (some .int) D CL (TY g)) (hP : va_P D CL (WX g ad dr pl μ) s.heap) (hl : lv_has ls 2 [(0, .ref (ad 10)), (1, .int a1)]) (hf : f_Grammar_unknownPrice n μ a1 = some r) : WR p l e rm_Grammar_unknownPrice s m args below meth c (.int r) (F0 m 0 ls []) := by
  obtain ⟨S, hr, hlk, hK⟩ := id X
  obtain ⟨hx, hb, hml, hown, hts⟩ := id S
  rw [f_Grammar_unknownPrice] at hf
  refine lv_aload_n hx hb d_Grammar_unknownPrice_0 rfl (lv_at hl 0 rfl) ?_
  refine xg_10_2 hx hb hts hown hK hP q_78 d_Grammar_unknownPrice_1 ?_
  refine lv_iload_n hx hb d_Grammar_unknownPrice_4 rfl (lv_at hl 1 rfl) ?_
  obtain ⟨hi, hf⟩ := gd_x hf
  refine xl_13 hx hb hK hP (inb_in hi) d_Grammar_unknownPrice_5 ?_
  have h1 := Option.some.inj hf
  subst h1
  exact W.iret hx hb hr (fun t ht _ => ⟨rfl, ht⟩) (fun _ h => by cases h) d_Grammar_unknownPrice_6
theorem c_Grammar_unknownPrice {l : Launch} {D : va_G} {g : Nat → ClassId} {ad : Nat → Nat} {dr : Nat → Option Nat} {pl : va_W} {μ : Mem} {r : Int32} {n : Nat} {a1 : Int32} (hf : f_Grammar_unknownPrice n μ a1 = some r) : Met l y_Grammar_unknownPrice (Cond.code y_Grammar_unknownPrice b_Grammar_unknownPrice 2 (some .int) :: ww) rm_Grammar_unknownPrice (RP D CL (TY g) (WX g ad dr pl μ) [.ref (ad 10), .int a1]) (k2_QcV (.int r)) 0 0 (fun _ => False) := by
  refine met_of (by decide) (Nat.le_of_ble_eq_true rfl) ?_
  intro p e s m below meth c ls X hP hl
  have hl : lv_has ls 2 [(0, .ref (ad 10)), (1, .int a1)] := hl
  exact w_Grammar_unknownPrice X hP hl hf
theorem d_Grammar_linkPrice_0 : decode b_Grammar_linkPrice 0 = .ok (.aload_n 0, 1) := by decide +kernel
theorem d_Grammar_linkPrice_1 : decode b_Grammar_linkPrice 1 = .ok (.getfield 27, 3) := by decide +kernel
theorem d_Grammar_linkPrice_4 : decode b_Grammar_linkPrice 4 = .ok (.iload_n 1, 1) := by decide +kernel
theorem d_Grammar_linkPrice_5 : decode b_Grammar_linkPrice 5 = .ok (.bipush 8, 2) := by decide +kernel
theorem d_Grammar_linkPrice_7 : decode b_Grammar_linkPrice 7 = .ok (.imul, 1) := by decide +kernel
theorem d_Grammar_linkPrice_8 : decode b_Grammar_linkPrice 8 = .ok (.iload_n 2, 1) := by decide +kernel
theorem d_Grammar_linkPrice_9 : decode b_Grammar_linkPrice 9 = .ok (.iadd, 1) := by decide +kernel
theorem d_Grammar_linkPrice_10 : decode b_Grammar_linkPrice 10 = .ok (.iaload, 1) := by decide +kernel
theorem d_Grammar_linkPrice_11 : decode b_Grammar_linkPrice 11 = .ok (.ireturn, 1) := by decide +kernel
abbrev rm_Grammar_linkPrice : Room := { frames := 0, cells := 0, slots := 0, locals := 0 }
def f_Grammar_linkPrice (n : Nat) (μ : Mem) (a1 : Int32) (a2 : Int32) : Option Int32 := gd (inb ((a1 * (8 : Int32)) + a2) 64) (some (μ.1 14 ((a1 * (8 : Int32)) + a2).toNatClampNeg))
set_option maxHeartbeats 4000000 in
set_option maxRecDepth 100000 in
theorem w_Grammar_linkPrice {p : Program} {l : Launch} {e : Env} {s : State} {m : MethodId} {args : Array Value} {below : List Frame} {meth : Method} {c : Code} {D : va_G} {g : Nat → ClassId} {ad : Nat → Nat} {dr : Nat → Option Nat} {pl : va_W} {μ : Mem} {r : Int32} {n : Nat} {a1 : Int32} {a2 : Int32} {ls : Array Slot} (X : Cx p s m args meth c b_Grammar_linkPrice 3 R_Grammar (some .int) D CL (TY g)) (hP : va_P D CL (WX g ad dr pl μ) s.heap) (hl : lv_has ls 3 [(0, .ref (ad 10)), (1, .int a1), (2, .int a2)]) (hf : f_Grammar_linkPrice n μ a1 a2 = some r) : WR p l e rm_Grammar_linkPrice s m args below meth c (.int r) (F0 m 0 ls []) := by
  obtain ⟨S, hr, hlk, hK⟩ := id X
  obtain ⟨hx, hb, hml, hown, hts⟩ := id S
  rw [f_Grammar_linkPrice] at hf
  refine lv_aload_n hx hb d_Grammar_linkPrice_0 rfl (lv_at hl 0 rfl) ?_
  refine xg_10_3 hx hb hts hown hK hP q_79 d_Grammar_linkPrice_1 ?_
  refine lv_iload_n hx hb d_Grammar_linkPrice_4 rfl (lv_at hl 1 rfl) ?_
  refine lv_bipush (v := 8) hx hb d_Grammar_linkPrice_5 (by decide) ?_
  refine lv_imul hx hb d_Grammar_linkPrice_7 ?_
  refine lv_iload_n hx hb d_Grammar_linkPrice_8 rfl (lv_at hl 2 rfl) ?_
  refine lv_iadd hx hb d_Grammar_linkPrice_9 ?_
  obtain ⟨hi, hf⟩ := gd_x hf
  refine xl_14 hx hb hK hP (inb_in hi) d_Grammar_linkPrice_10 ?_
  have h1 := Option.some.inj hf
  subst h1
  exact W.iret hx hb hr (fun t ht _ => ⟨rfl, ht⟩) (fun _ h => by cases h) d_Grammar_linkPrice_11
theorem c_Grammar_linkPrice {l : Launch} {D : va_G} {g : Nat → ClassId} {ad : Nat → Nat} {dr : Nat → Option Nat} {pl : va_W} {μ : Mem} {r : Int32} {n : Nat} {a1 : Int32} {a2 : Int32} (hf : f_Grammar_linkPrice n μ a1 a2 = some r) : Met l y_Grammar_linkPrice (Cond.code y_Grammar_linkPrice b_Grammar_linkPrice 3 (some .int) :: ww) rm_Grammar_linkPrice (RP D CL (TY g) (WX g ad dr pl μ) [.ref (ad 10), .int a1, .int a2]) (k2_QcV (.int r)) 0 0 (fun _ => False) := by
  refine met_of (by decide) (Nat.le_of_ble_eq_true rfl) ?_
  intro p e s m below meth c ls X hP hl
  have hl : lv_has ls 3 [(0, .ref (ad 10)), (1, .int a1), (2, .int a2)] := hl
  exact w_Grammar_linkPrice X hP hl hf
theorem d_Grammar_charge_0 : decode b_Grammar_charge 0 = .ok (.iload_n 1, 1) := by decide +kernel
theorem d_Grammar_charge_1 : decode b_Grammar_charge 1 = .ok (.iconst 2, 1) := by decide +kernel
theorem d_Grammar_charge_2 : decode b_Grammar_charge 2 = .ok (.if_icmp .le 16, 3) := by decide +kernel
theorem d_Grammar_charge_5 : decode b_Grammar_charge 5 = .ok (.iload_n 2, 1) := by decide +kernel
theorem d_Grammar_charge_6 : decode b_Grammar_charge 6 = .ok (.ifCond .eq 12, 3) := by decide +kernel
theorem d_Grammar_charge_9 : decode b_Grammar_charge 9 = .ok (.aload_n 0, 1) := by decide +kernel
theorem d_Grammar_charge_10 : decode b_Grammar_charge 10 = .ok (.getfield 30, 3) := by decide +kernel
theorem d_Grammar_charge_13 : decode b_Grammar_charge 13 = .ok (.iload_n 1, 1) := by decide +kernel
theorem d_Grammar_charge_14 : decode b_Grammar_charge 14 = .ok (.iconst 2, 1) := by decide +kernel
theorem d_Grammar_charge_15 : decode b_Grammar_charge 15 = .ok (.isub, 1) := by decide +kernel
theorem d_Grammar_charge_16 : decode b_Grammar_charge 16 = .ok (.imul, 1) := by decide +kernel
theorem d_Grammar_charge_17 : decode b_Grammar_charge 17 = .ok (.ireturn, 1) := by decide +kernel
theorem d_Grammar_charge_18 : decode b_Grammar_charge 18 = .ok (.iload_n 1, 1) := by decide +kernel
theorem d_Grammar_charge_19 : decode b_Grammar_charge 19 = .ok (.iconst 4, 1) := by decide +kernel
theorem d_Grammar_charge_20 : decode b_Grammar_charge 20 = .ok (.if_icmp .le 14, 3) := by decide +kernel
theorem d_Grammar_charge_23 : decode b_Grammar_charge 23 = .ok (.aload_n 0, 1) := by decide +kernel
theorem d_Grammar_charge_24 : decode b_Grammar_charge 24 = .ok (.getfield 34, 3) := by decide +kernel
theorem d_Grammar_charge_27 : decode b_Grammar_charge 27 = .ok (.iload_n 1, 1) := by decide +kernel
theorem d_Grammar_charge_28 : decode b_Grammar_charge 28 = .ok (.iconst 4, 1) := by decide +kernel
theorem d_Grammar_charge_29 : decode b_Grammar_charge 29 = .ok (.isub, 1) := by decide +kernel
theorem d_Grammar_charge_30 : decode b_Grammar_charge 30 = .ok (.imul, 1) := by decide +kernel
theorem d_Grammar_charge_31 : decode b_Grammar_charge 31 = .ok (.goto 4, 3) := by decide +kernel
theorem d_Grammar_charge_34 : decode b_Grammar_charge 34 = .ok (.iconst 0, 1) := by decide +kernel
theorem d_Grammar_charge_35 : decode b_Grammar_charge 35 = .ok (.ireturn, 1) := by decide +kernel
abbrev rm_Grammar_charge : Room := { frames := 0, cells := 0, slots := 0, locals := 0 }
def f_Grammar_charge_18 (μ : Mem) (n : Nat) (x1 : Int32) : Option Int32 := (if x1 ≤ (4 : Int32) then (some (0 : Int32)) else (some ((μ.1 10 5) * (x1 - (4 : Int32)))))
set_option maxHeartbeats 4000000 in
set_option maxRecDepth 100000 in
theorem w_Grammar_charge_18 {p : Program} {l : Launch} {e : Env} {s : State} {m : MethodId} {args : Array Value} {below : List Frame} {meth : Method} {c : Code} {D : va_G} {g : Nat → ClassId} {ad : Nat → Nat} {dr : Nat → Option Nat} {pl : va_W} {μ : Mem} {r : Int32} {n : Nat} {x1 : Int32} {ls : Array Slot} (X : Cx p s m args meth c b_Grammar_charge 3 R_Grammar (some .int) D CL (TY g)) (hP : va_P D CL (WX g ad dr pl μ) s.heap) (hl : lv_has ls 3 [(0, .ref (ad 10)), (1, .int x1)]) (hf : f_Grammar_charge_18 μ n x1 = some r) : WR p l e rm_Grammar_charge s m args below meth c (.int r) (F0 m 18 ls []) := by
  obtain ⟨S, hr, hlk, hK⟩ := id X
  obtain ⟨hx, hb, hml, hown, hts⟩ := id S
  rw [f_Grammar_charge_18] at hf
  refine lv_iload_n hx hb d_Grammar_charge_18 rfl (lv_at hl 1 rfl) ?_
  refine lv_iconst (v := 4) hx hb d_Grammar_charge_19 (by decide) ?_
  refine lv_icmp_le (tgt := 34) hx hb d_Grammar_charge_20 rfl (fun hc => ?_) (fun hc => ?_)
  · replace hf := br_p hc hf
    refine lv_iconst (v := 0) hx hb d_Grammar_charge_34 (by decide) ?_
    have h1 := Option.some.inj hf
    subst h1
    exact W.iret hx hb hr (fun t ht _ => ⟨rfl, ht⟩) (fun _ h => by cases h) d_Grammar_charge_35
  · replace hf := br_n hc hf
    refine lv_aload_n hx hb d_Grammar_charge_23 rfl (lv_at hl 0 rfl) ?_
    refine xg_10_5 hx hb hts hown hK hP q_81 d_Grammar_charge_24 ?_
    refine lv_iload_n hx hb d_Grammar_charge_27 rfl (lv_at hl 1 rfl) ?_
    refine lv_iconst (v := 4) hx hb d_Grammar_charge_28 (by decide) ?_
    refine lv_isub hx hb d_Grammar_charge_29 ?_
    refine lv_imul hx hb d_Grammar_charge_30 ?_
    refine lv_goto (tgt := 35) hx hb d_Grammar_charge_31 rfl ?_
    have h1 := Option.some.inj hf
    subst h1
    exact W.iret hx hb hr (fun t ht _ => ⟨rfl, ht⟩) (fun _ h => by cases h) d_Grammar_charge_35
def f_Grammar_charge (n : Nat) (μ : Mem) (a1 : Int32) (a2 : Int32) : Option Int32 := (if a1 ≤ (2 : Int32) then (f_Grammar_charge_18 μ n a1) else (if a2 = 0 then (f_Grammar_charge_18 μ n a1) else (some ((μ.1 10 4) * (a1 - (2 : Int32))))))
set_option maxHeartbeats 4000000 in
set_option maxRecDepth 100000 in
theorem w_Grammar_charge {p : Program} {l : Launch} {e : Env} {s : State} {m : MethodId} {args : Array Value} {below : List Frame} {meth : Method} {c : Code} {D : va_G} {g : Nat → ClassId} {ad : Nat → Nat} {dr : Nat → Option Nat} {pl : va_W} {μ : Mem} {r : Int32} {n : Nat} {a1 : Int32} {a2 : Int32} {ls : Array Slot} (X : Cx p s m args meth c b_Grammar_charge 3 R_Grammar (some .int) D CL (TY g)) (hP : va_P D CL (WX g ad dr pl μ) s.heap) (hl : lv_has ls 3 [(0, .ref (ad 10)), (1, .int a1), (2, .int a2)]) (hf : f_Grammar_charge n μ a1 a2 = some r) : WR p l e rm_Grammar_charge s m args below meth c (.int r) (F0 m 0 ls []) := by
  obtain ⟨S, hr, hlk, hK⟩ := id X
  obtain ⟨hx, hb, hml, hown, hts⟩ := id S
  rw [f_Grammar_charge] at hf
  refine lv_iload_n hx hb d_Grammar_charge_0 rfl (lv_at hl 1 rfl) ?_
  refine lv_iconst (v := 2) hx hb d_Grammar_charge_1 (by decide) ?_
  refine lv_icmp_le (tgt := 18) hx hb d_Grammar_charge_2 rfl (fun hc => ?_) (fun hc => ?_)
  · replace hf := br_p hc hf
    exact w_Grammar_charge_18 X hP (lv_sub (l' := [(0, .ref (ad 10)), (1, .int a1)]) hl [0, 1] rfl) hf
  · replace hf := br_n hc hf
    refine lv_iload_n hx hb d_Grammar_charge_5 rfl (lv_at hl 2 rfl) ?_
    refine lv_if_eq (tgt := 18) hx hb d_Grammar_charge_6 rfl (fun hc => ?_) (fun hc => ?_)
    · replace hf := br_p hc hf
      exact w_Grammar_charge_18 X hP (lv_sub (l' := [(0, .ref (ad 10)), (1, .int a1)]) hl [0, 1] rfl) hf
    · replace hf := br_n hc hf
      refine lv_aload_n hx hb d_Grammar_charge_9 rfl (lv_at hl 0 rfl) ?_
      refine xg_10_4 hx hb hts hown hK hP q_80 d_Grammar_charge_10 ?_
      refine lv_iload_n hx hb d_Grammar_charge_13 rfl (lv_at hl 1 rfl) ?_
      refine lv_iconst (v := 2) hx hb d_Grammar_charge_14 (by decide) ?_
      refine lv_isub hx hb d_Grammar_charge_15 ?_
      refine lv_imul hx hb d_Grammar_charge_16 ?_
      have h1 := Option.some.inj hf
      subst h1
      exact W.iret hx hb hr (fun t ht _ => ⟨rfl, ht⟩) (fun _ h => by cases h) d_Grammar_charge_17
theorem c_Grammar_charge {l : Launch} {D : va_G} {g : Nat → ClassId} {ad : Nat → Nat} {dr : Nat → Option Nat} {pl : va_W} {μ : Mem} {r : Int32} {n : Nat} {a1 : Int32} {a2 : Int32} (hf : f_Grammar_charge n μ a1 a2 = some r) : Met l y_Grammar_charge (Cond.code y_Grammar_charge b_Grammar_charge 3 (some .int) :: ww) rm_Grammar_charge (RP D CL (TY g) (WX g ad dr pl μ) [.ref (ad 10), .int a1, .int a2]) (k2_QcV (.int r)) 0 0 (fun _ => False) := by
  refine met_of (by decide) (Nat.le_of_ble_eq_true rfl) ?_
  intro p e s m below meth c ls X hP hl
  have hl : lv_has ls 3 [(0, .ref (ad 10)), (1, .int a1), (2, .int a2)] := hl
  exact w_Grammar_charge X hP hl hf
