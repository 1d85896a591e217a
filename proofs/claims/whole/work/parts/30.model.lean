theorem d_Mo_in_0 : decode b_Mo_in 0 = .ok (.iload_n 0, 1) := by decide +kernel
theorem d_Mo_in_1 : decode b_Mo_in 1 = .ok (.iload_n 1, 1) := by decide +kernel
theorem d_Mo_in_2 : decode b_Mo_in 2 = .ok (.if_icmp .lt 12, 3) := by decide +kernel
theorem d_Mo_in_5 : decode b_Mo_in 5 = .ok (.iload_n 0, 1) := by decide +kernel
theorem d_Mo_in_6 : decode b_Mo_in 6 = .ok (.iload_n 2, 1) := by decide +kernel
theorem d_Mo_in_7 : decode b_Mo_in 7 = .ok (.if_icmp .gt 7, 3) := by decide +kernel
theorem d_Mo_in_10 : decode b_Mo_in 10 = .ok (.iconst 1, 1) := by decide +kernel
theorem d_Mo_in_11 : decode b_Mo_in 11 = .ok (.goto 4, 3) := by decide +kernel
theorem d_Mo_in_14 : decode b_Mo_in 14 = .ok (.iconst 0, 1) := by decide +kernel
theorem d_Mo_in_15 : decode b_Mo_in 15 = .ok (.ireturn, 1) := by decide +kernel
abbrev rm_Mo_in : Room := { frames := 0, cells := 0, slots := 0, locals := 0 }
def f_Mo_in (n : Nat) (a0 : Int32) (a1 : Int32) (a2 : Int32) : Option Bool := (if a0 < a1 then (some false) else (if a2 < a0 then (some false) else (some true)))
set_option maxHeartbeats 4000000 in
set_option maxRecDepth 100000 in
theorem w_Mo_in {p : Program} {l : Launch} {e : Env} {s : State} {m : MethodId} {args : Array Value} {below : List Frame} {meth : Method} {c : Code} {D : va_G} {g : Nat → ClassId} {w : va_W} {r : Bool} {n : Nat} {a0 : Int32} {a1 : Int32} {a2 : Int32} {ls : Array Slot} (X : Cx p s m args meth c b_Mo_in 3 R_Mo (some .boolean) D CL (TY g)) (hP : va_P D CL w s.heap) (hl : lv_has ls 3 [(0, .int a0), (1, .int a1), (2, .int a2)]) (hf : f_Mo_in n a0 a1 a2 = some r) : WR p l e rm_Mo_in s m args below meth c (.int (bz r)) (F0 m 0 ls []) := by
  obtain ⟨S, hr, hlk, hK⟩ := id X
  obtain ⟨hx, hb, hml, hown, hts⟩ := id S
  rw [f_Mo_in] at hf
  refine lv_iload_n hx hb d_Mo_in_0 rfl (lv_at hl 0 rfl) ?_
  refine lv_iload_n hx hb d_Mo_in_1 rfl (lv_at hl 1 rfl) ?_
  refine lv_icmp_lt (tgt := 14) hx hb d_Mo_in_2 rfl (fun hc => ?_) (fun hc => ?_)
  · replace hf := br_p hc hf
    refine lv_iconst (v := 0) hx hb d_Mo_in_14 (by decide) ?_
    have h1 := Option.some.inj hf
    subst h1
    exact W.zret hx hb hr (by first | rfl | exact bz_nar _) (fun t ht _ => ⟨rfl, ht⟩) (fun _ h => by cases h) d_Mo_in_15
  · replace hf := br_n hc hf
    refine lv_iload_n hx hb d_Mo_in_5 rfl (lv_at hl 0 rfl) ?_
    refine lv_iload_n hx hb d_Mo_in_6 rfl (lv_at hl 2 rfl) ?_
    refine lv_icmp_gt (tgt := 14) hx hb d_Mo_in_7 rfl (fun hc => ?_) (fun hc => ?_)
    · replace hf := br_p hc hf
      refine lv_iconst (v := 0) hx hb d_Mo_in_14 (by decide) ?_
      have h1 := Option.some.inj hf
      subst h1
      exact W.zret hx hb hr (by first | rfl | exact bz_nar _) (fun t ht _ => ⟨rfl, ht⟩) (fun _ h => by cases h) d_Mo_in_15
    · replace hf := br_n hc hf
      refine lv_iconst (v := 1) hx hb d_Mo_in_10 (by decide) ?_
      refine lv_goto (tgt := 15) hx hb d_Mo_in_11 rfl ?_
      have h1 := Option.some.inj hf
      subst h1
      exact W.zret hx hb hr (by first | rfl | exact bz_nar _) (fun t ht _ => ⟨rfl, ht⟩) (fun _ h => by cases h) d_Mo_in_15
theorem c_Mo_in {l : Launch} {D : va_G} {g : Nat → ClassId} {w : va_W} {r : Bool} {n : Nat} {a0 : Int32} {a1 : Int32} {a2 : Int32} (hf : f_Mo_in n a0 a1 a2 = some r) : Met l y_Mo_in (Cond.code y_Mo_in b_Mo_in 3 (some .boolean) :: ww) rm_Mo_in (RP D CL (TY g) w [.int a0, .int a1, .int a2]) (k2_QcV (.int (bz r))) 0 0 (fun _ => False) := by
  refine met_of (by decide) (Nat.le_of_ble_eq_true rfl) ?_
  intro p e s m below meth c ls X hP hl
  have hl : lv_has ls 3 [(0, .int a0), (1, .int a1), (2, .int a2)] := hl
  exact w_Mo_in X hP hl hf
theorem d_Mo_type_0 : decode b_Mo_type 0 = .ok (.lload_n 1, 1) := by decide +kernel
theorem d_Mo_type_1 : decode b_Mo_type 1 = .ok (.lconst 0, 1) := by decide +kernel
theorem d_Mo_type_2 : decode b_Mo_type 2 = .ok (.lcmp, 1) := by decide +kernel
theorem d_Mo_type_3 : decode b_Mo_type 3 = .ok (.ifCond .ne 10, 3) := by decide +kernel
theorem d_Mo_type_6 : decode b_Mo_type 6 = .ok (.aload_n 0, 1) := by decide +kernel
theorem d_Mo_type_7 : decode b_Mo_type 7 = .ok (.iconst 0, 1) := by decide +kernel
theorem d_Mo_type_8 : decode b_Mo_type 8 = .ok (.putfield 129, 3) := by decide +kernel
theorem d_Mo_type_11 : decode b_Mo_type 11 = .ok (.iconst 1, 1) := by decide +kernel
theorem d_Mo_type_12 : decode b_Mo_type 12 = .ok (.ireturn, 1) := by decide +kernel
theorem d_Mo_type_13 : decode b_Mo_type 13 = .ok (.iconst 0, 1) := by decide +kernel
theorem d_Mo_type_14 : decode b_Mo_type 14 = .ok (.istore_n 3, 1) := by decide +kernel
theorem d_Mo_type_15 : decode b_Mo_type 15 = .ok (.iload_n 3, 1) := by decide +kernel
theorem d_Mo_type_16 : decode b_Mo_type 16 = .ok (.bipush 8, 2) := by decide +kernel
theorem d_Mo_type_18 : decode b_Mo_type 18 = .ok (.if_icmp .ge 24, 3) := by decide +kernel
theorem d_Mo_type_21 : decode b_Mo_type 21 = .ok (.lload_n 1, 1) := by decide +kernel
theorem d_Mo_type_22 : decode b_Mo_type 22 = .ok (.bipush 8, 2) := by decide +kernel
theorem d_Mo_type_24 : decode b_Mo_type 24 = .ok (.iload_n 3, 1) := by decide +kernel
theorem d_Mo_type_25 : decode b_Mo_type 25 = .ok (.imul, 1) := by decide +kernel
theorem d_Mo_type_26 : decode b_Mo_type 26 = .ok (.lushr, 1) := by decide +kernel
theorem d_Mo_type_27 : decode b_Mo_type 27 = .ok (.ldc2_w 133, 3) := by decide +kernel
theorem d_Mo_type_30 : decode b_Mo_type 30 = .ok (.land, 1) := by decide +kernel
theorem d_Mo_type_31 : decode b_Mo_type 31 = .ok (.lconst 0, 1) := by decide +kernel
theorem d_Mo_type_32 : decode b_Mo_type 32 = .ok (.lcmp, 1) := by decide +kernel
theorem d_Mo_type_33 : decode b_Mo_type 33 = .ok (.ifCond .eq 9, 3) := by decide +kernel
theorem d_Mo_type_36 : decode b_Mo_type 36 = .ok (.iinc 3 1, 3) := by decide +kernel
theorem d_Mo_type_39 : decode b_Mo_type 39 = .ok (.goto (-24), 3) := by decide +kernel
theorem d_Mo_type_42 : decode b_Mo_type 42 = .ok (.iload_n 3, 1) := by decide +kernel
theorem d_Mo_type_43 : decode b_Mo_type 43 = .ok (.ifCond .eq 14, 3) := by decide +kernel
theorem d_Mo_type_46 : decode b_Mo_type 46 = .ok (.aload_n 0, 1) := by decide +kernel
theorem d_Mo_type_47 : decode b_Mo_type 47 = .ok (.getfield 129, 3) := by decide +kernel
theorem d_Mo_type_50 : decode b_Mo_type 50 = .ok (.iload_n 3, 1) := by decide +kernel
theorem d_Mo_type_51 : decode b_Mo_type 51 = .ok (.iadd, 1) := by decide +kernel
theorem d_Mo_type_52 : decode b_Mo_type 52 = .ok (.bipush 24, 2) := by decide +kernel
theorem d_Mo_type_54 : decode b_Mo_type 54 = .ok (.if_icmp .le 5, 3) := by decide +kernel
theorem d_Mo_type_57 : decode b_Mo_type 57 = .ok (.iconst 0, 1) := by decide +kernel
theorem d_Mo_type_58 : decode b_Mo_type 58 = .ok (.ireturn, 1) := by decide +kernel
theorem d_Mo_type_59 : decode b_Mo_type 59 = .ok (.iconst 0, 1) := by decide +kernel
theorem d_Mo_type_60 : decode b_Mo_type 60 = .ok (.istore 4, 2) := by decide +kernel
theorem d_Mo_type_62 : decode b_Mo_type 62 = .ok (.iload 4, 2) := by decide +kernel
theorem d_Mo_type_64 : decode b_Mo_type 64 = .ok (.iload_n 3, 1) := by decide +kernel
theorem d_Mo_type_65 : decode b_Mo_type 65 = .ok (.if_icmp .ge 33, 3) := by decide +kernel
theorem d_Mo_type_68 : decode b_Mo_type 68 = .ok (.aload_n 0, 1) := by decide +kernel
theorem d_Mo_type_69 : decode b_Mo_type 69 = .ok (.getfield 7, 3) := by decide +kernel
theorem d_Mo_type_72 : decode b_Mo_type 72 = .ok (.aload_n 0, 1) := by decide +kernel
theorem d_Mo_type_73 : decode b_Mo_type 73 = .ok (.getfield 129, 3) := by decide +kernel
theorem d_Mo_type_76 : decode b_Mo_type 76 = .ok (.iload 4, 2) := by decide +kernel
theorem d_Mo_type_78 : decode b_Mo_type 78 = .ok (.iadd, 1) := by decide +kernel
theorem d_Mo_type_79 : decode b_Mo_type 79 = .ok (.lload_n 1, 1) := by decide +kernel
theorem d_Mo_type_80 : decode b_Mo_type 80 = .ok (.bipush 8, 2) := by decide +kernel
theorem d_Mo_type_82 : decode b_Mo_type 82 = .ok (.iload 4, 2) := by decide +kernel
theorem d_Mo_type_84 : decode b_Mo_type 84 = .ok (.imul, 1) := by decide +kernel
theorem d_Mo_type_85 : decode b_Mo_type 85 = .ok (.lushr, 1) := by decide +kernel
theorem d_Mo_type_86 : decode b_Mo_type 86 = .ok (.ldc2_w 133, 3) := by decide +kernel
theorem d_Mo_type_89 : decode b_Mo_type 89 = .ok (.land, 1) := by decide +kernel
theorem d_Mo_type_90 : decode b_Mo_type 90 = .ok (.l2i, 1) := by decide +kernel
theorem d_Mo_type_91 : decode b_Mo_type 91 = .ok (.iastore, 1) := by decide +kernel
theorem d_Mo_type_92 : decode b_Mo_type 92 = .ok (.iinc 4 1, 3) := by decide +kernel
theorem d_Mo_type_95 : decode b_Mo_type 95 = .ok (.goto (-33), 3) := by decide +kernel
theorem d_Mo_type_98 : decode b_Mo_type 98 = .ok (.aload_n 0, 1) := by decide +kernel
theorem d_Mo_type_99 : decode b_Mo_type 99 = .ok (.dup, 1) := by decide +kernel
theorem d_Mo_type_100 : decode b_Mo_type 100 = .ok (.getfield 129, 3) := by decide +kernel
theorem d_Mo_type_103 : decode b_Mo_type 103 = .ok (.iload_n 3, 1) := by decide +kernel
theorem d_Mo_type_104 : decode b_Mo_type 104 = .ok (.iadd, 1) := by decide +kernel
theorem d_Mo_type_105 : decode b_Mo_type 105 = .ok (.putfield 129, 3) := by decide +kernel
theorem d_Mo_type_108 : decode b_Mo_type 108 = .ok (.iconst 1, 1) := by decide +kernel
theorem d_Mo_type_109 : decode b_Mo_type 109 = .ok (.ireturn, 1) := by decide +kernel
abbrev rm_Mo_type : Room := { frames := 0, cells := 0, slots := 0, locals := 0 }
def f_Mo_type_62 : Nat → Mem → Int64 → Int32 → Int32 → Option (Bool × Mem)
  | 0, _, _, _, _ => none
  | n + 1, μ, x1, x3, x4 => (if x3 ≤ x4 then (bd (wi μ 0 1 ((μ.1 0 1) + x3)) (fun μ1 => some (true, μ1))) else (gd (inb ((μ.1 0 1) + x4) 24) (bd (wi μ 1 ((μ.1 0 1) + x4).toNatClampNeg (((((x1 : Int64).toUInt64 >>> (((8 : Int32) * x4 : Int32).toInt64.toUInt64 &&& Int64.toUInt64 63)).toInt64) &&& (255 : Int64) : Int64).toInt32)) (fun μ2 => bd (x4 + 1) (fun v3 => (f_Mo_type_62 n) μ2 x1 x3 v3)))))
set_option maxHeartbeats 4000000 in
set_option maxRecDepth 100000 in
theorem w_Mo_type_62 {p : Program} {l : Launch} {e : Env} {s : State} {m : MethodId} {args : Array Value} {below : List Frame} {meth : Method} {c : Code} {D : va_G} {g : Nat → ClassId} {ad : Nat → Nat} {r : Bool} {μ' : Mem} {A : Nat → Prop} (X : Cx p s m args meth c b_Mo_type 5 R_Mo (some .boolean) D CL (TY g)) (hDA : ∀ μ : Mem, va_D A (WM g ad μ)) : ∀ (n : Nat) (μ : Mem) (x1 : Int64) (x3 : Int32) (x4 : Int32) (ls : Array Slot) (H : Heap) (locs : List Loc), va_P D CL (WM g ad μ) H → va_S A s.heap H locs → lv_has ls 5 [(0, .ref (ad 0)), (1, .long x1), (3, .int x3), (4, .int x4)] → f_Mo_type_62 n μ x1 x3 x4 = some (r, μ') → WU p l e rm_Mo_type s m args below meth c H locs D (WM g ad μ') A (some (.int (bz r))) (F0 m 62 ls []) := by
  intro n
  induction n with
  | zero => intro μ x1 x3 x4 ls H locs hP hS hl hf; rw [f_Mo_type_62] at hf; cases hf
  | succ n ih =>
    intro μ x1 x3 x4 ls H locs hP hS hl hf
    obtain ⟨S, hr, hlk, hK⟩ := id X
    obtain ⟨hx, hb, hml, hown, hts⟩ := id S
    rw [f_Mo_type_62] at hf
    refine lv_iload hx hb d_Mo_type_62 (lv_at hl 3 rfl) ?_
    refine lv_iload_n hx hb d_Mo_type_64 rfl (lv_at hl 2 rfl) ?_
    refine lv_icmp_ge (tgt := 98) hx hb d_Mo_type_65 rfl (fun hc => ?_) (fun hc => ?_)
    · replace hf := br_p hc hf
      refine lv_aload_n hx hb d_Mo_type_98 rfl (lv_at hl 0 rfl) ?_
      refine lv_dup hx hb d_Mo_type_99 rfl ?_
      refine mg_0_1 hx hb hts hown hK hP q_819 d_Mo_type_100 ?_
      refine lv_iload_n hx hb d_Mo_type_103 rfl (lv_at hl 2 rfl) ?_
      refine lv_iadd hx hb d_Mo_type_104 ?_
      obtain ⟨μ1, hμ1, hf⟩ := bd_x hf
      refine mp_0_1 hx hb hts hown hK (hDA _) hP hS q_819 d_Mo_type_105 hμ1 (fun H locs hP hS => ?_)
      refine lv_iconst (v := 1) hx hb d_Mo_type_108 (by decide) ?_
      obtain ⟨h1, h2⟩ := Prod.mk.inj (Option.some.inj hf)
      subst h1; subst h2
      exact W.zret hx hb hr (by first | rfl | exact bz_nar _) (fun t ht _ => ⟨rfl, by rw [ht]; exact hP, hS.F ht⟩) hS.2.2 d_Mo_type_109
    · replace hf := br_n hc hf
      refine lv_aload_n hx hb d_Mo_type_68 rfl (lv_at hl 0 rfl) ?_
      refine mg_0_0 hx hb hts hown hK hP q_818 d_Mo_type_69 ?_
      refine lv_aload_n hx hb d_Mo_type_72 rfl (lv_at hl 0 rfl) ?_
      refine mg_0_1 hx hb hts hown hK hP q_819 d_Mo_type_73 ?_
      refine lv_iload hx hb d_Mo_type_76 (lv_at hl 3 rfl) ?_
      refine lv_iadd hx hb d_Mo_type_78 ?_
      refine lv_lload_n hx hb d_Mo_type_79 rfl (lv_at hl 1 rfl) ?_
      refine lv_bipush (v := 8) hx hb d_Mo_type_80 (by decide) ?_
      refine lv_iload hx hb d_Mo_type_82 (lv_at hl 3 rfl) ?_
      refine lv_imul hx hb d_Mo_type_84 ?_
      refine lv_lushr (v := ((x1 : Int64).toUInt64 >>> (((8 : Int32) * x4 : Int32).toInt64.toUInt64 &&& Int64.toUInt64 63)).toInt64) hx hb d_Mo_type_85 rfl ?_
      refine lv_ldc2 (v := 255) hx hb hown (hts _ q_980) d_Mo_type_86 ?_
      refine lv_land hx hb d_Mo_type_89 ?_
      refine lv_l2i (v := ((((x1 : Int64).toUInt64 >>> (((8 : Int32) * x4 : Int32).toInt64.toUInt64 &&& Int64.toUInt64 63)).toInt64) &&& (255 : Int64) : Int64).toInt32) hx hb d_Mo_type_90 rfl ?_
      obtain ⟨hi, hf⟩ := gd_x hf
      obtain ⟨μ2, hμ2, hf⟩ := bd_x hf
      refine ms_1 hx hb hK (hDA _) hP hS (inb_in hi) d_Mo_type_91 hμ2 (fun H locs hP hS => ?_)
      obtain ⟨v3, hv3, hf⟩ := bd_x hf
      refine lv_iinc (lv' := [(4, .int v3), (0, .ref (ad 0)), (1, .long x1), (3, .int x3)]) hx hb d_Mo_type_92 hl (k := 3) rfl (show x4 + Int32.ofInt (1) = v3 from hv3) (Nat.le_of_ble_eq_true rfl) rfl (fun ls hl => ?_)
      refine lv_goto (tgt := 62) hx hb d_Mo_type_95 rfl ?_
      exact ih _ _ _ _ _ _ _ hP hS (lv_sub (l' := [(0, .ref (ad 0)), (1, .long x1), (3, .int x3), (4, .int v3)]) hl [1, 2, 3, 0] rfl) hf
def f_Mo_type_42 (n : Nat) (μ : Mem) (x1 : Int64) (x3 : Int32) : Option (Bool × Mem) := (if x3 = 0 then (some (false, μ)) else (if ((μ.1 0 1) + x3) ≤ (24 : Int32) then (f_Mo_type_62 n μ x1 x3 (0 : Int32)) else (some (false, μ))))
set_option maxHeartbeats 4000000 in
set_option maxRecDepth 100000 in
theorem w_Mo_type_42 {p : Program} {l : Launch} {e : Env} {s : State} {m : MethodId} {args : Array Value} {below : List Frame} {meth : Method} {c : Code} {D : va_G} {g : Nat → ClassId} {ad : Nat → Nat} {r : Bool} {μ' : Mem} {A : Nat → Prop} {n : Nat} {μ : Mem} {x1 : Int64} {x3 : Int32} {ls : Array Slot} {H : Heap} {locs : List Loc} (X : Cx p s m args meth c b_Mo_type 5 R_Mo (some .boolean) D CL (TY g)) (hDA : ∀ μ : Mem, va_D A (WM g ad μ)) (hP : va_P D CL (WM g ad μ) H) (hS : va_S A s.heap H locs) (hl : lv_has ls 5 [(0, .ref (ad 0)), (1, .long x1), (3, .int x3)]) (hf : f_Mo_type_42 n μ x1 x3 = some (r, μ')) : WU p l e rm_Mo_type s m args below meth c H locs D (WM g ad μ') A (some (.int (bz r))) (F0 m 42 ls []) := by
  obtain ⟨S, hr, hlk, hK⟩ := id X
  obtain ⟨hx, hb, hml, hown, hts⟩ := id S
  rw [f_Mo_type_42] at hf
  refine lv_iload_n hx hb d_Mo_type_42 rfl (lv_at hl 2 rfl) ?_
  refine lv_if_eq (tgt := 57) hx hb d_Mo_type_43 rfl (fun hc => ?_) (fun hc => ?_)
  · replace hf := br_p hc hf
    refine lv_iconst (v := 0) hx hb d_Mo_type_57 (by decide) ?_
    obtain ⟨h1, h2⟩ := Prod.mk.inj (Option.some.inj hf)
    subst h1; subst h2
    exact W.zret hx hb hr (by first | rfl | exact bz_nar _) (fun t ht _ => ⟨rfl, by rw [ht]; exact hP, hS.F ht⟩) hS.2.2 d_Mo_type_58
  · replace hf := br_n hc hf
    refine lv_aload_n hx hb d_Mo_type_46 rfl (lv_at hl 0 rfl) ?_
    refine mg_0_1 hx hb hts hown hK hP q_819 d_Mo_type_47 ?_
    refine lv_iload_n hx hb d_Mo_type_50 rfl (lv_at hl 2 rfl) ?_
    refine lv_iadd hx hb d_Mo_type_51 ?_
    refine lv_bipush (v := 24) hx hb d_Mo_type_52 (by decide) ?_
    refine lv_icmp_le (tgt := 59) hx hb d_Mo_type_54 rfl (fun hc => ?_) (fun hc => ?_)
    · replace hf := br_p hc hf
      refine lv_iconst (v := 0) hx hb d_Mo_type_59 (by decide) ?_
      refine lv_istore (lv' := [(4, .int (0 : Int32)), (0, .ref (ad 0)), (1, .long x1), (3, .int x3)]) hx hb d_Mo_type_60 hl (Nat.le_of_ble_eq_true rfl) rfl (fun ls hl => ?_)
      exact w_Mo_type_62 X hDA _ _ _ _ _ _ _ _ hP hS (lv_sub (l' := [(0, .ref (ad 0)), (1, .long x1), (3, .int x3), (4, .int (0 : Int32))]) hl [1, 2, 3, 0] rfl) hf
    · replace hf := br_n hc hf
      refine lv_iconst (v := 0) hx hb d_Mo_type_57 (by decide) ?_
      obtain ⟨h1, h2⟩ := Prod.mk.inj (Option.some.inj hf)
      subst h1; subst h2
      exact W.zret hx hb hr (by first | rfl | exact bz_nar _) (fun t ht _ => ⟨rfl, by rw [ht]; exact hP, hS.F ht⟩) hS.2.2 d_Mo_type_58
def f_Mo_type_15 : Nat → Mem → Int64 → Int32 → Option (Bool × Mem)
  | 0, _, _, _ => none
  | n + 1, μ, x1, x3 => (if (8 : Int32) ≤ x3 then (f_Mo_type_42 n μ x1 x3) else (if (lg_cmp ((((x1 : Int64).toUInt64 >>> (((8 : Int32) * x3 : Int32).toInt64.toUInt64 &&& Int64.toUInt64 63)).toInt64) &&& (255 : Int64)) (0 : Int64)) = 0 then (f_Mo_type_42 n μ x1 x3) else (bd (x3 + 1) (fun v1 => (f_Mo_type_15 n) μ x1 v1))))
set_option maxHeartbeats 4000000 in
set_option maxRecDepth 100000 in
theorem w_Mo_type_15 {p : Program} {l : Launch} {e : Env} {s : State} {m : MethodId} {args : Array Value} {below : List Frame} {meth : Method} {c : Code} {D : va_G} {g : Nat → ClassId} {ad : Nat → Nat} {r : Bool} {μ' : Mem} {A : Nat → Prop} (X : Cx p s m args meth c b_Mo_type 5 R_Mo (some .boolean) D CL (TY g)) (hDA : ∀ μ : Mem, va_D A (WM g ad μ)) : ∀ (n : Nat) (μ : Mem) (x1 : Int64) (x3 : Int32) (ls : Array Slot) (H : Heap) (locs : List Loc), va_P D CL (WM g ad μ) H → va_S A s.heap H locs → lv_has ls 5 [(0, .ref (ad 0)), (1, .long x1), (3, .int x3)] → f_Mo_type_15 n μ x1 x3 = some (r, μ') → WU p l e rm_Mo_type s m args below meth c H locs D (WM g ad μ') A (some (.int (bz r))) (F0 m 15 ls []) := by
  intro n
  induction n with
  | zero => intro μ x1 x3 ls H locs hP hS hl hf; rw [f_Mo_type_15] at hf; cases hf
  | succ n ih =>
    intro μ x1 x3 ls H locs hP hS hl hf
    obtain ⟨S, hr, hlk, hK⟩ := id X
    obtain ⟨hx, hb, hml, hown, hts⟩ := id S
    rw [f_Mo_type_15] at hf
    refine lv_iload_n hx hb d_Mo_type_15 rfl (lv_at hl 2 rfl) ?_
    refine lv_bipush (v := 8) hx hb d_Mo_type_16 (by decide) ?_
    refine lv_icmp_ge (tgt := 42) hx hb d_Mo_type_18 rfl (fun hc => ?_) (fun hc => ?_)
    · replace hf := br_p hc hf
      exact w_Mo_type_42 X hDA hP hS (lv_sub (l' := [(0, .ref (ad 0)), (1, .long x1), (3, .int x3)]) hl [0, 1, 2] rfl) hf
    · replace hf := br_n hc hf
      refine lv_lload_n hx hb d_Mo_type_21 rfl (lv_at hl 1 rfl) ?_
      refine lv_bipush (v := 8) hx hb d_Mo_type_22 (by decide) ?_
      refine lv_iload_n hx hb d_Mo_type_24 rfl (lv_at hl 2 rfl) ?_
      refine lv_imul hx hb d_Mo_type_25 ?_
      refine lv_lushr (v := ((x1 : Int64).toUInt64 >>> (((8 : Int32) * x3 : Int32).toInt64.toUInt64 &&& Int64.toUInt64 63)).toInt64) hx hb d_Mo_type_26 rfl ?_
      refine lv_ldc2 (v := 255) hx hb hown (hts _ q_980) d_Mo_type_27 ?_
      refine lv_land hx hb d_Mo_type_30 ?_
      refine lv_lconst (v := 0) hx hb d_Mo_type_31 (by decide) ?_
      refine W.lcmp hx hb d_Mo_type_32 ?_
      refine lv_if_eq (tgt := 42) hx hb d_Mo_type_33 rfl (fun hc => ?_) (fun hc => ?_)
      · replace hf := br_p hc hf
        exact w_Mo_type_42 X hDA hP hS (lv_sub (l' := [(0, .ref (ad 0)), (1, .long x1), (3, .int x3)]) hl [0, 1, 2] rfl) hf
      · replace hf := br_n hc hf
        obtain ⟨v1, hv1, hf⟩ := bd_x hf
        refine lv_iinc (lv' := [(3, .int v1), (0, .ref (ad 0)), (1, .long x1)]) hx hb d_Mo_type_36 hl (k := 2) rfl (show x3 + Int32.ofInt (1) = v1 from hv1) (Nat.le_of_ble_eq_true rfl) rfl (fun ls hl => ?_)
        refine lv_goto (tgt := 15) hx hb d_Mo_type_39 rfl ?_
        exact ih _ _ _ _ _ _ hP hS (lv_sub (l' := [(0, .ref (ad 0)), (1, .long x1), (3, .int v1)]) hl [1, 2, 0] rfl) hf
def f_Mo_type (n : Nat) (μ : Mem) (a1 : Int64) : Option (Bool × Mem) := (if (lg_cmp a1 (0 : Int64)) = 0 then (bd (wi μ 0 1 (0 : Int32)) (fun μ1 => some (true, μ1))) else (f_Mo_type_15 n μ a1 (0 : Int32)))
set_option maxHeartbeats 4000000 in
set_option maxRecDepth 100000 in
theorem w_Mo_type {p : Program} {l : Launch} {e : Env} {s : State} {m : MethodId} {args : Array Value} {below : List Frame} {meth : Method} {c : Code} {D : va_G} {g : Nat → ClassId} {ad : Nat → Nat} {r : Bool} {μ' : Mem} {A : Nat → Prop} {n : Nat} {μ : Mem} {a1 : Int64} {ls : Array Slot} {H : Heap} {locs : List Loc} (X : Cx p s m args meth c b_Mo_type 5 R_Mo (some .boolean) D CL (TY g)) (hDA : ∀ μ : Mem, va_D A (WM g ad μ)) (hP : va_P D CL (WM g ad μ) H) (hS : va_S A s.heap H locs) (hl : lv_has ls 5 [(0, .ref (ad 0)), (1, .long a1)]) (hf : f_Mo_type n μ a1 = some (r, μ')) : WU p l e rm_Mo_type s m args below meth c H locs D (WM g ad μ') A (some (.int (bz r))) (F0 m 0 ls []) := by
  obtain ⟨S, hr, hlk, hK⟩ := id X
  obtain ⟨hx, hb, hml, hown, hts⟩ := id S
  rw [f_Mo_type] at hf
  refine lv_lload_n hx hb d_Mo_type_0 rfl (lv_at hl 1 rfl) ?_
  refine lv_lconst (v := 0) hx hb d_Mo_type_1 (by decide) ?_
  refine W.lcmp hx hb d_Mo_type_2 ?_
  refine lv_if_ne (tgt := 13) hx hb d_Mo_type_3 rfl (fun hc => ?_) (fun hc => ?_)
  · replace hf := br_n hc hf
    refine lv_iconst (v := 0) hx hb d_Mo_type_13 (by decide) ?_
    refine lv_istore_n (lv' := [(3, .int (0 : Int32)), (0, .ref (ad 0)), (1, .long a1)]) hx hb d_Mo_type_14 rfl hl (Nat.le_of_ble_eq_true rfl) rfl (fun ls hl => ?_)
    exact w_Mo_type_15 X hDA _ _ _ _ _ _ _ hP hS (lv_sub (l' := [(0, .ref (ad 0)), (1, .long a1), (3, .int (0 : Int32))]) hl [1, 2, 0] rfl) hf
  · replace hf := br_p hc hf
    refine lv_aload_n hx hb d_Mo_type_6 rfl (lv_at hl 0 rfl) ?_
    refine lv_iconst (v := 0) hx hb d_Mo_type_7 (by decide) ?_
    obtain ⟨μ1, hμ1, hf⟩ := bd_x hf
    refine mp_0_1 hx hb hts hown hK (hDA _) hP hS q_819 d_Mo_type_8 hμ1 (fun H locs hP hS => ?_)
    refine lv_iconst (v := 1) hx hb d_Mo_type_11 (by decide) ?_
    obtain ⟨h1, h2⟩ := Prod.mk.inj (Option.some.inj hf)
    subst h1; subst h2
    exact W.zret hx hb hr (by first | rfl | exact bz_nar _) (fun t ht _ => ⟨rfl, by rw [ht]; exact hP, hS.F ht⟩) hS.2.2 d_Mo_type_12
theorem c_Mo_type {l : Launch} {D : va_G} {g : Nat → ClassId} {ad : Nat → Nat} {μ : Mem} {r : Bool} {μ' : Mem} {A : Nat → Prop} {n : Nat} {a1 : Int64} (hDA : ∀ μ : Mem, va_D A (WM g ad μ)) (hf : f_Mo_type n μ a1 = some (r, μ')) : Met l y_Mo_type (Cond.code y_Mo_type b_Mo_type 5 (some .boolean) :: ww) rm_Mo_type (RP D CL (TY g) (WM g ad μ) [.ref (ad 0), .long a1]) (QW D CL (WM g ad μ') A (some (.int (bz r)))) 0 0 A := by
  refine met_of (by decide) (Nat.le_of_ble_eq_true rfl) ?_
  intro p e s m below meth c ls X hP hl
  have hl : lv_has ls 5 [(0, .ref (ad 0)), (1, .long a1)] := hl
  exact w_Mo_type X hDA hP va_S.rf hl hf
theorem d_Mo_standsAt_0 : decode b_Mo_standsAt 0 = .ok (.iload_n 2, 1) := by decide +kernel
theorem d_Mo_standsAt_1 : decode b_Mo_standsAt 1 = .ok (.aload_n 0, 1) := by decide +kernel
theorem d_Mo_standsAt_2 : decode b_Mo_standsAt 2 = .ok (.getfield 16, 3) := by decide +kernel
theorem d_Mo_standsAt_5 : decode b_Mo_standsAt 5 = .ok (.iload_n 1, 1) := by decide +kernel
theorem d_Mo_standsAt_6 : decode b_Mo_standsAt 6 = .ok (.iaload, 1) := by decide +kernel
theorem d_Mo_standsAt_7 : decode b_Mo_standsAt 7 = .ok (.iadd, 1) := by decide +kernel
theorem d_Mo_standsAt_8 : decode b_Mo_standsAt 8 = .ok (.aload_n 0, 1) := by decide +kernel
theorem d_Mo_standsAt_9 : decode b_Mo_standsAt 9 = .ok (.getfield 129, 3) := by decide +kernel
theorem d_Mo_standsAt_12 : decode b_Mo_standsAt 12 = .ok (.if_icmp .le 5, 3) := by decide +kernel
theorem d_Mo_standsAt_15 : decode b_Mo_standsAt 15 = .ok (.iconst 0, 1) := by decide +kernel
theorem d_Mo_standsAt_16 : decode b_Mo_standsAt 16 = .ok (.ireturn, 1) := by decide +kernel
theorem d_Mo_standsAt_17 : decode b_Mo_standsAt 17 = .ok (.iconst 0, 1) := by decide +kernel
theorem d_Mo_standsAt_18 : decode b_Mo_standsAt 18 = .ok (.istore_n 3, 1) := by decide +kernel
theorem d_Mo_standsAt_19 : decode b_Mo_standsAt 19 = .ok (.iload_n 3, 1) := by decide +kernel
theorem d_Mo_standsAt_20 : decode b_Mo_standsAt 20 = .ok (.aload_n 0, 1) := by decide +kernel
theorem d_Mo_standsAt_21 : decode b_Mo_standsAt 21 = .ok (.getfield 16, 3) := by decide +kernel
theorem d_Mo_standsAt_24 : decode b_Mo_standsAt 24 = .ok (.iload_n 1, 1) := by decide +kernel
theorem d_Mo_standsAt_25 : decode b_Mo_standsAt 25 = .ok (.iaload, 1) := by decide +kernel
theorem d_Mo_standsAt_26 : decode b_Mo_standsAt 26 = .ok (.if_icmp .ge 33, 3) := by decide +kernel
theorem d_Mo_standsAt_29 : decode b_Mo_standsAt 29 = .ok (.aload_n 0, 1) := by decide +kernel
theorem d_Mo_standsAt_30 : decode b_Mo_standsAt 30 = .ok (.getfield 13, 3) := by decide +kernel
theorem d_Mo_standsAt_33 : decode b_Mo_standsAt 33 = .ok (.bipush 8, 2) := by decide +kernel
theorem d_Mo_standsAt_35 : decode b_Mo_standsAt 35 = .ok (.iload_n 1, 1) := by decide +kernel
theorem d_Mo_standsAt_36 : decode b_Mo_standsAt 36 = .ok (.imul, 1) := by decide +kernel
theorem d_Mo_standsAt_37 : decode b_Mo_standsAt 37 = .ok (.iload_n 3, 1) := by decide +kernel
theorem d_Mo_standsAt_38 : decode b_Mo_standsAt 38 = .ok (.iadd, 1) := by decide +kernel
theorem d_Mo_standsAt_39 : decode b_Mo_standsAt 39 = .ok (.iaload, 1) := by decide +kernel
theorem d_Mo_standsAt_40 : decode b_Mo_standsAt 40 = .ok (.aload_n 0, 1) := by decide +kernel
theorem d_Mo_standsAt_41 : decode b_Mo_standsAt 41 = .ok (.getfield 7, 3) := by decide +kernel
theorem d_Mo_standsAt_44 : decode b_Mo_standsAt 44 = .ok (.iload_n 2, 1) := by decide +kernel
theorem d_Mo_standsAt_45 : decode b_Mo_standsAt 45 = .ok (.iload_n 3, 1) := by decide +kernel
theorem d_Mo_standsAt_46 : decode b_Mo_standsAt 46 = .ok (.iadd, 1) := by decide +kernel
theorem d_Mo_standsAt_47 : decode b_Mo_standsAt 47 = .ok (.iaload, 1) := by decide +kernel
theorem d_Mo_standsAt_48 : decode b_Mo_standsAt 48 = .ok (.if_icmp .eq 5, 3) := by decide +kernel
theorem d_Mo_standsAt_51 : decode b_Mo_standsAt 51 = .ok (.iconst 0, 1) := by decide +kernel
theorem d_Mo_standsAt_52 : decode b_Mo_standsAt 52 = .ok (.ireturn, 1) := by decide +kernel
theorem d_Mo_standsAt_53 : decode b_Mo_standsAt 53 = .ok (.iinc 3 1, 3) := by decide +kernel
theorem d_Mo_standsAt_56 : decode b_Mo_standsAt 56 = .ok (.goto (-37), 3) := by decide +kernel
theorem d_Mo_standsAt_59 : decode b_Mo_standsAt 59 = .ok (.iconst 1, 1) := by decide +kernel
theorem d_Mo_standsAt_60 : decode b_Mo_standsAt 60 = .ok (.ireturn, 1) := by decide +kernel
abbrev rm_Mo_standsAt : Room := { frames := 0, cells := 0, slots := 0, locals := 0 }
def f_Mo_standsAt_19 (μ : Mem) : Nat → Int32 → Int32 → Int32 → Option Bool
  | 0, _, _, _ => none
  | n + 1, x1, x2, x3 => gd (inb x1 40) ((if (μ.1 3 x1.toNatClampNeg) ≤ x3 then (some true) else (gd (inb (((8 : Int32) * x1) + x3) 320) (gd (inb (x2 + x3) 24) ((if (μ.1 2 (((8 : Int32) * x1) + x3).toNatClampNeg) = (μ.1 1 (x2 + x3).toNatClampNeg) then (bd (x3 + 1) (fun v1 => (f_Mo_standsAt_19 μ n) x1 x2 v1)) else (some false)))))))
set_option maxHeartbeats 4000000 in
set_option maxRecDepth 100000 in
theorem w_Mo_standsAt_19 {p : Program} {l : Launch} {e : Env} {s : State} {m : MethodId} {args : Array Value} {below : List Frame} {meth : Method} {c : Code} {D : va_G} {g : Nat → ClassId} {ad : Nat → Nat} {μ : Mem} {r : Bool} (X : Cx p s m args meth c b_Mo_standsAt 4 R_Mo (some .boolean) D CL (TY g)) (hP : va_P D CL (WM g ad μ) s.heap) : ∀ (n : Nat) (x1 : Int32) (x2 : Int32) (x3 : Int32) (ls : Array Slot), lv_has ls 4 [(0, .ref (ad 0)), (1, .int x1), (2, .int x2), (3, .int x3)] → f_Mo_standsAt_19 μ n x1 x2 x3 = some r → WR p l e rm_Mo_standsAt s m args below meth c (.int (bz r)) (F0 m 19 ls []) := by
  intro n
  induction n with
  | zero => intro x1 x2 x3 ls hl hf; rw [f_Mo_standsAt_19] at hf; cases hf
  | succ n ih =>
    intro x1 x2 x3 ls hl hf
    obtain ⟨S, hr, hlk, hK⟩ := id X
    obtain ⟨hx, hb, hml, hown, hts⟩ := id S
    rw [f_Mo_standsAt_19] at hf
    refine lv_iload_n hx hb d_Mo_standsAt_19 rfl (lv_at hl 3 rfl) ?_
    refine lv_aload_n hx hb d_Mo_standsAt_20 rfl (lv_at hl 0 rfl) ?_
    refine mg_0_3 hx hb hts hown hK hP q_821 d_Mo_standsAt_21 ?_
    refine lv_iload_n hx hb d_Mo_standsAt_24 rfl (lv_at hl 1 rfl) ?_
    obtain ⟨hi, hf⟩ := gd_x hf
    refine ml_3 hx hb hK hP (inb_in hi) d_Mo_standsAt_25 ?_
    refine lv_icmp_ge (tgt := 59) hx hb d_Mo_standsAt_26 rfl (fun hc => ?_) (fun hc => ?_)
    · replace hf := br_p hc hf
      refine lv_iconst (v := 1) hx hb d_Mo_standsAt_59 (by decide) ?_
      have h1 := Option.some.inj hf
      subst h1
      exact W.zret hx hb hr (by first | rfl | exact bz_nar _) (fun t ht _ => ⟨rfl, ht⟩) (fun _ h => by cases h) d_Mo_standsAt_60
    · replace hf := br_n hc hf
      refine lv_aload_n hx hb d_Mo_standsAt_29 rfl (lv_at hl 0 rfl) ?_
      refine mg_0_2 hx hb hts hown hK hP q_820 d_Mo_standsAt_30 ?_
      refine lv_bipush (v := 8) hx hb d_Mo_standsAt_33 (by decide) ?_
      refine lv_iload_n hx hb d_Mo_standsAt_35 rfl (lv_at hl 1 rfl) ?_
      refine lv_imul hx hb d_Mo_standsAt_36 ?_
      refine lv_iload_n hx hb d_Mo_standsAt_37 rfl (lv_at hl 3 rfl) ?_
      refine lv_iadd hx hb d_Mo_standsAt_38 ?_
      obtain ⟨hi, hf⟩ := gd_x hf
      refine ml_2 hx hb hK hP (inb_in hi) d_Mo_standsAt_39 ?_
      refine lv_aload_n hx hb d_Mo_standsAt_40 rfl (lv_at hl 0 rfl) ?_
      refine mg_0_0 hx hb hts hown hK hP q_818 d_Mo_standsAt_41 ?_
      refine lv_iload_n hx hb d_Mo_standsAt_44 rfl (lv_at hl 2 rfl) ?_
      refine lv_iload_n hx hb d_Mo_standsAt_45 rfl (lv_at hl 3 rfl) ?_
      refine lv_iadd hx hb d_Mo_standsAt_46 ?_
      obtain ⟨hi, hf⟩ := gd_x hf
      refine ml_1 hx hb hK hP (inb_in hi) d_Mo_standsAt_47 ?_
      refine lv_icmp_eq (tgt := 53) hx hb d_Mo_standsAt_48 rfl (fun hc => ?_) (fun hc => ?_)
      · replace hf := br_p hc hf
        obtain ⟨v1, hv1, hf⟩ := bd_x hf
        refine lv_iinc (lv' := [(3, .int v1), (0, .ref (ad 0)), (1, .int x1), (2, .int x2)]) hx hb d_Mo_standsAt_53 hl (k := 3) rfl (show x3 + Int32.ofInt (1) = v1 from hv1) (Nat.le_of_ble_eq_true rfl) rfl (fun ls hl => ?_)
        refine lv_goto (tgt := 19) hx hb d_Mo_standsAt_56 rfl ?_
        exact ih _ _ _ _ (lv_sub (l' := [(0, .ref (ad 0)), (1, .int x1), (2, .int x2), (3, .int v1)]) hl [1, 2, 3, 0] rfl) hf
      · replace hf := br_n hc hf
        refine lv_iconst (v := 0) hx hb d_Mo_standsAt_51 (by decide) ?_
        have h1 := Option.some.inj hf
        subst h1
        exact W.zret hx hb hr (by first | rfl | exact bz_nar _) (fun t ht _ => ⟨rfl, ht⟩) (fun _ h => by cases h) d_Mo_standsAt_52
def f_Mo_standsAt (n : Nat) (μ : Mem) (a1 : Int32) (a2 : Int32) : Option Bool := gd (inb a1 40) ((if (a2 + (μ.1 3 a1.toNatClampNeg)) ≤ (μ.1 0 1) then (f_Mo_standsAt_19 μ n a1 a2 (0 : Int32)) else (some false)))
set_option maxHeartbeats 4000000 in
set_option maxRecDepth 100000 in
theorem w_Mo_standsAt {p : Program} {l : Launch} {e : Env} {s : State} {m : MethodId} {args : Array Value} {below : List Frame} {meth : Method} {c : Code} {D : va_G} {g : Nat → ClassId} {ad : Nat → Nat} {μ : Mem} {r : Bool} {n : Nat} {a1 : Int32} {a2 : Int32} {ls : Array Slot} (X : Cx p s m args meth c b_Mo_standsAt 4 R_Mo (some .boolean) D CL (TY g)) (hP : va_P D CL (WM g ad μ) s.heap) (hl : lv_has ls 4 [(0, .ref (ad 0)), (1, .int a1), (2, .int a2)]) (hf : f_Mo_standsAt n μ a1 a2 = some r) : WR p l e rm_Mo_standsAt s m args below meth c (.int (bz r)) (F0 m 0 ls []) := by
  obtain ⟨S, hr, hlk, hK⟩ := id X
  obtain ⟨hx, hb, hml, hown, hts⟩ := id S
  rw [f_Mo_standsAt] at hf
  refine lv_iload_n hx hb d_Mo_standsAt_0 rfl (lv_at hl 2 rfl) ?_
  refine lv_aload_n hx hb d_Mo_standsAt_1 rfl (lv_at hl 0 rfl) ?_
  refine mg_0_3 hx hb hts hown hK hP q_821 d_Mo_standsAt_2 ?_
  refine lv_iload_n hx hb d_Mo_standsAt_5 rfl (lv_at hl 1 rfl) ?_
  obtain ⟨hi, hf⟩ := gd_x hf
  refine ml_3 hx hb hK hP (inb_in hi) d_Mo_standsAt_6 ?_
  refine lv_iadd hx hb d_Mo_standsAt_7 ?_
  refine lv_aload_n hx hb d_Mo_standsAt_8 rfl (lv_at hl 0 rfl) ?_
  refine mg_0_1 hx hb hts hown hK hP q_819 d_Mo_standsAt_9 ?_
  refine lv_icmp_le (tgt := 17) hx hb d_Mo_standsAt_12 rfl (fun hc => ?_) (fun hc => ?_)
  · replace hf := br_p hc hf
    refine lv_iconst (v := 0) hx hb d_Mo_standsAt_17 (by decide) ?_
    refine lv_istore_n (lv' := [(3, .int (0 : Int32)), (0, .ref (ad 0)), (1, .int a1), (2, .int a2)]) hx hb d_Mo_standsAt_18 rfl hl (Nat.le_of_ble_eq_true rfl) rfl (fun ls hl => ?_)
    exact w_Mo_standsAt_19 X hP _ _ _ _ _ (lv_sub (l' := [(0, .ref (ad 0)), (1, .int a1), (2, .int a2), (3, .int (0 : Int32))]) hl [1, 2, 3, 0] rfl) hf
  · replace hf := br_n hc hf
    refine lv_iconst (v := 0) hx hb d_Mo_standsAt_15 (by decide) ?_
    have h1 := Option.some.inj hf
    subst h1
    exact W.zret hx hb hr (by first | rfl | exact bz_nar _) (fun t ht _ => ⟨rfl, ht⟩) (fun _ h => by cases h) d_Mo_standsAt_16
theorem c_Mo_standsAt {l : Launch} {D : va_G} {g : Nat → ClassId} {ad : Nat → Nat} {μ : Mem} {r : Bool} {n : Nat} {a1 : Int32} {a2 : Int32} (hf : f_Mo_standsAt n μ a1 a2 = some r) : Met l y_Mo_standsAt (Cond.code y_Mo_standsAt b_Mo_standsAt 4 (some .boolean) :: ww) rm_Mo_standsAt (RP D CL (TY g) (WM g ad μ) [.ref (ad 0), .int a1, .int a2]) (k2_QcV (.int (bz r))) 0 0 (fun _ => False) := by
  refine met_of (by decide) (Nat.le_of_ble_eq_true rfl) ?_
  intro p e s m below meth c ls X hP hl
  have hl : lv_has ls 4 [(0, .ref (ad 0)), (1, .int a1), (2, .int a2)] := hl
  exact w_Mo_standsAt X hP hl hf
theorem d_Mo_sameSurface_0 : decode b_Mo_sameSurface 0 = .ok (.iconst 0, 1) := by decide +kernel
theorem d_Mo_sameSurface_1 : decode b_Mo_sameSurface 1 = .ok (.istore_n 1, 1) := by decide +kernel
theorem d_Mo_sameSurface_2 : decode b_Mo_sameSurface 2 = .ok (.iconst 0, 1) := by decide +kernel
theorem d_Mo_sameSurface_3 : decode b_Mo_sameSurface 3 = .ok (.istore_n 2, 1) := by decide +kernel
theorem d_Mo_sameSurface_4 : decode b_Mo_sameSurface 4 = .ok (.iload_n 2, 1) := by decide +kernel
theorem d_Mo_sameSurface_5 : decode b_Mo_sameSurface 5 = .ok (.aload_n 0, 1) := by decide +kernel
theorem d_Mo_sameSurface_6 : decode b_Mo_sameSurface 6 = .ok (.getfield 135, 3) := by decide +kernel
theorem d_Mo_sameSurface_9 : decode b_Mo_sameSurface 9 = .ok (.if_icmp .ge 34, 3) := by decide +kernel
theorem d_Mo_sameSurface_12 : decode b_Mo_sameSurface 12 = .ok (.aload_n 0, 1) := by decide +kernel
theorem d_Mo_sameSurface_13 : decode b_Mo_sameSurface 13 = .ok (.getfield 16, 3) := by decide +kernel
theorem d_Mo_sameSurface_16 : decode b_Mo_sameSurface 16 = .ok (.iload_n 2, 1) := by decide +kernel
theorem d_Mo_sameSurface_17 : decode b_Mo_sameSurface 17 = .ok (.iaload, 1) := by decide +kernel
theorem d_Mo_sameSurface_18 : decode b_Mo_sameSurface 18 = .ok (.aload_n 0, 1) := by decide +kernel
theorem d_Mo_sameSurface_19 : decode b_Mo_sameSurface 19 = .ok (.getfield 129, 3) := by decide +kernel
theorem d_Mo_sameSurface_22 : decode b_Mo_sameSurface 22 = .ok (.if_icmp .ne 15, 3) := by decide +kernel
theorem d_Mo_sameSurface_25 : decode b_Mo_sameSurface 25 = .ok (.aload_n 0, 1) := by decide +kernel
theorem d_Mo_sameSurface_26 : decode b_Mo_sameSurface 26 = .ok (.iload_n 2, 1) := by decide +kernel
theorem d_Mo_sameSurface_27 : decode b_Mo_sameSurface 27 = .ok (.iconst 0, 1) := by decide +kernel
theorem d_Mo_sameSurface_28 : decode b_Mo_sameSurface 28 = .ok (.invokevirtual 138, 3) := by decide +kernel
theorem d_Mo_sameSurface_31 : decode b_Mo_sameSurface 31 = .ok (.ifCond .eq 6, 3) := by decide +kernel
theorem d_Mo_sameSurface_34 : decode b_Mo_sameSurface 34 = .ok (.iinc 1 1, 3) := by decide +kernel
theorem d_Mo_sameSurface_37 : decode b_Mo_sameSurface 37 = .ok (.iinc 2 1, 3) := by decide +kernel
theorem d_Mo_sameSurface_40 : decode b_Mo_sameSurface 40 = .ok (.goto (-36), 3) := by decide +kernel
theorem d_Mo_sameSurface_43 : decode b_Mo_sameSurface 43 = .ok (.iload_n 1, 1) := by decide +kernel
theorem d_Mo_sameSurface_44 : decode b_Mo_sameSurface 44 = .ok (.ireturn, 1) := by decide +kernel
abbrev rm_Mo_sameSurface : Room := { frames := 1, cells := 0, slots := 0, locals := 23 }
def f_Mo_sameSurface_37 (κ4 : Int32 → Int32 → Option Int32) (μ : Mem) (n : Nat) (x1 : Int32) (x2 : Int32) : Option Int32 := bd (x2 + 1) (fun v1 => κ4 x1 v1)
set_option maxHeartbeats 4000000 in
set_option maxRecDepth 100000 in
theorem w_Mo_sameSurface_37 {p : Program} {l : Launch} {e : Env} {s : State} {m : MethodId} {args : Array Value} {below : List Frame} {meth : Method} {c : Code} {D : va_G} {g : Nat → ClassId} {ad : Nat → Nat} {μ : Mem} {r : Int32} {κ4 : Int32 → Int32 → Option Int32} {n : Nat} {x1 : Int32} {x2 : Int32} {ls : Array Slot} (X : Cx p s m args meth c b_Mo_sameSurface 3 R_Mo (some .int) D CL (TY g)) (hP : va_P D CL (WM g ad μ) s.heap) (hκ4 : ∀ (x1 : Int32) (x2 : Int32) (ls : Array Slot), lv_has ls 3 [(0, .ref (ad 0)), (1, .int x1), (2, .int x2)] → κ4 x1 x2 = some r → WR p l e rm_Mo_sameSurface s m args below meth c (.int r) (F0 m 4 ls [])) (hl : lv_has ls 3 [(0, .ref (ad 0)), (1, .int x1), (2, .int x2)]) (hf : f_Mo_sameSurface_37 κ4 μ n x1 x2 = some r) : WR p l e rm_Mo_sameSurface s m args below meth c (.int r) (F0 m 37 ls []) := by
  obtain ⟨S, hr, hlk, hK⟩ := id X
  obtain ⟨hx, hb, hml, hown, hts⟩ := id S
  rw [f_Mo_sameSurface_37] at hf
  obtain ⟨v1, hv1, hf⟩ := bd_x hf
  refine lv_iinc (lv' := [(2, .int v1), (0, .ref (ad 0)), (1, .int x1)]) hx hb d_Mo_sameSurface_37 hl (k := 2) rfl (show x2 + Int32.ofInt (1) = v1 from hv1) (Nat.le_of_ble_eq_true rfl) rfl (fun ls hl => ?_)
  refine lv_goto (tgt := 4) hx hb d_Mo_sameSurface_40 rfl ?_
  exact hκ4 _ _ _ (lv_sub (l' := [(0, .ref (ad 0)), (1, .int x1), (2, .int v1)]) hl [1, 2, 0] rfl) hf
def f_Mo_sameSurface_4 (μ : Mem) : Nat → Int32 → Int32 → Option Int32
  | 0, _, _ => none
  | n + 1, x1, x2 => (if (μ.1 0 8) ≤ x2 then (some x1) else (gd (inb x2 40) ((if (μ.1 3 x2.toNatClampNeg) = (μ.1 0 1) then (cl (f_Mo_standsAt n μ x2 (0 : Int32)) (fun v1 => (if (bz v1) = 0 then (f_Mo_sameSurface_37 (f_Mo_sameSurface_4 μ n) μ n x1 x2) else (bd (x1 + 1) (fun v2 => f_Mo_sameSurface_37 (f_Mo_sameSurface_4 μ n) μ n v2 x2))))) else (f_Mo_sameSurface_37 (f_Mo_sameSurface_4 μ n) μ n x1 x2)))))
set_option maxHeartbeats 4000000 in
set_option maxRecDepth 100000 in
theorem w_Mo_sameSurface_4 {p : Program} {l : Launch} {e : Env} {s : State} {m : MethodId} {args : Array Value} {below : List Frame} {meth : Method} {c : Code} {D : va_G} {g : Nat → ClassId} {ad : Nat → Nat} {μ : Mem} {r : Int32} (X : Cx p s m args meth c b_Mo_sameSurface 3 R_Mo (some .int) D CL (TY g)) (hP : va_P D CL (WM g ad μ) s.heap) : ∀ (n : Nat) (x1 : Int32) (x2 : Int32) (ls : Array Slot), lv_has ls 3 [(0, .ref (ad 0)), (1, .int x1), (2, .int x2)] → f_Mo_sameSurface_4 μ n x1 x2 = some r → WR p l e rm_Mo_sameSurface s m args below meth c (.int r) (F0 m 4 ls []) := by
  intro n
  induction n with
  | zero => intro x1 x2 ls hl hf; rw [f_Mo_sameSurface_4] at hf; cases hf
  | succ n ih =>
    intro x1 x2 ls hl hf
    obtain ⟨S, hr, hlk, hK⟩ := id X
    obtain ⟨hx, hb, hml, hown, hts⟩ := id S
    rw [f_Mo_sameSurface_4] at hf
    refine lv_iload_n hx hb d_Mo_sameSurface_4 rfl (lv_at hl 2 rfl) ?_
    refine lv_aload_n hx hb d_Mo_sameSurface_5 rfl (lv_at hl 0 rfl) ?_
    refine mg_0_8 hx hb hts hown hK hP q_826 d_Mo_sameSurface_6 ?_
    refine lv_icmp_ge (tgt := 43) hx hb d_Mo_sameSurface_9 rfl (fun hc => ?_) (fun hc => ?_)
    · replace hf := br_p hc hf
      refine lv_iload_n hx hb d_Mo_sameSurface_43 rfl (lv_at hl 1 rfl) ?_
      have h1 := Option.some.inj hf
      subst h1
      exact W.iret hx hb hr (fun t ht _ => ⟨rfl, ht⟩) (fun _ h => by cases h) d_Mo_sameSurface_44
    · replace hf := br_n hc hf
      refine lv_aload_n hx hb d_Mo_sameSurface_12 rfl (lv_at hl 0 rfl) ?_
      refine mg_0_3 hx hb hts hown hK hP q_821 d_Mo_sameSurface_13 ?_
      refine lv_iload_n hx hb d_Mo_sameSurface_16 rfl (lv_at hl 2 rfl) ?_
      obtain ⟨hi, hf⟩ := gd_x hf
      refine ml_3 hx hb hK hP (inb_in hi) d_Mo_sameSurface_17 ?_
      refine lv_aload_n hx hb d_Mo_sameSurface_18 rfl (lv_at hl 0 rfl) ?_
      refine mg_0_1 hx hb hts hown hK hP q_819 d_Mo_sameSurface_19 ?_
      refine lv_icmp_ne (tgt := 37) hx hb d_Mo_sameSurface_22 rfl (fun hc => ?_) (fun hc => ?_)
      · replace hf := br_n hc hf
        exact w_Mo_sameSurface_37 X hP ih (lv_sub (l' := [(0, .ref (ad 0)), (1, .int x1), (2, .int x2)]) hl [0, 1, 2] rfl) hf
      · replace hf := br_p hc hf
        refine lv_aload_n hx hb d_Mo_sameSurface_25 rfl (lv_at hl 0 rfl) ?_
        refine lv_iload_n hx hb d_Mo_sameSurface_26 rfl (lv_at hl 2 rfl) ?_
        refine lv_iconst (v := 0) hx hb d_Mo_sameSurface_27 (by decide) ?_
        obtain ⟨v1, hv1, hf⟩ := cl_x hf
        refine rdV (As := [.int x2, .int (0 : Int32)]) (rest := []) S K_Mo_standsAt q_992 (c_Mo_standsAt hv1) hK hP ⟨rfl, rfl⟩ ⟨Nat.le_of_ble_eq_true rfl, Nat.le_of_ble_eq_true rfl⟩ (mr_0 hK hP) rfl hl.1 rfl (Nat.le_of_ble_eq_true rfl) d_Mo_sameSurface_28 ⟨Nat.le_refl _, Nat.le_refl _⟩ ?_
        refine lv_if_eq (tgt := 37) hx hb d_Mo_sameSurface_31 rfl (fun hc => ?_) (fun hc => ?_)
        · replace hf := br_p hc hf
          exact w_Mo_sameSurface_37 X hP ih (lv_sub (l' := [(0, .ref (ad 0)), (1, .int x1), (2, .int x2)]) hl [0, 1, 2] rfl) hf
        · replace hf := br_n hc hf
          obtain ⟨v2, hv2, hf⟩ := bd_x hf
          refine lv_iinc (lv' := [(1, .int v2), (0, .ref (ad 0)), (2, .int x2)]) hx hb d_Mo_sameSurface_34 hl (k := 1) rfl (show x1 + Int32.ofInt (1) = v2 from hv2) (Nat.le_of_ble_eq_true rfl) rfl (fun ls hl => ?_)
          exact w_Mo_sameSurface_37 X hP ih (lv_sub (l' := [(0, .ref (ad 0)), (1, .int v2), (2, .int x2)]) hl [1, 0, 2] rfl) hf
def f_Mo_sameSurface (n : Nat) (μ : Mem) : Option Int32 := f_Mo_sameSurface_4 μ n (0 : Int32) (0 : Int32)
set_option maxHeartbeats 4000000 in
set_option maxRecDepth 100000 in
theorem w_Mo_sameSurface {p : Program} {l : Launch} {e : Env} {s : State} {m : MethodId} {args : Array Value} {below : List Frame} {meth : Method} {c : Code} {D : va_G} {g : Nat → ClassId} {ad : Nat → Nat} {μ : Mem} {r : Int32} {n : Nat} {ls : Array Slot} (X : Cx p s m args meth c b_Mo_sameSurface 3 R_Mo (some .int) D CL (TY g)) (hP : va_P D CL (WM g ad μ) s.heap) (hl : lv_has ls 3 [(0, .ref (ad 0))]) (hf : f_Mo_sameSurface n μ = some r) : WR p l e rm_Mo_sameSurface s m args below meth c (.int r) (F0 m 0 ls []) := by
  obtain ⟨S, hr, hlk, hK⟩ := id X
  obtain ⟨hx, hb, hml, hown, hts⟩ := id S
  rw [f_Mo_sameSurface] at hf
  refine lv_iconst (v := 0) hx hb d_Mo_sameSurface_0 (by decide) ?_
  refine lv_istore_n (lv' := [(1, .int (0 : Int32)), (0, .ref (ad 0))]) hx hb d_Mo_sameSurface_1 rfl hl (Nat.le_of_ble_eq_true rfl) rfl (fun ls hl => ?_)
  refine lv_iconst (v := 0) hx hb d_Mo_sameSurface_2 (by decide) ?_
  refine lv_istore_n (lv' := [(2, .int (0 : Int32)), (1, .int (0 : Int32)), (0, .ref (ad 0))]) hx hb d_Mo_sameSurface_3 rfl hl (Nat.le_of_ble_eq_true rfl) rfl (fun ls hl => ?_)
  exact w_Mo_sameSurface_4 X hP _ _ _ _ (lv_sub (l' := [(0, .ref (ad 0)), (1, .int (0 : Int32)), (2, .int (0 : Int32))]) hl [2, 1, 0] rfl) hf
theorem c_Mo_sameSurface {l : Launch} {D : va_G} {g : Nat → ClassId} {ad : Nat → Nat} {μ : Mem} {r : Int32} {n : Nat} (hf : f_Mo_sameSurface n μ = some r) : Met l y_Mo_sameSurface (Cond.code y_Mo_sameSurface b_Mo_sameSurface 3 (some .int) :: ww) rm_Mo_sameSurface (RP D CL (TY g) (WM g ad μ) [.ref (ad 0)]) (k2_QcV (.int r)) 0 0 (fun _ => False) := by
  refine met_of (by decide) (Nat.le_of_ble_eq_true rfl) ?_
  intro p e s m below meth c ls X hP hl
  have hl : lv_has ls 3 [(0, .ref (ad 0))] := hl
  exact w_Mo_sameSurface X hP hl hf
theorem d_Mo_word_0 : decode b_Mo_word 0 = .ok (.aload_n 0, 1) := by decide +kernel
theorem d_Mo_word_1 : decode b_Mo_word 1 = .ok (.getfield 129, 3) := by decide +kernel
theorem d_Mo_word_4 : decode b_Mo_word 4 = .ok (.iconst 1, 1) := by decide +kernel
theorem d_Mo_word_5 : decode b_Mo_word 5 = .ok (.bipush 8, 2) := by decide +kernel
theorem d_Mo_word_7 : decode b_Mo_word 7 = .ok (.invokestatic 142, 3) := by decide +kernel
theorem d_Mo_word_10 : decode b_Mo_word 10 = .ok (.ifCond .eq 50, 3) := by decide +kernel
theorem d_Mo_word_13 : decode b_Mo_word 13 = .ok (.iload_n 1, 1) := by decide +kernel
theorem d_Mo_word_14 : decode b_Mo_word 14 = .ok (.iconst 1, 1) := by decide +kernel
theorem d_Mo_word_15 : decode b_Mo_word 15 = .ok (.bipush 7, 2) := by decide +kernel
theorem d_Mo_word_17 : decode b_Mo_word 17 = .ok (.invokestatic 142, 3) := by decide +kernel
theorem d_Mo_word_20 : decode b_Mo_word 20 = .ok (.ifCond .eq 40, 3) := by decide +kernel
theorem d_Mo_word_23 : decode b_Mo_word 23 = .ok (.iload_n 2, 1) := by decide +kernel
theorem d_Mo_word_24 : decode b_Mo_word 24 = .ok (.sipush (-10000), 3) := by decide +kernel
theorem d_Mo_word_27 : decode b_Mo_word 27 = .ok (.sipush 10000, 3) := by decide +kernel
theorem d_Mo_word_30 : decode b_Mo_word 30 = .ok (.invokestatic 142, 3) := by decide +kernel
theorem d_Mo_word_33 : decode b_Mo_word 33 = .ok (.ifCond .eq 27, 3) := by decide +kernel
theorem d_Mo_word_36 : decode b_Mo_word 36 = .ok (.iload 4, 2) := by decide +kernel
theorem d_Mo_word_38 : decode b_Mo_word 38 = .ok (.iconst (-1), 1) := by decide +kernel
theorem d_Mo_word_39 : decode b_Mo_word 39 = .ok (.aload_n 0, 1) := by decide +kernel
theorem d_Mo_word_40 : decode b_Mo_word 40 = .ok (.getfield 135, 3) := by decide +kernel
theorem d_Mo_word_43 : decode b_Mo_word 43 = .ok (.iconst 1, 1) := by decide +kernel
theorem d_Mo_word_44 : decode b_Mo_word 44 = .ok (.isub, 1) := by decide +kernel
theorem d_Mo_word_45 : decode b_Mo_word 45 = .ok (.invokestatic 142, 3) := by decide +kernel
theorem d_Mo_word_48 : decode b_Mo_word 48 = .ok (.ifCond .eq 12, 3) := by decide +kernel
theorem d_Mo_word_51 : decode b_Mo_word 51 = .ok (.aload_n 0, 1) := by decide +kernel
theorem d_Mo_word_52 : decode b_Mo_word 52 = .ok (.getfield 135, 3) := by decide +kernel
theorem d_Mo_word_55 : decode b_Mo_word 55 = .ok (.bipush 40, 2) := by decide +kernel
theorem d_Mo_word_57 : decode b_Mo_word 57 = .ok (.if_icmp .lt 5, 3) := by decide +kernel
theorem d_Mo_word_60 : decode b_Mo_word 60 = .ok (.iconst (-1), 1) := by decide +kernel
theorem d_Mo_word_61 : decode b_Mo_word 61 = .ok (.ireturn, 1) := by decide +kernel
theorem d_Mo_word_62 : decode b_Mo_word 62 = .ok (.iconst 1, 1) := by decide +kernel
theorem d_Mo_word_63 : decode b_Mo_word 63 = .ok (.aload_n 0, 1) := by decide +kernel
theorem d_Mo_word_64 : decode b_Mo_word 64 = .ok (.getfield 129, 3) := by decide +kernel
theorem d_Mo_word_67 : decode b_Mo_word 67 = .ok (.ishl, 1) := by decide +kernel
theorem d_Mo_word_68 : decode b_Mo_word 68 = .ok (.iconst 2, 1) := by decide +kernel
theorem d_Mo_word_69 : decode b_Mo_word 69 = .ok (.isub, 1) := by decide +kernel
theorem d_Mo_word_70 : decode b_Mo_word 70 = .ok (.istore 5, 2) := by decide +kernel
theorem d_Mo_word_72 : decode b_Mo_word 72 = .ok (.iload_n 3, 1) := by decide +kernel
theorem d_Mo_word_73 : decode b_Mo_word 73 = .ok (.iload 5, 2) := by decide +kernel
theorem d_Mo_word_75 : decode b_Mo_word 75 = .ok (.iconst (-1), 1) := by decide +kernel
theorem d_Mo_word_76 : decode b_Mo_word 76 = .ok (.ixor, 1) := by decide +kernel
theorem d_Mo_word_77 : decode b_Mo_word 77 = .ok (.iand, 1) := by decide +kernel
theorem d_Mo_word_78 : decode b_Mo_word 78 = .ok (.ifCond .ne 20, 3) := by decide +kernel
theorem d_Mo_word_81 : decode b_Mo_word 81 = .ok (.iload_n 3, 1) := by decide +kernel
theorem d_Mo_word_82 : decode b_Mo_word 82 = .ok (.ifCond .eq 8, 3) := by decide +kernel
theorem d_Mo_word_85 : decode b_Mo_word 85 = .ok (.iload 4, 2) := by decide +kernel
theorem d_Mo_word_87 : decode b_Mo_word 87 = .ok (.ifCond .ge 11, 3) := by decide +kernel
theorem d_Mo_word_90 : decode b_Mo_word 90 = .ok (.aload_n 0, 1) := by decide +kernel
theorem d_Mo_word_91 : decode b_Mo_word 91 = .ok (.invokevirtual 146, 3) := by decide +kernel
theorem d_Mo_word_94 : decode b_Mo_word 94 = .ok (.iconst 3, 1) := by decide +kernel
theorem d_Mo_word_95 : decode b_Mo_word 95 = .ok (.if_icmp .lt 5, 3) := by decide +kernel
theorem d_Mo_word_98 : decode b_Mo_word 98 = .ok (.iconst (-1), 1) := by decide +kernel
theorem d_Mo_word_99 : decode b_Mo_word 99 = .ok (.ireturn, 1) := by decide +kernel
theorem d_Mo_word_100 : decode b_Mo_word 100 = .ok (.iconst 0, 1) := by decide +kernel
theorem d_Mo_word_101 : decode b_Mo_word 101 = .ok (.istore 6, 2) := by decide +kernel
theorem d_Mo_word_103 : decode b_Mo_word 103 = .ok (.iload 6, 2) := by decide +kernel
theorem d_Mo_word_105 : decode b_Mo_word 105 = .ok (.aload_n 0, 1) := by decide +kernel
theorem d_Mo_word_106 : decode b_Mo_word 106 = .ok (.getfield 129, 3) := by decide +kernel
theorem d_Mo_word_109 : decode b_Mo_word 109 = .ok (.if_icmp .ge 31, 3) := by decide +kernel
theorem d_Mo_word_112 : decode b_Mo_word 112 = .ok (.aload_n 0, 1) := by decide +kernel
theorem d_Mo_word_113 : decode b_Mo_word 113 = .ok (.getfield 13, 3) := by decide +kernel
theorem d_Mo_word_116 : decode b_Mo_word 116 = .ok (.bipush 8, 2) := by decide +kernel
theorem d_Mo_word_118 : decode b_Mo_word 118 = .ok (.aload_n 0, 1) := by decide +kernel
theorem d_Mo_word_119 : decode b_Mo_word 119 = .ok (.getfield 135, 3) := by decide +kernel
theorem d_Mo_word_122 : decode b_Mo_word 122 = .ok (.imul, 1) := by decide +kernel
theorem d_Mo_word_123 : decode b_Mo_word 123 = .ok (.iload 6, 2) := by decide +kernel
theorem d_Mo_word_125 : decode b_Mo_word 125 = .ok (.iadd, 1) := by decide +kernel
theorem d_Mo_word_126 : decode b_Mo_word 126 = .ok (.aload_n 0, 1) := by decide +kernel
theorem d_Mo_word_127 : decode b_Mo_word 127 = .ok (.getfield 7, 3) := by decide +kernel
theorem d_Mo_word_130 : decode b_Mo_word 130 = .ok (.iload 6, 2) := by decide +kernel
theorem d_Mo_word_132 : decode b_Mo_word 132 = .ok (.iaload, 1) := by decide +kernel
theorem d_Mo_word_133 : decode b_Mo_word 133 = .ok (.iastore, 1) := by decide +kernel
theorem d_Mo_word_134 : decode b_Mo_word 134 = .ok (.iinc 6 1, 3) := by decide +kernel
theorem d_Mo_word_137 : decode b_Mo_word 137 = .ok (.goto (-34), 3) := by decide +kernel
theorem d_Mo_word_140 : decode b_Mo_word 140 = .ok (.aload_n 0, 1) := by decide +kernel
theorem d_Mo_word_141 : decode b_Mo_word 141 = .ok (.getfield 16, 3) := by decide +kernel
theorem d_Mo_word_144 : decode b_Mo_word 144 = .ok (.aload_n 0, 1) := by decide +kernel
theorem d_Mo_word_145 : decode b_Mo_word 145 = .ok (.getfield 135, 3) := by decide +kernel
theorem d_Mo_word_148 : decode b_Mo_word 148 = .ok (.aload_n 0, 1) := by decide +kernel
theorem d_Mo_word_149 : decode b_Mo_word 149 = .ok (.getfield 129, 3) := by decide +kernel
theorem d_Mo_word_152 : decode b_Mo_word 152 = .ok (.iastore, 1) := by decide +kernel
theorem d_Mo_word_153 : decode b_Mo_word 153 = .ok (.aload_n 0, 1) := by decide +kernel
theorem d_Mo_word_154 : decode b_Mo_word 154 = .ok (.getfield 19, 3) := by decide +kernel
theorem d_Mo_word_157 : decode b_Mo_word 157 = .ok (.aload_n 0, 1) := by decide +kernel
theorem d_Mo_word_158 : decode b_Mo_word 158 = .ok (.getfield 135, 3) := by decide +kernel
theorem d_Mo_word_161 : decode b_Mo_word 161 = .ok (.iload_n 1, 1) := by decide +kernel
theorem d_Mo_word_162 : decode b_Mo_word 162 = .ok (.iastore, 1) := by decide +kernel
theorem d_Mo_word_163 : decode b_Mo_word 163 = .ok (.aload_n 0, 1) := by decide +kernel
theorem d_Mo_word_164 : decode b_Mo_word 164 = .ok (.getfield 22, 3) := by decide +kernel
theorem d_Mo_word_167 : decode b_Mo_word 167 = .ok (.aload_n 0, 1) := by decide +kernel
theorem d_Mo_word_168 : decode b_Mo_word 168 = .ok (.getfield 135, 3) := by decide +kernel
theorem d_Mo_word_171 : decode b_Mo_word 171 = .ok (.iload_n 2, 1) := by decide +kernel
theorem d_Mo_word_172 : decode b_Mo_word 172 = .ok (.iastore, 1) := by decide +kernel
theorem d_Mo_word_173 : decode b_Mo_word 173 = .ok (.aload_n 0, 1) := by decide +kernel
theorem d_Mo_word_174 : decode b_Mo_word 174 = .ok (.getfield 25, 3) := by decide +kernel
theorem d_Mo_word_177 : decode b_Mo_word 177 = .ok (.aload_n 0, 1) := by decide +kernel
theorem d_Mo_word_178 : decode b_Mo_word 178 = .ok (.getfield 135, 3) := by decide +kernel
theorem d_Mo_word_181 : decode b_Mo_word 181 = .ok (.iload_n 3, 1) := by decide +kernel
theorem d_Mo_word_182 : decode b_Mo_word 182 = .ok (.iastore, 1) := by decide +kernel
theorem d_Mo_word_183 : decode b_Mo_word 183 = .ok (.aload_n 0, 1) := by decide +kernel
theorem d_Mo_word_184 : decode b_Mo_word 184 = .ok (.getfield 28, 3) := by decide +kernel
theorem d_Mo_word_187 : decode b_Mo_word 187 = .ok (.aload_n 0, 1) := by decide +kernel
theorem d_Mo_word_188 : decode b_Mo_word 188 = .ok (.getfield 135, 3) := by decide +kernel
theorem d_Mo_word_191 : decode b_Mo_word 191 = .ok (.iload 4, 2) := by decide +kernel
theorem d_Mo_word_193 : decode b_Mo_word 193 = .ok (.iastore, 1) := by decide +kernel
theorem d_Mo_word_194 : decode b_Mo_word 194 = .ok (.aload_n 0, 1) := by decide +kernel
theorem d_Mo_word_195 : decode b_Mo_word 195 = .ok (.dup, 1) := by decide +kernel
theorem d_Mo_word_196 : decode b_Mo_word 196 = .ok (.getfield 135, 3) := by decide +kernel
theorem d_Mo_word_199 : decode b_Mo_word 199 = .ok (.iconst 1, 1) := by decide +kernel
theorem d_Mo_word_200 : decode b_Mo_word 200 = .ok (.iadd, 1) := by decide +kernel
theorem d_Mo_word_201 : decode b_Mo_word 201 = .ok (.putfield 135, 3) := by decide +kernel
theorem d_Mo_word_204 : decode b_Mo_word 204 = .ok (.aload_n 0, 1) := by decide +kernel
theorem d_Mo_word_205 : decode b_Mo_word 205 = .ok (.getfield 135, 3) := by decide +kernel
theorem d_Mo_word_208 : decode b_Mo_word 208 = .ok (.iconst 1, 1) := by decide +kernel
theorem d_Mo_word_209 : decode b_Mo_word 209 = .ok (.isub, 1) := by decide +kernel
theorem d_Mo_word_210 : decode b_Mo_word 210 = .ok (.ireturn, 1) := by decide +kernel
abbrev rm_Mo_word : Room := { frames := 2, cells := 0, slots := 0, locals := 45 }
def f_Mo_word_103 : Nat → Mem → Int32 → Int32 → Int32 → Int32 → Int32 → Option (Int32 × Mem)
  | 0, _, _, _, _, _, _ => none
  | n + 1, μ, x1, x2, x3, x4, x6 => (if (μ.1 0 1) ≤ x6 then (gd (inb (μ.1 0 8) 40) (bd (wi μ 3 (μ.1 0 8).toNatClampNeg (μ.1 0 1)) (fun μ1 => gd (inb (μ1.1 0 8) 40) (bd (wi μ1 4 (μ1.1 0 8).toNatClampNeg x1) (fun μ2 => gd (inb (μ2.1 0 8) 40) (bd (wi μ2 5 (μ2.1 0 8).toNatClampNeg x2) (fun μ3 => gd (inb (μ3.1 0 8) 40) (bd (wi μ3 6 (μ3.1 0 8).toNatClampNeg x3) (fun μ4 => gd (inb (μ4.1 0 8) 40) (bd (wi μ4 7 (μ4.1 0 8).toNatClampNeg x4) (fun μ5 => bd (wi μ5 0 8 ((μ5.1 0 8) + (1 : Int32))) (fun μ6 => some ((μ6.1 0 8) - (1 : Int32), μ6))))))))))))) else (gd (inb x6 24) (gd (inb (((8 : Int32) * (μ.1 0 8)) + x6) 320) (bd (wi μ 2 (((8 : Int32) * (μ.1 0 8)) + x6).toNatClampNeg (μ.1 1 x6.toNatClampNeg)) (fun μ7 => bd (x6 + 1) (fun v8 => (f_Mo_word_103 n) μ7 x1 x2 x3 x4 v8))))))
set_option maxHeartbeats 4000000 in
set_option maxRecDepth 100000 in
theorem w_Mo_word_103 {p : Program} {l : Launch} {e : Env} {s : State} {m : MethodId} {args : Array Value} {below : List Frame} {meth : Method} {c : Code} {D : va_G} {g : Nat → ClassId} {ad : Nat → Nat} {r : Int32} {μ' : Mem} {A : Nat → Prop} (X : Cx p s m args meth c b_Mo_word 7 R_Mo (some .int) D CL (TY g)) (hDA : ∀ μ : Mem, va_D A (WM g ad μ)) : ∀ (n : Nat) (μ : Mem) (x1 : Int32) (x2 : Int32) (x3 : Int32) (x4 : Int32) (x6 : Int32) (ls : Array Slot) (H : Heap) (locs : List Loc), va_P D CL (WM g ad μ) H → va_S A s.heap H locs → lv_has ls 7 [(0, .ref (ad 0)), (1, .int x1), (2, .int x2), (3, .int x3), (4, .int x4), (6, .int x6)] → f_Mo_word_103 n μ x1 x2 x3 x4 x6 = some (r, μ') → WU p l e rm_Mo_word s m args below meth c H locs D (WM g ad μ') A (some (.int r)) (F0 m 103 ls []) := by
  intro n
  induction n with
  | zero => intro μ x1 x2 x3 x4 x6 ls H locs hP hS hl hf; rw [f_Mo_word_103] at hf; cases hf
  | succ n ih =>
    intro μ x1 x2 x3 x4 x6 ls H locs hP hS hl hf
    obtain ⟨S, hr, hlk, hK⟩ := id X
    obtain ⟨hx, hb, hml, hown, hts⟩ := id S
    rw [f_Mo_word_103] at hf
    refine lv_iload hx hb d_Mo_word_103 (lv_at hl 5 rfl) ?_
    refine lv_aload_n hx hb d_Mo_word_105 rfl (lv_at hl 0 rfl) ?_
    refine mg_0_1 hx hb hts hown hK hP q_819 d_Mo_word_106 ?_
    refine lv_icmp_ge (tgt := 140) hx hb d_Mo_word_109 rfl (fun hc => ?_) (fun hc => ?_)
    · replace hf := br_p hc hf
      refine lv_aload_n hx hb d_Mo_word_140 rfl (lv_at hl 0 rfl) ?_
      refine mg_0_3 hx hb hts hown hK hP q_821 d_Mo_word_141 ?_
      refine lv_aload_n hx hb d_Mo_word_144 rfl (lv_at hl 0 rfl) ?_
      refine mg_0_8 hx hb hts hown hK hP q_826 d_Mo_word_145 ?_
      refine lv_aload_n hx hb d_Mo_word_148 rfl (lv_at hl 0 rfl) ?_
      refine mg_0_1 hx hb hts hown hK hP q_819 d_Mo_word_149 ?_
      obtain ⟨hi, hf⟩ := gd_x hf
      obtain ⟨μ1, hμ1, hf⟩ := bd_x hf
      refine ms_3 hx hb hK (hDA _) hP hS (inb_in hi) d_Mo_word_152 hμ1 (fun H locs hP hS => ?_)
      refine lv_aload_n hx hb d_Mo_word_153 rfl (lv_at hl 0 rfl) ?_
      refine mg_0_4 hx hb hts hown hK hP q_822 d_Mo_word_154 ?_
      refine lv_aload_n hx hb d_Mo_word_157 rfl (lv_at hl 0 rfl) ?_
      refine mg_0_8 hx hb hts hown hK hP q_826 d_Mo_word_158 ?_
      refine lv_iload_n hx hb d_Mo_word_161 rfl (lv_at hl 1 rfl) ?_
      obtain ⟨hi, hf⟩ := gd_x hf
      obtain ⟨μ2, hμ2, hf⟩ := bd_x hf
      refine ms_4 hx hb hK (hDA _) hP hS (inb_in hi) d_Mo_word_162 hμ2 (fun H locs hP hS => ?_)
      refine lv_aload_n hx hb d_Mo_word_163 rfl (lv_at hl 0 rfl) ?_
      refine mg_0_5 hx hb hts hown hK hP q_823 d_Mo_word_164 ?_
      refine lv_aload_n hx hb d_Mo_word_167 rfl (lv_at hl 0 rfl) ?_
      refine mg_0_8 hx hb hts hown hK hP q_826 d_Mo_word_168 ?_
      refine lv_iload_n hx hb d_Mo_word_171 rfl (lv_at hl 2 rfl) ?_
      obtain ⟨hi, hf⟩ := gd_x hf
      obtain ⟨μ3, hμ3, hf⟩ := bd_x hf
      refine ms_5 hx hb hK (hDA _) hP hS (inb_in hi) d_Mo_word_172 hμ3 (fun H locs hP hS => ?_)
      refine lv_aload_n hx hb d_Mo_word_173 rfl (lv_at hl 0 rfl) ?_
      refine mg_0_6 hx hb hts hown hK hP q_824 d_Mo_word_174 ?_
      refine lv_aload_n hx hb d_Mo_word_177 rfl (lv_at hl 0 rfl) ?_
      refine mg_0_8 hx hb hts hown hK hP q_826 d_Mo_word_178 ?_
      refine lv_iload_n hx hb d_Mo_word_181 rfl (lv_at hl 3 rfl) ?_
      obtain ⟨hi, hf⟩ := gd_x hf
      obtain ⟨μ4, hμ4, hf⟩ := bd_x hf
      refine ms_6 hx hb hK (hDA _) hP hS (inb_in hi) d_Mo_word_182 hμ4 (fun H locs hP hS => ?_)
      refine lv_aload_n hx hb d_Mo_word_183 rfl (lv_at hl 0 rfl) ?_
      refine mg_0_7 hx hb hts hown hK hP q_825 d_Mo_word_184 ?_
      refine lv_aload_n hx hb d_Mo_word_187 rfl (lv_at hl 0 rfl) ?_
      refine mg_0_8 hx hb hts hown hK hP q_826 d_Mo_word_188 ?_
      refine lv_iload hx hb d_Mo_word_191 (lv_at hl 4 rfl) ?_
      obtain ⟨hi, hf⟩ := gd_x hf
      obtain ⟨μ5, hμ5, hf⟩ := bd_x hf
      refine ms_7 hx hb hK (hDA _) hP hS (inb_in hi) d_Mo_word_193 hμ5 (fun H locs hP hS => ?_)
      refine lv_aload_n hx hb d_Mo_word_194 rfl (lv_at hl 0 rfl) ?_
      refine lv_dup hx hb d_Mo_word_195 rfl ?_
      refine mg_0_8 hx hb hts hown hK hP q_826 d_Mo_word_196 ?_
      refine lv_iconst (v := 1) hx hb d_Mo_word_199 (by decide) ?_
      refine lv_iadd hx hb d_Mo_word_200 ?_
      obtain ⟨μ6, hμ6, hf⟩ := bd_x hf
      refine mp_0_8 hx hb hts hown hK (hDA _) hP hS q_826 d_Mo_word_201 hμ6 (fun H locs hP hS => ?_)
      refine lv_aload_n hx hb d_Mo_word_204 rfl (lv_at hl 0 rfl) ?_
      refine mg_0_8 hx hb hts hown hK hP q_826 d_Mo_word_205 ?_
      refine lv_iconst (v := 1) hx hb d_Mo_word_208 (by decide) ?_
      refine lv_isub hx hb d_Mo_word_209 ?_
      obtain ⟨h1, h2⟩ := Prod.mk.inj (Option.some.inj hf)
      subst h1; subst h2
      exact W.iret hx hb hr (fun t ht _ => ⟨rfl, by rw [ht]; exact hP, hS.F ht⟩) hS.2.2 d_Mo_word_210
    · replace hf := br_n hc hf
      refine lv_aload_n hx hb d_Mo_word_112 rfl (lv_at hl 0 rfl) ?_
      refine mg_0_2 hx hb hts hown hK hP q_820 d_Mo_word_113 ?_
      refine lv_bipush (v := 8) hx hb d_Mo_word_116 (by decide) ?_
      refine lv_aload_n hx hb d_Mo_word_118 rfl (lv_at hl 0 rfl) ?_
      refine mg_0_8 hx hb hts hown hK hP q_826 d_Mo_word_119 ?_
      refine lv_imul hx hb d_Mo_word_122 ?_
      refine lv_iload hx hb d_Mo_word_123 (lv_at hl 5 rfl) ?_
      refine lv_iadd hx hb d_Mo_word_125 ?_
      refine lv_aload_n hx hb d_Mo_word_126 rfl (lv_at hl 0 rfl) ?_
      refine mg_0_0 hx hb hts hown hK hP q_818 d_Mo_word_127 ?_
      refine lv_iload hx hb d_Mo_word_130 (lv_at hl 5 rfl) ?_
      obtain ⟨hi, hf⟩ := gd_x hf
      refine ml_1 hx hb hK hP (inb_in hi) d_Mo_word_132 ?_
      obtain ⟨hi, hf⟩ := gd_x hf
      obtain ⟨μ7, hμ7, hf⟩ := bd_x hf
      refine ms_2 hx hb hK (hDA _) hP hS (inb_in hi) d_Mo_word_133 hμ7 (fun H locs hP hS => ?_)
      obtain ⟨v8, hv8, hf⟩ := bd_x hf
      refine lv_iinc (lv' := [(6, .int v8), (0, .ref (ad 0)), (1, .int x1), (2, .int x2), (3, .int x3), (4, .int x4)]) hx hb d_Mo_word_134 hl (k := 5) rfl (show x6 + Int32.ofInt (1) = v8 from hv8) (Nat.le_of_ble_eq_true rfl) rfl (fun ls hl => ?_)
      refine lv_goto (tgt := 103) hx hb d_Mo_word_137 rfl ?_
      exact ih _ _ _ _ _ _ _ _ _ hP hS (lv_sub (l' := [(0, .ref (ad 0)), (1, .int x1), (2, .int x2), (3, .int x3), (4, .int x4), (6, .int v8)]) hl [1, 2, 3, 4, 5, 0] rfl) hf
def f_Mo_word_90 (n : Nat) (μ : Mem) (x1 : Int32) (x2 : Int32) (x3 : Int32) (x4 : Int32) : Option (Int32 × Mem) := cl (f_Mo_sameSurface n μ) (fun v1 => (if v1 < (3 : Int32) then (f_Mo_word_103 n μ x1 x2 x3 x4 (0 : Int32)) else (some ((-1 : Int32), μ))))
set_option maxHeartbeats 4000000 in
set_option maxRecDepth 100000 in
theorem w_Mo_word_90 {p : Program} {l : Launch} {e : Env} {s : State} {m : MethodId} {args : Array Value} {below : List Frame} {meth : Method} {c : Code} {D : va_G} {g : Nat → ClassId} {ad : Nat → Nat} {r : Int32} {μ' : Mem} {A : Nat → Prop} {n : Nat} {μ : Mem} {x1 : Int32} {x2 : Int32} {x3 : Int32} {x4 : Int32} {ls : Array Slot} {H : Heap} {locs : List Loc} (X : Cx p s m args meth c b_Mo_word 7 R_Mo (some .int) D CL (TY g)) (hDA : ∀ μ : Mem, va_D A (WM g ad μ)) (hP : va_P D CL (WM g ad μ) H) (hS : va_S A s.heap H locs) (hl : lv_has ls 7 [(0, .ref (ad 0)), (1, .int x1), (2, .int x2), (3, .int x3), (4, .int x4)]) (hf : f_Mo_word_90 n μ x1 x2 x3 x4 = some (r, μ')) : WU p l e rm_Mo_word s m args below meth c H locs D (WM g ad μ') A (some (.int r)) (F0 m 90 ls []) := by
  obtain ⟨S, hr, hlk, hK⟩ := id X
  obtain ⟨hx, hb, hml, hown, hts⟩ := id S
  rw [f_Mo_word_90] at hf
  refine lv_aload_n hx hb d_Mo_word_90 rfl (lv_at hl 0 rfl) ?_
  obtain ⟨v1, hv1, hf⟩ := cl_x hf
  refine rdV (As := []) (rest := []) S K_Mo_sameSurface q_988 (c_Mo_sameSurface hv1) hK hP ⟨rfl, rfl⟩ ⟨Nat.le_of_ble_eq_true rfl, Nat.le_of_ble_eq_true rfl⟩ (mr_0 hK hP) rfl hl.1 rfl (Nat.le_of_ble_eq_true rfl) d_Mo_word_91 ⟨Nat.le_refl _, Nat.le_refl _⟩ ?_
  refine lv_iconst (v := 3) hx hb d_Mo_word_94 (by decide) ?_
  refine lv_icmp_lt (tgt := 100) hx hb d_Mo_word_95 rfl (fun hc => ?_) (fun hc => ?_)
  · replace hf := br_p hc hf
    refine lv_iconst (v := 0) hx hb d_Mo_word_100 (by decide) ?_
    refine lv_istore (lv' := [(6, .int (0 : Int32)), (0, .ref (ad 0)), (1, .int x1), (2, .int x2), (3, .int x3), (4, .int x4)]) hx hb d_Mo_word_101 hl (Nat.le_of_ble_eq_true rfl) rfl (fun ls hl => ?_)
    exact w_Mo_word_103 X hDA _ _ _ _ _ _ _ _ _ _ hP hS (lv_sub (l' := [(0, .ref (ad 0)), (1, .int x1), (2, .int x2), (3, .int x3), (4, .int x4), (6, .int (0 : Int32))]) hl [1, 2, 3, 4, 5, 0] rfl) hf
  · replace hf := br_n hc hf
    refine lv_iconst (v := -1) hx hb d_Mo_word_98 (by decide) ?_
    obtain ⟨h1, h2⟩ := Prod.mk.inj (Option.some.inj hf)
    subst h1; subst h2
    exact W.iret hx hb hr (fun t ht _ => ⟨rfl, by rw [ht]; exact hP, hS.F ht⟩) hS.2.2 d_Mo_word_99
def f_Mo_word (n : Nat) (μ : Mem) (a1 : Int32) (a2 : Int32) (a3 : Int32) (a4 : Int32) : Option (Int32 × Mem) := cl (f_Mo_in n (μ.1 0 1) (1 : Int32) (8 : Int32)) (fun v1 => (if (bz v1) = 0 then (some ((-1 : Int32), μ)) else (cl (f_Mo_in n a1 (1 : Int32) (7 : Int32)) (fun v2 => (if (bz v2) = 0 then (some ((-1 : Int32), μ)) else (cl (f_Mo_in n a2 (-10000 : Int32) (10000 : Int32)) (fun v3 => (if (bz v3) = 0 then (some ((-1 : Int32), μ)) else (cl (f_Mo_in n a4 (-1 : Int32) ((μ.1 0 8) - (1 : Int32))) (fun v4 => (if (bz v4) = 0 then (some ((-1 : Int32), μ)) else (if (μ.1 0 8) < (40 : Int32) then (bd (((1 : Int32) <<< ((μ.1 0 1) &&& 31)) - (2 : Int32)) (fun v5 => (if (a3 &&& (v5 ^^^ (-1 : Int32))) = 0 then (if a3 = 0 then (f_Mo_word_90 n μ a1 a2 a3 a4) else (if 0 ≤ a4 then (some ((-1 : Int32), μ)) else (f_Mo_word_90 n μ a1 a2 a3 a4))) else (some ((-1 : Int32), μ))))) else (some ((-1 : Int32), μ))))))))))))))
set_option maxHeartbeats 4000000 in
set_option maxRecDepth 100000 in
theorem w_Mo_word {p : Program} {l : Launch} {e : Env} {s : State} {m : MethodId} {args : Array Value} {below : List Frame} {meth : Method} {c : Code} {D : va_G} {g : Nat → ClassId} {ad : Nat → Nat} {r : Int32} {μ' : Mem} {A : Nat → Prop} {n : Nat} {μ : Mem} {a1 : Int32} {a2 : Int32} {a3 : Int32} {a4 : Int32} {ls : Array Slot} {H : Heap} {locs : List Loc} (X : Cx p s m args meth c b_Mo_word 7 R_Mo (some .int) D CL (TY g)) (hDA : ∀ μ : Mem, va_D A (WM g ad μ)) (hP : va_P D CL (WM g ad μ) H) (hS : va_S A s.heap H locs) (hl : lv_has ls 7 [(0, .ref (ad 0)), (1, .int a1), (2, .int a2), (3, .int a3), (4, .int a4)]) (hf : f_Mo_word n μ a1 a2 a3 a4 = some (r, μ')) : WU p l e rm_Mo_word s m args below meth c H locs D (WM g ad μ') A (some (.int r)) (F0 m 0 ls []) := by
  obtain ⟨S, hr, hlk, hK⟩ := id X
  obtain ⟨hx, hb, hml, hown, hts⟩ := id S
  rw [f_Mo_word] at hf
  refine lv_aload_n hx hb d_Mo_word_0 rfl (lv_at hl 0 rfl) ?_
  refine mg_0_1 hx hb hts hown hK hP q_819 d_Mo_word_1 ?_
  refine lv_iconst (v := 1) hx hb d_Mo_word_4 (by decide) ?_
  refine lv_bipush (v := 8) hx hb d_Mo_word_5 (by decide) ?_
  obtain ⟨v1, hv1, hf⟩ := cl_x hf
  refine rdS (As := [.int (μ.1 0 1), .int (1 : Int32), .int (8 : Int32)]) (rest := []) S K_Mo_in q_985 (c_Mo_in (w := (WM g ad μ)) hv1) hK hP ⟨rfl, rfl⟩ ⟨Nat.le_of_ble_eq_true rfl, Nat.le_of_ble_eq_true rfl⟩ rfl hl.1 rfl (Nat.le_of_ble_eq_true rfl) d_Mo_word_7 ⟨Nat.le_refl _, Nat.le_refl _⟩ ?_
  refine lv_if_eq (tgt := 60) hx hb d_Mo_word_10 rfl (fun hc => ?_) (fun hc => ?_)
  · replace hf := br_p hc hf
    refine lv_iconst (v := -1) hx hb d_Mo_word_60 (by decide) ?_
    obtain ⟨h1, h2⟩ := Prod.mk.inj (Option.some.inj hf)
    subst h1; subst h2
    exact W.iret hx hb hr (fun t ht _ => ⟨rfl, by rw [ht]; exact hP, hS.F ht⟩) hS.2.2 d_Mo_word_61
  · replace hf := br_n hc hf
    refine lv_iload_n hx hb d_Mo_word_13 rfl (lv_at hl 1 rfl) ?_
    refine lv_iconst (v := 1) hx hb d_Mo_word_14 (by decide) ?_
    refine lv_bipush (v := 7) hx hb d_Mo_word_15 (by decide) ?_
    obtain ⟨v2, hv2, hf⟩ := cl_x hf
    refine rdS (As := [.int a1, .int (1 : Int32), .int (7 : Int32)]) (rest := []) S K_Mo_in q_985 (c_Mo_in (w := (WM g ad μ)) hv2) hK hP ⟨rfl, rfl⟩ ⟨Nat.le_of_ble_eq_true rfl, Nat.le_of_ble_eq_true rfl⟩ rfl hl.1 rfl (Nat.le_of_ble_eq_true rfl) d_Mo_word_17 ⟨Nat.le_refl _, Nat.le_refl _⟩ ?_
    refine lv_if_eq (tgt := 60) hx hb d_Mo_word_20 rfl (fun hc => ?_) (fun hc => ?_)
    · replace hf := br_p hc hf
      refine lv_iconst (v := -1) hx hb d_Mo_word_60 (by decide) ?_
      obtain ⟨h1, h2⟩ := Prod.mk.inj (Option.some.inj hf)
      subst h1; subst h2
      exact W.iret hx hb hr (fun t ht _ => ⟨rfl, by rw [ht]; exact hP, hS.F ht⟩) hS.2.2 d_Mo_word_61
    · replace hf := br_n hc hf
      refine lv_iload_n hx hb d_Mo_word_23 rfl (lv_at hl 2 rfl) ?_
      refine lv_sipush (v := -10000) hx hb d_Mo_word_24 (by decide) ?_
      refine lv_sipush (v := 10000) hx hb d_Mo_word_27 (by decide) ?_
      obtain ⟨v3, hv3, hf⟩ := cl_x hf
      refine rdS (As := [.int a2, .int (-10000 : Int32), .int (10000 : Int32)]) (rest := []) S K_Mo_in q_985 (c_Mo_in (w := (WM g ad μ)) hv3) hK hP ⟨rfl, rfl⟩ ⟨Nat.le_of_ble_eq_true rfl, Nat.le_of_ble_eq_true rfl⟩ rfl hl.1 rfl (Nat.le_of_ble_eq_true rfl) d_Mo_word_30 ⟨Nat.le_refl _, Nat.le_refl _⟩ ?_
      refine lv_if_eq (tgt := 60) hx hb d_Mo_word_33 rfl (fun hc => ?_) (fun hc => ?_)
      · replace hf := br_p hc hf
        refine lv_iconst (v := -1) hx hb d_Mo_word_60 (by decide) ?_
        obtain ⟨h1, h2⟩ := Prod.mk.inj (Option.some.inj hf)
        subst h1; subst h2
        exact W.iret hx hb hr (fun t ht _ => ⟨rfl, by rw [ht]; exact hP, hS.F ht⟩) hS.2.2 d_Mo_word_61
      · replace hf := br_n hc hf
        refine lv_iload hx hb d_Mo_word_36 (lv_at hl 4 rfl) ?_
        refine lv_iconst (v := -1) hx hb d_Mo_word_38 (by decide) ?_
        refine lv_aload_n hx hb d_Mo_word_39 rfl (lv_at hl 0 rfl) ?_
        refine mg_0_8 hx hb hts hown hK hP q_826 d_Mo_word_40 ?_
        refine lv_iconst (v := 1) hx hb d_Mo_word_43 (by decide) ?_
        refine lv_isub hx hb d_Mo_word_44 ?_
        obtain ⟨v4, hv4, hf⟩ := cl_x hf
        refine rdS (As := [.int a4, .int (-1 : Int32), .int ((μ.1 0 8) - (1 : Int32))]) (rest := []) S K_Mo_in q_985 (c_Mo_in (w := (WM g ad μ)) hv4) hK hP ⟨rfl, rfl⟩ ⟨Nat.le_of_ble_eq_true rfl, Nat.le_of_ble_eq_true rfl⟩ rfl hl.1 rfl (Nat.le_of_ble_eq_true rfl) d_Mo_word_45 ⟨Nat.le_refl _, Nat.le_refl _⟩ ?_
        refine lv_if_eq (tgt := 60) hx hb d_Mo_word_48 rfl (fun hc => ?_) (fun hc => ?_)
        · replace hf := br_p hc hf
          refine lv_iconst (v := -1) hx hb d_Mo_word_60 (by decide) ?_
          obtain ⟨h1, h2⟩ := Prod.mk.inj (Option.some.inj hf)
          subst h1; subst h2
          exact W.iret hx hb hr (fun t ht _ => ⟨rfl, by rw [ht]; exact hP, hS.F ht⟩) hS.2.2 d_Mo_word_61
        · replace hf := br_n hc hf
          refine lv_aload_n hx hb d_Mo_word_51 rfl (lv_at hl 0 rfl) ?_
          refine mg_0_8 hx hb hts hown hK hP q_826 d_Mo_word_52 ?_
          refine lv_bipush (v := 40) hx hb d_Mo_word_55 (by decide) ?_
          refine lv_icmp_lt (tgt := 62) hx hb d_Mo_word_57 rfl (fun hc => ?_) (fun hc => ?_)
          · replace hf := br_p hc hf
            refine lv_iconst (v := 1) hx hb d_Mo_word_62 (by decide) ?_
            refine lv_aload_n hx hb d_Mo_word_63 rfl (lv_at hl 0 rfl) ?_
            refine mg_0_1 hx hb hts hown hK hP q_819 d_Mo_word_64 ?_
            refine lv_ishl hx hb d_Mo_word_67 ?_
            refine lv_iconst (v := 2) hx hb d_Mo_word_68 (by decide) ?_
            refine lv_isub hx hb d_Mo_word_69 ?_
            obtain ⟨v5, hv5, hf⟩ := bd_x hf
            refine top_i hv5 ?_
            refine lv_istore (lv' := [(5, .int v5), (0, .ref (ad 0)), (1, .int a1), (2, .int a2), (3, .int a3), (4, .int a4)]) hx hb d_Mo_word_70 hl (Nat.le_of_ble_eq_true rfl) rfl (fun ls hl => ?_)
            refine lv_iload_n hx hb d_Mo_word_72 rfl (lv_at hl 4 rfl) ?_
            refine lv_iload hx hb d_Mo_word_73 (lv_at hl 0 rfl) ?_
            refine lv_iconst (v := -1) hx hb d_Mo_word_75 (by decide) ?_
            refine lv_ixor hx hb d_Mo_word_76 ?_
            refine lv_iand hx hb d_Mo_word_77 ?_
            refine lv_if_ne (tgt := 98) hx hb d_Mo_word_78 rfl (fun hc => ?_) (fun hc => ?_)
            · replace hf := br_n hc hf
              refine lv_iconst (v := -1) hx hb d_Mo_word_98 (by decide) ?_
              obtain ⟨h1, h2⟩ := Prod.mk.inj (Option.some.inj hf)
              subst h1; subst h2
              exact W.iret hx hb hr (fun t ht _ => ⟨rfl, by rw [ht]; exact hP, hS.F ht⟩) hS.2.2 d_Mo_word_99
            · replace hf := br_p hc hf
              refine lv_iload_n hx hb d_Mo_word_81 rfl (lv_at hl 4 rfl) ?_
              refine lv_if_eq (tgt := 90) hx hb d_Mo_word_82 rfl (fun hc => ?_) (fun hc => ?_)
              · replace hf := br_p hc hf
                exact w_Mo_word_90 X hDA hP hS (lv_sub (l' := [(0, .ref (ad 0)), (1, .int a1), (2, .int a2), (3, .int a3), (4, .int a4)]) hl [1, 2, 3, 4, 5] rfl) hf
              · replace hf := br_n hc hf
                refine lv_iload hx hb d_Mo_word_85 (lv_at hl 5 rfl) ?_
                refine lv_if_ge (tgt := 98) hx hb d_Mo_word_87 rfl (fun hc => ?_) (fun hc => ?_)
                · replace hf := br_p hc hf
                  refine lv_iconst (v := -1) hx hb d_Mo_word_98 (by decide) ?_
                  obtain ⟨h1, h2⟩ := Prod.mk.inj (Option.some.inj hf)
                  subst h1; subst h2
                  exact W.iret hx hb hr (fun t ht _ => ⟨rfl, by rw [ht]; exact hP, hS.F ht⟩) hS.2.2 d_Mo_word_99
                · replace hf := br_n hc hf
                  exact w_Mo_word_90 X hDA hP hS (lv_sub (l' := [(0, .ref (ad 0)), (1, .int a1), (2, .int a2), (3, .int a3), (4, .int a4)]) hl [1, 2, 3, 4, 5] rfl) hf
          · replace hf := br_n hc hf
            refine lv_iconst (v := -1) hx hb d_Mo_word_60 (by decide) ?_
            obtain ⟨h1, h2⟩ := Prod.mk.inj (Option.some.inj hf)
            subst h1; subst h2
            exact W.iret hx hb hr (fun t ht _ => ⟨rfl, by rw [ht]; exact hP, hS.F ht⟩) hS.2.2 d_Mo_word_61
theorem c_Mo_word {l : Launch} {D : va_G} {g : Nat → ClassId} {ad : Nat → Nat} {μ : Mem} {r : Int32} {μ' : Mem} {A : Nat → Prop} {n : Nat} {a1 : Int32} {a2 : Int32} {a3 : Int32} {a4 : Int32} (hDA : ∀ μ : Mem, va_D A (WM g ad μ)) (hf : f_Mo_word n μ a1 a2 a3 a4 = some (r, μ')) : Met l y_Mo_word (Cond.code y_Mo_word b_Mo_word 7 (some .int) :: ww) rm_Mo_word (RP D CL (TY g) (WM g ad μ) [.ref (ad 0), .int a1, .int a2, .int a3, .int a4]) (QW D CL (WM g ad μ') A (some (.int r))) 0 0 A := by
  refine met_of (by decide) (Nat.le_of_ble_eq_true rfl) ?_
  intro p e s m below meth c ls X hP hl
  have hl : lv_has ls 7 [(0, .ref (ad 0)), (1, .int a1), (2, .int a2), (3, .int a3), (4, .int a4)] := hl
  exact w_Mo_word X hDA hP va_S.rf hl hf
theorem d_Mo_rule_0 : decode b_Mo_rule 0 = .ok (.iload_n 1, 1) := by decide +kernel
theorem d_Mo_rule_1 : decode b_Mo_rule 1 = .ok (.iconst 0, 1) := by decide +kernel
theorem d_Mo_rule_2 : decode b_Mo_rule 2 = .ok (.iconst 3, 1) := by decide +kernel
theorem d_Mo_rule_3 : decode b_Mo_rule 3 = .ok (.invokestatic 142, 3) := by decide +kernel
theorem d_Mo_rule_6 : decode b_Mo_rule 6 = .ok (.ifCond .eq 37, 3) := by decide +kernel
theorem d_Mo_rule_9 : decode b_Mo_rule 9 = .ok (.iload_n 2, 1) := by decide +kernel
theorem d_Mo_rule_10 : decode b_Mo_rule 10 = .ok (.iconst 0, 1) := by decide +kernel
theorem d_Mo_rule_11 : decode b_Mo_rule 11 = .ok (.bipush 19, 2) := by decide +kernel
theorem d_Mo_rule_13 : decode b_Mo_rule 13 = .ok (.invokestatic 142, 3) := by decide +kernel
theorem d_Mo_rule_16 : decode b_Mo_rule 16 = .ok (.ifCond .eq 27, 3) := by decide +kernel
theorem d_Mo_rule_19 : decode b_Mo_rule 19 = .ok (.iload_n 3, 1) := by decide +kernel
theorem d_Mo_rule_20 : decode b_Mo_rule 20 = .ok (.iconst 1, 1) := by decide +kernel
theorem d_Mo_rule_21 : decode b_Mo_rule 21 = .ok (.bipush 7, 2) := by decide +kernel
theorem d_Mo_rule_23 : decode b_Mo_rule 23 = .ok (.invokestatic 142, 3) := by decide +kernel
theorem d_Mo_rule_26 : decode b_Mo_rule 26 = .ok (.ifCond .eq 17, 3) := by decide +kernel
theorem d_Mo_rule_29 : decode b_Mo_rule 29 = .ok (.iload 4, 2) := by decide +kernel
theorem d_Mo_rule_31 : decode b_Mo_rule 31 = .ok (.sipush (-10000), 3) := by decide +kernel
theorem d_Mo_rule_34 : decode b_Mo_rule 34 = .ok (.sipush 10000, 3) := by decide +kernel
theorem d_Mo_rule_37 : decode b_Mo_rule 37 = .ok (.invokestatic 142, 3) := by decide +kernel
theorem d_Mo_rule_40 : decode b_Mo_rule 40 = .ok (.ifCond .ne 5, 3) := by decide +kernel
theorem d_Mo_rule_43 : decode b_Mo_rule 43 = .ok (.iconst 0, 1) := by decide +kernel
theorem d_Mo_rule_44 : decode b_Mo_rule 44 = .ok (.ireturn, 1) := by decide +kernel
theorem d_Mo_rule_45 : decode b_Mo_rule 45 = .ok (.aload_n 0, 1) := by decide +kernel
theorem d_Mo_rule_46 : decode b_Mo_rule 46 = .ok (.getfield 31, 3) := by decide +kernel
theorem d_Mo_rule_49 : decode b_Mo_rule 49 = .ok (.iload_n 1, 1) := by decide +kernel
theorem d_Mo_rule_50 : decode b_Mo_rule 50 = .ok (.iload_n 2, 1) := by decide +kernel
theorem d_Mo_rule_51 : decode b_Mo_rule 51 = .ok (.iastore, 1) := by decide +kernel
theorem d_Mo_rule_52 : decode b_Mo_rule 52 = .ok (.aload_n 0, 1) := by decide +kernel
theorem d_Mo_rule_53 : decode b_Mo_rule 53 = .ok (.getfield 34, 3) := by decide +kernel
theorem d_Mo_rule_56 : decode b_Mo_rule 56 = .ok (.iload_n 1, 1) := by decide +kernel
theorem d_Mo_rule_57 : decode b_Mo_rule 57 = .ok (.iload_n 3, 1) := by decide +kernel
theorem d_Mo_rule_58 : decode b_Mo_rule 58 = .ok (.iastore, 1) := by decide +kernel
theorem d_Mo_rule_59 : decode b_Mo_rule 59 = .ok (.aload_n 0, 1) := by decide +kernel
theorem d_Mo_rule_60 : decode b_Mo_rule 60 = .ok (.getfield 37, 3) := by decide +kernel
theorem d_Mo_rule_63 : decode b_Mo_rule 63 = .ok (.iload_n 1, 1) := by decide +kernel
theorem d_Mo_rule_64 : decode b_Mo_rule 64 = .ok (.iload 4, 2) := by decide +kernel
theorem d_Mo_rule_66 : decode b_Mo_rule 66 = .ok (.iastore, 1) := by decide +kernel
theorem d_Mo_rule_67 : decode b_Mo_rule 67 = .ok (.iconst 1, 1) := by decide +kernel
theorem d_Mo_rule_68 : decode b_Mo_rule 68 = .ok (.ireturn, 1) := by decide +kernel
abbrev rm_Mo_rule : Room := { frames := 1, cells := 0, slots := 0, locals := 22 }
def f_Mo_rule (n : Nat) (μ : Mem) (a1 : Int32) (a2 : Int32) (a3 : Int32) (a4 : Int32) : Option (Bool × Mem) := cl (f_Mo_in n a1 (0 : Int32) (3 : Int32)) (fun v1 => (if (bz v1) = 0 then (some (false, μ)) else (cl (f_Mo_in n a2 (0 : Int32) (19 : Int32)) (fun v2 => (if (bz v2) = 0 then (some (false, μ)) else (cl (f_Mo_in n a3 (1 : Int32) (7 : Int32)) (fun v3 => (if (bz v3) = 0 then (some (false, μ)) else (cl (f_Mo_in n a4 (-10000 : Int32) (10000 : Int32)) (fun v4 => (if (bz v4) = 0 then (some (false, μ)) else (gd (inb a1 4) (bd (wi μ 8 a1.toNatClampNeg a2) (fun μ5 => gd (inb a1 4) (bd (wi μ5 9 a1.toNatClampNeg a3) (fun μ6 => gd (inb a1 4) (bd (wi μ6 10 a1.toNatClampNeg a4) (fun μ7 => some (true, μ7)))))))))))))))))))
set_option maxHeartbeats 4000000 in
set_option maxRecDepth 100000 in
theorem w_Mo_rule {p : Program} {l : Launch} {e : Env} {s : State} {m : MethodId} {args : Array Value} {below : List Frame} {meth : Method} {c : Code} {D : va_G} {g : Nat → ClassId} {ad : Nat → Nat} {r : Bool} {μ' : Mem} {A : Nat → Prop} {n : Nat} {μ : Mem} {a1 : Int32} {a2 : Int32} {a3 : Int32} {a4 : Int32} {ls : Array Slot} {H : Heap} {locs : List Loc} (X : Cx p s m args meth c b_Mo_rule 5 R_Mo (some .boolean) D CL (TY g)) (hDA : ∀ μ : Mem, va_D A (WM g ad μ)) (hP : va_P D CL (WM g ad μ) H) (hS : va_S A s.heap H locs) (hl : lv_has ls 5 [(0, .ref (ad 0)), (1, .int a1), (2, .int a2), (3, .int a3), (4, .int a4)]) (hf : f_Mo_rule n μ a1 a2 a3 a4 = some (r, μ')) : WU p l e rm_Mo_rule s m args below meth c H locs D (WM g ad μ') A (some (.int (bz r))) (F0 m 0 ls []) := by
  obtain ⟨S, hr, hlk, hK⟩ := id X
  obtain ⟨hx, hb, hml, hown, hts⟩ := id S
  rw [f_Mo_rule] at hf
  refine lv_iload_n hx hb d_Mo_rule_0 rfl (lv_at hl 1 rfl) ?_
  refine lv_iconst (v := 0) hx hb d_Mo_rule_1 (by decide) ?_
  refine lv_iconst (v := 3) hx hb d_Mo_rule_2 (by decide) ?_
  obtain ⟨v1, hv1, hf⟩ := cl_x hf
  refine rdS (As := [.int a1, .int (0 : Int32), .int (3 : Int32)]) (rest := []) S K_Mo_in q_985 (c_Mo_in (w := (WM g ad μ)) hv1) hK hP ⟨rfl, rfl⟩ ⟨Nat.le_of_ble_eq_true rfl, Nat.le_of_ble_eq_true rfl⟩ rfl hl.1 rfl (Nat.le_of_ble_eq_true rfl) d_Mo_rule_3 ⟨Nat.le_refl _, Nat.le_refl _⟩ ?_
  refine lv_if_eq (tgt := 43) hx hb d_Mo_rule_6 rfl (fun hc => ?_) (fun hc => ?_)
  · replace hf := br_p hc hf
    refine lv_iconst (v := 0) hx hb d_Mo_rule_43 (by decide) ?_
    obtain ⟨h1, h2⟩ := Prod.mk.inj (Option.some.inj hf)
    subst h1; subst h2
    exact W.zret hx hb hr (by first | rfl | exact bz_nar _) (fun t ht _ => ⟨rfl, by rw [ht]; exact hP, hS.F ht⟩) hS.2.2 d_Mo_rule_44
  · replace hf := br_n hc hf
    refine lv_iload_n hx hb d_Mo_rule_9 rfl (lv_at hl 2 rfl) ?_
    refine lv_iconst (v := 0) hx hb d_Mo_rule_10 (by decide) ?_
    refine lv_bipush (v := 19) hx hb d_Mo_rule_11 (by decide) ?_
    obtain ⟨v2, hv2, hf⟩ := cl_x hf
    refine rdS (As := [.int a2, .int (0 : Int32), .int (19 : Int32)]) (rest := []) S K_Mo_in q_985 (c_Mo_in (w := (WM g ad μ)) hv2) hK hP ⟨rfl, rfl⟩ ⟨Nat.le_of_ble_eq_true rfl, Nat.le_of_ble_eq_true rfl⟩ rfl hl.1 rfl (Nat.le_of_ble_eq_true rfl) d_Mo_rule_13 ⟨Nat.le_refl _, Nat.le_refl _⟩ ?_
    refine lv_if_eq (tgt := 43) hx hb d_Mo_rule_16 rfl (fun hc => ?_) (fun hc => ?_)
    · replace hf := br_p hc hf
      refine lv_iconst (v := 0) hx hb d_Mo_rule_43 (by decide) ?_
      obtain ⟨h1, h2⟩ := Prod.mk.inj (Option.some.inj hf)
      subst h1; subst h2
      exact W.zret hx hb hr (by first | rfl | exact bz_nar _) (fun t ht _ => ⟨rfl, by rw [ht]; exact hP, hS.F ht⟩) hS.2.2 d_Mo_rule_44
    · replace hf := br_n hc hf
      refine lv_iload_n hx hb d_Mo_rule_19 rfl (lv_at hl 3 rfl) ?_
      refine lv_iconst (v := 1) hx hb d_Mo_rule_20 (by decide) ?_
      refine lv_bipush (v := 7) hx hb d_Mo_rule_21 (by decide) ?_
      obtain ⟨v3, hv3, hf⟩ := cl_x hf
      refine rdS (As := [.int a3, .int (1 : Int32), .int (7 : Int32)]) (rest := []) S K_Mo_in q_985 (c_Mo_in (w := (WM g ad μ)) hv3) hK hP ⟨rfl, rfl⟩ ⟨Nat.le_of_ble_eq_true rfl, Nat.le_of_ble_eq_true rfl⟩ rfl hl.1 rfl (Nat.le_of_ble_eq_true rfl) d_Mo_rule_23 ⟨Nat.le_refl _, Nat.le_refl _⟩ ?_
      refine lv_if_eq (tgt := 43) hx hb d_Mo_rule_26 rfl (fun hc => ?_) (fun hc => ?_)
      · replace hf := br_p hc hf
        refine lv_iconst (v := 0) hx hb d_Mo_rule_43 (by decide) ?_
        obtain ⟨h1, h2⟩ := Prod.mk.inj (Option.some.inj hf)
        subst h1; subst h2
        exact W.zret hx hb hr (by first | rfl | exact bz_nar _) (fun t ht _ => ⟨rfl, by rw [ht]; exact hP, hS.F ht⟩) hS.2.2 d_Mo_rule_44
      · replace hf := br_n hc hf
        refine lv_iload hx hb d_Mo_rule_29 (lv_at hl 4 rfl) ?_
        refine lv_sipush (v := -10000) hx hb d_Mo_rule_31 (by decide) ?_
        refine lv_sipush (v := 10000) hx hb d_Mo_rule_34 (by decide) ?_
        obtain ⟨v4, hv4, hf⟩ := cl_x hf
        refine rdS (As := [.int a4, .int (-10000 : Int32), .int (10000 : Int32)]) (rest := []) S K_Mo_in q_985 (c_Mo_in (w := (WM g ad μ)) hv4) hK hP ⟨rfl, rfl⟩ ⟨Nat.le_of_ble_eq_true rfl, Nat.le_of_ble_eq_true rfl⟩ rfl hl.1 rfl (Nat.le_of_ble_eq_true rfl) d_Mo_rule_37 ⟨Nat.le_refl _, Nat.le_refl _⟩ ?_
        refine lv_if_ne (tgt := 45) hx hb d_Mo_rule_40 rfl (fun hc => ?_) (fun hc => ?_)
        · replace hf := br_n hc hf
          refine lv_aload_n hx hb d_Mo_rule_45 rfl (lv_at hl 0 rfl) ?_
          refine mg_0_9 hx hb hts hown hK hP q_827 d_Mo_rule_46 ?_
          refine lv_iload_n hx hb d_Mo_rule_49 rfl (lv_at hl 1 rfl) ?_
          refine lv_iload_n hx hb d_Mo_rule_50 rfl (lv_at hl 2 rfl) ?_
          obtain ⟨hi, hf⟩ := gd_x hf
          obtain ⟨μ5, hμ5, hf⟩ := bd_x hf
          refine ms_8 hx hb hK (hDA _) hP hS (inb_in hi) d_Mo_rule_51 hμ5 (fun H locs hP hS => ?_)
          refine lv_aload_n hx hb d_Mo_rule_52 rfl (lv_at hl 0 rfl) ?_
          refine mg_0_10 hx hb hts hown hK hP q_828 d_Mo_rule_53 ?_
          refine lv_iload_n hx hb d_Mo_rule_56 rfl (lv_at hl 1 rfl) ?_
          refine lv_iload_n hx hb d_Mo_rule_57 rfl (lv_at hl 3 rfl) ?_
          obtain ⟨hi, hf⟩ := gd_x hf
          obtain ⟨μ6, hμ6, hf⟩ := bd_x hf
          refine ms_9 hx hb hK (hDA _) hP hS (inb_in hi) d_Mo_rule_58 hμ6 (fun H locs hP hS => ?_)
          refine lv_aload_n hx hb d_Mo_rule_59 rfl (lv_at hl 0 rfl) ?_
          refine mg_0_11 hx hb hts hown hK hP q_829 d_Mo_rule_60 ?_
          refine lv_iload_n hx hb d_Mo_rule_63 rfl (lv_at hl 1 rfl) ?_
          refine lv_iload hx hb d_Mo_rule_64 (lv_at hl 4 rfl) ?_
          obtain ⟨hi, hf⟩ := gd_x hf
          obtain ⟨μ7, hμ7, hf⟩ := bd_x hf
          refine ms_10 hx hb hK (hDA _) hP hS (inb_in hi) d_Mo_rule_66 hμ7 (fun H locs hP hS => ?_)
          refine lv_iconst (v := 1) hx hb d_Mo_rule_67 (by decide) ?_
          obtain ⟨h1, h2⟩ := Prod.mk.inj (Option.some.inj hf)
          subst h1; subst h2
          exact W.zret hx hb hr (by first | rfl | exact bz_nar _) (fun t ht _ => ⟨rfl, by rw [ht]; exact hP, hS.F ht⟩) hS.2.2 d_Mo_rule_68
        · replace hf := br_p hc hf
          refine lv_iconst (v := 0) hx hb d_Mo_rule_43 (by decide) ?_
          obtain ⟨h1, h2⟩ := Prod.mk.inj (Option.some.inj hf)
          subst h1; subst h2
          exact W.zret hx hb hr (by first | rfl | exact bz_nar _) (fun t ht _ => ⟨rfl, by rw [ht]; exact hP, hS.F ht⟩) hS.2.2 d_Mo_rule_44
theorem c_Mo_rule {l : Launch} {D : va_G} {g : Nat → ClassId} {ad : Nat → Nat} {μ : Mem} {r : Bool} {μ' : Mem} {A : Nat → Prop} {n : Nat} {a1 : Int32} {a2 : Int32} {a3 : Int32} {a4 : Int32} (hDA : ∀ μ : Mem, va_D A (WM g ad μ)) (hf : f_Mo_rule n μ a1 a2 a3 a4 = some (r, μ')) : Met l y_Mo_rule (Cond.code y_Mo_rule b_Mo_rule 5 (some .boolean) :: ww) rm_Mo_rule (RP D CL (TY g) (WM g ad μ) [.ref (ad 0), .int a1, .int a2, .int a3, .int a4]) (QW D CL (WM g ad μ') A (some (.int (bz r)))) 0 0 A := by
  refine met_of (by decide) (Nat.le_of_ble_eq_true rfl) ?_
  intro p e s m below meth c ls X hP hl
  have hl : lv_has ls 5 [(0, .ref (ad 0)), (1, .int a1), (2, .int a2), (3, .int a3), (4, .int a4)] := hl
  exact w_Mo_rule X hDA hP va_S.rf hl hf
theorem d_Mo_link_0 : decode b_Mo_link 0 = .ok (.iload_n 1, 1) := by decide +kernel
theorem d_Mo_link_1 : decode b_Mo_link 1 = .ok (.iconst 0, 1) := by decide +kernel
theorem d_Mo_link_2 : decode b_Mo_link 2 = .ok (.bipush 7, 2) := by decide +kernel
theorem d_Mo_link_4 : decode b_Mo_link 4 = .ok (.invokestatic 142, 3) := by decide +kernel
theorem d_Mo_link_7 : decode b_Mo_link 7 = .ok (.ifCond .eq 26, 3) := by decide +kernel
theorem d_Mo_link_10 : decode b_Mo_link 10 = .ok (.iload_n 2, 1) := by decide +kernel
theorem d_Mo_link_11 : decode b_Mo_link 11 = .ok (.iconst 0, 1) := by decide +kernel
theorem d_Mo_link_12 : decode b_Mo_link 12 = .ok (.bipush 7, 2) := by decide +kernel
theorem d_Mo_link_14 : decode b_Mo_link 14 = .ok (.invokestatic 142, 3) := by decide +kernel
theorem d_Mo_link_17 : decode b_Mo_link 17 = .ok (.ifCond .eq 16, 3) := by decide +kernel
theorem d_Mo_link_20 : decode b_Mo_link 20 = .ok (.iload_n 3, 1) := by decide +kernel
theorem d_Mo_link_21 : decode b_Mo_link 21 = .ok (.sipush (-10000), 3) := by decide +kernel
theorem d_Mo_link_24 : decode b_Mo_link 24 = .ok (.sipush 10000, 3) := by decide +kernel
theorem d_Mo_link_27 : decode b_Mo_link 27 = .ok (.invokestatic 142, 3) := by decide +kernel
theorem d_Mo_link_30 : decode b_Mo_link 30 = .ok (.ifCond .ne 5, 3) := by decide +kernel
theorem d_Mo_link_33 : decode b_Mo_link 33 = .ok (.iconst 0, 1) := by decide +kernel
theorem d_Mo_link_34 : decode b_Mo_link 34 = .ok (.ireturn, 1) := by decide +kernel
theorem d_Mo_link_35 : decode b_Mo_link 35 = .ok (.aload_n 0, 1) := by decide +kernel
theorem d_Mo_link_36 : decode b_Mo_link 36 = .ok (.getfield 40, 3) := by decide +kernel
theorem d_Mo_link_39 : decode b_Mo_link 39 = .ok (.bipush 8, 2) := by decide +kernel
theorem d_Mo_link_41 : decode b_Mo_link 41 = .ok (.iload_n 1, 1) := by decide +kernel
theorem d_Mo_link_42 : decode b_Mo_link 42 = .ok (.imul, 1) := by decide +kernel
theorem d_Mo_link_43 : decode b_Mo_link 43 = .ok (.iload_n 2, 1) := by decide +kernel
theorem d_Mo_link_44 : decode b_Mo_link 44 = .ok (.iadd, 1) := by decide +kernel
theorem d_Mo_link_45 : decode b_Mo_link 45 = .ok (.iload_n 3, 1) := by decide +kernel
theorem d_Mo_link_46 : decode b_Mo_link 46 = .ok (.iastore, 1) := by decide +kernel
theorem d_Mo_link_47 : decode b_Mo_link 47 = .ok (.iconst 1, 1) := by decide +kernel
theorem d_Mo_link_48 : decode b_Mo_link 48 = .ok (.ireturn, 1) := by decide +kernel
abbrev rm_Mo_link : Room := { frames := 1, cells := 0, slots := 0, locals := 22 }
def f_Mo_link (n : Nat) (μ : Mem) (a1 : Int32) (a2 : Int32) (a3 : Int32) : Option (Bool × Mem) := cl (f_Mo_in n a1 (0 : Int32) (7 : Int32)) (fun v1 => (if (bz v1) = 0 then (some (false, μ)) else (cl (f_Mo_in n a2 (0 : Int32) (7 : Int32)) (fun v2 => (if (bz v2) = 0 then (some (false, μ)) else (cl (f_Mo_in n a3 (-10000 : Int32) (10000 : Int32)) (fun v3 => (if (bz v3) = 0 then (some (false, μ)) else (gd (inb (((8 : Int32) * a1) + a2) 64) (bd (wi μ 11 (((8 : Int32) * a1) + a2).toNatClampNeg a3) (fun μ4 => some (true, μ4))))))))))))
set_option maxHeartbeats 4000000 in
set_option maxRecDepth 100000 in
theorem w_Mo_link {p : Program} {l : Launch} {e : Env} {s : State} {m : MethodId} {args : Array Value} {below : List Frame} {meth : Method} {c : Code} {D : va_G} {g : Nat → ClassId} {ad : Nat → Nat} {r : Bool} {μ' : Mem} {A : Nat → Prop} {n : Nat} {μ : Mem} {a1 : Int32} {a2 : Int32} {a3 : Int32} {ls : Array Slot} {H : Heap} {locs : List Loc} (X : Cx p s m args meth c b_Mo_link 4 R_Mo (some .boolean) D CL (TY g)) (hDA : ∀ μ : Mem, va_D A (WM g ad μ)) (hP : va_P D CL (WM g ad μ) H) (hS : va_S A s.heap H locs) (hl : lv_has ls 4 [(0, .ref (ad 0)), (1, .int a1), (2, .int a2), (3, .int a3)]) (hf : f_Mo_link n μ a1 a2 a3 = some (r, μ')) : WU p l e rm_Mo_link s m args below meth c H locs D (WM g ad μ') A (some (.int (bz r))) (F0 m 0 ls []) := by
  obtain ⟨S, hr, hlk, hK⟩ := id X
  obtain ⟨hx, hb, hml, hown, hts⟩ := id S
  rw [f_Mo_link] at hf
  refine lv_iload_n hx hb d_Mo_link_0 rfl (lv_at hl 1 rfl) ?_
  refine lv_iconst (v := 0) hx hb d_Mo_link_1 (by decide) ?_
  refine lv_bipush (v := 7) hx hb d_Mo_link_2 (by decide) ?_
  obtain ⟨v1, hv1, hf⟩ := cl_x hf
  refine rdS (As := [.int a1, .int (0 : Int32), .int (7 : Int32)]) (rest := []) S K_Mo_in q_985 (c_Mo_in (w := (WM g ad μ)) hv1) hK hP ⟨rfl, rfl⟩ ⟨Nat.le_of_ble_eq_true rfl, Nat.le_of_ble_eq_true rfl⟩ rfl hl.1 rfl (Nat.le_of_ble_eq_true rfl) d_Mo_link_4 ⟨Nat.le_refl _, Nat.le_refl _⟩ ?_
  refine lv_if_eq (tgt := 33) hx hb d_Mo_link_7 rfl (fun hc => ?_) (fun hc => ?_)
  · replace hf := br_p hc hf
    refine lv_iconst (v := 0) hx hb d_Mo_link_33 (by decide) ?_
    obtain ⟨h1, h2⟩ := Prod.mk.inj (Option.some.inj hf)
    subst h1; subst h2
    exact W.zret hx hb hr (by first | rfl | exact bz_nar _) (fun t ht _ => ⟨rfl, by rw [ht]; exact hP, hS.F ht⟩) hS.2.2 d_Mo_link_34
  · replace hf := br_n hc hf
    refine lv_iload_n hx hb d_Mo_link_10 rfl (lv_at hl 2 rfl) ?_
    refine lv_iconst (v := 0) hx hb d_Mo_link_11 (by decide) ?_
    refine lv_bipush (v := 7) hx hb d_Mo_link_12 (by decide) ?_
    obtain ⟨v2, hv2, hf⟩ := cl_x hf
    refine rdS (As := [.int a2, .int (0 : Int32), .int (7 : Int32)]) (rest := []) S K_Mo_in q_985 (c_Mo_in (w := (WM g ad μ)) hv2) hK hP ⟨rfl, rfl⟩ ⟨Nat.le_of_ble_eq_true rfl, Nat.le_of_ble_eq_true rfl⟩ rfl hl.1 rfl (Nat.le_of_ble_eq_true rfl) d_Mo_link_14 ⟨Nat.le_refl _, Nat.le_refl _⟩ ?_
    refine lv_if_eq (tgt := 33) hx hb d_Mo_link_17 rfl (fun hc => ?_) (fun hc => ?_)
    · replace hf := br_p hc hf
      refine lv_iconst (v := 0) hx hb d_Mo_link_33 (by decide) ?_
      obtain ⟨h1, h2⟩ := Prod.mk.inj (Option.some.inj hf)
      subst h1; subst h2
      exact W.zret hx hb hr (by first | rfl | exact bz_nar _) (fun t ht _ => ⟨rfl, by rw [ht]; exact hP, hS.F ht⟩) hS.2.2 d_Mo_link_34
    · replace hf := br_n hc hf
      refine lv_iload_n hx hb d_Mo_link_20 rfl (lv_at hl 3 rfl) ?_
      refine lv_sipush (v := -10000) hx hb d_Mo_link_21 (by decide) ?_
      refine lv_sipush (v := 10000) hx hb d_Mo_link_24 (by decide) ?_
      obtain ⟨v3, hv3, hf⟩ := cl_x hf
      refine rdS (As := [.int a3, .int (-10000 : Int32), .int (10000 : Int32)]) (rest := []) S K_Mo_in q_985 (c_Mo_in (w := (WM g ad μ)) hv3) hK hP ⟨rfl, rfl⟩ ⟨Nat.le_of_ble_eq_true rfl, Nat.le_of_ble_eq_true rfl⟩ rfl hl.1 rfl (Nat.le_of_ble_eq_true rfl) d_Mo_link_27 ⟨Nat.le_refl _, Nat.le_refl _⟩ ?_
      refine lv_if_ne (tgt := 35) hx hb d_Mo_link_30 rfl (fun hc => ?_) (fun hc => ?_)
      · replace hf := br_n hc hf
        refine lv_aload_n hx hb d_Mo_link_35 rfl (lv_at hl 0 rfl) ?_
        refine mg_0_12 hx hb hts hown hK hP q_830 d_Mo_link_36 ?_
        refine lv_bipush (v := 8) hx hb d_Mo_link_39 (by decide) ?_
        refine lv_iload_n hx hb d_Mo_link_41 rfl (lv_at hl 1 rfl) ?_
        refine lv_imul hx hb d_Mo_link_42 ?_
        refine lv_iload_n hx hb d_Mo_link_43 rfl (lv_at hl 2 rfl) ?_
        refine lv_iadd hx hb d_Mo_link_44 ?_
        refine lv_iload_n hx hb d_Mo_link_45 rfl (lv_at hl 3 rfl) ?_
        obtain ⟨hi, hf⟩ := gd_x hf
        obtain ⟨μ4, hμ4, hf⟩ := bd_x hf
        refine ms_11 hx hb hK (hDA _) hP hS (inb_in hi) d_Mo_link_46 hμ4 (fun H locs hP hS => ?_)
        refine lv_iconst (v := 1) hx hb d_Mo_link_47 (by decide) ?_
        obtain ⟨h1, h2⟩ := Prod.mk.inj (Option.some.inj hf)
        subst h1; subst h2
        exact W.zret hx hb hr (by first | rfl | exact bz_nar _) (fun t ht _ => ⟨rfl, by rw [ht]; exact hP, hS.F ht⟩) hS.2.2 d_Mo_link_48
      · replace hf := br_p hc hf
        refine lv_iconst (v := 0) hx hb d_Mo_link_33 (by decide) ?_
        obtain ⟨h1, h2⟩ := Prod.mk.inj (Option.some.inj hf)
        subst h1; subst h2
        exact W.zret hx hb hr (by first | rfl | exact bz_nar _) (fun t ht _ => ⟨rfl, by rw [ht]; exact hP, hS.F ht⟩) hS.2.2 d_Mo_link_34
theorem c_Mo_link {l : Launch} {D : va_G} {g : Nat → ClassId} {ad : Nat → Nat} {μ : Mem} {r : Bool} {μ' : Mem} {A : Nat → Prop} {n : Nat} {a1 : Int32} {a2 : Int32} {a3 : Int32} (hDA : ∀ μ : Mem, va_D A (WM g ad μ)) (hf : f_Mo_link n μ a1 a2 a3 = some (r, μ')) : Met l y_Mo_link (Cond.code y_Mo_link b_Mo_link 4 (some .boolean) :: ww) rm_Mo_link (RP D CL (TY g) (WM g ad μ) [.ref (ad 0), .int a1, .int a2, .int a3]) (QW D CL (WM g ad μ') A (some (.int (bz r)))) 0 0 A := by
  refine met_of (by decide) (Nat.le_of_ble_eq_true rfl) ?_
  intro p e s m below meth c ls X hP hl
  have hl : lv_has ls 4 [(0, .ref (ad 0)), (1, .int a1), (2, .int a2), (3, .int a3)] := hl
  exact w_Mo_link X hDA hP va_S.rf hl hf
theorem d_Mo_mode_0 : decode b_Mo_mode 0 = .ok (.iload_n 1, 1) := by decide +kernel
theorem d_Mo_mode_1 : decode b_Mo_mode 1 = .ok (.iconst 0, 1) := by decide +kernel
theorem d_Mo_mode_2 : decode b_Mo_mode 2 = .ok (.sipush 10000, 3) := by decide +kernel
theorem d_Mo_mode_5 : decode b_Mo_mode 5 = .ok (.invokestatic 142, 3) := by decide +kernel
theorem d_Mo_mode_8 : decode b_Mo_mode 8 = .ok (.ifCond .eq 14, 3) := by decide +kernel
theorem d_Mo_mode_11 : decode b_Mo_mode 11 = .ok (.iload_n 2, 1) := by decide +kernel
theorem d_Mo_mode_12 : decode b_Mo_mode 12 = .ok (.iconst 0, 1) := by decide +kernel
theorem d_Mo_mode_13 : decode b_Mo_mode 13 = .ok (.sipush 10000, 3) := by decide +kernel
theorem d_Mo_mode_16 : decode b_Mo_mode 16 = .ok (.invokestatic 142, 3) := by decide +kernel
theorem d_Mo_mode_19 : decode b_Mo_mode 19 = .ok (.ifCond .ne 5, 3) := by decide +kernel
theorem d_Mo_mode_22 : decode b_Mo_mode 22 = .ok (.iconst 0, 1) := by decide +kernel
theorem d_Mo_mode_23 : decode b_Mo_mode 23 = .ok (.ireturn, 1) := by decide +kernel
theorem d_Mo_mode_24 : decode b_Mo_mode 24 = .ok (.aload_n 0, 1) := by decide +kernel
theorem d_Mo_mode_25 : decode b_Mo_mode 25 = .ok (.iload_n 1, 1) := by decide +kernel
theorem d_Mo_mode_26 : decode b_Mo_mode 26 = .ok (.putfield 150, 3) := by decide +kernel
theorem d_Mo_mode_29 : decode b_Mo_mode 29 = .ok (.aload_n 0, 1) := by decide +kernel
theorem d_Mo_mode_30 : decode b_Mo_mode 30 = .ok (.iload_n 2, 1) := by decide +kernel
theorem d_Mo_mode_31 : decode b_Mo_mode 31 = .ok (.putfield 153, 3) := by decide +kernel
theorem d_Mo_mode_34 : decode b_Mo_mode 34 = .ok (.iconst 1, 1) := by decide +kernel
theorem d_Mo_mode_35 : decode b_Mo_mode 35 = .ok (.ireturn, 1) := by decide +kernel
abbrev rm_Mo_mode : Room := { frames := 1, cells := 0, slots := 0, locals := 22 }
def f_Mo_mode (n : Nat) (μ : Mem) (a1 : Int32) (a2 : Int32) : Option (Bool × Mem) := cl (f_Mo_in n a1 (0 : Int32) (10000 : Int32)) (fun v1 => (if (bz v1) = 0 then (some (false, μ)) else (cl (f_Mo_in n a2 (0 : Int32) (10000 : Int32)) (fun v2 => (if (bz v2) = 0 then (some (false, μ)) else (bd (wi μ 0 13 a1) (fun μ3 => bd (wi μ3 0 14 a2) (fun μ4 => some (true, μ4)))))))))
set_option maxHeartbeats 4000000 in
set_option maxRecDepth 100000 in
theorem w_Mo_mode {p : Program} {l : Launch} {e : Env} {s : State} {m : MethodId} {args : Array Value} {below : List Frame} {meth : Method} {c : Code} {D : va_G} {g : Nat → ClassId} {ad : Nat → Nat} {r : Bool} {μ' : Mem} {A : Nat → Prop} {n : Nat} {μ : Mem} {a1 : Int32} {a2 : Int32} {ls : Array Slot} {H : Heap} {locs : List Loc} (X : Cx p s m args meth c b_Mo_mode 3 R_Mo (some .boolean) D CL (TY g)) (hDA : ∀ μ : Mem, va_D A (WM g ad μ)) (hP : va_P D CL (WM g ad μ) H) (hS : va_S A s.heap H locs) (hl : lv_has ls 3 [(0, .ref (ad 0)), (1, .int a1), (2, .int a2)]) (hf : f_Mo_mode n μ a1 a2 = some (r, μ')) : WU p l e rm_Mo_mode s m args below meth c H locs D (WM g ad μ') A (some (.int (bz r))) (F0 m 0 ls []) := by
  obtain ⟨S, hr, hlk, hK⟩ := id X
  obtain ⟨hx, hb, hml, hown, hts⟩ := id S
  rw [f_Mo_mode] at hf
  refine lv_iload_n hx hb d_Mo_mode_0 rfl (lv_at hl 1 rfl) ?_
  refine lv_iconst (v := 0) hx hb d_Mo_mode_1 (by decide) ?_
  refine lv_sipush (v := 10000) hx hb d_Mo_mode_2 (by decide) ?_
  obtain ⟨v1, hv1, hf⟩ := cl_x hf
  refine rdS (As := [.int a1, .int (0 : Int32), .int (10000 : Int32)]) (rest := []) S K_Mo_in q_985 (c_Mo_in (w := (WM g ad μ)) hv1) hK hP ⟨rfl, rfl⟩ ⟨Nat.le_of_ble_eq_true rfl, Nat.le_of_ble_eq_true rfl⟩ rfl hl.1 rfl (Nat.le_of_ble_eq_true rfl) d_Mo_mode_5 ⟨Nat.le_refl _, Nat.le_refl _⟩ ?_
  refine lv_if_eq (tgt := 22) hx hb d_Mo_mode_8 rfl (fun hc => ?_) (fun hc => ?_)
  · replace hf := br_p hc hf
    refine lv_iconst (v := 0) hx hb d_Mo_mode_22 (by decide) ?_
    obtain ⟨h1, h2⟩ := Prod.mk.inj (Option.some.inj hf)
    subst h1; subst h2
    exact W.zret hx hb hr (by first | rfl | exact bz_nar _) (fun t ht _ => ⟨rfl, by rw [ht]; exact hP, hS.F ht⟩) hS.2.2 d_Mo_mode_23
  · replace hf := br_n hc hf
    refine lv_iload_n hx hb d_Mo_mode_11 rfl (lv_at hl 2 rfl) ?_
    refine lv_iconst (v := 0) hx hb d_Mo_mode_12 (by decide) ?_
    refine lv_sipush (v := 10000) hx hb d_Mo_mode_13 (by decide) ?_
    obtain ⟨v2, hv2, hf⟩ := cl_x hf
    refine rdS (As := [.int a2, .int (0 : Int32), .int (10000 : Int32)]) (rest := []) S K_Mo_in q_985 (c_Mo_in (w := (WM g ad μ)) hv2) hK hP ⟨rfl, rfl⟩ ⟨Nat.le_of_ble_eq_true rfl, Nat.le_of_ble_eq_true rfl⟩ rfl hl.1 rfl (Nat.le_of_ble_eq_true rfl) d_Mo_mode_16 ⟨Nat.le_refl _, Nat.le_refl _⟩ ?_
    refine lv_if_ne (tgt := 24) hx hb d_Mo_mode_19 rfl (fun hc => ?_) (fun hc => ?_)
    · replace hf := br_n hc hf
      refine lv_aload_n hx hb d_Mo_mode_24 rfl (lv_at hl 0 rfl) ?_
      refine lv_iload_n hx hb d_Mo_mode_25 rfl (lv_at hl 1 rfl) ?_
      obtain ⟨μ3, hμ3, hf⟩ := bd_x hf
      refine mp_0_13 hx hb hts hown hK (hDA _) hP hS q_831 d_Mo_mode_26 hμ3 (fun H locs hP hS => ?_)
      refine lv_aload_n hx hb d_Mo_mode_29 rfl (lv_at hl 0 rfl) ?_
      refine lv_iload_n hx hb d_Mo_mode_30 rfl (lv_at hl 2 rfl) ?_
      obtain ⟨μ4, hμ4, hf⟩ := bd_x hf
      refine mp_0_14 hx hb hts hown hK (hDA _) hP hS q_832 d_Mo_mode_31 hμ4 (fun H locs hP hS => ?_)
      refine lv_iconst (v := 1) hx hb d_Mo_mode_34 (by decide) ?_
      obtain ⟨h1, h2⟩ := Prod.mk.inj (Option.some.inj hf)
      subst h1; subst h2
      exact W.zret hx hb hr (by first | rfl | exact bz_nar _) (fun t ht _ => ⟨rfl, by rw [ht]; exact hP, hS.F ht⟩) hS.2.2 d_Mo_mode_35
    · replace hf := br_p hc hf
      refine lv_iconst (v := 0) hx hb d_Mo_mode_22 (by decide) ?_
      obtain ⟨h1, h2⟩ := Prod.mk.inj (Option.some.inj hf)
      subst h1; subst h2
      exact W.zret hx hb hr (by first | rfl | exact bz_nar _) (fun t ht _ => ⟨rfl, by rw [ht]; exact hP, hS.F ht⟩) hS.2.2 d_Mo_mode_23
theorem c_Mo_mode {l : Launch} {D : va_G} {g : Nat → ClassId} {ad : Nat → Nat} {μ : Mem} {r : Bool} {μ' : Mem} {A : Nat → Prop} {n : Nat} {a1 : Int32} {a2 : Int32} (hDA : ∀ μ : Mem, va_D A (WM g ad μ)) (hf : f_Mo_mode n μ a1 a2 = some (r, μ')) : Met l y_Mo_mode (Cond.code y_Mo_mode b_Mo_mode 3 (some .boolean) :: ww) rm_Mo_mode (RP D CL (TY g) (WM g ad μ) [.ref (ad 0), .int a1, .int a2]) (QW D CL (WM g ad μ') A (some (.int (bz r)))) 0 0 A := by
  refine met_of (by decide) (Nat.le_of_ble_eq_true rfl) ?_
  intro p e s m below meth c ls X hP hl
  have hl : lv_has ls 3 [(0, .ref (ad 0)), (1, .int a1), (2, .int a2)] := hl
  exact w_Mo_mode X hDA hP va_S.rf hl hf
theorem d_Mo_chain_0 : decode b_Mo_chain 0 = .ok (.iload_n 1, 1) := by decide +kernel
theorem d_Mo_chain_1 : decode b_Mo_chain 1 = .ok (.iconst (-1), 1) := by decide +kernel
theorem d_Mo_chain_2 : decode b_Mo_chain 2 = .ok (.if_icmp .ne 10, 3) := by decide +kernel
theorem d_Mo_chain_5 : decode b_Mo_chain 5 = .ok (.aload_n 0, 1) := by decide +kernel
theorem d_Mo_chain_6 : decode b_Mo_chain 6 = .ok (.iconst 0, 1) := by decide +kernel
theorem d_Mo_chain_7 : decode b_Mo_chain 7 = .ok (.putfield 156, 3) := by decide +kernel
theorem d_Mo_chain_10 : decode b_Mo_chain 10 = .ok (.iconst 1, 1) := by decide +kernel
theorem d_Mo_chain_11 : decode b_Mo_chain 11 = .ok (.ireturn, 1) := by decide +kernel
theorem d_Mo_chain_12 : decode b_Mo_chain 12 = .ok (.iload_n 1, 1) := by decide +kernel
theorem d_Mo_chain_13 : decode b_Mo_chain 13 = .ok (.ifCond .eq 8, 3) := by decide +kernel
theorem d_Mo_chain_16 : decode b_Mo_chain 16 = .ok (.iload_n 1, 1) := by decide +kernel
theorem d_Mo_chain_17 : decode b_Mo_chain 17 = .ok (.iconst 3, 1) := by decide +kernel
theorem d_Mo_chain_18 : decode b_Mo_chain 18 = .ok (.if_icmp .ne 13, 3) := by decide +kernel
theorem d_Mo_chain_21 : decode b_Mo_chain 21 = .ok (.iload_n 2, 1) := by decide +kernel
theorem d_Mo_chain_22 : decode b_Mo_chain 22 = .ok (.iconst 1, 1) := by decide +kernel
theorem d_Mo_chain_23 : decode b_Mo_chain 23 = .ok (.bipush 7, 2) := by decide +kernel
theorem d_Mo_chain_25 : decode b_Mo_chain 25 = .ok (.invokestatic 142, 3) := by decide +kernel
theorem d_Mo_chain_28 : decode b_Mo_chain 28 = .ok (.goto 22, 3) := by decide +kernel
theorem d_Mo_chain_31 : decode b_Mo_chain 31 = .ok (.iload_n 1, 1) := by decide +kernel
theorem d_Mo_chain_32 : decode b_Mo_chain 32 = .ok (.iconst 1, 1) := by decide +kernel
theorem d_Mo_chain_33 : decode b_Mo_chain 33 = .ok (.if_icmp .eq 8, 3) := by decide +kernel
theorem d_Mo_chain_36 : decode b_Mo_chain 36 = .ok (.iload_n 1, 1) := by decide +kernel
theorem d_Mo_chain_37 : decode b_Mo_chain 37 = .ok (.iconst 2, 1) := by decide +kernel
theorem d_Mo_chain_38 : decode b_Mo_chain 38 = .ok (.if_icmp .ne 11, 3) := by decide +kernel
theorem d_Mo_chain_41 : decode b_Mo_chain 41 = .ok (.iload_n 2, 1) := by decide +kernel
theorem d_Mo_chain_42 : decode b_Mo_chain 42 = .ok (.ifCond .ne 7, 3) := by decide +kernel
theorem d_Mo_chain_45 : decode b_Mo_chain 45 = .ok (.iconst 1, 1) := by decide +kernel
theorem d_Mo_chain_46 : decode b_Mo_chain 46 = .ok (.goto 4, 3) := by decide +kernel
theorem d_Mo_chain_49 : decode b_Mo_chain 49 = .ok (.iconst 0, 1) := by decide +kernel
theorem d_Mo_chain_50 : decode b_Mo_chain 50 = .ok (.istore_n 3, 1) := by decide +kernel
theorem d_Mo_chain_51 : decode b_Mo_chain 51 = .ok (.iload_n 3, 1) := by decide +kernel
theorem d_Mo_chain_52 : decode b_Mo_chain 52 = .ok (.ifCond .eq 12, 3) := by decide +kernel
theorem d_Mo_chain_55 : decode b_Mo_chain 55 = .ok (.aload_n 0, 1) := by decide +kernel
theorem d_Mo_chain_56 : decode b_Mo_chain 56 = .ok (.getfield 156, 3) := by decide +kernel
theorem d_Mo_chain_59 : decode b_Mo_chain 59 = .ok (.bipush 6, 2) := by decide +kernel
theorem d_Mo_chain_61 : decode b_Mo_chain 61 = .ok (.if_icmp .lt 5, 3) := by decide +kernel
theorem d_Mo_chain_64 : decode b_Mo_chain 64 = .ok (.iconst 0, 1) := by decide +kernel
theorem d_Mo_chain_65 : decode b_Mo_chain 65 = .ok (.ireturn, 1) := by decide +kernel
theorem d_Mo_chain_66 : decode b_Mo_chain 66 = .ok (.aload_n 0, 1) := by decide +kernel
theorem d_Mo_chain_67 : decode b_Mo_chain 67 = .ok (.getfield 43, 3) := by decide +kernel
theorem d_Mo_chain_70 : decode b_Mo_chain 70 = .ok (.aload_n 0, 1) := by decide +kernel
theorem d_Mo_chain_71 : decode b_Mo_chain 71 = .ok (.getfield 156, 3) := by decide +kernel
theorem d_Mo_chain_74 : decode b_Mo_chain 74 = .ok (.iload_n 1, 1) := by decide +kernel
theorem d_Mo_chain_75 : decode b_Mo_chain 75 = .ok (.iastore, 1) := by decide +kernel
theorem d_Mo_chain_76 : decode b_Mo_chain 76 = .ok (.aload_n 0, 1) := by decide +kernel
theorem d_Mo_chain_77 : decode b_Mo_chain 77 = .ok (.getfield 46, 3) := by decide +kernel
theorem d_Mo_chain_80 : decode b_Mo_chain 80 = .ok (.aload_n 0, 1) := by decide +kernel
theorem d_Mo_chain_81 : decode b_Mo_chain 81 = .ok (.getfield 156, 3) := by decide +kernel
theorem d_Mo_chain_84 : decode b_Mo_chain 84 = .ok (.iload_n 2, 1) := by decide +kernel
theorem d_Mo_chain_85 : decode b_Mo_chain 85 = .ok (.iastore, 1) := by decide +kernel
theorem d_Mo_chain_86 : decode b_Mo_chain 86 = .ok (.aload_n 0, 1) := by decide +kernel
theorem d_Mo_chain_87 : decode b_Mo_chain 87 = .ok (.dup, 1) := by decide +kernel
theorem d_Mo_chain_88 : decode b_Mo_chain 88 = .ok (.getfield 156, 3) := by decide +kernel
theorem d_Mo_chain_91 : decode b_Mo_chain 91 = .ok (.iconst 1, 1) := by decide +kernel
theorem d_Mo_chain_92 : decode b_Mo_chain 92 = .ok (.iadd, 1) := by decide +kernel
theorem d_Mo_chain_93 : decode b_Mo_chain 93 = .ok (.putfield 156, 3) := by decide +kernel
theorem d_Mo_chain_96 : decode b_Mo_chain 96 = .ok (.iconst 1, 1) := by decide +kernel
theorem d_Mo_chain_97 : decode b_Mo_chain 97 = .ok (.ireturn, 1) := by decide +kernel
abbrev rm_Mo_chain : Room := { frames := 1, cells := 0, slots := 0, locals := 22 }
def f_Mo_chain_50 (n : Nat) (μ : Mem) (x1 : Int32) (x2 : Int32) (s0 : Bool) : Option (Bool × Mem) := (if (bz s0) = 0 then (some (false, μ)) else (if (μ.1 0 17) < (6 : Int32) then (gd (inb (μ.1 0 17) 6) (bd (wi μ 12 (μ.1 0 17).toNatClampNeg x1) (fun μ1 => gd (inb (μ1.1 0 17) 6) (bd (wi μ1 13 (μ1.1 0 17).toNatClampNeg x2) (fun μ2 => bd (wi μ2 0 17 ((μ2.1 0 17) + (1 : Int32))) (fun μ3 => some (true, μ3))))))) else (some (false, μ))))
set_option maxHeartbeats 4000000 in
set_option maxRecDepth 100000 in
theorem w_Mo_chain_50 {p : Program} {l : Launch} {e : Env} {s : State} {m : MethodId} {args : Array Value} {below : List Frame} {meth : Method} {c : Code} {D : va_G} {g : Nat → ClassId} {ad : Nat → Nat} {r : Bool} {μ' : Mem} {A : Nat → Prop} {n : Nat} {μ : Mem} {x1 : Int32} {x2 : Int32} {s0 : Bool} {ls : Array Slot} {H : Heap} {locs : List Loc} (X : Cx p s m args meth c b_Mo_chain 4 R_Mo (some .boolean) D CL (TY g)) (hDA : ∀ μ : Mem, va_D A (WM g ad μ)) (hP : va_P D CL (WM g ad μ) H) (hS : va_S A s.heap H locs) (hl : lv_has ls 4 [(0, .ref (ad 0)), (1, .int x1), (2, .int x2)]) (hf : f_Mo_chain_50 n μ x1 x2 s0 = some (r, μ')) : WU p l e rm_Mo_chain s m args below meth c H locs D (WM g ad μ') A (some (.int (bz r))) (F0 m 50 ls [.int (bz s0)]) := by
  obtain ⟨S, hr, hlk, hK⟩ := id X
  obtain ⟨hx, hb, hml, hown, hts⟩ := id S
  rw [f_Mo_chain_50] at hf
  refine lv_istore_n (lv' := [(3, .int (bz s0)), (0, .ref (ad 0)), (1, .int x1), (2, .int x2)]) hx hb d_Mo_chain_50 rfl hl (Nat.le_of_ble_eq_true rfl) rfl (fun ls hl => ?_)
  refine lv_iload_n hx hb d_Mo_chain_51 rfl (lv_at hl 0 rfl) ?_
  refine lv_if_eq (tgt := 64) hx hb d_Mo_chain_52 rfl (fun hc => ?_) (fun hc => ?_)
  · replace hf := br_p hc hf
    refine lv_iconst (v := 0) hx hb d_Mo_chain_64 (by decide) ?_
    obtain ⟨h1, h2⟩ := Prod.mk.inj (Option.some.inj hf)
    subst h1; subst h2
    exact W.zret hx hb hr (by first | rfl | exact bz_nar _) (fun t ht _ => ⟨rfl, by rw [ht]; exact hP, hS.F ht⟩) hS.2.2 d_Mo_chain_65
  · replace hf := br_n hc hf
    refine lv_aload_n hx hb d_Mo_chain_55 rfl (lv_at hl 1 rfl) ?_
    refine mg_0_17 hx hb hts hown hK hP q_835 d_Mo_chain_56 ?_
    refine lv_bipush (v := 6) hx hb d_Mo_chain_59 (by decide) ?_
    refine lv_icmp_lt (tgt := 66) hx hb d_Mo_chain_61 rfl (fun hc => ?_) (fun hc => ?_)
    · replace hf := br_p hc hf
      refine lv_aload_n hx hb d_Mo_chain_66 rfl (lv_at hl 1 rfl) ?_
      refine mg_0_15 hx hb hts hown hK hP q_833 d_Mo_chain_67 ?_
      refine lv_aload_n hx hb d_Mo_chain_70 rfl (lv_at hl 1 rfl) ?_
      refine mg_0_17 hx hb hts hown hK hP q_835 d_Mo_chain_71 ?_
      refine lv_iload_n hx hb d_Mo_chain_74 rfl (lv_at hl 2 rfl) ?_
      obtain ⟨hi, hf⟩ := gd_x hf
      obtain ⟨μ1, hμ1, hf⟩ := bd_x hf
      refine ms_12 hx hb hK (hDA _) hP hS (inb_in hi) d_Mo_chain_75 hμ1 (fun H locs hP hS => ?_)
      refine lv_aload_n hx hb d_Mo_chain_76 rfl (lv_at hl 1 rfl) ?_
      refine mg_0_16 hx hb hts hown hK hP q_834 d_Mo_chain_77 ?_
      refine lv_aload_n hx hb d_Mo_chain_80 rfl (lv_at hl 1 rfl) ?_
      refine mg_0_17 hx hb hts hown hK hP q_835 d_Mo_chain_81 ?_
      refine lv_iload_n hx hb d_Mo_chain_84 rfl (lv_at hl 3 rfl) ?_
      obtain ⟨hi, hf⟩ := gd_x hf
      obtain ⟨μ2, hμ2, hf⟩ := bd_x hf
      refine ms_13 hx hb hK (hDA _) hP hS (inb_in hi) d_Mo_chain_85 hμ2 (fun H locs hP hS => ?_)
      refine lv_aload_n hx hb d_Mo_chain_86 rfl (lv_at hl 1 rfl) ?_
      refine lv_dup hx hb d_Mo_chain_87 rfl ?_
      refine mg_0_17 hx hb hts hown hK hP q_835 d_Mo_chain_88 ?_
      refine lv_iconst (v := 1) hx hb d_Mo_chain_91 (by decide) ?_
      refine lv_iadd hx hb d_Mo_chain_92 ?_
      obtain ⟨μ3, hμ3, hf⟩ := bd_x hf
      refine mp_0_17 hx hb hts hown hK (hDA _) hP hS q_835 d_Mo_chain_93 hμ3 (fun H locs hP hS => ?_)
      refine lv_iconst (v := 1) hx hb d_Mo_chain_96 (by decide) ?_
      obtain ⟨h1, h2⟩ := Prod.mk.inj (Option.some.inj hf)
      subst h1; subst h2
      exact W.zret hx hb hr (by first | rfl | exact bz_nar _) (fun t ht _ => ⟨rfl, by rw [ht]; exact hP, hS.F ht⟩) hS.2.2 d_Mo_chain_97
    · replace hf := br_n hc hf
      refine lv_iconst (v := 0) hx hb d_Mo_chain_64 (by decide) ?_
      obtain ⟨h1, h2⟩ := Prod.mk.inj (Option.some.inj hf)
      subst h1; subst h2
      exact W.zret hx hb hr (by first | rfl | exact bz_nar _) (fun t ht _ => ⟨rfl, by rw [ht]; exact hP, hS.F ht⟩) hS.2.2 d_Mo_chain_65
def f_Mo_chain_21 (n : Nat) (μ : Mem) (x1 : Int32) (x2 : Int32) : Option (Bool × Mem) := cl (f_Mo_in n x2 (1 : Int32) (7 : Int32)) (fun v1 => f_Mo_chain_50 n μ x1 x2 v1)
set_option maxHeartbeats 4000000 in
set_option maxRecDepth 100000 in
theorem w_Mo_chain_21 {p : Program} {l : Launch} {e : Env} {s : State} {m : MethodId} {args : Array Value} {below : List Frame} {meth : Method} {c : Code} {D : va_G} {g : Nat → ClassId} {ad : Nat → Nat} {r : Bool} {μ' : Mem} {A : Nat → Prop} {n : Nat} {μ : Mem} {x1 : Int32} {x2 : Int32} {ls : Array Slot} {H : Heap} {locs : List Loc} (X : Cx p s m args meth c b_Mo_chain 4 R_Mo (some .boolean) D CL (TY g)) (hDA : ∀ μ : Mem, va_D A (WM g ad μ)) (hP : va_P D CL (WM g ad μ) H) (hS : va_S A s.heap H locs) (hl : lv_has ls 4 [(0, .ref (ad 0)), (1, .int x1), (2, .int x2)]) (hf : f_Mo_chain_21 n μ x1 x2 = some (r, μ')) : WU p l e rm_Mo_chain s m args below meth c H locs D (WM g ad μ') A (some (.int (bz r))) (F0 m 21 ls []) := by
  obtain ⟨S, hr, hlk, hK⟩ := id X
  obtain ⟨hx, hb, hml, hown, hts⟩ := id S
  rw [f_Mo_chain_21] at hf
  refine lv_iload_n hx hb d_Mo_chain_21 rfl (lv_at hl 2 rfl) ?_
  refine lv_iconst (v := 1) hx hb d_Mo_chain_22 (by decide) ?_
  refine lv_bipush (v := 7) hx hb d_Mo_chain_23 (by decide) ?_
  obtain ⟨v1, hv1, hf⟩ := cl_x hf
  refine rdS (As := [.int x2, .int (1 : Int32), .int (7 : Int32)]) (rest := []) S K_Mo_in q_985 (c_Mo_in (w := (WM g ad μ)) hv1) hK hP ⟨rfl, rfl⟩ ⟨Nat.le_of_ble_eq_true rfl, Nat.le_of_ble_eq_true rfl⟩ rfl hl.1 rfl (Nat.le_of_ble_eq_true rfl) d_Mo_chain_25 ⟨Nat.le_refl _, Nat.le_refl _⟩ ?_
  refine lv_goto (tgt := 50) hx hb d_Mo_chain_28 rfl ?_
  exact w_Mo_chain_50 X hDA hP hS (lv_sub (l' := [(0, .ref (ad 0)), (1, .int x1), (2, .int x2)]) hl [0, 1, 2] rfl) hf
def f_Mo_chain_49 (n : Nat) (μ : Mem) (x1 : Int32) (x2 : Int32) : Option (Bool × Mem) := f_Mo_chain_50 n μ x1 x2 false
set_option maxHeartbeats 4000000 in
set_option maxRecDepth 100000 in
theorem w_Mo_chain_49 {p : Program} {l : Launch} {e : Env} {s : State} {m : MethodId} {args : Array Value} {below : List Frame} {meth : Method} {c : Code} {D : va_G} {g : Nat → ClassId} {ad : Nat → Nat} {r : Bool} {μ' : Mem} {A : Nat → Prop} {n : Nat} {μ : Mem} {x1 : Int32} {x2 : Int32} {ls : Array Slot} {H : Heap} {locs : List Loc} (X : Cx p s m args meth c b_Mo_chain 4 R_Mo (some .boolean) D CL (TY g)) (hDA : ∀ μ : Mem, va_D A (WM g ad μ)) (hP : va_P D CL (WM g ad μ) H) (hS : va_S A s.heap H locs) (hl : lv_has ls 4 [(0, .ref (ad 0)), (1, .int x1), (2, .int x2)]) (hf : f_Mo_chain_49 n μ x1 x2 = some (r, μ')) : WU p l e rm_Mo_chain s m args below meth c H locs D (WM g ad μ') A (some (.int (bz r))) (F0 m 49 ls []) := by
  obtain ⟨S, hr, hlk, hK⟩ := id X
  obtain ⟨hx, hb, hml, hown, hts⟩ := id S
  rw [f_Mo_chain_49] at hf
  refine lv_iconst (v := 0) hx hb d_Mo_chain_49 (by decide) ?_
  refine top_i (z := bz false) (by decide) ?_
  exact w_Mo_chain_50 X hDA hP hS (lv_sub (l' := [(0, .ref (ad 0)), (1, .int x1), (2, .int x2)]) hl [0, 1, 2] rfl) hf
def f_Mo_chain_41 (n : Nat) (μ : Mem) (x1 : Int32) (x2 : Int32) : Option (Bool × Mem) := (if x2 = 0 then (f_Mo_chain_50 n μ x1 x2 true) else (f_Mo_chain_49 n μ x1 x2))
set_option maxHeartbeats 4000000 in
set_option maxRecDepth 100000 in
theorem w_Mo_chain_41 {p : Program} {l : Launch} {e : Env} {s : State} {m : MethodId} {args : Array Value} {below : List Frame} {meth : Method} {c : Code} {D : va_G} {g : Nat → ClassId} {ad : Nat → Nat} {r : Bool} {μ' : Mem} {A : Nat → Prop} {n : Nat} {μ : Mem} {x1 : Int32} {x2 : Int32} {ls : Array Slot} {H : Heap} {locs : List Loc} (X : Cx p s m args meth c b_Mo_chain 4 R_Mo (some .boolean) D CL (TY g)) (hDA : ∀ μ : Mem, va_D A (WM g ad μ)) (hP : va_P D CL (WM g ad μ) H) (hS : va_S A s.heap H locs) (hl : lv_has ls 4 [(0, .ref (ad 0)), (1, .int x1), (2, .int x2)]) (hf : f_Mo_chain_41 n μ x1 x2 = some (r, μ')) : WU p l e rm_Mo_chain s m args below meth c H locs D (WM g ad μ') A (some (.int (bz r))) (F0 m 41 ls []) := by
  obtain ⟨S, hr, hlk, hK⟩ := id X
  obtain ⟨hx, hb, hml, hown, hts⟩ := id S
  rw [f_Mo_chain_41] at hf
  refine lv_iload_n hx hb d_Mo_chain_41 rfl (lv_at hl 2 rfl) ?_
  refine lv_if_ne (tgt := 49) hx hb d_Mo_chain_42 rfl (fun hc => ?_) (fun hc => ?_)
  · replace hf := br_n hc hf
    exact w_Mo_chain_49 X hDA hP hS (lv_sub (l' := [(0, .ref (ad 0)), (1, .int x1), (2, .int x2)]) hl [0, 1, 2] rfl) hf
  · replace hf := br_p hc hf
    refine lv_iconst (v := 1) hx hb d_Mo_chain_45 (by decide) ?_
    refine lv_goto (tgt := 50) hx hb d_Mo_chain_46 rfl ?_
    refine top_i (z := bz true) (by decide) ?_
    exact w_Mo_chain_50 X hDA hP hS (lv_sub (l' := [(0, .ref (ad 0)), (1, .int x1), (2, .int x2)]) hl [0, 1, 2] rfl) hf
def f_Mo_chain (n : Nat) (μ : Mem) (a1 : Int32) (a2 : Int32) : Option (Bool × Mem) := (if a1 = (-1 : Int32) then (bd (wi μ 0 17 (0 : Int32)) (fun μ1 => some (true, μ1))) else (if a1 = 0 then (f_Mo_chain_21 n μ a1 a2) else (if a1 = (3 : Int32) then (f_Mo_chain_21 n μ a1 a2) else (if a1 = (1 : Int32) then (f_Mo_chain_41 n μ a1 a2) else (if a1 = (2 : Int32) then (f_Mo_chain_41 n μ a1 a2) else (f_Mo_chain_49 n μ a1 a2))))))
set_option maxHeartbeats 4000000 in
set_option maxRecDepth 100000 in
theorem w_Mo_chain {p : Program} {l : Launch} {e : Env} {s : State} {m : MethodId} {args : Array Value} {below : List Frame} {meth : Method} {c : Code} {D : va_G} {g : Nat → ClassId} {ad : Nat → Nat} {r : Bool} {μ' : Mem} {A : Nat → Prop} {n : Nat} {μ : Mem} {a1 : Int32} {a2 : Int32} {ls : Array Slot} {H : Heap} {locs : List Loc} (X : Cx p s m args meth c b_Mo_chain 4 R_Mo (some .boolean) D CL (TY g)) (hDA : ∀ μ : Mem, va_D A (WM g ad μ)) (hP : va_P D CL (WM g ad μ) H) (hS : va_S A s.heap H locs) (hl : lv_has ls 4 [(0, .ref (ad 0)), (1, .int a1), (2, .int a2)]) (hf : f_Mo_chain n μ a1 a2 = some (r, μ')) : WU p l e rm_Mo_chain s m args below meth c H locs D (WM g ad μ') A (some (.int (bz r))) (F0 m 0 ls []) := by
  obtain ⟨S, hr, hlk, hK⟩ := id X
  obtain ⟨hx, hb, hml, hown, hts⟩ := id S
  rw [f_Mo_chain] at hf
  refine lv_iload_n hx hb d_Mo_chain_0 rfl (lv_at hl 1 rfl) ?_
  refine lv_iconst (v := -1) hx hb d_Mo_chain_1 (by decide) ?_
  refine lv_icmp_ne (tgt := 12) hx hb d_Mo_chain_2 rfl (fun hc => ?_) (fun hc => ?_)
  · replace hf := br_n hc hf
    refine lv_iload_n hx hb d_Mo_chain_12 rfl (lv_at hl 1 rfl) ?_
    refine lv_if_eq (tgt := 21) hx hb d_Mo_chain_13 rfl (fun hc => ?_) (fun hc => ?_)
    · replace hf := br_p hc hf
      exact w_Mo_chain_21 X hDA hP hS (lv_sub (l' := [(0, .ref (ad 0)), (1, .int a1), (2, .int a2)]) hl [0, 1, 2] rfl) hf
    · replace hf := br_n hc hf
      refine lv_iload_n hx hb d_Mo_chain_16 rfl (lv_at hl 1 rfl) ?_
      refine lv_iconst (v := 3) hx hb d_Mo_chain_17 (by decide) ?_
      refine lv_icmp_ne (tgt := 31) hx hb d_Mo_chain_18 rfl (fun hc => ?_) (fun hc => ?_)
      · replace hf := br_n hc hf
        refine lv_iload_n hx hb d_Mo_chain_31 rfl (lv_at hl 1 rfl) ?_
        refine lv_iconst (v := 1) hx hb d_Mo_chain_32 (by decide) ?_
        refine lv_icmp_eq (tgt := 41) hx hb d_Mo_chain_33 rfl (fun hc => ?_) (fun hc => ?_)
        · replace hf := br_p hc hf
          exact w_Mo_chain_41 X hDA hP hS (lv_sub (l' := [(0, .ref (ad 0)), (1, .int a1), (2, .int a2)]) hl [0, 1, 2] rfl) hf
        · replace hf := br_n hc hf
          refine lv_iload_n hx hb d_Mo_chain_36 rfl (lv_at hl 1 rfl) ?_
          refine lv_iconst (v := 2) hx hb d_Mo_chain_37 (by decide) ?_
          refine lv_icmp_ne (tgt := 49) hx hb d_Mo_chain_38 rfl (fun hc => ?_) (fun hc => ?_)
          · replace hf := br_n hc hf
            exact w_Mo_chain_49 X hDA hP hS (lv_sub (l' := [(0, .ref (ad 0)), (1, .int a1), (2, .int a2)]) hl [0, 1, 2] rfl) hf
          · replace hf := br_p hc hf
            exact w_Mo_chain_41 X hDA hP hS (lv_sub (l' := [(0, .ref (ad 0)), (1, .int a1), (2, .int a2)]) hl [0, 1, 2] rfl) hf
      · replace hf := br_p hc hf
        exact w_Mo_chain_21 X hDA hP hS (lv_sub (l' := [(0, .ref (ad 0)), (1, .int a1), (2, .int a2)]) hl [0, 1, 2] rfl) hf
  · replace hf := br_p hc hf
    refine lv_aload_n hx hb d_Mo_chain_5 rfl (lv_at hl 0 rfl) ?_
    refine lv_iconst (v := 0) hx hb d_Mo_chain_6 (by decide) ?_
    obtain ⟨μ1, hμ1, hf⟩ := bd_x hf
    refine mp_0_17 hx hb hts hown hK (hDA _) hP hS q_835 d_Mo_chain_7 hμ1 (fun H locs hP hS => ?_)
    refine lv_iconst (v := 1) hx hb d_Mo_chain_10 (by decide) ?_
    obtain ⟨h1, h2⟩ := Prod.mk.inj (Option.some.inj hf)
    subst h1; subst h2
    exact W.zret hx hb hr (by first | rfl | exact bz_nar _) (fun t ht _ => ⟨rfl, by rw [ht]; exact hP, hS.F ht⟩) hS.2.2 d_Mo_chain_11
theorem c_Mo_chain {l : Launch} {D : va_G} {g : Nat → ClassId} {ad : Nat → Nat} {μ : Mem} {r : Bool} {μ' : Mem} {A : Nat → Prop} {n : Nat} {a1 : Int32} {a2 : Int32} (hDA : ∀ μ : Mem, va_D A (WM g ad μ)) (hf : f_Mo_chain n μ a1 a2 = some (r, μ')) : Met l y_Mo_chain (Cond.code y_Mo_chain b_Mo_chain 4 (some .boolean) :: ww) rm_Mo_chain (RP D CL (TY g) (WM g ad μ) [.ref (ad 0), .int a1, .int a2]) (QW D CL (WM g ad μ') A (some (.int (bz r)))) 0 0 A := by
  refine met_of (by decide) (Nat.le_of_ble_eq_true rfl) ?_
  intro p e s m below meth c ls X hP hl
  have hl : lv_has ls 4 [(0, .ref (ad 0)), (1, .int a1), (2, .int a2)] := hl
  exact w_Mo_chain X hDA hP va_S.rf hl hf
theorem d_Mo_runAt_0 : decode b_Mo_runAt 0 = .ok (.iconst 1, 1) := by decide +kernel
theorem d_Mo_runAt_1 : decode b_Mo_runAt 1 = .ok (.istore_n 2, 1) := by decide +kernel
theorem d_Mo_runAt_2 : decode b_Mo_runAt 2 = .ok (.iload_n 2, 1) := by decide +kernel
theorem d_Mo_runAt_3 : decode b_Mo_runAt 3 = .ok (.bipush 8, 2) := by decide +kernel
theorem d_Mo_runAt_5 : decode b_Mo_runAt 5 = .ok (.if_icmp .ge 42, 3) := by decide +kernel
theorem d_Mo_runAt_8 : decode b_Mo_runAt 8 = .ok (.iload_n 1, 1) := by decide +kernel
theorem d_Mo_runAt_9 : decode b_Mo_runAt 9 = .ok (.iload_n 2, 1) := by decide +kernel
theorem d_Mo_runAt_10 : decode b_Mo_runAt 10 = .ok (.iadd, 1) := by decide +kernel
theorem d_Mo_runAt_11 : decode b_Mo_runAt 11 = .ok (.aload_n 0, 1) := by decide +kernel
theorem d_Mo_runAt_12 : decode b_Mo_runAt 12 = .ok (.getfield 129, 3) := by decide +kernel
theorem d_Mo_runAt_15 : decode b_Mo_runAt 15 = .ok (.if_icmp .ge 32, 3) := by decide +kernel
theorem d_Mo_runAt_18 : decode b_Mo_runAt 18 = .ok (.aload_n 0, 1) := by decide +kernel
theorem d_Mo_runAt_19 : decode b_Mo_runAt 19 = .ok (.getfield 7, 3) := by decide +kernel
theorem d_Mo_runAt_22 : decode b_Mo_runAt 22 = .ok (.iload_n 1, 1) := by decide +kernel
theorem d_Mo_runAt_23 : decode b_Mo_runAt 23 = .ok (.iload_n 2, 1) := by decide +kernel
theorem d_Mo_runAt_24 : decode b_Mo_runAt 24 = .ok (.iadd, 1) := by decide +kernel
theorem d_Mo_runAt_25 : decode b_Mo_runAt 25 = .ok (.iaload, 1) := by decide +kernel
theorem d_Mo_runAt_26 : decode b_Mo_runAt 26 = .ok (.bipush 64, 2) := by decide +kernel
theorem d_Mo_runAt_28 : decode b_Mo_runAt 28 = .ok (.idiv, 1) := by decide +kernel
theorem d_Mo_runAt_29 : decode b_Mo_runAt 29 = .ok (.aload_n 0, 1) := by decide +kernel
theorem d_Mo_runAt_30 : decode b_Mo_runAt 30 = .ok (.getfield 7, 3) := by decide +kernel
theorem d_Mo_runAt_33 : decode b_Mo_runAt 33 = .ok (.iload_n 1, 1) := by decide +kernel
theorem d_Mo_runAt_34 : decode b_Mo_runAt 34 = .ok (.iaload, 1) := by decide +kernel
theorem d_Mo_runAt_35 : decode b_Mo_runAt 35 = .ok (.bipush 64, 2) := by decide +kernel
theorem d_Mo_runAt_37 : decode b_Mo_runAt 37 = .ok (.idiv, 1) := by decide +kernel
theorem d_Mo_runAt_38 : decode b_Mo_runAt 38 = .ok (.if_icmp .ne 9, 3) := by decide +kernel
theorem d_Mo_runAt_41 : decode b_Mo_runAt 41 = .ok (.iinc 2 1, 3) := by decide +kernel
theorem d_Mo_runAt_44 : decode b_Mo_runAt 44 = .ok (.goto (-42), 3) := by decide +kernel
theorem d_Mo_runAt_47 : decode b_Mo_runAt 47 = .ok (.iload_n 2, 1) := by decide +kernel
theorem d_Mo_runAt_48 : decode b_Mo_runAt 48 = .ok (.ireturn, 1) := by decide +kernel
abbrev rm_Mo_runAt : Room := { frames := 0, cells := 0, slots := 0, locals := 0 }
def f_Mo_runAt_2 (μ : Mem) : Nat → Int32 → Int32 → Option Int32
  | 0, _, _ => none
  | n + 1, x1, x2 => (if (8 : Int32) ≤ x2 then (some x2) else (if (μ.1 0 1) ≤ (x1 + x2) then (some x2) else (gd (inb (x1 + x2) 24) (gd (inb x1 24) ((if ((μ.1 1 (x1 + x2).toNatClampNeg) / (64 : Int32)) = ((μ.1 1 x1.toNatClampNeg) / (64 : Int32)) then (bd (x2 + 1) (fun v1 => (f_Mo_runAt_2 μ n) x1 v1)) else (some x2)))))))
set_option maxHeartbeats 4000000 in
set_option maxRecDepth 100000 in
theorem w_Mo_runAt_2 {p : Program} {l : Launch} {e : Env} {s : State} {m : MethodId} {args : Array Value} {below : List Frame} {meth : Method} {c : Code} {D : va_G} {g : Nat → ClassId} {ad : Nat → Nat} {μ : Mem} {r : Int32} (X : Cx p s m args meth c b_Mo_runAt 3 R_Mo (some .int) D CL (TY g)) (hP : va_P D CL (WM g ad μ) s.heap) : ∀ (n : Nat) (x1 : Int32) (x2 : Int32) (ls : Array Slot), lv_has ls 3 [(0, .ref (ad 0)), (1, .int x1), (2, .int x2)] → f_Mo_runAt_2 μ n x1 x2 = some r → WR p l e rm_Mo_runAt s m args below meth c (.int r) (F0 m 2 ls []) := by
  intro n
  induction n with
  | zero => intro x1 x2 ls hl hf; rw [f_Mo_runAt_2] at hf; cases hf
  | succ n ih =>
    intro x1 x2 ls hl hf
    obtain ⟨S, hr, hlk, hK⟩ := id X
    obtain ⟨hx, hb, hml, hown, hts⟩ := id S
    rw [f_Mo_runAt_2] at hf
    refine lv_iload_n hx hb d_Mo_runAt_2 rfl (lv_at hl 2 rfl) ?_
    refine lv_bipush (v := 8) hx hb d_Mo_runAt_3 (by decide) ?_
    refine lv_icmp_ge (tgt := 47) hx hb d_Mo_runAt_5 rfl (fun hc => ?_) (fun hc => ?_)
    · replace hf := br_p hc hf
      refine lv_iload_n hx hb d_Mo_runAt_47 rfl (lv_at hl 2 rfl) ?_
      have h1 := Option.some.inj hf
      subst h1
      exact W.iret hx hb hr (fun t ht _ => ⟨rfl, ht⟩) (fun _ h => by cases h) d_Mo_runAt_48
    · replace hf := br_n hc hf
      refine lv_iload_n hx hb d_Mo_runAt_8 rfl (lv_at hl 1 rfl) ?_
      refine lv_iload_n hx hb d_Mo_runAt_9 rfl (lv_at hl 2 rfl) ?_
      refine lv_iadd hx hb d_Mo_runAt_10 ?_
      refine lv_aload_n hx hb d_Mo_runAt_11 rfl (lv_at hl 0 rfl) ?_
      refine mg_0_1 hx hb hts hown hK hP q_819 d_Mo_runAt_12 ?_
      refine lv_icmp_ge (tgt := 47) hx hb d_Mo_runAt_15 rfl (fun hc => ?_) (fun hc => ?_)
      · replace hf := br_p hc hf
        refine lv_iload_n hx hb d_Mo_runAt_47 rfl (lv_at hl 2 rfl) ?_
        have h1 := Option.some.inj hf
        subst h1
        exact W.iret hx hb hr (fun t ht _ => ⟨rfl, ht⟩) (fun _ h => by cases h) d_Mo_runAt_48
      · replace hf := br_n hc hf
        refine lv_aload_n hx hb d_Mo_runAt_18 rfl (lv_at hl 0 rfl) ?_
        refine mg_0_0 hx hb hts hown hK hP q_818 d_Mo_runAt_19 ?_
        refine lv_iload_n hx hb d_Mo_runAt_22 rfl (lv_at hl 1 rfl) ?_
        refine lv_iload_n hx hb d_Mo_runAt_23 rfl (lv_at hl 2 rfl) ?_
        refine lv_iadd hx hb d_Mo_runAt_24 ?_
        obtain ⟨hi, hf⟩ := gd_x hf
        refine ml_1 hx hb hK hP (inb_in hi) d_Mo_runAt_25 ?_
        refine lv_bipush (v := 64) hx hb d_Mo_runAt_26 (by decide) ?_
        refine lv_idiv hx hb d_Mo_runAt_28 (by decide) ?_
        refine lv_aload_n hx hb d_Mo_runAt_29 rfl (lv_at hl 0 rfl) ?_
        refine mg_0_0 hx hb hts hown hK hP q_818 d_Mo_runAt_30 ?_
        refine lv_iload_n hx hb d_Mo_runAt_33 rfl (lv_at hl 1 rfl) ?_
        obtain ⟨hi, hf⟩ := gd_x hf
        refine ml_1 hx hb hK hP (inb_in hi) d_Mo_runAt_34 ?_
        refine lv_bipush (v := 64) hx hb d_Mo_runAt_35 (by decide) ?_
        refine lv_idiv hx hb d_Mo_runAt_37 (by decide) ?_
        refine lv_icmp_ne (tgt := 47) hx hb d_Mo_runAt_38 rfl (fun hc => ?_) (fun hc => ?_)
        · replace hf := br_n hc hf
          refine lv_iload_n hx hb d_Mo_runAt_47 rfl (lv_at hl 2 rfl) ?_
          have h1 := Option.some.inj hf
          subst h1
          exact W.iret hx hb hr (fun t ht _ => ⟨rfl, ht⟩) (fun _ h => by cases h) d_Mo_runAt_48
        · replace hf := br_p hc hf
          obtain ⟨v1, hv1, hf⟩ := bd_x hf
          refine lv_iinc (lv' := [(2, .int v1), (0, .ref (ad 0)), (1, .int x1)]) hx hb d_Mo_runAt_41 hl (k := 2) rfl (show x2 + Int32.ofInt (1) = v1 from hv1) (Nat.le_of_ble_eq_true rfl) rfl (fun ls hl => ?_)
          refine lv_goto (tgt := 2) hx hb d_Mo_runAt_44 rfl ?_
          exact ih _ _ _ (lv_sub (l' := [(0, .ref (ad 0)), (1, .int x1), (2, .int v1)]) hl [1, 2, 0] rfl) hf
def f_Mo_runAt (n : Nat) (μ : Mem) (a1 : Int32) : Option Int32 := f_Mo_runAt_2 μ n a1 (1 : Int32)
set_option maxHeartbeats 4000000 in
set_option maxRecDepth 100000 in
theorem w_Mo_runAt {p : Program} {l : Launch} {e : Env} {s : State} {m : MethodId} {args : Array Value} {below : List Frame} {meth : Method} {c : Code} {D : va_G} {g : Nat → ClassId} {ad : Nat → Nat} {μ : Mem} {r : Int32} {n : Nat} {a1 : Int32} {ls : Array Slot} (X : Cx p s m args meth c b_Mo_runAt 3 R_Mo (some .int) D CL (TY g)) (hP : va_P D CL (WM g ad μ) s.heap) (hl : lv_has ls 3 [(0, .ref (ad 0)), (1, .int a1)]) (hf : f_Mo_runAt n μ a1 = some r) : WR p l e rm_Mo_runAt s m args below meth c (.int r) (F0 m 0 ls []) := by
  obtain ⟨S, hr, hlk, hK⟩ := id X
  obtain ⟨hx, hb, hml, hown, hts⟩ := id S
  rw [f_Mo_runAt] at hf
  refine lv_iconst (v := 1) hx hb d_Mo_runAt_0 (by decide) ?_
  refine lv_istore_n (lv' := [(2, .int (1 : Int32)), (0, .ref (ad 0)), (1, .int a1)]) hx hb d_Mo_runAt_1 rfl hl (Nat.le_of_ble_eq_true rfl) rfl (fun ls hl => ?_)
  exact w_Mo_runAt_2 X hP _ _ _ _ (lv_sub (l' := [(0, .ref (ad 0)), (1, .int a1), (2, .int (1 : Int32))]) hl [1, 2, 0] rfl) hf
theorem c_Mo_runAt {l : Launch} {D : va_G} {g : Nat → ClassId} {ad : Nat → Nat} {μ : Mem} {r : Int32} {n : Nat} {a1 : Int32} (hf : f_Mo_runAt n μ a1 = some r) : Met l y_Mo_runAt (Cond.code y_Mo_runAt b_Mo_runAt 3 (some .int) :: ww) rm_Mo_runAt (RP D CL (TY g) (WM g ad μ) [.ref (ad 0), .int a1]) (k2_QcV (.int r)) 0 0 (fun _ => False) := by
  refine met_of (by decide) (Nat.le_of_ble_eq_true rfl) ?_
  intro p e s m below meth c ls X hP hl
  have hl : lv_has ls 3 [(0, .ref (ad 0)), (1, .int a1)] := hl
  exact w_Mo_runAt X hP hl hf
theorem d_Mo_chargeOf_0 : decode b_Mo_chargeOf 0 = .ok (.iload 4, 2) := by decide +kernel
theorem d_Mo_chargeOf_2 : decode b_Mo_chargeOf 2 = .ok (.ifCond .eq 18, 3) := by decide +kernel
theorem d_Mo_chargeOf_5 : decode b_Mo_chargeOf 5 = .ok (.iload_n 3, 1) := by decide +kernel
theorem d_Mo_chargeOf_6 : decode b_Mo_chargeOf 6 = .ok (.bipush 40, 2) := by decide +kernel
theorem d_Mo_chargeOf_8 : decode b_Mo_chargeOf 8 = .ok (.if_icmp .eq 14, 3) := by decide +kernel
theorem d_Mo_chargeOf_11 : decode b_Mo_chargeOf 11 = .ok (.aload_n 0, 1) := by decide +kernel
theorem d_Mo_chargeOf_12 : decode b_Mo_chargeOf 12 = .ok (.getfield 25, 3) := by decide +kernel
theorem d_Mo_chargeOf_15 : decode b_Mo_chargeOf 15 = .ok (.iload_n 3, 1) := by decide +kernel
theorem d_Mo_chargeOf_16 : decode b_Mo_chargeOf 16 = .ok (.iaload, 1) := by decide +kernel
theorem d_Mo_chargeOf_17 : decode b_Mo_chargeOf 17 = .ok (.ifCond .eq 5, 3) := by decide +kernel
theorem d_Mo_chargeOf_20 : decode b_Mo_chargeOf 20 = .ok (.iconst 0, 1) := by decide +kernel
theorem d_Mo_chargeOf_21 : decode b_Mo_chargeOf 21 = .ok (.ireturn, 1) := by decide +kernel
theorem d_Mo_chargeOf_22 : decode b_Mo_chargeOf 22 = .ok (.iconst 1, 1) := by decide +kernel
theorem d_Mo_chargeOf_23 : decode b_Mo_chargeOf 23 = .ok (.istore 5, 2) := by decide +kernel
theorem d_Mo_chargeOf_25 : decode b_Mo_chargeOf 25 = .ok (.iconst 0, 1) := by decide +kernel
theorem d_Mo_chargeOf_26 : decode b_Mo_chargeOf 26 = .ok (.istore 6, 2) := by decide +kernel
theorem d_Mo_chargeOf_28 : decode b_Mo_chargeOf 28 = .ok (.iload 6, 2) := by decide +kernel
theorem d_Mo_chargeOf_30 : decode b_Mo_chargeOf 30 = .ok (.iload_n 2, 1) := by decide +kernel
theorem d_Mo_chargeOf_31 : decode b_Mo_chargeOf 31 = .ok (.if_icmp .ge 37, 3) := by decide +kernel
theorem d_Mo_chargeOf_34 : decode b_Mo_chargeOf 34 = .ok (.iload 5, 2) := by decide +kernel
theorem d_Mo_chargeOf_36 : decode b_Mo_chargeOf 36 = .ok (.ifCond .eq 23, 3) := by decide +kernel
theorem d_Mo_chargeOf_39 : decode b_Mo_chargeOf 39 = .ok (.aload_n 0, 1) := by decide +kernel
theorem d_Mo_chargeOf_40 : decode b_Mo_chargeOf 40 = .ok (.getfield 7, 3) := by decide +kernel
theorem d_Mo_chargeOf_43 : decode b_Mo_chargeOf 43 = .ok (.iload_n 1, 1) := by decide +kernel
theorem d_Mo_chargeOf_44 : decode b_Mo_chargeOf 44 = .ok (.iload 6, 2) := by decide +kernel
theorem d_Mo_chargeOf_46 : decode b_Mo_chargeOf 46 = .ok (.iadd, 1) := by decide +kernel
theorem d_Mo_chargeOf_47 : decode b_Mo_chargeOf 47 = .ok (.iaload, 1) := by decide +kernel
theorem d_Mo_chargeOf_48 : decode b_Mo_chargeOf 48 = .ok (.bipush 64, 2) := by decide +kernel
theorem d_Mo_chargeOf_50 : decode b_Mo_chargeOf 50 = .ok (.idiv, 1) := by decide +kernel
theorem d_Mo_chargeOf_51 : decode b_Mo_chargeOf 51 = .ok (.iconst 1, 1) := by decide +kernel
theorem d_Mo_chargeOf_52 : decode b_Mo_chargeOf 52 = .ok (.if_icmp .ne 7, 3) := by decide +kernel
theorem d_Mo_chargeOf_55 : decode b_Mo_chargeOf 55 = .ok (.iconst 1, 1) := by decide +kernel
theorem d_Mo_chargeOf_56 : decode b_Mo_chargeOf 56 = .ok (.goto 4, 3) := by decide +kernel
theorem d_Mo_chargeOf_59 : decode b_Mo_chargeOf 59 = .ok (.iconst 0, 1) := by decide +kernel
theorem d_Mo_chargeOf_60 : decode b_Mo_chargeOf 60 = .ok (.istore 5, 2) := by decide +kernel
theorem d_Mo_chargeOf_62 : decode b_Mo_chargeOf 62 = .ok (.iinc 6 1, 3) := by decide +kernel
theorem d_Mo_chargeOf_65 : decode b_Mo_chargeOf 65 = .ok (.goto (-37), 3) := by decide +kernel
theorem d_Mo_chargeOf_68 : decode b_Mo_chargeOf 68 = .ok (.iload 5, 2) := by decide +kernel
theorem d_Mo_chargeOf_70 : decode b_Mo_chargeOf 70 = .ok (.ifCond .eq 19, 3) := by decide +kernel
theorem d_Mo_chargeOf_73 : decode b_Mo_chargeOf 73 = .ok (.iload_n 2, 1) := by decide +kernel
theorem d_Mo_chargeOf_74 : decode b_Mo_chargeOf 74 = .ok (.iconst 2, 1) := by decide +kernel
theorem d_Mo_chargeOf_75 : decode b_Mo_chargeOf 75 = .ok (.if_icmp .le 14, 3) := by decide +kernel
theorem d_Mo_chargeOf_78 : decode b_Mo_chargeOf 78 = .ok (.aload_n 0, 1) := by decide +kernel
theorem d_Mo_chargeOf_79 : decode b_Mo_chargeOf 79 = .ok (.getfield 150, 3) := by decide +kernel
theorem d_Mo_chargeOf_82 : decode b_Mo_chargeOf 82 = .ok (.iload_n 2, 1) := by decide +kernel
theorem d_Mo_chargeOf_83 : decode b_Mo_chargeOf 83 = .ok (.iconst 2, 1) := by decide +kernel
theorem d_Mo_chargeOf_84 : decode b_Mo_chargeOf 84 = .ok (.isub, 1) := by decide +kernel
theorem d_Mo_chargeOf_85 : decode b_Mo_chargeOf 85 = .ok (.imul, 1) := by decide +kernel
theorem d_Mo_chargeOf_86 : decode b_Mo_chargeOf 86 = .ok (.goto 20, 3) := by decide +kernel
theorem d_Mo_chargeOf_89 : decode b_Mo_chargeOf 89 = .ok (.iload_n 2, 1) := by decide +kernel
theorem d_Mo_chargeOf_90 : decode b_Mo_chargeOf 90 = .ok (.iconst 4, 1) := by decide +kernel
theorem d_Mo_chargeOf_91 : decode b_Mo_chargeOf 91 = .ok (.if_icmp .le 14, 3) := by decide +kernel
theorem d_Mo_chargeOf_94 : decode b_Mo_chargeOf 94 = .ok (.aload_n 0, 1) := by decide +kernel
theorem d_Mo_chargeOf_95 : decode b_Mo_chargeOf 95 = .ok (.getfield 153, 3) := by decide +kernel
theorem d_Mo_chargeOf_98 : decode b_Mo_chargeOf 98 = .ok (.iload_n 2, 1) := by decide +kernel
theorem d_Mo_chargeOf_99 : decode b_Mo_chargeOf 99 = .ok (.iconst 4, 1) := by decide +kernel
theorem d_Mo_chargeOf_100 : decode b_Mo_chargeOf 100 = .ok (.isub, 1) := by decide +kernel
theorem d_Mo_chargeOf_101 : decode b_Mo_chargeOf 101 = .ok (.imul, 1) := by decide +kernel
theorem d_Mo_chargeOf_102 : decode b_Mo_chargeOf 102 = .ok (.goto 4, 3) := by decide +kernel
theorem d_Mo_chargeOf_105 : decode b_Mo_chargeOf 105 = .ok (.iconst 0, 1) := by decide +kernel
theorem d_Mo_chargeOf_106 : decode b_Mo_chargeOf 106 = .ok (.ireturn, 1) := by decide +kernel
abbrev rm_Mo_chargeOf : Room := { frames := 0, cells := 0, slots := 0, locals := 0 }
def f_Mo_chargeOf_89 (μ : Mem) (n : Nat) (x2 : Int32) : Option Int32 := (if x2 ≤ (4 : Int32) then (some (0 : Int32)) else (some ((μ.1 0 14) * (x2 - (4 : Int32)))))
set_option maxHeartbeats 4000000 in
set_option maxRecDepth 100000 in
theorem w_Mo_chargeOf_89 {p : Program} {l : Launch} {e : Env} {s : State} {m : MethodId} {args : Array Value} {below : List Frame} {meth : Method} {c : Code} {D : va_G} {g : Nat → ClassId} {ad : Nat → Nat} {μ : Mem} {r : Int32} {n : Nat} {x2 : Int32} {ls : Array Slot} (X : Cx p s m args meth c b_Mo_chargeOf 7 R_Mo (some .int) D CL (TY g)) (hP : va_P D CL (WM g ad μ) s.heap) (hl : lv_has ls 7 [(0, .ref (ad 0)), (2, .int x2)]) (hf : f_Mo_chargeOf_89 μ n x2 = some r) : WR p l e rm_Mo_chargeOf s m args below meth c (.int r) (F0 m 89 ls []) := by
  obtain ⟨S, hr, hlk, hK⟩ := id X
  obtain ⟨hx, hb, hml, hown, hts⟩ := id S
  rw [f_Mo_chargeOf_89] at hf
  refine lv_iload_n hx hb d_Mo_chargeOf_89 rfl (lv_at hl 1 rfl) ?_
  refine lv_iconst (v := 4) hx hb d_Mo_chargeOf_90 (by decide) ?_
  refine lv_icmp_le (tgt := 105) hx hb d_Mo_chargeOf_91 rfl (fun hc => ?_) (fun hc => ?_)
  · replace hf := br_p hc hf
    refine lv_iconst (v := 0) hx hb d_Mo_chargeOf_105 (by decide) ?_
    have h1 := Option.some.inj hf
    subst h1
    exact W.iret hx hb hr (fun t ht _ => ⟨rfl, ht⟩) (fun _ h => by cases h) d_Mo_chargeOf_106
  · replace hf := br_n hc hf
    refine lv_aload_n hx hb d_Mo_chargeOf_94 rfl (lv_at hl 0 rfl) ?_
    refine mg_0_14 hx hb hts hown hK hP q_832 d_Mo_chargeOf_95 ?_
    refine lv_iload_n hx hb d_Mo_chargeOf_98 rfl (lv_at hl 1 rfl) ?_
    refine lv_iconst (v := 4) hx hb d_Mo_chargeOf_99 (by decide) ?_
    refine lv_isub hx hb d_Mo_chargeOf_100 ?_
    refine lv_imul hx hb d_Mo_chargeOf_101 ?_
    refine lv_goto (tgt := 106) hx hb d_Mo_chargeOf_102 rfl ?_
    have h1 := Option.some.inj hf
    subst h1
    exact W.iret hx hb hr (fun t ht _ => ⟨rfl, ht⟩) (fun _ h => by cases h) d_Mo_chargeOf_106
def f_Mo_chargeOf_60 (κ28 : Int32 → Int32 → Bool → Int32 → Option Int32) (μ : Mem) (n : Nat) (x1 : Int32) (x2 : Int32) (x6 : Int32) (s0 : Bool) : Option Int32 := bd (x6 + 1) (fun v1 => κ28 x1 x2 s0 v1)
set_option maxHeartbeats 4000000 in
set_option maxRecDepth 100000 in
theorem w_Mo_chargeOf_60 {p : Program} {l : Launch} {e : Env} {s : State} {m : MethodId} {args : Array Value} {below : List Frame} {meth : Method} {c : Code} {D : va_G} {g : Nat → ClassId} {ad : Nat → Nat} {μ : Mem} {r : Int32} {κ28 : Int32 → Int32 → Bool → Int32 → Option Int32} {n : Nat} {x1 : Int32} {x2 : Int32} {x6 : Int32} {s0 : Bool} {ls : Array Slot} (X : Cx p s m args meth c b_Mo_chargeOf 7 R_Mo (some .int) D CL (TY g)) (hP : va_P D CL (WM g ad μ) s.heap) (hκ28 : ∀ (x1 : Int32) (x2 : Int32) (x5 : Bool) (x6 : Int32) (ls : Array Slot), lv_has ls 7 [(0, .ref (ad 0)), (1, .int x1), (2, .int x2), (5, .int (bz x5)), (6, .int x6)] → κ28 x1 x2 x5 x6 = some r → WR p l e rm_Mo_chargeOf s m args below meth c (.int r) (F0 m 28 ls [])) (hl : lv_has ls 7 [(0, .ref (ad 0)), (1, .int x1), (2, .int x2), (6, .int x6)]) (hf : f_Mo_chargeOf_60 κ28 μ n x1 x2 x6 s0 = some r) : WR p l e rm_Mo_chargeOf s m args below meth c (.int r) (F0 m 60 ls [.int (bz s0)]) := by
  obtain ⟨S, hr, hlk, hK⟩ := id X
  obtain ⟨hx, hb, hml, hown, hts⟩ := id S
  rw [f_Mo_chargeOf_60] at hf
  refine lv_istore (lv' := [(5, .int (bz s0)), (0, .ref (ad 0)), (1, .int x1), (2, .int x2), (6, .int x6)]) hx hb d_Mo_chargeOf_60 hl (Nat.le_of_ble_eq_true rfl) rfl (fun ls hl => ?_)
  obtain ⟨v1, hv1, hf⟩ := bd_x hf
  refine lv_iinc (lv' := [(6, .int v1), (5, .int (bz s0)), (0, .ref (ad 0)), (1, .int x1), (2, .int x2)]) hx hb d_Mo_chargeOf_62 hl (k := 4) rfl (show x6 + Int32.ofInt (1) = v1 from hv1) (Nat.le_of_ble_eq_true rfl) rfl (fun ls hl => ?_)
  refine lv_goto (tgt := 28) hx hb d_Mo_chargeOf_65 rfl ?_
  exact hκ28 _ _ _ _ _ (lv_sub (l' := [(0, .ref (ad 0)), (1, .int x1), (2, .int x2), (5, .int (bz s0)), (6, .int v1)]) hl [2, 3, 4, 1, 0] rfl) hf
def f_Mo_chargeOf_59 (κ28 : Int32 → Int32 → Bool → Int32 → Option Int32) (μ : Mem) (n : Nat) (x1 : Int32) (x2 : Int32) (x6 : Int32) : Option Int32 := f_Mo_chargeOf_60 κ28 μ n x1 x2 x6 false
set_option maxHeartbeats 4000000 in
set_option maxRecDepth 100000 in
theorem w_Mo_chargeOf_59 {p : Program} {l : Launch} {e : Env} {s : State} {m : MethodId} {args : Array Value} {below : List Frame} {meth : Method} {c : Code} {D : va_G} {g : Nat → ClassId} {ad : Nat → Nat} {μ : Mem} {r : Int32} {κ28 : Int32 → Int32 → Bool → Int32 → Option Int32} {n : Nat} {x1 : Int32} {x2 : Int32} {x6 : Int32} {ls : Array Slot} (X : Cx p s m args meth c b_Mo_chargeOf 7 R_Mo (some .int) D CL (TY g)) (hP : va_P D CL (WM g ad μ) s.heap) (hκ28 : ∀ (x1 : Int32) (x2 : Int32) (x5 : Bool) (x6 : Int32) (ls : Array Slot), lv_has ls 7 [(0, .ref (ad 0)), (1, .int x1), (2, .int x2), (5, .int (bz x5)), (6, .int x6)] → κ28 x1 x2 x5 x6 = some r → WR p l e rm_Mo_chargeOf s m args below meth c (.int r) (F0 m 28 ls [])) (hl : lv_has ls 7 [(0, .ref (ad 0)), (1, .int x1), (2, .int x2), (6, .int x6)]) (hf : f_Mo_chargeOf_59 κ28 μ n x1 x2 x6 = some r) : WR p l e rm_Mo_chargeOf s m args below meth c (.int r) (F0 m 59 ls []) := by
  obtain ⟨S, hr, hlk, hK⟩ := id X
  obtain ⟨hx, hb, hml, hown, hts⟩ := id S
  rw [f_Mo_chargeOf_59] at hf
  refine lv_iconst (v := 0) hx hb d_Mo_chargeOf_59 (by decide) ?_
  refine top_i (z := bz false) (by decide) ?_
  exact w_Mo_chargeOf_60 X hP hκ28 (lv_sub (l' := [(0, .ref (ad 0)), (1, .int x1), (2, .int x2), (6, .int x6)]) hl [0, 1, 2, 3] rfl) hf
def f_Mo_chargeOf_28 (μ : Mem) : Nat → Int32 → Int32 → Bool → Int32 → Option Int32
  | 0, _, _, _, _ => none
  | n + 1, x1, x2, x5, x6 => (if x2 ≤ x6 then (if (bz x5) = 0 then (f_Mo_chargeOf_89 μ n x2) else (if x2 ≤ (2 : Int32) then (f_Mo_chargeOf_89 μ n x2) else (some ((μ.1 0 13) * (x2 - (2 : Int32)))))) else (if (bz x5) = 0 then (f_Mo_chargeOf_59 (f_Mo_chargeOf_28 μ n) μ n x1 x2 x6) else (gd (inb (x1 + x6) 24) ((if ((μ.1 1 (x1 + x6).toNatClampNeg) / (64 : Int32)) = (1 : Int32) then (f_Mo_chargeOf_60 (f_Mo_chargeOf_28 μ n) μ n x1 x2 x6 true) else (f_Mo_chargeOf_59 (f_Mo_chargeOf_28 μ n) μ n x1 x2 x6))))))
set_option maxHeartbeats 4000000 in
set_option maxRecDepth 100000 in
theorem w_Mo_chargeOf_28 {p : Program} {l : Launch} {e : Env} {s : State} {m : MethodId} {args : Array Value} {below : List Frame} {meth : Method} {c : Code} {D : va_G} {g : Nat → ClassId} {ad : Nat → Nat} {μ : Mem} {r : Int32} (X : Cx p s m args meth c b_Mo_chargeOf 7 R_Mo (some .int) D CL (TY g)) (hP : va_P D CL (WM g ad μ) s.heap) : ∀ (n : Nat) (x1 : Int32) (x2 : Int32) (x5 : Bool) (x6 : Int32) (ls : Array Slot), lv_has ls 7 [(0, .ref (ad 0)), (1, .int x1), (2, .int x2), (5, .int (bz x5)), (6, .int x6)] → f_Mo_chargeOf_28 μ n x1 x2 x5 x6 = some r → WR p l e rm_Mo_chargeOf s m args below meth c (.int r) (F0 m 28 ls []) := by
  intro n
  induction n with
  | zero => intro x1 x2 x5 x6 ls hl hf; rw [f_Mo_chargeOf_28] at hf; cases hf
  | succ n ih =>
    intro x1 x2 x5 x6 ls hl hf
    obtain ⟨S, hr, hlk, hK⟩ := id X
    obtain ⟨hx, hb, hml, hown, hts⟩ := id S
    rw [f_Mo_chargeOf_28] at hf
    refine lv_iload hx hb d_Mo_chargeOf_28 (lv_at hl 4 rfl) ?_
    refine lv_iload_n hx hb d_Mo_chargeOf_30 rfl (lv_at hl 2 rfl) ?_
    refine lv_icmp_ge (tgt := 68) hx hb d_Mo_chargeOf_31 rfl (fun hc => ?_) (fun hc => ?_)
    · replace hf := br_p hc hf
      refine lv_iload hx hb d_Mo_chargeOf_68 (lv_at hl 3 rfl) ?_
      refine lv_if_eq (tgt := 89) hx hb d_Mo_chargeOf_70 rfl (fun hc => ?_) (fun hc => ?_)
      · replace hf := br_p hc hf
        exact w_Mo_chargeOf_89 X hP (lv_sub (l' := [(0, .ref (ad 0)), (2, .int x2)]) hl [0, 2] rfl) hf
      · replace hf := br_n hc hf
        refine lv_iload_n hx hb d_Mo_chargeOf_73 rfl (lv_at hl 2 rfl) ?_
        refine lv_iconst (v := 2) hx hb d_Mo_chargeOf_74 (by decide) ?_
        refine lv_icmp_le (tgt := 89) hx hb d_Mo_chargeOf_75 rfl (fun hc => ?_) (fun hc => ?_)
        · replace hf := br_p hc hf
          exact w_Mo_chargeOf_89 X hP (lv_sub (l' := [(0, .ref (ad 0)), (2, .int x2)]) hl [0, 2] rfl) hf
        · replace hf := br_n hc hf
          refine lv_aload_n hx hb d_Mo_chargeOf_78 rfl (lv_at hl 0 rfl) ?_
          refine mg_0_13 hx hb hts hown hK hP q_831 d_Mo_chargeOf_79 ?_
          refine lv_iload_n hx hb d_Mo_chargeOf_82 rfl (lv_at hl 2 rfl) ?_
          refine lv_iconst (v := 2) hx hb d_Mo_chargeOf_83 (by decide) ?_
          refine lv_isub hx hb d_Mo_chargeOf_84 ?_
          refine lv_imul hx hb d_Mo_chargeOf_85 ?_
          refine lv_goto (tgt := 106) hx hb d_Mo_chargeOf_86 rfl ?_
          have h1 := Option.some.inj hf
          subst h1
          exact W.iret hx hb hr (fun t ht _ => ⟨rfl, ht⟩) (fun _ h => by cases h) d_Mo_chargeOf_106
    · replace hf := br_n hc hf
      refine lv_iload hx hb d_Mo_chargeOf_34 (lv_at hl 3 rfl) ?_
      refine lv_if_eq (tgt := 59) hx hb d_Mo_chargeOf_36 rfl (fun hc => ?_) (fun hc => ?_)
      · replace hf := br_p hc hf
        exact w_Mo_chargeOf_59 X hP ih (lv_sub (l' := [(0, .ref (ad 0)), (1, .int x1), (2, .int x2), (6, .int x6)]) hl [0, 1, 2, 4] rfl) hf
      · replace hf := br_n hc hf
        refine lv_aload_n hx hb d_Mo_chargeOf_39 rfl (lv_at hl 0 rfl) ?_
        refine mg_0_0 hx hb hts hown hK hP q_818 d_Mo_chargeOf_40 ?_
        refine lv_iload_n hx hb d_Mo_chargeOf_43 rfl (lv_at hl 1 rfl) ?_
        refine lv_iload hx hb d_Mo_chargeOf_44 (lv_at hl 4 rfl) ?_
        refine lv_iadd hx hb d_Mo_chargeOf_46 ?_
        obtain ⟨hi, hf⟩ := gd_x hf
        refine ml_1 hx hb hK hP (inb_in hi) d_Mo_chargeOf_47 ?_
        refine lv_bipush (v := 64) hx hb d_Mo_chargeOf_48 (by decide) ?_
        refine lv_idiv hx hb d_Mo_chargeOf_50 (by decide) ?_
        refine lv_iconst (v := 1) hx hb d_Mo_chargeOf_51 (by decide) ?_
        refine lv_icmp_ne (tgt := 59) hx hb d_Mo_chargeOf_52 rfl (fun hc => ?_) (fun hc => ?_)
        · replace hf := br_n hc hf
          exact w_Mo_chargeOf_59 X hP ih (lv_sub (l' := [(0, .ref (ad 0)), (1, .int x1), (2, .int x2), (6, .int x6)]) hl [0, 1, 2, 4] rfl) hf
        · replace hf := br_p hc hf
          refine lv_iconst (v := 1) hx hb d_Mo_chargeOf_55 (by decide) ?_
          refine lv_goto (tgt := 60) hx hb d_Mo_chargeOf_56 rfl ?_
          refine top_i (z := bz true) (by decide) ?_
          exact w_Mo_chargeOf_60 X hP ih (lv_sub (l' := [(0, .ref (ad 0)), (1, .int x1), (2, .int x2), (6, .int x6)]) hl [0, 1, 2, 4] rfl) hf
def f_Mo_chargeOf_22 (μ : Mem) (n : Nat) (x1 : Int32) (x2 : Int32) : Option Int32 := f_Mo_chargeOf_28 μ n x1 x2 true (0 : Int32)
set_option maxHeartbeats 4000000 in
set_option maxRecDepth 100000 in
theorem w_Mo_chargeOf_22 {p : Program} {l : Launch} {e : Env} {s : State} {m : MethodId} {args : Array Value} {below : List Frame} {meth : Method} {c : Code} {D : va_G} {g : Nat → ClassId} {ad : Nat → Nat} {μ : Mem} {r : Int32} {n : Nat} {x1 : Int32} {x2 : Int32} {ls : Array Slot} (X : Cx p s m args meth c b_Mo_chargeOf 7 R_Mo (some .int) D CL (TY g)) (hP : va_P D CL (WM g ad μ) s.heap) (hl : lv_has ls 7 [(0, .ref (ad 0)), (1, .int x1), (2, .int x2)]) (hf : f_Mo_chargeOf_22 μ n x1 x2 = some r) : WR p l e rm_Mo_chargeOf s m args below meth c (.int r) (F0 m 22 ls []) := by
  obtain ⟨S, hr, hlk, hK⟩ := id X
  obtain ⟨hx, hb, hml, hown, hts⟩ := id S
  rw [f_Mo_chargeOf_22] at hf
  refine lv_iconst (v := 1) hx hb d_Mo_chargeOf_22 (by decide) ?_
  refine lv_istore (lv' := [(5, .int (1 : Int32)), (0, .ref (ad 0)), (1, .int x1), (2, .int x2)]) hx hb d_Mo_chargeOf_23 hl (Nat.le_of_ble_eq_true rfl) rfl (fun ls hl => ?_)
  refine lv_iconst (v := 0) hx hb d_Mo_chargeOf_25 (by decide) ?_
  refine lv_istore (lv' := [(6, .int (0 : Int32)), (5, .int (1 : Int32)), (0, .ref (ad 0)), (1, .int x1), (2, .int x2)]) hx hb d_Mo_chargeOf_26 hl (Nat.le_of_ble_eq_true rfl) rfl (fun ls hl => ?_)
  exact w_Mo_chargeOf_28 X hP _ _ _ _ _ _ (lv_sub (l' := [(0, .ref (ad 0)), (1, .int x1), (2, .int x2), (5, .int (bz true)), (6, .int (0 : Int32))]) hl [2, 3, 4, 1, 0] rfl) hf
def f_Mo_chargeOf (n : Nat) (μ : Mem) (a1 : Int32) (a2 : Int32) (a3 : Int32) (a4 : Int32) : Option Int32 := (if a4 = 0 then (some (0 : Int32)) else (if a3 = (40 : Int32) then (f_Mo_chargeOf_22 μ n a1 a2) else (gd (inb a3 40) ((if (μ.1 6 a3.toNatClampNeg) = 0 then (f_Mo_chargeOf_22 μ n a1 a2) else (some (0 : Int32)))))))
set_option maxHeartbeats 4000000 in
set_option maxRecDepth 100000 in
theorem w_Mo_chargeOf {p : Program} {l : Launch} {e : Env} {s : State} {m : MethodId} {args : Array Value} {below : List Frame} {meth : Method} {c : Code} {D : va_G} {g : Nat → ClassId} {ad : Nat → Nat} {μ : Mem} {r : Int32} {n : Nat} {a1 : Int32} {a2 : Int32} {a3 : Int32} {a4 : Int32} {ls : Array Slot} (X : Cx p s m args meth c b_Mo_chargeOf 7 R_Mo (some .int) D CL (TY g)) (hP : va_P D CL (WM g ad μ) s.heap) (hl : lv_has ls 7 [(0, .ref (ad 0)), (1, .int a1), (2, .int a2), (3, .int a3), (4, .int a4)]) (hf : f_Mo_chargeOf n μ a1 a2 a3 a4 = some r) : WR p l e rm_Mo_chargeOf s m args below meth c (.int r) (F0 m 0 ls []) := by
  obtain ⟨S, hr, hlk, hK⟩ := id X
  obtain ⟨hx, hb, hml, hown, hts⟩ := id S
  rw [f_Mo_chargeOf] at hf
  refine lv_iload hx hb d_Mo_chargeOf_0 (lv_at hl 4 rfl) ?_
  refine lv_if_eq (tgt := 20) hx hb d_Mo_chargeOf_2 rfl (fun hc => ?_) (fun hc => ?_)
  · replace hf := br_p hc hf
    refine lv_iconst (v := 0) hx hb d_Mo_chargeOf_20 (by decide) ?_
    have h1 := Option.some.inj hf
    subst h1
    exact W.iret hx hb hr (fun t ht _ => ⟨rfl, ht⟩) (fun _ h => by cases h) d_Mo_chargeOf_21
  · replace hf := br_n hc hf
    refine lv_iload_n hx hb d_Mo_chargeOf_5 rfl (lv_at hl 3 rfl) ?_
    refine lv_bipush (v := 40) hx hb d_Mo_chargeOf_6 (by decide) ?_
    refine lv_icmp_eq (tgt := 22) hx hb d_Mo_chargeOf_8 rfl (fun hc => ?_) (fun hc => ?_)
    · replace hf := br_p hc hf
      exact w_Mo_chargeOf_22 X hP (lv_sub (l' := [(0, .ref (ad 0)), (1, .int a1), (2, .int a2)]) hl [0, 1, 2] rfl) hf
    · replace hf := br_n hc hf
      refine lv_aload_n hx hb d_Mo_chargeOf_11 rfl (lv_at hl 0 rfl) ?_
      refine mg_0_6 hx hb hts hown hK hP q_824 d_Mo_chargeOf_12 ?_
      refine lv_iload_n hx hb d_Mo_chargeOf_15 rfl (lv_at hl 3 rfl) ?_
      obtain ⟨hi, hf⟩ := gd_x hf
      refine ml_6 hx hb hK hP (inb_in hi) d_Mo_chargeOf_16 ?_
      refine lv_if_eq (tgt := 22) hx hb d_Mo_chargeOf_17 rfl (fun hc => ?_) (fun hc => ?_)
      · replace hf := br_p hc hf
        exact w_Mo_chargeOf_22 X hP (lv_sub (l' := [(0, .ref (ad 0)), (1, .int a1), (2, .int a2)]) hl [0, 1, 2] rfl) hf
      · replace hf := br_n hc hf
        refine lv_iconst (v := 0) hx hb d_Mo_chargeOf_20 (by decide) ?_
        have h1 := Option.some.inj hf
        subst h1
        exact W.iret hx hb hr (fun t ht _ => ⟨rfl, ht⟩) (fun _ h => by cases h) d_Mo_chargeOf_21
theorem c_Mo_chargeOf {l : Launch} {D : va_G} {g : Nat → ClassId} {ad : Nat → Nat} {μ : Mem} {r : Int32} {n : Nat} {a1 : Int32} {a2 : Int32} {a3 : Int32} {a4 : Int32} (hf : f_Mo_chargeOf n μ a1 a2 a3 a4 = some r) : Met l y_Mo_chargeOf (Cond.code y_Mo_chargeOf b_Mo_chargeOf 7 (some .int) :: ww) rm_Mo_chargeOf (RP D CL (TY g) (WM g ad μ) [.ref (ad 0), .int a1, .int a2, .int a3, .int a4]) (k2_QcV (.int r)) 0 0 (fun _ => False) := by
  refine met_of (by decide) (Nat.le_of_ble_eq_true rfl) ?_
  intro p e s m below meth c ls X hP hl
  have hl : lv_has ls 7 [(0, .ref (ad 0)), (1, .int a1), (2, .int a2), (3, .int a3), (4, .int a4)] := hl
  exact w_Mo_chargeOf X hP hl hf
theorem d_Mo_node_0 : decode b_Mo_node 0 = .ok (.aload_n 0, 1) := by decide +kernel
theorem d_Mo_node_1 : decode b_Mo_node 1 = .ok (.getfield 7, 3) := by decide +kernel
theorem d_Mo_node_4 : decode b_Mo_node 4 = .ok (.iload_n 1, 1) := by decide +kernel
theorem d_Mo_node_5 : decode b_Mo_node 5 = .ok (.iaload, 1) := by decide +kernel
theorem d_Mo_node_6 : decode b_Mo_node 6 = .ok (.bipush 64, 2) := by decide +kernel
theorem d_Mo_node_8 : decode b_Mo_node 8 = .ok (.idiv, 1) := by decide +kernel
theorem d_Mo_node_9 : decode b_Mo_node 9 = .ok (.istore 5, 2) := by decide +kernel
theorem d_Mo_node_11 : decode b_Mo_node 11 = .ok (.iload_n 3, 1) := by decide +kernel
theorem d_Mo_node_12 : decode b_Mo_node 12 = .ok (.bipush 40, 2) := by decide +kernel
theorem d_Mo_node_14 : decode b_Mo_node 14 = .ok (.if_icmp .ne 13, 3) := by decide +kernel
theorem d_Mo_node_17 : decode b_Mo_node 17 = .ok (.aload_n 0, 1) := by decide +kernel
theorem d_Mo_node_18 : decode b_Mo_node 18 = .ok (.getfield 37, 3) := by decide +kernel
theorem d_Mo_node_21 : decode b_Mo_node 21 = .ok (.iload 5, 2) := by decide +kernel
theorem d_Mo_node_23 : decode b_Mo_node 23 = .ok (.iaload, 1) := by decide +kernel
theorem d_Mo_node_24 : decode b_Mo_node 24 = .ok (.goto 9, 3) := by decide +kernel
theorem d_Mo_node_27 : decode b_Mo_node 27 = .ok (.aload_n 0, 1) := by decide +kernel
theorem d_Mo_node_28 : decode b_Mo_node 28 = .ok (.getfield 22, 3) := by decide +kernel
theorem d_Mo_node_31 : decode b_Mo_node 31 = .ok (.iload_n 3, 1) := by decide +kernel
theorem d_Mo_node_32 : decode b_Mo_node 32 = .ok (.iaload, 1) := by decide +kernel
theorem d_Mo_node_33 : decode b_Mo_node 33 = .ok (.istore 6, 2) := by decide +kernel
theorem d_Mo_node_35 : decode b_Mo_node 35 = .ok (.aload_n 0, 1) := by decide +kernel
theorem d_Mo_node_36 : decode b_Mo_node 36 = .ok (.getfield 49, 3) := by decide +kernel
theorem d_Mo_node_39 : decode b_Mo_node 39 = .ok (.aload_n 0, 1) := by decide +kernel
theorem d_Mo_node_40 : decode b_Mo_node 40 = .ok (.getfield 159, 3) := by decide +kernel
theorem d_Mo_node_43 : decode b_Mo_node 43 = .ok (.iload_n 1, 1) := by decide +kernel
theorem d_Mo_node_44 : decode b_Mo_node 44 = .ok (.iastore, 1) := by decide +kernel
theorem d_Mo_node_45 : decode b_Mo_node 45 = .ok (.aload_n 0, 1) := by decide +kernel
theorem d_Mo_node_46 : decode b_Mo_node 46 = .ok (.getfield 52, 3) := by decide +kernel
theorem d_Mo_node_49 : decode b_Mo_node 49 = .ok (.aload_n 0, 1) := by decide +kernel
theorem d_Mo_node_50 : decode b_Mo_node 50 = .ok (.getfield 159, 3) := by decide +kernel
theorem d_Mo_node_53 : decode b_Mo_node 53 = .ok (.iload_n 2, 1) := by decide +kernel
theorem d_Mo_node_54 : decode b_Mo_node 54 = .ok (.iastore, 1) := by decide +kernel
theorem d_Mo_node_55 : decode b_Mo_node 55 = .ok (.aload_n 0, 1) := by decide +kernel
theorem d_Mo_node_56 : decode b_Mo_node 56 = .ok (.getfield 55, 3) := by decide +kernel
theorem d_Mo_node_59 : decode b_Mo_node 59 = .ok (.aload_n 0, 1) := by decide +kernel
theorem d_Mo_node_60 : decode b_Mo_node 60 = .ok (.getfield 159, 3) := by decide +kernel
theorem d_Mo_node_63 : decode b_Mo_node 63 = .ok (.iload_n 3, 1) := by decide +kernel
theorem d_Mo_node_64 : decode b_Mo_node 64 = .ok (.bipush 40, 2) := by decide +kernel
theorem d_Mo_node_66 : decode b_Mo_node 66 = .ok (.if_icmp .ne 13, 3) := by decide +kernel
theorem d_Mo_node_69 : decode b_Mo_node 69 = .ok (.aload_n 0, 1) := by decide +kernel
theorem d_Mo_node_70 : decode b_Mo_node 70 = .ok (.getfield 34, 3) := by decide +kernel
theorem d_Mo_node_73 : decode b_Mo_node 73 = .ok (.iload 5, 2) := by decide +kernel
theorem d_Mo_node_75 : decode b_Mo_node 75 = .ok (.iaload, 1) := by decide +kernel
theorem d_Mo_node_76 : decode b_Mo_node 76 = .ok (.goto 9, 3) := by decide +kernel
theorem d_Mo_node_79 : decode b_Mo_node 79 = .ok (.aload_n 0, 1) := by decide +kernel
theorem d_Mo_node_80 : decode b_Mo_node 80 = .ok (.getfield 19, 3) := by decide +kernel
theorem d_Mo_node_83 : decode b_Mo_node 83 = .ok (.iload_n 3, 1) := by decide +kernel
theorem d_Mo_node_84 : decode b_Mo_node 84 = .ok (.iaload, 1) := by decide +kernel
theorem d_Mo_node_85 : decode b_Mo_node 85 = .ok (.iastore, 1) := by decide +kernel
theorem d_Mo_node_86 : decode b_Mo_node 86 = .ok (.aload_n 0, 1) := by decide +kernel
theorem d_Mo_node_87 : decode b_Mo_node 87 = .ok (.getfield 61, 3) := by decide +kernel
theorem d_Mo_node_90 : decode b_Mo_node 90 = .ok (.aload_n 0, 1) := by decide +kernel
theorem d_Mo_node_91 : decode b_Mo_node 91 = .ok (.getfield 159, 3) := by decide +kernel
theorem d_Mo_node_94 : decode b_Mo_node 94 = .ok (.iload_n 3, 1) := by decide +kernel
theorem d_Mo_node_95 : decode b_Mo_node 95 = .ok (.iastore, 1) := by decide +kernel
theorem d_Mo_node_96 : decode b_Mo_node 96 = .ok (.aload_n 0, 1) := by decide +kernel
theorem d_Mo_node_97 : decode b_Mo_node 97 = .ok (.getfield 58, 3) := by decide +kernel
theorem d_Mo_node_100 : decode b_Mo_node 100 = .ok (.aload_n 0, 1) := by decide +kernel
theorem d_Mo_node_101 : decode b_Mo_node 101 = .ok (.getfield 159, 3) := by decide +kernel
theorem d_Mo_node_104 : decode b_Mo_node 104 = .ok (.iload 6, 2) := by decide +kernel
theorem d_Mo_node_106 : decode b_Mo_node 106 = .ok (.aload_n 0, 1) := by decide +kernel
theorem d_Mo_node_107 : decode b_Mo_node 107 = .ok (.iload_n 1, 1) := by decide +kernel
theorem d_Mo_node_108 : decode b_Mo_node 108 = .ok (.iload_n 2, 1) := by decide +kernel
theorem d_Mo_node_109 : decode b_Mo_node 109 = .ok (.iload_n 3, 1) := by decide +kernel
theorem d_Mo_node_110 : decode b_Mo_node 110 = .ok (.iload 4, 2) := by decide +kernel
theorem d_Mo_node_112 : decode b_Mo_node 112 = .ok (.invokevirtual 162, 3) := by decide +kernel
theorem d_Mo_node_115 : decode b_Mo_node 115 = .ok (.iadd, 1) := by decide +kernel
theorem d_Mo_node_116 : decode b_Mo_node 116 = .ok (.iastore, 1) := by decide +kernel
theorem d_Mo_node_117 : decode b_Mo_node 117 = .ok (.aload_n 0, 1) := by decide +kernel
theorem d_Mo_node_118 : decode b_Mo_node 118 = .ok (.dup, 1) := by decide +kernel
theorem d_Mo_node_119 : decode b_Mo_node 119 = .ok (.getfield 159, 3) := by decide +kernel
theorem d_Mo_node_122 : decode b_Mo_node 122 = .ok (.iconst 1, 1) := by decide +kernel
theorem d_Mo_node_123 : decode b_Mo_node 123 = .ok (.iadd, 1) := by decide +kernel
theorem d_Mo_node_124 : decode b_Mo_node 124 = .ok (.putfield 159, 3) := by decide +kernel
theorem d_Mo_node_127 : decode b_Mo_node 127 = .ok (.return_, 1) := by decide +kernel
abbrev rm_Mo_node : Room := { frames := 1, cells := 0, slots := 0, locals := 26 }
def f_Mo_node_85 (n : Nat) (μ : Mem) (x1 : Int32) (x2 : Int32) (x3 : Int32) (x4 : Int32) (x6 : Int32) (s1 : Int32) (s2 : Int32) : Option Mem := gd (inb s1 700) (bd (wi μ 16 s1.toNatClampNeg s2) (fun μ1 => gd (inb (μ1.1 0 23) 700) (bd (wi μ1 18 (μ1.1 0 23).toNatClampNeg x3) (fun μ2 => cl (f_Mo_chargeOf n μ2 x1 x2 x3 x4) (fun v3 => gd (inb (μ2.1 0 23) 700) (bd (wi μ2 17 (μ2.1 0 23).toNatClampNeg (x6 + v3)) (fun μ4 => bd (wi μ4 0 23 ((μ4.1 0 23) + (1 : Int32))) (fun μ5 => some μ5))))))))
set_option maxHeartbeats 4000000 in
set_option maxRecDepth 100000 in
theorem w_Mo_node_85 {p : Program} {l : Launch} {e : Env} {s : State} {m : MethodId} {args : Array Value} {below : List Frame} {meth : Method} {c : Code} {D : va_G} {g : Nat → ClassId} {ad : Nat → Nat} {μ' : Mem} {A : Nat → Prop} {n : Nat} {μ : Mem} {x1 : Int32} {x2 : Int32} {x3 : Int32} {x4 : Int32} {x6 : Int32} {s1 : Int32} {s2 : Int32} {ls : Array Slot} {H : Heap} {locs : List Loc} (X : Cx p s m args meth c b_Mo_node 7 R_Mo none D CL (TY g)) (hDA : ∀ μ : Mem, va_D A (WM g ad μ)) (hP : va_P D CL (WM g ad μ) H) (hS : va_S A s.heap H locs) (hl : lv_has ls 7 [(0, .ref (ad 0)), (1, .int x1), (2, .int x2), (3, .int x3), (4, .int x4), (6, .int x6)]) (hf : f_Mo_node_85 n μ x1 x2 x3 x4 x6 s1 s2 = some μ') : WU p l e rm_Mo_node s m args below meth c H locs D (WM g ad μ') A none (F0 m 85 ls [.int s2, .int s1, .ref (ad 16)]) := by
  obtain ⟨S, hr, hlk, hK⟩ := id X
  obtain ⟨hx, hb, hml, hown, hts⟩ := id S
  rw [f_Mo_node_85] at hf
  obtain ⟨hi, hf⟩ := gd_x hf
  obtain ⟨μ1, hμ1, hf⟩ := bd_x hf
  refine ms_16 hx hb hK (hDA _) hP hS (inb_in hi) d_Mo_node_85 hμ1 (fun H locs hP hS => ?_)
  refine lv_aload_n hx hb d_Mo_node_86 rfl (lv_at hl 0 rfl) ?_
  refine mg_0_22 hx hb hts hown hK hP q_840 d_Mo_node_87 ?_
  refine lv_aload_n hx hb d_Mo_node_90 rfl (lv_at hl 0 rfl) ?_
  refine mg_0_23 hx hb hts hown hK hP q_841 d_Mo_node_91 ?_
  refine lv_iload_n hx hb d_Mo_node_94 rfl (lv_at hl 3 rfl) ?_
  obtain ⟨hi, hf⟩ := gd_x hf
  obtain ⟨μ2, hμ2, hf⟩ := bd_x hf
  refine ms_18 hx hb hK (hDA _) hP hS (inb_in hi) d_Mo_node_95 hμ2 (fun H locs hP hS => ?_)
  refine lv_aload_n hx hb d_Mo_node_96 rfl (lv_at hl 0 rfl) ?_
  refine mg_0_21 hx hb hts hown hK hP q_839 d_Mo_node_97 ?_
  refine lv_aload_n hx hb d_Mo_node_100 rfl (lv_at hl 0 rfl) ?_
  refine mg_0_23 hx hb hts hown hK hP q_841 d_Mo_node_101 ?_
  refine lv_iload hx hb d_Mo_node_104 (lv_at hl 5 rfl) ?_
  refine lv_aload_n hx hb d_Mo_node_106 rfl (lv_at hl 0 rfl) ?_
  refine lv_iload_n hx hb d_Mo_node_107 rfl (lv_at hl 1 rfl) ?_
  refine lv_iload_n hx hb d_Mo_node_108 rfl (lv_at hl 2 rfl) ?_
  refine lv_iload_n hx hb d_Mo_node_109 rfl (lv_at hl 3 rfl) ?_
  refine lv_iload hx hb d_Mo_node_110 (lv_at hl 4 rfl) ?_
  obtain ⟨v3, hv3, hf⟩ := cl_x hf
  refine rdV (As := [.int x1, .int x2, .int x3, .int x4]) (rest := [.int x6, .int (μ2.1 0 23), .ref (ad 17)]) S K_Mo_chargeOf q_1028 (c_Mo_chargeOf hv3) hK hP ⟨rfl, rfl⟩ ⟨Nat.le_of_ble_eq_true rfl, Nat.le_of_ble_eq_true rfl⟩ (mr_0 hK hP) rfl hl.1 rfl (Nat.le_of_ble_eq_true rfl) d_Mo_node_112 ⟨Nat.le_refl _, Nat.le_refl _⟩ ?_
  refine lv_iadd hx hb d_Mo_node_115 ?_
  obtain ⟨hi, hf⟩ := gd_x hf
  obtain ⟨μ4, hμ4, hf⟩ := bd_x hf
  refine ms_17 hx hb hK (hDA _) hP hS (inb_in hi) d_Mo_node_116 hμ4 (fun H locs hP hS => ?_)
  refine lv_aload_n hx hb d_Mo_node_117 rfl (lv_at hl 0 rfl) ?_
  refine lv_dup hx hb d_Mo_node_118 rfl ?_
  refine mg_0_23 hx hb hts hown hK hP q_841 d_Mo_node_119 ?_
  refine lv_iconst (v := 1) hx hb d_Mo_node_122 (by decide) ?_
  refine lv_iadd hx hb d_Mo_node_123 ?_
  obtain ⟨μ5, hμ5, hf⟩ := bd_x hf
  refine mp_0_23 hx hb hts hown hK (hDA _) hP hS q_841 d_Mo_node_124 hμ5 (fun H locs hP hS => ?_)
  obtain rfl := Option.some.inj hf
  exact W.vret hx hb hr (fun t ht _ => ⟨rfl, by rw [ht]; exact hP, hS.F ht⟩) hS.2.2 d_Mo_node_127
def f_Mo_node_33 (n : Nat) (μ : Mem) (x1 : Int32) (x2 : Int32) (x3 : Int32) (x4 : Int32) (x5 : Int32) (s0 : Int32) : Option Mem := gd (inb (μ.1 0 23) 700) (bd (wi μ 14 (μ.1 0 23).toNatClampNeg x1) (fun μ1 => gd (inb (μ1.1 0 23) 700) (bd (wi μ1 15 (μ1.1 0 23).toNatClampNeg x2) (fun μ2 => (if x3 = (40 : Int32) then (gd (inb x5 4) (f_Mo_node_85 n μ2 x1 x2 x3 x4 s0 (μ2.1 0 23) (μ2.1 9 x5.toNatClampNeg))) else (gd (inb x3 40) (f_Mo_node_85 n μ2 x1 x2 x3 x4 s0 (μ2.1 0 23) (μ2.1 4 x3.toNatClampNeg))))))))
set_option maxHeartbeats 4000000 in
set_option maxRecDepth 100000 in
theorem w_Mo_node_33 {p : Program} {l : Launch} {e : Env} {s : State} {m : MethodId} {args : Array Value} {below : List Frame} {meth : Method} {c : Code} {D : va_G} {g : Nat → ClassId} {ad : Nat → Nat} {μ' : Mem} {A : Nat → Prop} {n : Nat} {μ : Mem} {x1 : Int32} {x2 : Int32} {x3 : Int32} {x4 : Int32} {x5 : Int32} {s0 : Int32} {ls : Array Slot} {H : Heap} {locs : List Loc} (X : Cx p s m args meth c b_Mo_node 7 R_Mo none D CL (TY g)) (hDA : ∀ μ : Mem, va_D A (WM g ad μ)) (hP : va_P D CL (WM g ad μ) H) (hS : va_S A s.heap H locs) (hl : lv_has ls 7 [(0, .ref (ad 0)), (1, .int x1), (2, .int x2), (3, .int x3), (4, .int x4), (5, .int x5)]) (hf : f_Mo_node_33 n μ x1 x2 x3 x4 x5 s0 = some μ') : WU p l e rm_Mo_node s m args below meth c H locs D (WM g ad μ') A none (F0 m 33 ls [.int s0]) := by
  obtain ⟨S, hr, hlk, hK⟩ := id X
  obtain ⟨hx, hb, hml, hown, hts⟩ := id S
  rw [f_Mo_node_33] at hf
  refine lv_istore (lv' := [(6, .int s0), (0, .ref (ad 0)), (1, .int x1), (2, .int x2), (3, .int x3), (4, .int x4), (5, .int x5)]) hx hb d_Mo_node_33 hl (Nat.le_of_ble_eq_true rfl) rfl (fun ls hl => ?_)
  refine lv_aload_n hx hb d_Mo_node_35 rfl (lv_at hl 1 rfl) ?_
  refine mg_0_18 hx hb hts hown hK hP q_836 d_Mo_node_36 ?_
  refine lv_aload_n hx hb d_Mo_node_39 rfl (lv_at hl 1 rfl) ?_
  refine mg_0_23 hx hb hts hown hK hP q_841 d_Mo_node_40 ?_
  refine lv_iload_n hx hb d_Mo_node_43 rfl (lv_at hl 2 rfl) ?_
  obtain ⟨hi, hf⟩ := gd_x hf
  obtain ⟨μ1, hμ1, hf⟩ := bd_x hf
  refine ms_14 hx hb hK (hDA _) hP hS (inb_in hi) d_Mo_node_44 hμ1 (fun H locs hP hS => ?_)
  refine lv_aload_n hx hb d_Mo_node_45 rfl (lv_at hl 1 rfl) ?_
  refine mg_0_19 hx hb hts hown hK hP q_837 d_Mo_node_46 ?_
  refine lv_aload_n hx hb d_Mo_node_49 rfl (lv_at hl 1 rfl) ?_
  refine mg_0_23 hx hb hts hown hK hP q_841 d_Mo_node_50 ?_
  refine lv_iload_n hx hb d_Mo_node_53 rfl (lv_at hl 3 rfl) ?_
  obtain ⟨hi, hf⟩ := gd_x hf
  obtain ⟨μ2, hμ2, hf⟩ := bd_x hf
  refine ms_15 hx hb hK (hDA _) hP hS (inb_in hi) d_Mo_node_54 hμ2 (fun H locs hP hS => ?_)
  refine lv_aload_n hx hb d_Mo_node_55 rfl (lv_at hl 1 rfl) ?_
  refine mg_0_20 hx hb hts hown hK hP q_838 d_Mo_node_56 ?_
  refine lv_aload_n hx hb d_Mo_node_59 rfl (lv_at hl 1 rfl) ?_
  refine mg_0_23 hx hb hts hown hK hP q_841 d_Mo_node_60 ?_
  refine lv_iload_n hx hb d_Mo_node_63 rfl (lv_at hl 4 rfl) ?_
  refine lv_bipush (v := 40) hx hb d_Mo_node_64 (by decide) ?_
  refine lv_icmp_ne (tgt := 79) hx hb d_Mo_node_66 rfl (fun hc => ?_) (fun hc => ?_)
  · replace hf := br_n hc hf
    refine lv_aload_n hx hb d_Mo_node_79 rfl (lv_at hl 1 rfl) ?_
    refine mg_0_4 hx hb hts hown hK hP q_822 d_Mo_node_80 ?_
    refine lv_iload_n hx hb d_Mo_node_83 rfl (lv_at hl 4 rfl) ?_
    obtain ⟨hi, hf⟩ := gd_x hf
    refine ml_4 hx hb hK hP (inb_in hi) d_Mo_node_84 ?_
    exact w_Mo_node_85 X hDA hP hS (lv_sub (l' := [(0, .ref (ad 0)), (1, .int x1), (2, .int x2), (3, .int x3), (4, .int x4), (6, .int s0)]) hl [1, 2, 3, 4, 5, 0] rfl) hf
  · replace hf := br_p hc hf
    refine lv_aload_n hx hb d_Mo_node_69 rfl (lv_at hl 1 rfl) ?_
    refine mg_0_10 hx hb hts hown hK hP q_828 d_Mo_node_70 ?_
    refine lv_iload hx hb d_Mo_node_73 (lv_at hl 6 rfl) ?_
    obtain ⟨hi, hf⟩ := gd_x hf
    refine ml_9 hx hb hK hP (inb_in hi) d_Mo_node_75 ?_
    refine lv_goto (tgt := 85) hx hb d_Mo_node_76 rfl ?_
    exact w_Mo_node_85 X hDA hP hS (lv_sub (l' := [(0, .ref (ad 0)), (1, .int x1), (2, .int x2), (3, .int x3), (4, .int x4), (6, .int s0)]) hl [1, 2, 3, 4, 5, 0] rfl) hf
def f_Mo_node (n : Nat) (μ : Mem) (a1 : Int32) (a2 : Int32) (a3 : Int32) (a4 : Int32) : Option Mem := gd (inb a1 24) (bd ((μ.1 1 a1.toNatClampNeg) / (64 : Int32)) (fun v1 => (if a3 = (40 : Int32) then (gd (inb v1 4) (f_Mo_node_33 n μ a1 a2 a3 a4 v1 (μ.1 10 v1.toNatClampNeg))) else (gd (inb a3 40) (f_Mo_node_33 n μ a1 a2 a3 a4 v1 (μ.1 5 a3.toNatClampNeg))))))
set_option maxHeartbeats 4000000 in
set_option maxRecDepth 100000 in
theorem w_Mo_node {p : Program} {l : Launch} {e : Env} {s : State} {m : MethodId} {args : Array Value} {below : List Frame} {meth : Method} {c : Code} {D : va_G} {g : Nat → ClassId} {ad : Nat → Nat} {μ' : Mem} {A : Nat → Prop} {n : Nat} {μ : Mem} {a1 : Int32} {a2 : Int32} {a3 : Int32} {a4 : Int32} {ls : Array Slot} {H : Heap} {locs : List Loc} (X : Cx p s m args meth c b_Mo_node 7 R_Mo none D CL (TY g)) (hDA : ∀ μ : Mem, va_D A (WM g ad μ)) (hP : va_P D CL (WM g ad μ) H) (hS : va_S A s.heap H locs) (hl : lv_has ls 7 [(0, .ref (ad 0)), (1, .int a1), (2, .int a2), (3, .int a3), (4, .int a4)]) (hf : f_Mo_node n μ a1 a2 a3 a4 = some μ') : WU p l e rm_Mo_node s m args below meth c H locs D (WM g ad μ') A none (F0 m 0 ls []) := by
  obtain ⟨S, hr, hlk, hK⟩ := id X
  obtain ⟨hx, hb, hml, hown, hts⟩ := id S
  rw [f_Mo_node] at hf
  refine lv_aload_n hx hb d_Mo_node_0 rfl (lv_at hl 0 rfl) ?_
  refine mg_0_0 hx hb hts hown hK hP q_818 d_Mo_node_1 ?_
  refine lv_iload_n hx hb d_Mo_node_4 rfl (lv_at hl 1 rfl) ?_
  obtain ⟨hi, hf⟩ := gd_x hf
  refine ml_1 hx hb hK hP (inb_in hi) d_Mo_node_5 ?_
  refine lv_bipush (v := 64) hx hb d_Mo_node_6 (by decide) ?_
  refine lv_idiv hx hb d_Mo_node_8 (by decide) ?_
  obtain ⟨v1, hv1, hf⟩ := bd_x hf
  refine top_i hv1 ?_
  refine lv_istore (lv' := [(5, .int v1), (0, .ref (ad 0)), (1, .int a1), (2, .int a2), (3, .int a3), (4, .int a4)]) hx hb d_Mo_node_9 hl (Nat.le_of_ble_eq_true rfl) rfl (fun ls hl => ?_)
  refine lv_iload_n hx hb d_Mo_node_11 rfl (lv_at hl 4 rfl) ?_
  refine lv_bipush (v := 40) hx hb d_Mo_node_12 (by decide) ?_
  refine lv_icmp_ne (tgt := 27) hx hb d_Mo_node_14 rfl (fun hc => ?_) (fun hc => ?_)
  · replace hf := br_n hc hf
    refine lv_aload_n hx hb d_Mo_node_27 rfl (lv_at hl 1 rfl) ?_
    refine mg_0_5 hx hb hts hown hK hP q_823 d_Mo_node_28 ?_
    refine lv_iload_n hx hb d_Mo_node_31 rfl (lv_at hl 4 rfl) ?_
    obtain ⟨hi, hf⟩ := gd_x hf
    refine ml_5 hx hb hK hP (inb_in hi) d_Mo_node_32 ?_
    exact w_Mo_node_33 X hDA hP hS (lv_sub (l' := [(0, .ref (ad 0)), (1, .int a1), (2, .int a2), (3, .int a3), (4, .int a4), (5, .int v1)]) hl [1, 2, 3, 4, 5, 0] rfl) hf
  · replace hf := br_p hc hf
    refine lv_aload_n hx hb d_Mo_node_17 rfl (lv_at hl 1 rfl) ?_
    refine mg_0_11 hx hb hts hown hK hP q_829 d_Mo_node_18 ?_
    refine lv_iload hx hb d_Mo_node_21 (lv_at hl 0 rfl) ?_
    obtain ⟨hi, hf⟩ := gd_x hf
    refine ml_10 hx hb hK hP (inb_in hi) d_Mo_node_23 ?_
    refine lv_goto (tgt := 33) hx hb d_Mo_node_24 rfl ?_
    exact w_Mo_node_33 X hDA hP hS (lv_sub (l' := [(0, .ref (ad 0)), (1, .int a1), (2, .int a2), (3, .int a3), (4, .int a4), (5, .int v1)]) hl [1, 2, 3, 4, 5, 0] rfl) hf
theorem c_Mo_node {l : Launch} {D : va_G} {g : Nat → ClassId} {ad : Nat → Nat} {μ : Mem} {μ' : Mem} {A : Nat → Prop} {n : Nat} {a1 : Int32} {a2 : Int32} {a3 : Int32} {a4 : Int32} (hDA : ∀ μ : Mem, va_D A (WM g ad μ)) (hf : f_Mo_node n μ a1 a2 a3 a4 = some μ') : Met l y_Mo_node (Cond.code y_Mo_node b_Mo_node 7 none :: ww) rm_Mo_node (RP D CL (TY g) (WM g ad μ) [.ref (ad 0), .int a1, .int a2, .int a3, .int a4]) (QW D CL (WM g ad μ') A none) 0 0 A := by
  refine met_of (by decide) (Nat.le_of_ble_eq_true rfl) ?_
  intro p e s m below meth c ls X hP hl
  have hl : lv_has ls 7 [(0, .ref (ad 0)), (1, .int a1), (2, .int a2), (3, .int a3), (4, .int a4)] := hl
  exact w_Mo_node X hDA hP va_S.rf hl hf
theorem d_Mo_nodesAt_0 : decode b_Mo_nodesAt 0 = .ok (.aload_n 0, 1) := by decide +kernel
theorem d_Mo_nodesAt_1 : decode b_Mo_nodesAt 1 = .ok (.getfield 159, 3) := by decide +kernel
theorem d_Mo_nodesAt_4 : decode b_Mo_nodesAt 4 = .ok (.istore_n 3, 1) := by decide +kernel
theorem d_Mo_nodesAt_5 : decode b_Mo_nodesAt 5 = .ok (.iconst 0, 1) := by decide +kernel
theorem d_Mo_nodesAt_6 : decode b_Mo_nodesAt 6 = .ok (.istore 4, 2) := by decide +kernel
theorem d_Mo_nodesAt_8 : decode b_Mo_nodesAt 8 = .ok (.iload 4, 2) := by decide +kernel
theorem d_Mo_nodesAt_10 : decode b_Mo_nodesAt 10 = .ok (.aload_n 0, 1) := by decide +kernel
theorem d_Mo_nodesAt_11 : decode b_Mo_nodesAt 11 = .ok (.getfield 135, 3) := by decide +kernel
theorem d_Mo_nodesAt_14 : decode b_Mo_nodesAt 14 = .ok (.if_icmp .ge 34, 3) := by decide +kernel
theorem d_Mo_nodesAt_17 : decode b_Mo_nodesAt 17 = .ok (.aload_n 0, 1) := by decide +kernel
theorem d_Mo_nodesAt_18 : decode b_Mo_nodesAt 18 = .ok (.iload 4, 2) := by decide +kernel
theorem d_Mo_nodesAt_20 : decode b_Mo_nodesAt 20 = .ok (.iload_n 1, 1) := by decide +kernel
theorem d_Mo_nodesAt_21 : decode b_Mo_nodesAt 21 = .ok (.invokevirtual 138, 3) := by decide +kernel
theorem d_Mo_nodesAt_24 : decode b_Mo_nodesAt 24 = .ok (.ifCond .eq 18, 3) := by decide +kernel
theorem d_Mo_nodesAt_27 : decode b_Mo_nodesAt 27 = .ok (.aload_n 0, 1) := by decide +kernel
theorem d_Mo_nodesAt_28 : decode b_Mo_nodesAt 28 = .ok (.iload_n 1, 1) := by decide +kernel
theorem d_Mo_nodesAt_29 : decode b_Mo_nodesAt 29 = .ok (.aload_n 0, 1) := by decide +kernel
theorem d_Mo_nodesAt_30 : decode b_Mo_nodesAt 30 = .ok (.getfield 16, 3) := by decide +kernel
theorem d_Mo_nodesAt_33 : decode b_Mo_nodesAt 33 = .ok (.iload 4, 2) := by decide +kernel
theorem d_Mo_nodesAt_35 : decode b_Mo_nodesAt 35 = .ok (.iaload, 1) := by decide +kernel
theorem d_Mo_nodesAt_36 : decode b_Mo_nodesAt 36 = .ok (.iload 4, 2) := by decide +kernel
theorem d_Mo_nodesAt_38 : decode b_Mo_nodesAt 38 = .ok (.iload_n 2, 1) := by decide +kernel
theorem d_Mo_nodesAt_39 : decode b_Mo_nodesAt 39 = .ok (.invokevirtual 166, 3) := by decide +kernel
theorem d_Mo_nodesAt_42 : decode b_Mo_nodesAt 42 = .ok (.iinc 4 1, 3) := by decide +kernel
theorem d_Mo_nodesAt_45 : decode b_Mo_nodesAt 45 = .ok (.goto (-37), 3) := by decide +kernel
theorem d_Mo_nodesAt_48 : decode b_Mo_nodesAt 48 = .ok (.aload_n 0, 1) := by decide +kernel
theorem d_Mo_nodesAt_49 : decode b_Mo_nodesAt 49 = .ok (.getfield 31, 3) := by decide +kernel
theorem d_Mo_nodesAt_52 : decode b_Mo_nodesAt 52 = .ok (.aload_n 0, 1) := by decide +kernel
theorem d_Mo_nodesAt_53 : decode b_Mo_nodesAt 53 = .ok (.getfield 7, 3) := by decide +kernel
theorem d_Mo_nodesAt_56 : decode b_Mo_nodesAt 56 = .ok (.iload_n 1, 1) := by decide +kernel
theorem d_Mo_nodesAt_57 : decode b_Mo_nodesAt 57 = .ok (.iaload, 1) := by decide +kernel
theorem d_Mo_nodesAt_58 : decode b_Mo_nodesAt 58 = .ok (.bipush 64, 2) := by decide +kernel
theorem d_Mo_nodesAt_60 : decode b_Mo_nodesAt 60 = .ok (.idiv, 1) := by decide +kernel
theorem d_Mo_nodesAt_61 : decode b_Mo_nodesAt 61 = .ok (.iaload, 1) := by decide +kernel
theorem d_Mo_nodesAt_62 : decode b_Mo_nodesAt 62 = .ok (.istore 4, 2) := by decide +kernel
theorem d_Mo_nodesAt_64 : decode b_Mo_nodesAt 64 = .ok (.aload_n 0, 1) := by decide +kernel
theorem d_Mo_nodesAt_65 : decode b_Mo_nodesAt 65 = .ok (.iload_n 1, 1) := by decide +kernel
theorem d_Mo_nodesAt_66 : decode b_Mo_nodesAt 66 = .ok (.invokevirtual 170, 3) := by decide +kernel
theorem d_Mo_nodesAt_69 : decode b_Mo_nodesAt 69 = .ok (.istore 5, 2) := by decide +kernel
theorem d_Mo_nodesAt_71 : decode b_Mo_nodesAt 71 = .ok (.aload_n 0, 1) := by decide +kernel
theorem d_Mo_nodesAt_72 : decode b_Mo_nodesAt 72 = .ok (.getfield 159, 3) := by decide +kernel
theorem d_Mo_nodesAt_75 : decode b_Mo_nodesAt 75 = .ok (.iload_n 3, 1) := by decide +kernel
theorem d_Mo_nodesAt_76 : decode b_Mo_nodesAt 76 = .ok (.if_icmp .eq 10, 3) := by decide +kernel
theorem d_Mo_nodesAt_79 : decode b_Mo_nodesAt 79 = .ok (.iload 4, 2) := by decide +kernel
theorem d_Mo_nodesAt_81 : decode b_Mo_nodesAt 81 = .ok (.iconst 1, 1) := by decide +kernel
theorem d_Mo_nodesAt_82 : decode b_Mo_nodesAt 82 = .ok (.iand, 1) := by decide +kernel
theorem d_Mo_nodesAt_83 : decode b_Mo_nodesAt 83 = .ok (.ifCond .eq 52, 3) := by decide +kernel
theorem d_Mo_nodesAt_86 : decode b_Mo_nodesAt 86 = .ok (.iconst 1, 1) := by decide +kernel
theorem d_Mo_nodesAt_87 : decode b_Mo_nodesAt 87 = .ok (.istore 6, 2) := by decide +kernel
theorem d_Mo_nodesAt_89 : decode b_Mo_nodesAt 89 = .ok (.iload 6, 2) := by decide +kernel
theorem d_Mo_nodesAt_91 : decode b_Mo_nodesAt 91 = .ok (.iload 5, 2) := by decide +kernel
theorem d_Mo_nodesAt_93 : decode b_Mo_nodesAt 93 = .ok (.if_icmp .gt 42, 3) := by decide +kernel
theorem d_Mo_nodesAt_96 : decode b_Mo_nodesAt 96 = .ok (.iload 6, 2) := by decide +kernel
theorem d_Mo_nodesAt_98 : decode b_Mo_nodesAt 98 = .ok (.iload 4, 2) := by decide +kernel
theorem d_Mo_nodesAt_100 : decode b_Mo_nodesAt 100 = .ok (.iconst 4, 1) := by decide +kernel
theorem d_Mo_nodesAt_101 : decode b_Mo_nodesAt 101 = .ok (.idiv, 1) := by decide +kernel
theorem d_Mo_nodesAt_102 : decode b_Mo_nodesAt 102 = .ok (.if_icmp .le 17, 3) := by decide +kernel
theorem d_Mo_nodesAt_105 : decode b_Mo_nodesAt 105 = .ok (.iload 6, 2) := by decide +kernel
theorem d_Mo_nodesAt_107 : decode b_Mo_nodesAt 107 = .ok (.iload 5, 2) := by decide +kernel
theorem d_Mo_nodesAt_109 : decode b_Mo_nodesAt 109 = .ok (.if_icmp .ne 20, 3) := by decide +kernel
theorem d_Mo_nodesAt_112 : decode b_Mo_nodesAt 112 = .ok (.iload 4, 2) := by decide +kernel
theorem d_Mo_nodesAt_114 : decode b_Mo_nodesAt 114 = .ok (.iconst 2, 1) := by decide +kernel
theorem d_Mo_nodesAt_115 : decode b_Mo_nodesAt 115 = .ok (.iand, 1) := by decide +kernel
theorem d_Mo_nodesAt_116 : decode b_Mo_nodesAt 116 = .ok (.ifCond .eq 13, 3) := by decide +kernel
theorem d_Mo_nodesAt_119 : decode b_Mo_nodesAt 119 = .ok (.aload_n 0, 1) := by decide +kernel
theorem d_Mo_nodesAt_120 : decode b_Mo_nodesAt 120 = .ok (.iload_n 1, 1) := by decide +kernel
theorem d_Mo_nodesAt_121 : decode b_Mo_nodesAt 121 = .ok (.iload 6, 2) := by decide +kernel
theorem d_Mo_nodesAt_123 : decode b_Mo_nodesAt 123 = .ok (.bipush 40, 2) := by decide +kernel
theorem d_Mo_nodesAt_125 : decode b_Mo_nodesAt 125 = .ok (.iload_n 2, 1) := by decide +kernel
theorem d_Mo_nodesAt_126 : decode b_Mo_nodesAt 126 = .ok (.invokevirtual 166, 3) := by decide +kernel
theorem d_Mo_nodesAt_129 : decode b_Mo_nodesAt 129 = .ok (.iinc 6 1, 3) := by decide +kernel
theorem d_Mo_nodesAt_132 : decode b_Mo_nodesAt 132 = .ok (.goto (-43), 3) := by decide +kernel
theorem d_Mo_nodesAt_135 : decode b_Mo_nodesAt 135 = .ok (.aload_n 0, 1) := by decide +kernel
theorem d_Mo_nodesAt_136 : decode b_Mo_nodesAt 136 = .ok (.getfield 159, 3) := by decide +kernel
theorem d_Mo_nodesAt_139 : decode b_Mo_nodesAt 139 = .ok (.iload_n 3, 1) := by decide +kernel
theorem d_Mo_nodesAt_140 : decode b_Mo_nodesAt 140 = .ok (.if_icmp .ne 12, 3) := by decide +kernel
theorem d_Mo_nodesAt_143 : decode b_Mo_nodesAt 143 = .ok (.aload_n 0, 1) := by decide +kernel
theorem d_Mo_nodesAt_144 : decode b_Mo_nodesAt 144 = .ok (.iload_n 1, 1) := by decide +kernel
theorem d_Mo_nodesAt_145 : decode b_Mo_nodesAt 145 = .ok (.iconst 1, 1) := by decide +kernel
theorem d_Mo_nodesAt_146 : decode b_Mo_nodesAt 146 = .ok (.bipush 40, 2) := by decide +kernel
theorem d_Mo_nodesAt_148 : decode b_Mo_nodesAt 148 = .ok (.iload_n 2, 1) := by decide +kernel
theorem d_Mo_nodesAt_149 : decode b_Mo_nodesAt 149 = .ok (.invokevirtual 166, 3) := by decide +kernel
theorem d_Mo_nodesAt_152 : decode b_Mo_nodesAt 152 = .ok (.return_, 1) := by decide +kernel
abbrev rm_Mo_nodesAt : Room := { frames := 2, cells := 0, slots := 0, locals := 52 }
def f_Mo_nodesAt_135 (n : Nat) (μ : Mem) (x1 : Int32) (x2 : Int32) (x3 : Int32) : Option Mem := (if (μ.1 0 23) = x3 then (cl (f_Mo_node n μ x1 (1 : Int32) (40 : Int32) x2) (fun μ2 => some μ2)) else (some μ))
set_option maxHeartbeats 4000000 in
set_option maxRecDepth 100000 in
theorem w_Mo_nodesAt_135 {p : Program} {l : Launch} {e : Env} {s : State} {m : MethodId} {args : Array Value} {below : List Frame} {meth : Method} {c : Code} {D : va_G} {g : Nat → ClassId} {ad : Nat → Nat} {μ' : Mem} {A : Nat → Prop} {n : Nat} {μ : Mem} {x1 : Int32} {x2 : Int32} {x3 : Int32} {ls : Array Slot} {H : Heap} {locs : List Loc} (X : Cx p s m args meth c b_Mo_nodesAt 7 R_Mo none D CL (TY g)) (hDA : ∀ μ : Mem, va_D A (WM g ad μ)) (hP : va_P D CL (WM g ad μ) H) (hS : va_S A s.heap H locs) (hl : lv_has ls 7 [(0, .ref (ad 0)), (1, .int x1), (2, .int x2), (3, .int x3)]) (hf : f_Mo_nodesAt_135 n μ x1 x2 x3 = some μ') : WU p l e rm_Mo_nodesAt s m args below meth c H locs D (WM g ad μ') A none (F0 m 135 ls []) := by
  obtain ⟨S, hr, hlk, hK⟩ := id X
  obtain ⟨hx, hb, hml, hown, hts⟩ := id S
  rw [f_Mo_nodesAt_135] at hf
  refine lv_aload_n hx hb d_Mo_nodesAt_135 rfl (lv_at hl 0 rfl) ?_
  refine mg_0_23 hx hb hts hown hK hP q_841 d_Mo_nodesAt_136 ?_
  refine lv_iload_n hx hb d_Mo_nodesAt_139 rfl (lv_at hl 3 rfl) ?_
  refine lv_icmp_ne (tgt := 152) hx hb d_Mo_nodesAt_140 rfl (fun hc => ?_) (fun hc => ?_)
  · replace hf := br_n hc hf
    obtain rfl := Option.some.inj hf
    exact W.vret hx hb hr (fun t ht _ => ⟨rfl, by rw [ht]; exact hP, hS.F ht⟩) hS.2.2 d_Mo_nodesAt_152
  · replace hf := br_p hc hf
    refine lv_aload_n hx hb d_Mo_nodesAt_143 rfl (lv_at hl 0 rfl) ?_
    refine lv_iload_n hx hb d_Mo_nodesAt_144 rfl (lv_at hl 1 rfl) ?_
    refine lv_iconst (v := 1) hx hb d_Mo_nodesAt_145 (by decide) ?_
    refine lv_bipush (v := 40) hx hb d_Mo_nodesAt_146 (by decide) ?_
    refine lv_iload_n hx hb d_Mo_nodesAt_148 rfl (lv_at hl 2 rfl) ?_
    obtain ⟨μ2, hv1, hf⟩ := cl_x hf
    refine wrV (As := [.int x1, .int (1 : Int32), .int (40 : Int32), .int x2]) (rest := []) S K_Mo_node q_1024 (c_Mo_node hDA hv1) hK hP hS ⟨rfl, rfl⟩ ⟨Nat.le_of_ble_eq_true rfl, Nat.le_of_ble_eq_true rfl⟩ (mr_0 hK hP) rfl hl.1 rfl (Nat.le_of_ble_eq_true rfl) d_Mo_nodesAt_149 ⟨Nat.le_refl _, Nat.le_refl _⟩ (fun H locs hP hS => ?_)
    obtain rfl := Option.some.inj hf
    exact W.vret hx hb hr (fun t ht _ => ⟨rfl, by rw [ht]; exact hP, hS.F ht⟩) hS.2.2 d_Mo_nodesAt_152
def f_Mo_nodesAt_129 (κ89 : Mem → Int32 → Int32 → Int32 → Int32 → Int32 → Int32 → Option Mem) (n : Nat) (μ : Mem) (x1 : Int32) (x2 : Int32) (x3 : Int32) (x4 : Int32) (x5 : Int32) (x6 : Int32) : Option Mem := bd (x6 + 1) (fun v1 => κ89 μ x1 x2 x3 x4 x5 v1)
set_option maxHeartbeats 4000000 in
set_option maxRecDepth 100000 in
theorem w_Mo_nodesAt_129 {p : Program} {l : Launch} {e : Env} {s : State} {m : MethodId} {args : Array Value} {below : List Frame} {meth : Method} {c : Code} {D : va_G} {g : Nat → ClassId} {ad : Nat → Nat} {μ' : Mem} {A : Nat → Prop} {κ89 : Mem → Int32 → Int32 → Int32 → Int32 → Int32 → Int32 → Option Mem} {n : Nat} {μ : Mem} {x1 : Int32} {x2 : Int32} {x3 : Int32} {x4 : Int32} {x5 : Int32} {x6 : Int32} {ls : Array Slot} {H : Heap} {locs : List Loc} (X : Cx p s m args meth c b_Mo_nodesAt 7 R_Mo none D CL (TY g)) (hDA : ∀ μ : Mem, va_D A (WM g ad μ)) (hκ89 : ∀ (μ : Mem) (x1 : Int32) (x2 : Int32) (x3 : Int32) (x4 : Int32) (x5 : Int32) (x6 : Int32) (ls : Array Slot) (H : Heap) (locs : List Loc), va_P D CL (WM g ad μ) H → va_S A s.heap H locs → lv_has ls 7 [(0, .ref (ad 0)), (1, .int x1), (2, .int x2), (3, .int x3), (4, .int x4), (5, .int x5), (6, .int x6)] → κ89 μ x1 x2 x3 x4 x5 x6 = some μ' → WU p l e rm_Mo_nodesAt s m args below meth c H locs D (WM g ad μ') A none (F0 m 89 ls [])) (hP : va_P D CL (WM g ad μ) H) (hS : va_S A s.heap H locs) (hl : lv_has ls 7 [(0, .ref (ad 0)), (1, .int x1), (2, .int x2), (3, .int x3), (4, .int x4), (5, .int x5), (6, .int x6)]) (hf : f_Mo_nodesAt_129 κ89 n μ x1 x2 x3 x4 x5 x6 = some μ') : WU p l e rm_Mo_nodesAt s m args below meth c H locs D (WM g ad μ') A none (F0 m 129 ls []) := by
  obtain ⟨S, hr, hlk, hK⟩ := id X
  obtain ⟨hx, hb, hml, hown, hts⟩ := id S
  rw [f_Mo_nodesAt_129] at hf
  obtain ⟨v1, hv1, hf⟩ := bd_x hf
  refine lv_iinc (lv' := [(6, .int v1), (0, .ref (ad 0)), (1, .int x1), (2, .int x2), (3, .int x3), (4, .int x4), (5, .int x5)]) hx hb d_Mo_nodesAt_129 hl (k := 6) rfl (show x6 + Int32.ofInt (1) = v1 from hv1) (Nat.le_of_ble_eq_true rfl) rfl (fun ls hl => ?_)
  refine lv_goto (tgt := 89) hx hb d_Mo_nodesAt_132 rfl ?_
  exact hκ89 _ _ _ _ _ _ _ _ _ _ hP hS (lv_sub (l' := [(0, .ref (ad 0)), (1, .int x1), (2, .int x2), (3, .int x3), (4, .int x4), (5, .int x5), (6, .int v1)]) hl [1, 2, 3, 4, 5, 6, 0] rfl) hf
def f_Mo_nodesAt_119 (κ89 : Mem → Int32 → Int32 → Int32 → Int32 → Int32 → Int32 → Option Mem) (n : Nat) (μ : Mem) (x1 : Int32) (x2 : Int32) (x3 : Int32) (x4 : Int32) (x5 : Int32) (x6 : Int32) : Option Mem := cl (f_Mo_node n μ x1 x6 (40 : Int32) x2) (fun μ2 => f_Mo_nodesAt_129 κ89 n μ2 x1 x2 x3 x4 x5 x6)
set_option maxHeartbeats 4000000 in
set_option maxRecDepth 100000 in
theorem w_Mo_nodesAt_119 {p : Program} {l : Launch} {e : Env} {s : State} {m : MethodId} {args : Array Value} {below : List Frame} {meth : Method} {c : Code} {D : va_G} {g : Nat → ClassId} {ad : Nat → Nat} {μ' : Mem} {A : Nat → Prop} {κ89 : Mem → Int32 → Int32 → Int32 → Int32 → Int32 → Int32 → Option Mem} {n : Nat} {μ : Mem} {x1 : Int32} {x2 : Int32} {x3 : Int32} {x4 : Int32} {x5 : Int32} {x6 : Int32} {ls : Array Slot} {H : Heap} {locs : List Loc} (X : Cx p s m args meth c b_Mo_nodesAt 7 R_Mo none D CL (TY g)) (hDA : ∀ μ : Mem, va_D A (WM g ad μ)) (hκ89 : ∀ (μ : Mem) (x1 : Int32) (x2 : Int32) (x3 : Int32) (x4 : Int32) (x5 : Int32) (x6 : Int32) (ls : Array Slot) (H : Heap) (locs : List Loc), va_P D CL (WM g ad μ) H → va_S A s.heap H locs → lv_has ls 7 [(0, .ref (ad 0)), (1, .int x1), (2, .int x2), (3, .int x3), (4, .int x4), (5, .int x5), (6, .int x6)] → κ89 μ x1 x2 x3 x4 x5 x6 = some μ' → WU p l e rm_Mo_nodesAt s m args below meth c H locs D (WM g ad μ') A none (F0 m 89 ls [])) (hP : va_P D CL (WM g ad μ) H) (hS : va_S A s.heap H locs) (hl : lv_has ls 7 [(0, .ref (ad 0)), (1, .int x1), (2, .int x2), (3, .int x3), (4, .int x4), (5, .int x5), (6, .int x6)]) (hf : f_Mo_nodesAt_119 κ89 n μ x1 x2 x3 x4 x5 x6 = some μ') : WU p l e rm_Mo_nodesAt s m args below meth c H locs D (WM g ad μ') A none (F0 m 119 ls []) := by
  obtain ⟨S, hr, hlk, hK⟩ := id X
  obtain ⟨hx, hb, hml, hown, hts⟩ := id S
  rw [f_Mo_nodesAt_119] at hf
  refine lv_aload_n hx hb d_Mo_nodesAt_119 rfl (lv_at hl 0 rfl) ?_
  refine lv_iload_n hx hb d_Mo_nodesAt_120 rfl (lv_at hl 1 rfl) ?_
  refine lv_iload hx hb d_Mo_nodesAt_121 (lv_at hl 6 rfl) ?_
  refine lv_bipush (v := 40) hx hb d_Mo_nodesAt_123 (by decide) ?_
  refine lv_iload_n hx hb d_Mo_nodesAt_125 rfl (lv_at hl 2 rfl) ?_
  obtain ⟨μ2, hv1, hf⟩ := cl_x hf
  refine wrV (As := [.int x1, .int x6, .int (40 : Int32), .int x2]) (rest := []) S K_Mo_node q_1024 (c_Mo_node hDA hv1) hK hP hS ⟨rfl, rfl⟩ ⟨Nat.le_of_ble_eq_true rfl, Nat.le_of_ble_eq_true rfl⟩ (mr_0 hK hP) rfl hl.1 rfl (Nat.le_of_ble_eq_true rfl) d_Mo_nodesAt_126 ⟨Nat.le_refl _, Nat.le_refl _⟩ (fun H locs hP hS => ?_)
  exact w_Mo_nodesAt_129 X hDA hκ89 hP hS (lv_sub (l' := [(0, .ref (ad 0)), (1, .int x1), (2, .int x2), (3, .int x3), (4, .int x4), (5, .int x5), (6, .int x6)]) hl [0, 1, 2, 3, 4, 5, 6] rfl) hf
def f_Mo_nodesAt_89 : Nat → Mem → Int32 → Int32 → Int32 → Int32 → Int32 → Int32 → Option Mem
  | 0, _, _, _, _, _, _, _ => none
  | n + 1, μ, x1, x2, x3, x4, x5, x6 => (if x5 < x6 then (f_Mo_nodesAt_135 n μ x1 x2 x3) else (if x6 ≤ (x4 / (4 : Int32)) then (f_Mo_nodesAt_119 (f_Mo_nodesAt_89 n) n μ x1 x2 x3 x4 x5 x6) else (if x6 = x5 then (if (x4 &&& (2 : Int32)) = 0 then (f_Mo_nodesAt_129 (f_Mo_nodesAt_89 n) n μ x1 x2 x3 x4 x5 x6) else (f_Mo_nodesAt_119 (f_Mo_nodesAt_89 n) n μ x1 x2 x3 x4 x5 x6)) else (f_Mo_nodesAt_129 (f_Mo_nodesAt_89 n) n μ x1 x2 x3 x4 x5 x6))))
set_option maxHeartbeats 4000000 in
set_option maxRecDepth 100000 in
theorem w_Mo_nodesAt_89 {p : Program} {l : Launch} {e : Env} {s : State} {m : MethodId} {args : Array Value} {below : List Frame} {meth : Method} {c : Code} {D : va_G} {g : Nat → ClassId} {ad : Nat → Nat} {μ' : Mem} {A : Nat → Prop} (X : Cx p s m args meth c b_Mo_nodesAt 7 R_Mo none D CL (TY g)) (hDA : ∀ μ : Mem, va_D A (WM g ad μ)) : ∀ (n : Nat) (μ : Mem) (x1 : Int32) (x2 : Int32) (x3 : Int32) (x4 : Int32) (x5 : Int32) (x6 : Int32) (ls : Array Slot) (H : Heap) (locs : List Loc), va_P D CL (WM g ad μ) H → va_S A s.heap H locs → lv_has ls 7 [(0, .ref (ad 0)), (1, .int x1), (2, .int x2), (3, .int x3), (4, .int x4), (5, .int x5), (6, .int x6)] → f_Mo_nodesAt_89 n μ x1 x2 x3 x4 x5 x6 = some μ' → WU p l e rm_Mo_nodesAt s m args below meth c H locs D (WM g ad μ') A none (F0 m 89 ls []) := by
  intro n
  induction n with
  | zero => intro μ x1 x2 x3 x4 x5 x6 ls H locs hP hS hl hf; rw [f_Mo_nodesAt_89] at hf; cases hf
  | succ n ih =>
    intro μ x1 x2 x3 x4 x5 x6 ls H locs hP hS hl hf
    obtain ⟨S, hr, hlk, hK⟩ := id X
    obtain ⟨hx, hb, hml, hown, hts⟩ := id S
    rw [f_Mo_nodesAt_89] at hf
    refine lv_iload hx hb d_Mo_nodesAt_89 (lv_at hl 6 rfl) ?_
    refine lv_iload hx hb d_Mo_nodesAt_91 (lv_at hl 5 rfl) ?_
    refine lv_icmp_gt (tgt := 135) hx hb d_Mo_nodesAt_93 rfl (fun hc => ?_) (fun hc => ?_)
    · replace hf := br_p hc hf
      exact w_Mo_nodesAt_135 X hDA hP hS (lv_sub (l' := [(0, .ref (ad 0)), (1, .int x1), (2, .int x2), (3, .int x3)]) hl [0, 1, 2, 3] rfl) hf
    · replace hf := br_n hc hf
      refine lv_iload hx hb d_Mo_nodesAt_96 (lv_at hl 6 rfl) ?_
      refine lv_iload hx hb d_Mo_nodesAt_98 (lv_at hl 4 rfl) ?_
      refine lv_iconst (v := 4) hx hb d_Mo_nodesAt_100 (by decide) ?_
      refine lv_idiv hx hb d_Mo_nodesAt_101 (by decide) ?_
      refine lv_icmp_le (tgt := 119) hx hb d_Mo_nodesAt_102 rfl (fun hc => ?_) (fun hc => ?_)
      · replace hf := br_p hc hf
        exact w_Mo_nodesAt_119 X hDA ih hP hS (lv_sub (l' := [(0, .ref (ad 0)), (1, .int x1), (2, .int x2), (3, .int x3), (4, .int x4), (5, .int x5), (6, .int x6)]) hl [0, 1, 2, 3, 4, 5, 6] rfl) hf
      · replace hf := br_n hc hf
        refine lv_iload hx hb d_Mo_nodesAt_105 (lv_at hl 6 rfl) ?_
        refine lv_iload hx hb d_Mo_nodesAt_107 (lv_at hl 5 rfl) ?_
        refine lv_icmp_ne (tgt := 129) hx hb d_Mo_nodesAt_109 rfl (fun hc => ?_) (fun hc => ?_)
        · replace hf := br_n hc hf
          exact w_Mo_nodesAt_129 X hDA ih hP hS (lv_sub (l' := [(0, .ref (ad 0)), (1, .int x1), (2, .int x2), (3, .int x3), (4, .int x4), (5, .int x5), (6, .int x6)]) hl [0, 1, 2, 3, 4, 5, 6] rfl) hf
        · replace hf := br_p hc hf
          refine lv_iload hx hb d_Mo_nodesAt_112 (lv_at hl 4 rfl) ?_
          refine lv_iconst (v := 2) hx hb d_Mo_nodesAt_114 (by decide) ?_
          refine lv_iand hx hb d_Mo_nodesAt_115 ?_
          refine lv_if_eq (tgt := 129) hx hb d_Mo_nodesAt_116 rfl (fun hc => ?_) (fun hc => ?_)
          · replace hf := br_p hc hf
            exact w_Mo_nodesAt_129 X hDA ih hP hS (lv_sub (l' := [(0, .ref (ad 0)), (1, .int x1), (2, .int x2), (3, .int x3), (4, .int x4), (5, .int x5), (6, .int x6)]) hl [0, 1, 2, 3, 4, 5, 6] rfl) hf
          · replace hf := br_n hc hf
            exact w_Mo_nodesAt_119 X hDA ih hP hS (lv_sub (l' := [(0, .ref (ad 0)), (1, .int x1), (2, .int x2), (3, .int x3), (4, .int x4), (5, .int x5), (6, .int x6)]) hl [0, 1, 2, 3, 4, 5, 6] rfl) hf
def f_Mo_nodesAt_86 (n : Nat) (μ : Mem) (x1 : Int32) (x2 : Int32) (x3 : Int32) (x4 : Int32) (x5 : Int32) : Option Mem := f_Mo_nodesAt_89 n μ x1 x2 x3 x4 x5 (1 : Int32)
set_option maxHeartbeats 4000000 in
set_option maxRecDepth 100000 in
theorem w_Mo_nodesAt_86 {p : Program} {l : Launch} {e : Env} {s : State} {m : MethodId} {args : Array Value} {below : List Frame} {meth : Method} {c : Code} {D : va_G} {g : Nat → ClassId} {ad : Nat → Nat} {μ' : Mem} {A : Nat → Prop} {n : Nat} {μ : Mem} {x1 : Int32} {x2 : Int32} {x3 : Int32} {x4 : Int32} {x5 : Int32} {ls : Array Slot} {H : Heap} {locs : List Loc} (X : Cx p s m args meth c b_Mo_nodesAt 7 R_Mo none D CL (TY g)) (hDA : ∀ μ : Mem, va_D A (WM g ad μ)) (hP : va_P D CL (WM g ad μ) H) (hS : va_S A s.heap H locs) (hl : lv_has ls 7 [(0, .ref (ad 0)), (1, .int x1), (2, .int x2), (3, .int x3), (4, .int x4), (5, .int x5)]) (hf : f_Mo_nodesAt_86 n μ x1 x2 x3 x4 x5 = some μ') : WU p l e rm_Mo_nodesAt s m args below meth c H locs D (WM g ad μ') A none (F0 m 86 ls []) := by
  obtain ⟨S, hr, hlk, hK⟩ := id X
  obtain ⟨hx, hb, hml, hown, hts⟩ := id S
  rw [f_Mo_nodesAt_86] at hf
  refine lv_iconst (v := 1) hx hb d_Mo_nodesAt_86 (by decide) ?_
  refine lv_istore (lv' := [(6, .int (1 : Int32)), (0, .ref (ad 0)), (1, .int x1), (2, .int x2), (3, .int x3), (4, .int x4), (5, .int x5)]) hx hb d_Mo_nodesAt_87 hl (Nat.le_of_ble_eq_true rfl) rfl (fun ls hl => ?_)
  exact w_Mo_nodesAt_89 X hDA _ _ _ _ _ _ _ _ _ _ _ hP hS (lv_sub (l' := [(0, .ref (ad 0)), (1, .int x1), (2, .int x2), (3, .int x3), (4, .int x4), (5, .int x5), (6, .int (1 : Int32))]) hl [1, 2, 3, 4, 5, 6, 0] rfl) hf
def f_Mo_nodesAt_42 (κ8 : Mem → Int32 → Int32 → Int32 → Int32 → Option Mem) (n : Nat) (μ : Mem) (x1 : Int32) (x2 : Int32) (x3 : Int32) (x4 : Int32) : Option Mem := bd (x4 + 1) (fun v1 => κ8 μ x1 x2 x3 v1)
set_option maxHeartbeats 4000000 in
set_option maxRecDepth 100000 in
theorem w_Mo_nodesAt_42 {p : Program} {l : Launch} {e : Env} {s : State} {m : MethodId} {args : Array Value} {below : List Frame} {meth : Method} {c : Code} {D : va_G} {g : Nat → ClassId} {ad : Nat → Nat} {μ' : Mem} {A : Nat → Prop} {κ8 : Mem → Int32 → Int32 → Int32 → Int32 → Option Mem} {n : Nat} {μ : Mem} {x1 : Int32} {x2 : Int32} {x3 : Int32} {x4 : Int32} {ls : Array Slot} {H : Heap} {locs : List Loc} (X : Cx p s m args meth c b_Mo_nodesAt 7 R_Mo none D CL (TY g)) (hDA : ∀ μ : Mem, va_D A (WM g ad μ)) (hκ8 : ∀ (μ : Mem) (x1 : Int32) (x2 : Int32) (x3 : Int32) (x4 : Int32) (ls : Array Slot) (H : Heap) (locs : List Loc), va_P D CL (WM g ad μ) H → va_S A s.heap H locs → lv_has ls 7 [(0, .ref (ad 0)), (1, .int x1), (2, .int x2), (3, .int x3), (4, .int x4)] → κ8 μ x1 x2 x3 x4 = some μ' → WU p l e rm_Mo_nodesAt s m args below meth c H locs D (WM g ad μ') A none (F0 m 8 ls [])) (hP : va_P D CL (WM g ad μ) H) (hS : va_S A s.heap H locs) (hl : lv_has ls 7 [(0, .ref (ad 0)), (1, .int x1), (2, .int x2), (3, .int x3), (4, .int x4)]) (hf : f_Mo_nodesAt_42 κ8 n μ x1 x2 x3 x4 = some μ') : WU p l e rm_Mo_nodesAt s m args below meth c H locs D (WM g ad μ') A none (F0 m 42 ls []) := by
  obtain ⟨S, hr, hlk, hK⟩ := id X
  obtain ⟨hx, hb, hml, hown, hts⟩ := id S
  rw [f_Mo_nodesAt_42] at hf
  obtain ⟨v1, hv1, hf⟩ := bd_x hf
  refine lv_iinc (lv' := [(4, .int v1), (0, .ref (ad 0)), (1, .int x1), (2, .int x2), (3, .int x3)]) hx hb d_Mo_nodesAt_42 hl (k := 4) rfl (show x4 + Int32.ofInt (1) = v1 from hv1) (Nat.le_of_ble_eq_true rfl) rfl (fun ls hl => ?_)
  refine lv_goto (tgt := 8) hx hb d_Mo_nodesAt_45 rfl ?_
  exact hκ8 _ _ _ _ _ _ _ _ hP hS (lv_sub (l' := [(0, .ref (ad 0)), (1, .int x1), (2, .int x2), (3, .int x3), (4, .int v1)]) hl [1, 2, 3, 4, 0] rfl) hf
def f_Mo_nodesAt_8 : Nat → Mem → Int32 → Int32 → Int32 → Int32 → Option Mem
  | 0, _, _, _, _, _ => none
  | n + 1, μ, x1, x2, x3, x4 => (if (μ.1 0 8) ≤ x4 then (gd (inb x1 24) (gd (inb ((μ.1 1 x1.toNatClampNeg) / (64 : Int32)) 4) (bd (μ.1 8 ((μ.1 1 x1.toNatClampNeg) / (64 : Int32)).toNatClampNeg) (fun v1 => cl (f_Mo_runAt n μ x1) (fun v2 => (if (μ.1 0 23) = x3 then (f_Mo_nodesAt_86 n μ x1 x2 x3 v1 v2) else (if (v1 &&& (1 : Int32)) = 0 then (f_Mo_nodesAt_135 n μ x1 x2 x3) else (f_Mo_nodesAt_86 n μ x1 x2 x3 v1 v2)))))))) else (cl (f_Mo_standsAt n μ x4 x1) (fun v3 => (if (bz v3) = 0 then (f_Mo_nodesAt_42 (f_Mo_nodesAt_8 n) n μ x1 x2 x3 x4) else (gd (inb x4 40) (cl (f_Mo_node n μ x1 (μ.1 3 x4.toNatClampNeg) x4 x2) (fun μ5 => f_Mo_nodesAt_42 (f_Mo_nodesAt_8 n) n μ5 x1 x2 x3 x4)))))))
set_option maxHeartbeats 4000000 in
set_option maxRecDepth 100000 in
theorem w_Mo_nodesAt_8 {p : Program} {l : Launch} {e : Env} {s : State} {m : MethodId} {args : Array Value} {below : List Frame} {meth : Method} {c : Code} {D : va_G} {g : Nat → ClassId} {ad : Nat → Nat} {μ' : Mem} {A : Nat → Prop} (X : Cx p s m args meth c b_Mo_nodesAt 7 R_Mo none D CL (TY g)) (hDA : ∀ μ : Mem, va_D A (WM g ad μ)) : ∀ (n : Nat) (μ : Mem) (x1 : Int32) (x2 : Int32) (x3 : Int32) (x4 : Int32) (ls : Array Slot) (H : Heap) (locs : List Loc), va_P D CL (WM g ad μ) H → va_S A s.heap H locs → lv_has ls 7 [(0, .ref (ad 0)), (1, .int x1), (2, .int x2), (3, .int x3), (4, .int x4)] → f_Mo_nodesAt_8 n μ x1 x2 x3 x4 = some μ' → WU p l e rm_Mo_nodesAt s m args below meth c H locs D (WM g ad μ') A none (F0 m 8 ls []) := by
  intro n
  induction n with
  | zero => intro μ x1 x2 x3 x4 ls H locs hP hS hl hf; rw [f_Mo_nodesAt_8] at hf; cases hf
  | succ n ih =>
    intro μ x1 x2 x3 x4 ls H locs hP hS hl hf
    obtain ⟨S, hr, hlk, hK⟩ := id X
    obtain ⟨hx, hb, hml, hown, hts⟩ := id S
    rw [f_Mo_nodesAt_8] at hf
    refine lv_iload hx hb d_Mo_nodesAt_8 (lv_at hl 4 rfl) ?_
    refine lv_aload_n hx hb d_Mo_nodesAt_10 rfl (lv_at hl 0 rfl) ?_
    refine mg_0_8 hx hb hts hown hK hP q_826 d_Mo_nodesAt_11 ?_
    refine lv_icmp_ge (tgt := 48) hx hb d_Mo_nodesAt_14 rfl (fun hc => ?_) (fun hc => ?_)
    · replace hf := br_p hc hf
      refine lv_aload_n hx hb d_Mo_nodesAt_48 rfl (lv_at hl 0 rfl) ?_
      refine mg_0_9 hx hb hts hown hK hP q_827 d_Mo_nodesAt_49 ?_
      refine lv_aload_n hx hb d_Mo_nodesAt_52 rfl (lv_at hl 0 rfl) ?_
      refine mg_0_0 hx hb hts hown hK hP q_818 d_Mo_nodesAt_53 ?_
      refine lv_iload_n hx hb d_Mo_nodesAt_56 rfl (lv_at hl 1 rfl) ?_
      obtain ⟨hi, hf⟩ := gd_x hf
      refine ml_1 hx hb hK hP (inb_in hi) d_Mo_nodesAt_57 ?_
      refine lv_bipush (v := 64) hx hb d_Mo_nodesAt_58 (by decide) ?_
      refine lv_idiv hx hb d_Mo_nodesAt_60 (by decide) ?_
      obtain ⟨hi, hf⟩ := gd_x hf
      refine ml_8 hx hb hK hP (inb_in hi) d_Mo_nodesAt_61 ?_
      obtain ⟨v1, hv1, hf⟩ := bd_x hf
      refine top_i hv1 ?_
      refine lv_istore (lv' := [(4, .int v1), (0, .ref (ad 0)), (1, .int x1), (2, .int x2), (3, .int x3)]) hx hb d_Mo_nodesAt_62 hl (Nat.le_of_ble_eq_true rfl) rfl (fun ls hl => ?_)
      refine lv_aload_n hx hb d_Mo_nodesAt_64 rfl (lv_at hl 1 rfl) ?_
      refine lv_iload_n hx hb d_Mo_nodesAt_65 rfl (lv_at hl 2 rfl) ?_
      obtain ⟨v2, hv2, hf⟩ := cl_x hf
      refine rdV (As := [.int x1]) (rest := []) S K_Mo_runAt q_1032 (c_Mo_runAt hv2) hK hP ⟨rfl, rfl⟩ ⟨Nat.le_of_ble_eq_true rfl, Nat.le_of_ble_eq_true rfl⟩ (mr_0 hK hP) rfl hl.1 rfl (Nat.le_of_ble_eq_true rfl) d_Mo_nodesAt_66 ⟨Nat.le_refl _, Nat.le_refl _⟩ ?_
      refine lv_istore (lv' := [(5, .int v2), (4, .int v1), (0, .ref (ad 0)), (1, .int x1), (2, .int x2), (3, .int x3)]) hx hb d_Mo_nodesAt_69 hl (Nat.le_of_ble_eq_true rfl) rfl (fun ls hl => ?_)
      refine lv_aload_n hx hb d_Mo_nodesAt_71 rfl (lv_at hl 2 rfl) ?_
      refine mg_0_23 hx hb hts hown hK hP q_841 d_Mo_nodesAt_72 ?_
      refine lv_iload_n hx hb d_Mo_nodesAt_75 rfl (lv_at hl 5 rfl) ?_
      refine lv_icmp_eq (tgt := 86) hx hb d_Mo_nodesAt_76 rfl (fun hc => ?_) (fun hc => ?_)
      · replace hf := br_p hc hf
        exact w_Mo_nodesAt_86 X hDA hP hS (lv_sub (l' := [(0, .ref (ad 0)), (1, .int x1), (2, .int x2), (3, .int x3), (4, .int v1), (5, .int v2)]) hl [2, 3, 4, 5, 1, 0] rfl) hf
      · replace hf := br_n hc hf
        refine lv_iload hx hb d_Mo_nodesAt_79 (lv_at hl 1 rfl) ?_
        refine lv_iconst (v := 1) hx hb d_Mo_nodesAt_81 (by decide) ?_
        refine lv_iand hx hb d_Mo_nodesAt_82 ?_
        refine lv_if_eq (tgt := 135) hx hb d_Mo_nodesAt_83 rfl (fun hc => ?_) (fun hc => ?_)
        · replace hf := br_p hc hf
          exact w_Mo_nodesAt_135 X hDA hP hS (lv_sub (l' := [(0, .ref (ad 0)), (1, .int x1), (2, .int x2), (3, .int x3)]) hl [2, 3, 4, 5] rfl) hf
        · replace hf := br_n hc hf
          exact w_Mo_nodesAt_86 X hDA hP hS (lv_sub (l' := [(0, .ref (ad 0)), (1, .int x1), (2, .int x2), (3, .int x3), (4, .int v1), (5, .int v2)]) hl [2, 3, 4, 5, 1, 0] rfl) hf
    · replace hf := br_n hc hf
      refine lv_aload_n hx hb d_Mo_nodesAt_17 rfl (lv_at hl 0 rfl) ?_
      refine lv_iload hx hb d_Mo_nodesAt_18 (lv_at hl 4 rfl) ?_
      refine lv_iload_n hx hb d_Mo_nodesAt_20 rfl (lv_at hl 1 rfl) ?_
      obtain ⟨v3, hv3, hf⟩ := cl_x hf
      refine rdV (As := [.int x4, .int x1]) (rest := []) S K_Mo_standsAt q_992 (c_Mo_standsAt hv3) hK hP ⟨rfl, rfl⟩ ⟨Nat.le_of_ble_eq_true rfl, Nat.le_of_ble_eq_true rfl⟩ (mr_0 hK hP) rfl hl.1 rfl (Nat.le_of_ble_eq_true rfl) d_Mo_nodesAt_21 ⟨Nat.le_refl _, Nat.le_refl _⟩ ?_
      refine lv_if_eq (tgt := 42) hx hb d_Mo_nodesAt_24 rfl (fun hc => ?_) (fun hc => ?_)
      · replace hf := br_p hc hf
        exact w_Mo_nodesAt_42 X hDA ih hP hS (lv_sub (l' := [(0, .ref (ad 0)), (1, .int x1), (2, .int x2), (3, .int x3), (4, .int x4)]) hl [0, 1, 2, 3, 4] rfl) hf
      · replace hf := br_n hc hf
        refine lv_aload_n hx hb d_Mo_nodesAt_27 rfl (lv_at hl 0 rfl) ?_
        refine lv_iload_n hx hb d_Mo_nodesAt_28 rfl (lv_at hl 1 rfl) ?_
        refine lv_aload_n hx hb d_Mo_nodesAt_29 rfl (lv_at hl 0 rfl) ?_
        refine mg_0_3 hx hb hts hown hK hP q_821 d_Mo_nodesAt_30 ?_
        refine lv_iload hx hb d_Mo_nodesAt_33 (lv_at hl 4 rfl) ?_
        obtain ⟨hi, hf⟩ := gd_x hf
        refine ml_3 hx hb hK hP (inb_in hi) d_Mo_nodesAt_35 ?_
        refine lv_iload hx hb d_Mo_nodesAt_36 (lv_at hl 4 rfl) ?_
        refine lv_iload_n hx hb d_Mo_nodesAt_38 rfl (lv_at hl 2 rfl) ?_
        obtain ⟨μ5, hv4, hf⟩ := cl_x hf
        refine wrV (As := [.int x1, .int (μ.1 3 x4.toNatClampNeg), .int x4, .int x2]) (rest := []) S K_Mo_node q_1024 (c_Mo_node hDA hv4) hK hP hS ⟨rfl, rfl⟩ ⟨Nat.le_of_ble_eq_true rfl, Nat.le_of_ble_eq_true rfl⟩ (mr_0 hK hP) rfl hl.1 rfl (Nat.le_of_ble_eq_true rfl) d_Mo_nodesAt_39 ⟨Nat.le_refl _, Nat.le_refl _⟩ (fun H locs hP hS => ?_)
        exact w_Mo_nodesAt_42 X hDA ih hP hS (lv_sub (l' := [(0, .ref (ad 0)), (1, .int x1), (2, .int x2), (3, .int x3), (4, .int x4)]) hl [0, 1, 2, 3, 4] rfl) hf
def f_Mo_nodesAt (n : Nat) (μ : Mem) (a1 : Int32) (a2 : Int32) : Option Mem := bd (μ.1 0 23) (fun v1 => f_Mo_nodesAt_8 n μ a1 a2 v1 (0 : Int32))
set_option maxHeartbeats 4000000 in
set_option maxRecDepth 100000 in
theorem w_Mo_nodesAt {p : Program} {l : Launch} {e : Env} {s : State} {m : MethodId} {args : Array Value} {below : List Frame} {meth : Method} {c : Code} {D : va_G} {g : Nat → ClassId} {ad : Nat → Nat} {μ' : Mem} {A : Nat → Prop} {n : Nat} {μ : Mem} {a1 : Int32} {a2 : Int32} {ls : Array Slot} {H : Heap} {locs : List Loc} (X : Cx p s m args meth c b_Mo_nodesAt 7 R_Mo none D CL (TY g)) (hDA : ∀ μ : Mem, va_D A (WM g ad μ)) (hP : va_P D CL (WM g ad μ) H) (hS : va_S A s.heap H locs) (hl : lv_has ls 7 [(0, .ref (ad 0)), (1, .int a1), (2, .int a2)]) (hf : f_Mo_nodesAt n μ a1 a2 = some μ') : WU p l e rm_Mo_nodesAt s m args below meth c H locs D (WM g ad μ') A none (F0 m 0 ls []) := by
  obtain ⟨S, hr, hlk, hK⟩ := id X
  obtain ⟨hx, hb, hml, hown, hts⟩ := id S
  rw [f_Mo_nodesAt] at hf
  refine lv_aload_n hx hb d_Mo_nodesAt_0 rfl (lv_at hl 0 rfl) ?_
  refine mg_0_23 hx hb hts hown hK hP q_841 d_Mo_nodesAt_1 ?_
  obtain ⟨v1, hv1, hf⟩ := bd_x hf
  refine top_i hv1 ?_
  refine lv_istore_n (lv' := [(3, .int v1), (0, .ref (ad 0)), (1, .int a1), (2, .int a2)]) hx hb d_Mo_nodesAt_4 rfl hl (Nat.le_of_ble_eq_true rfl) rfl (fun ls hl => ?_)
  refine lv_iconst (v := 0) hx hb d_Mo_nodesAt_5 (by decide) ?_
  refine lv_istore (lv' := [(4, .int (0 : Int32)), (3, .int v1), (0, .ref (ad 0)), (1, .int a1), (2, .int a2)]) hx hb d_Mo_nodesAt_6 hl (Nat.le_of_ble_eq_true rfl) rfl (fun ls hl => ?_)
  exact w_Mo_nodesAt_8 X hDA _ _ _ _ _ _ _ _ _ hP hS (lv_sub (l' := [(0, .ref (ad 0)), (1, .int a1), (2, .int a2), (3, .int v1), (4, .int (0 : Int32))]) hl [2, 3, 4, 1, 0] rfl) hf
theorem c_Mo_nodesAt {l : Launch} {D : va_G} {g : Nat → ClassId} {ad : Nat → Nat} {μ : Mem} {μ' : Mem} {A : Nat → Prop} {n : Nat} {a1 : Int32} {a2 : Int32} (hDA : ∀ μ : Mem, va_D A (WM g ad μ)) (hf : f_Mo_nodesAt n μ a1 a2 = some μ') : Met l y_Mo_nodesAt (Cond.code y_Mo_nodesAt b_Mo_nodesAt 7 none :: ww) rm_Mo_nodesAt (RP D CL (TY g) (WM g ad μ) [.ref (ad 0), .int a1, .int a2]) (QW D CL (WM g ad μ') A none) 0 0 A := by
  refine met_of (by decide) (Nat.le_of_ble_eq_true rfl) ?_
  intro p e s m below meth c ls X hP hl
  have hl : lv_has ls 7 [(0, .ref (ad 0)), (1, .int a1), (2, .int a2)] := hl
  exact w_Mo_nodesAt X hDA hP va_S.rf hl hf
theorem d_Mo_through_0 : decode b_Mo_through 0 = .ok (.aload_n 0, 1) := by decide +kernel
theorem d_Mo_through_1 : decode b_Mo_through 1 = .ok (.getfield 64, 3) := by decide +kernel
theorem d_Mo_through_4 : decode b_Mo_through 4 = .ok (.bipush 8, 2) := by decide +kernel
theorem d_Mo_through_6 : decode b_Mo_through 6 = .ok (.aload_n 0, 1) := by decide +kernel
theorem d_Mo_through_7 : decode b_Mo_through 7 = .ok (.getfield 49, 3) := by decide +kernel
theorem d_Mo_through_10 : decode b_Mo_through 10 = .ok (.iload_n 2, 1) := by decide +kernel
theorem d_Mo_through_11 : decode b_Mo_through 11 = .ok (.iaload, 1) := by decide +kernel
theorem d_Mo_through_12 : decode b_Mo_through 12 = .ok (.imul, 1) := by decide +kernel
theorem d_Mo_through_13 : decode b_Mo_through 13 = .ok (.iload_n 1, 1) := by decide +kernel
theorem d_Mo_through_14 : decode b_Mo_through 14 = .ok (.iadd, 1) := by decide +kernel
theorem d_Mo_through_15 : decode b_Mo_through 15 = .ok (.iaload, 1) := by decide +kernel
theorem d_Mo_through_16 : decode b_Mo_through 16 = .ok (.istore_n 3, 1) := by decide +kernel
theorem d_Mo_through_17 : decode b_Mo_through 17 = .ok (.iload_n 3, 1) := by decide +kernel
theorem d_Mo_through_18 : decode b_Mo_through 18 = .ok (.ldc 174, 2) := by decide +kernel
theorem d_Mo_through_20 : decode b_Mo_through 20 = .ok (.if_icmp .ne 8, 3) := by decide +kernel
theorem d_Mo_through_23 : decode b_Mo_through 23 = .ok (.ldc 174, 2) := by decide +kernel
theorem d_Mo_through_25 : decode b_Mo_through 25 = .ok (.goto 28, 3) := by decide +kernel
theorem d_Mo_through_28 : decode b_Mo_through 28 = .ok (.iload_n 3, 1) := by decide +kernel
theorem d_Mo_through_29 : decode b_Mo_through 29 = .ok (.aload_n 0, 1) := by decide +kernel
theorem d_Mo_through_30 : decode b_Mo_through 30 = .ok (.getfield 40, 3) := by decide +kernel
theorem d_Mo_through_33 : decode b_Mo_through 33 = .ok (.bipush 8, 2) := by decide +kernel
theorem d_Mo_through_35 : decode b_Mo_through 35 = .ok (.iload_n 1, 1) := by decide +kernel
theorem d_Mo_through_36 : decode b_Mo_through 36 = .ok (.imul, 1) := by decide +kernel
theorem d_Mo_through_37 : decode b_Mo_through 37 = .ok (.aload_n 0, 1) := by decide +kernel
theorem d_Mo_through_38 : decode b_Mo_through 38 = .ok (.getfield 55, 3) := by decide +kernel
theorem d_Mo_through_41 : decode b_Mo_through 41 = .ok (.iload_n 2, 1) := by decide +kernel
theorem d_Mo_through_42 : decode b_Mo_through 42 = .ok (.iaload, 1) := by decide +kernel
theorem d_Mo_through_43 : decode b_Mo_through 43 = .ok (.iadd, 1) := by decide +kernel
theorem d_Mo_through_44 : decode b_Mo_through 44 = .ok (.iaload, 1) := by decide +kernel
theorem d_Mo_through_45 : decode b_Mo_through 45 = .ok (.iadd, 1) := by decide +kernel
theorem d_Mo_through_46 : decode b_Mo_through 46 = .ok (.aload_n 0, 1) := by decide +kernel
theorem d_Mo_through_47 : decode b_Mo_through 47 = .ok (.getfield 58, 3) := by decide +kernel
theorem d_Mo_through_50 : decode b_Mo_through 50 = .ok (.iload_n 2, 1) := by decide +kernel
theorem d_Mo_through_51 : decode b_Mo_through 51 = .ok (.iaload, 1) := by decide +kernel
theorem d_Mo_through_52 : decode b_Mo_through 52 = .ok (.iadd, 1) := by decide +kernel
theorem d_Mo_through_53 : decode b_Mo_through 53 = .ok (.ireturn, 1) := by decide +kernel
abbrev rm_Mo_through : Room := { frames := 0, cells := 0, slots := 0, locals := 0 }
def f_Mo_through (n : Nat) (μ : Mem) (a1 : Int32) (a2 : Int32) : Option Int32 := gd (inb a2 700) (gd (inb (((8 : Int32) * (μ.1 14 a2.toNatClampNeg)) + a1) 200) (bd (μ.1 19 (((8 : Int32) * (μ.1 14 a2.toNatClampNeg)) + a1).toNatClampNeg) (fun v1 => (if v1 = (1073741824 : Int32) then (some (1073741824 : Int32)) else (gd (inb a2 700) (gd (inb (((8 : Int32) * a1) + (μ.1 16 a2.toNatClampNeg)) 64) (gd (inb a2 700) (some ((v1 + (μ.1 11 (((8 : Int32) * a1) + (μ.1 16 a2.toNatClampNeg)).toNatClampNeg)) + (μ.1 17 a2.toNatClampNeg))))))))))
set_option maxHeartbeats 4000000 in
set_option maxRecDepth 100000 in
theorem w_Mo_through {p : Program} {l : Launch} {e : Env} {s : State} {m : MethodId} {args : Array Value} {below : List Frame} {meth : Method} {c : Code} {D : va_G} {g : Nat → ClassId} {ad : Nat → Nat} {μ : Mem} {r : Int32} {n : Nat} {a1 : Int32} {a2 : Int32} {ls : Array Slot} (X : Cx p s m args meth c b_Mo_through 4 R_Mo (some .int) D CL (TY g)) (hP : va_P D CL (WM g ad μ) s.heap) (hl : lv_has ls 4 [(0, .ref (ad 0)), (1, .int a1), (2, .int a2)]) (hf : f_Mo_through n μ a1 a2 = some r) : WR p l e rm_Mo_through s m args below meth c (.int r) (F0 m 0 ls []) := by
  obtain ⟨S, hr, hlk, hK⟩ := id X
  obtain ⟨hx, hb, hml, hown, hts⟩ := id S
  rw [f_Mo_through] at hf
  refine lv_aload_n hx hb d_Mo_through_0 rfl (lv_at hl 0 rfl) ?_
  refine mg_0_24 hx hb hts hown hK hP q_842 d_Mo_through_1 ?_
  refine lv_bipush (v := 8) hx hb d_Mo_through_4 (by decide) ?_
  refine lv_aload_n hx hb d_Mo_through_6 rfl (lv_at hl 0 rfl) ?_
  refine mg_0_18 hx hb hts hown hK hP q_836 d_Mo_through_7 ?_
  refine lv_iload_n hx hb d_Mo_through_10 rfl (lv_at hl 2 rfl) ?_
  obtain ⟨hi, hf⟩ := gd_x hf
  refine ml_14 hx hb hK hP (inb_in hi) d_Mo_through_11 ?_
  refine lv_imul hx hb d_Mo_through_12 ?_
  refine lv_iload_n hx hb d_Mo_through_13 rfl (lv_at hl 1 rfl) ?_
  refine lv_iadd hx hb d_Mo_through_14 ?_
  obtain ⟨hi, hf⟩ := gd_x hf
  refine ml_19 hx hb hK hP (inb_in hi) d_Mo_through_15 ?_
  obtain ⟨v1, hv1, hf⟩ := bd_x hf
  refine top_i hv1 ?_
  refine lv_istore_n (lv' := [(3, .int v1), (0, .ref (ad 0)), (1, .int a1), (2, .int a2)]) hx hb d_Mo_through_16 rfl hl (Nat.le_of_ble_eq_true rfl) rfl (fun ls hl => ?_)
  refine lv_iload_n hx hb d_Mo_through_17 rfl (lv_at hl 0 rfl) ?_
  refine lv_ldc (v := 1073741824) hx hb hown (hts _ q_1036) d_Mo_through_18 ?_
  refine lv_icmp_ne (tgt := 28) hx hb d_Mo_through_20 rfl (fun hc => ?_) (fun hc => ?_)
  · replace hf := br_n hc hf
    refine lv_iload_n hx hb d_Mo_through_28 rfl (lv_at hl 0 rfl) ?_
    refine lv_aload_n hx hb d_Mo_through_29 rfl (lv_at hl 1 rfl) ?_
    refine mg_0_12 hx hb hts hown hK hP q_830 d_Mo_through_30 ?_
    refine lv_bipush (v := 8) hx hb d_Mo_through_33 (by decide) ?_
    refine lv_iload_n hx hb d_Mo_through_35 rfl (lv_at hl 2 rfl) ?_
    refine lv_imul hx hb d_Mo_through_36 ?_
    refine lv_aload_n hx hb d_Mo_through_37 rfl (lv_at hl 1 rfl) ?_
    refine mg_0_20 hx hb hts hown hK hP q_838 d_Mo_through_38 ?_
    refine lv_iload_n hx hb d_Mo_through_41 rfl (lv_at hl 3 rfl) ?_
    obtain ⟨hi, hf⟩ := gd_x hf
    refine ml_16 hx hb hK hP (inb_in hi) d_Mo_through_42 ?_
    refine lv_iadd hx hb d_Mo_through_43 ?_
    obtain ⟨hi, hf⟩ := gd_x hf
    refine ml_11 hx hb hK hP (inb_in hi) d_Mo_through_44 ?_
    refine lv_iadd hx hb d_Mo_through_45 ?_
    refine lv_aload_n hx hb d_Mo_through_46 rfl (lv_at hl 1 rfl) ?_
    refine mg_0_21 hx hb hts hown hK hP q_839 d_Mo_through_47 ?_
    refine lv_iload_n hx hb d_Mo_through_50 rfl (lv_at hl 3 rfl) ?_
    obtain ⟨hi, hf⟩ := gd_x hf
    refine ml_17 hx hb hK hP (inb_in hi) d_Mo_through_51 ?_
    refine lv_iadd hx hb d_Mo_through_52 ?_
    have h1 := Option.some.inj hf
    subst h1
    exact W.iret hx hb hr (fun t ht _ => ⟨rfl, ht⟩) (fun _ h => by cases h) d_Mo_through_53
  · replace hf := br_p hc hf
    refine lv_ldc (v := 1073741824) hx hb hown (hts _ q_1036) d_Mo_through_23 ?_
    refine lv_goto (tgt := 53) hx hb d_Mo_through_25 rfl ?_
    have h1 := Option.some.inj hf
    subst h1
    exact W.iret hx hb hr (fun t ht _ => ⟨rfl, ht⟩) (fun _ h => by cases h) d_Mo_through_53
theorem c_Mo_through {l : Launch} {D : va_G} {g : Nat → ClassId} {ad : Nat → Nat} {μ : Mem} {r : Int32} {n : Nat} {a1 : Int32} {a2 : Int32} (hf : f_Mo_through n μ a1 a2 = some r) : Met l y_Mo_through (Cond.code y_Mo_through b_Mo_through 4 (some .int) :: ww) rm_Mo_through (RP D CL (TY g) (WM g ad μ) [.ref (ad 0), .int a1, .int a2]) (k2_QcV (.int r)) 0 0 (fun _ => False) := by
  refine met_of (by decide) (Nat.le_of_ble_eq_true rfl) ?_
  intro p e s m below meth c ls X hP hl
  have hl : lv_has ls 4 [(0, .ref (ad 0)), (1, .int a1), (2, .int a2)] := hl
  exact w_Mo_through X hP hl hf
theorem d_Mo_shorten_0 : decode b_Mo_shorten 0 = .ok (.iconst 0, 1) := by decide +kernel
theorem d_Mo_shorten_1 : decode b_Mo_shorten 1 = .ok (.istore_n 1, 1) := by decide +kernel
theorem d_Mo_shorten_2 : decode b_Mo_shorten 2 = .ok (.iconst 0, 1) := by decide +kernel
theorem d_Mo_shorten_3 : decode b_Mo_shorten 3 = .ok (.istore_n 2, 1) := by decide +kernel
theorem d_Mo_shorten_4 : decode b_Mo_shorten 4 = .ok (.iload_n 2, 1) := by decide +kernel
theorem d_Mo_shorten_5 : decode b_Mo_shorten 5 = .ok (.aload_n 0, 1) := by decide +kernel
theorem d_Mo_shorten_6 : decode b_Mo_shorten 6 = .ok (.getfield 159, 3) := by decide +kernel
theorem d_Mo_shorten_9 : decode b_Mo_shorten 9 = .ok (.if_icmp .ge 79, 3) := by decide +kernel
theorem d_Mo_shorten_12 : decode b_Mo_shorten 12 = .ok (.bipush 8, 2) := by decide +kernel
theorem d_Mo_shorten_14 : decode b_Mo_shorten 14 = .ok (.aload_n 0, 1) := by decide +kernel
theorem d_Mo_shorten_15 : decode b_Mo_shorten 15 = .ok (.getfield 49, 3) := by decide +kernel
theorem d_Mo_shorten_18 : decode b_Mo_shorten 18 = .ok (.iload_n 2, 1) := by decide +kernel
theorem d_Mo_shorten_19 : decode b_Mo_shorten 19 = .ok (.iaload, 1) := by decide +kernel
theorem d_Mo_shorten_20 : decode b_Mo_shorten 20 = .ok (.aload_n 0, 1) := by decide +kernel
theorem d_Mo_shorten_21 : decode b_Mo_shorten 21 = .ok (.getfield 52, 3) := by decide +kernel
theorem d_Mo_shorten_24 : decode b_Mo_shorten 24 = .ok (.iload_n 2, 1) := by decide +kernel
theorem d_Mo_shorten_25 : decode b_Mo_shorten 25 = .ok (.iaload, 1) := by decide +kernel
theorem d_Mo_shorten_26 : decode b_Mo_shorten 26 = .ok (.iadd, 1) := by decide +kernel
theorem d_Mo_shorten_27 : decode b_Mo_shorten 27 = .ok (.imul, 1) := by decide +kernel
theorem d_Mo_shorten_28 : decode b_Mo_shorten 28 = .ok (.aload_n 0, 1) := by decide +kernel
theorem d_Mo_shorten_29 : decode b_Mo_shorten 29 = .ok (.getfield 55, 3) := by decide +kernel
theorem d_Mo_shorten_32 : decode b_Mo_shorten 32 = .ok (.iload_n 2, 1) := by decide +kernel
theorem d_Mo_shorten_33 : decode b_Mo_shorten 33 = .ok (.iaload, 1) := by decide +kernel
theorem d_Mo_shorten_34 : decode b_Mo_shorten 34 = .ok (.iadd, 1) := by decide +kernel
theorem d_Mo_shorten_35 : decode b_Mo_shorten 35 = .ok (.istore_n 3, 1) := by decide +kernel
theorem d_Mo_shorten_36 : decode b_Mo_shorten 36 = .ok (.iconst 0, 1) := by decide +kernel
theorem d_Mo_shorten_37 : decode b_Mo_shorten 37 = .ok (.istore 4, 2) := by decide +kernel
theorem d_Mo_shorten_39 : decode b_Mo_shorten 39 = .ok (.iload 4, 2) := by decide +kernel
theorem d_Mo_shorten_41 : decode b_Mo_shorten 41 = .ok (.bipush 8, 2) := by decide +kernel
theorem d_Mo_shorten_43 : decode b_Mo_shorten 43 = .ok (.if_icmp .ge 39, 3) := by decide +kernel
theorem d_Mo_shorten_46 : decode b_Mo_shorten 46 = .ok (.aload_n 0, 1) := by decide +kernel
theorem d_Mo_shorten_47 : decode b_Mo_shorten 47 = .ok (.iload 4, 2) := by decide +kernel
theorem d_Mo_shorten_49 : decode b_Mo_shorten 49 = .ok (.iload_n 2, 1) := by decide +kernel
theorem d_Mo_shorten_50 : decode b_Mo_shorten 50 = .ok (.invokevirtual 175, 3) := by decide +kernel
theorem d_Mo_shorten_53 : decode b_Mo_shorten 53 = .ok (.istore 5, 2) := by decide +kernel
theorem d_Mo_shorten_55 : decode b_Mo_shorten 55 = .ok (.iload 5, 2) := by decide +kernel
theorem d_Mo_shorten_57 : decode b_Mo_shorten 57 = .ok (.aload_n 0, 1) := by decide +kernel
theorem d_Mo_shorten_58 : decode b_Mo_shorten 58 = .ok (.getfield 64, 3) := by decide +kernel
theorem d_Mo_shorten_61 : decode b_Mo_shorten 61 = .ok (.iload_n 3, 1) := by decide +kernel
theorem d_Mo_shorten_62 : decode b_Mo_shorten 62 = .ok (.iaload, 1) := by decide +kernel
theorem d_Mo_shorten_63 : decode b_Mo_shorten 63 = .ok (.if_icmp .ge 13, 3) := by decide +kernel
theorem d_Mo_shorten_66 : decode b_Mo_shorten 66 = .ok (.aload_n 0, 1) := by decide +kernel
theorem d_Mo_shorten_67 : decode b_Mo_shorten 67 = .ok (.getfield 64, 3) := by decide +kernel
theorem d_Mo_shorten_70 : decode b_Mo_shorten 70 = .ok (.iload_n 3, 1) := by decide +kernel
theorem d_Mo_shorten_71 : decode b_Mo_shorten 71 = .ok (.iload 5, 2) := by decide +kernel
theorem d_Mo_shorten_73 : decode b_Mo_shorten 73 = .ok (.iastore, 1) := by decide +kernel
theorem d_Mo_shorten_74 : decode b_Mo_shorten 74 = .ok (.iconst 1, 1) := by decide +kernel
theorem d_Mo_shorten_75 : decode b_Mo_shorten 75 = .ok (.istore_n 1, 1) := by decide +kernel
theorem d_Mo_shorten_76 : decode b_Mo_shorten 76 = .ok (.iinc 4 1, 3) := by decide +kernel
theorem d_Mo_shorten_79 : decode b_Mo_shorten 79 = .ok (.goto (-40), 3) := by decide +kernel
theorem d_Mo_shorten_82 : decode b_Mo_shorten 82 = .ok (.iinc 2 1, 3) := by decide +kernel
theorem d_Mo_shorten_85 : decode b_Mo_shorten 85 = .ok (.goto (-81), 3) := by decide +kernel
theorem d_Mo_shorten_88 : decode b_Mo_shorten 88 = .ok (.iload_n 1, 1) := by decide +kernel
theorem d_Mo_shorten_89 : decode b_Mo_shorten 89 = .ok (.ireturn, 1) := by decide +kernel
abbrev rm_Mo_shorten : Room := { frames := 1, cells := 0, slots := 0, locals := 23 }
def f_Mo_shorten_76 (κ4 : Mem → Bool → Int32 → Option (Bool × Mem)) (κ39 : Mem → Bool → Int32 → Int32 → Int32 → Option (Bool × Mem)) (n : Nat) (μ : Mem) (x1 : Bool) (x2 : Int32) (x3 : Int32) (x4 : Int32) : Option (Bool × Mem) := bd (x4 + 1) (fun v1 => κ39 μ x1 x2 x3 v1)
set_option maxHeartbeats 4000000 in
set_option maxRecDepth 100000 in
theorem w_Mo_shorten_76 {p : Program} {l : Launch} {e : Env} {s : State} {m : MethodId} {args : Array Value} {below : List Frame} {meth : Method} {c : Code} {D : va_G} {g : Nat → ClassId} {ad : Nat → Nat} {r : Bool} {μ' : Mem} {A : Nat → Prop} {κ4 : Mem → Bool → Int32 → Option (Bool × Mem)} {κ39 : Mem → Bool → Int32 → Int32 → Int32 → Option (Bool × Mem)} {n : Nat} {μ : Mem} {x1 : Bool} {x2 : Int32} {x3 : Int32} {x4 : Int32} {ls : Array Slot} {H : Heap} {locs : List Loc} (X : Cx p s m args meth c b_Mo_shorten 6 R_Mo (some .boolean) D CL (TY g)) (hDA : ∀ μ : Mem, va_D A (WM g ad μ)) (hκ4 : ∀ (μ : Mem) (x1 : Bool) (x2 : Int32) (ls : Array Slot) (H : Heap) (locs : List Loc), va_P D CL (WM g ad μ) H → va_S A s.heap H locs → lv_has ls 6 [(0, .ref (ad 0)), (1, .int (bz x1)), (2, .int x2)] → κ4 μ x1 x2 = some (r, μ') → WU p l e rm_Mo_shorten s m args below meth c H locs D (WM g ad μ') A (some (.int (bz r))) (F0 m 4 ls [])) (hκ39 : ∀ (μ : Mem) (x1 : Bool) (x2 : Int32) (x3 : Int32) (x4 : Int32) (ls : Array Slot) (H : Heap) (locs : List Loc), va_P D CL (WM g ad μ) H → va_S A s.heap H locs → lv_has ls 6 [(0, .ref (ad 0)), (1, .int (bz x1)), (2, .int x2), (3, .int x3), (4, .int x4)] → κ39 μ x1 x2 x3 x4 = some (r, μ') → WU p l e rm_Mo_shorten s m args below meth c H locs D (WM g ad μ') A (some (.int (bz r))) (F0 m 39 ls [])) (hP : va_P D CL (WM g ad μ) H) (hS : va_S A s.heap H locs) (hl : lv_has ls 6 [(0, .ref (ad 0)), (1, .int (bz x1)), (2, .int x2), (3, .int x3), (4, .int x4)]) (hf : f_Mo_shorten_76 κ4 κ39 n μ x1 x2 x3 x4 = some (r, μ')) : WU p l e rm_Mo_shorten s m args below meth c H locs D (WM g ad μ') A (some (.int (bz r))) (F0 m 76 ls []) := by
  obtain ⟨S, hr, hlk, hK⟩ := id X
  obtain ⟨hx, hb, hml, hown, hts⟩ := id S
  rw [f_Mo_shorten_76] at hf
  obtain ⟨v1, hv1, hf⟩ := bd_x hf
  refine lv_iinc (lv' := [(4, .int v1), (0, .ref (ad 0)), (1, .int (bz x1)), (2, .int x2), (3, .int x3)]) hx hb d_Mo_shorten_76 hl (k := 4) rfl (show x4 + Int32.ofInt (1) = v1 from hv1) (Nat.le_of_ble_eq_true rfl) rfl (fun ls hl => ?_)
  refine lv_goto (tgt := 39) hx hb d_Mo_shorten_79 rfl ?_
  exact hκ39 _ _ _ _ _ _ _ _ hP hS (lv_sub (l' := [(0, .ref (ad 0)), (1, .int (bz x1)), (2, .int x2), (3, .int x3), (4, .int v1)]) hl [1, 2, 3, 4, 0] rfl) hf
def f_Mo_shorten_39 (κ4 : Mem → Bool → Int32 → Option (Bool × Mem)) : Nat → Mem → Bool → Int32 → Int32 → Int32 → Option (Bool × Mem)
  | 0, _, _, _, _, _ => none
  | n + 1, μ, x1, x2, x3, x4 => (if (8 : Int32) ≤ x4 then (bd (x2 + 1) (fun v1 => κ4 μ x1 v1)) else (cl (f_Mo_through n μ x4 x2) (fun v2 => gd (inb x3 200) ((if (μ.1 19 x3.toNatClampNeg) ≤ v2 then (f_Mo_shorten_76 κ4 (f_Mo_shorten_39 κ4 n) n μ x1 x2 x3 x4) else (gd (inb x3 200) (bd (wi μ 19 x3.toNatClampNeg v2) (fun μ3 => f_Mo_shorten_76 κ4 (f_Mo_shorten_39 κ4 n) n μ3 true x2 x3 x4))))))))
set_option maxHeartbeats 4000000 in
set_option maxRecDepth 100000 in
theorem w_Mo_shorten_39 {p : Program} {l : Launch} {e : Env} {s : State} {m : MethodId} {args : Array Value} {below : List Frame} {meth : Method} {c : Code} {D : va_G} {g : Nat → ClassId} {ad : Nat → Nat} {r : Bool} {μ' : Mem} {A : Nat → Prop} {κ4 : Mem → Bool → Int32 → Option (Bool × Mem)} (X : Cx p s m args meth c b_Mo_shorten 6 R_Mo (some .boolean) D CL (TY g)) (hDA : ∀ μ : Mem, va_D A (WM g ad μ)) (hκ4 : ∀ (μ : Mem) (x1 : Bool) (x2 : Int32) (ls : Array Slot) (H : Heap) (locs : List Loc), va_P D CL (WM g ad μ) H → va_S A s.heap H locs → lv_has ls 6 [(0, .ref (ad 0)), (1, .int (bz x1)), (2, .int x2)] → κ4 μ x1 x2 = some (r, μ') → WU p l e rm_Mo_shorten s m args below meth c H locs D (WM g ad μ') A (some (.int (bz r))) (F0 m 4 ls [])) : ∀ (n : Nat) (μ : Mem) (x1 : Bool) (x2 : Int32) (x3 : Int32) (x4 : Int32) (ls : Array Slot) (H : Heap) (locs : List Loc), va_P D CL (WM g ad μ) H → va_S A s.heap H locs → lv_has ls 6 [(0, .ref (ad 0)), (1, .int (bz x1)), (2, .int x2), (3, .int x3), (4, .int x4)] → f_Mo_shorten_39 κ4 n μ x1 x2 x3 x4 = some (r, μ') → WU p l e rm_Mo_shorten s m args below meth c H locs D (WM g ad μ') A (some (.int (bz r))) (F0 m 39 ls []) := by
  intro n
  induction n with
  | zero => intro μ x1 x2 x3 x4 ls H locs hP hS hl hf; rw [f_Mo_shorten_39] at hf; cases hf
  | succ n ih =>
    intro μ x1 x2 x3 x4 ls H locs hP hS hl hf
    obtain ⟨S, hr, hlk, hK⟩ := id X
    obtain ⟨hx, hb, hml, hown, hts⟩ := id S
    rw [f_Mo_shorten_39] at hf
    refine lv_iload hx hb d_Mo_shorten_39 (lv_at hl 4 rfl) ?_
    refine lv_bipush (v := 8) hx hb d_Mo_shorten_41 (by decide) ?_
    refine lv_icmp_ge (tgt := 82) hx hb d_Mo_shorten_43 rfl (fun hc => ?_) (fun hc => ?_)
    · replace hf := br_p hc hf
      obtain ⟨v1, hv1, hf⟩ := bd_x hf
      refine lv_iinc (lv' := [(2, .int v1), (0, .ref (ad 0)), (1, .int (bz x1)), (3, .int x3), (4, .int x4)]) hx hb d_Mo_shorten_82 hl (k := 2) rfl (show x2 + Int32.ofInt (1) = v1 from hv1) (Nat.le_of_ble_eq_true rfl) rfl (fun ls hl => ?_)
      refine lv_goto (tgt := 4) hx hb d_Mo_shorten_85 rfl ?_
      exact hκ4 _ _ _ _ _ _ hP hS (lv_sub (l' := [(0, .ref (ad 0)), (1, .int (bz x1)), (2, .int v1)]) hl [1, 2, 0] rfl) hf
    · replace hf := br_n hc hf
      refine lv_aload_n hx hb d_Mo_shorten_46 rfl (lv_at hl 0 rfl) ?_
      refine lv_iload hx hb d_Mo_shorten_47 (lv_at hl 4 rfl) ?_
      refine lv_iload_n hx hb d_Mo_shorten_49 rfl (lv_at hl 2 rfl) ?_
      obtain ⟨v2, hv2, hf⟩ := cl_x hf
      refine rdV (As := [.int x4, .int x2]) (rest := []) S K_Mo_through q_1041 (c_Mo_through hv2) hK hP ⟨rfl, rfl⟩ ⟨Nat.le_of_ble_eq_true rfl, Nat.le_of_ble_eq_true rfl⟩ (mr_0 hK hP) rfl hl.1 rfl (Nat.le_of_ble_eq_true rfl) d_Mo_shorten_50 ⟨Nat.le_refl _, Nat.le_refl _⟩ ?_
      refine lv_istore (lv' := [(5, .int v2), (0, .ref (ad 0)), (1, .int (bz x1)), (2, .int x2), (3, .int x3), (4, .int x4)]) hx hb d_Mo_shorten_53 hl (Nat.le_of_ble_eq_true rfl) rfl (fun ls hl => ?_)
      refine lv_iload hx hb d_Mo_shorten_55 (lv_at hl 0 rfl) ?_
      refine lv_aload_n hx hb d_Mo_shorten_57 rfl (lv_at hl 1 rfl) ?_
      refine mg_0_24 hx hb hts hown hK hP q_842 d_Mo_shorten_58 ?_
      refine lv_iload_n hx hb d_Mo_shorten_61 rfl (lv_at hl 4 rfl) ?_
      obtain ⟨hi, hf⟩ := gd_x hf
      refine ml_19 hx hb hK hP (inb_in hi) d_Mo_shorten_62 ?_
      refine lv_icmp_ge (tgt := 76) hx hb d_Mo_shorten_63 rfl (fun hc => ?_) (fun hc => ?_)
      · replace hf := br_p hc hf
        exact w_Mo_shorten_76 X hDA hκ4 ih hP hS (lv_sub (l' := [(0, .ref (ad 0)), (1, .int (bz x1)), (2, .int x2), (3, .int x3), (4, .int x4)]) hl [1, 2, 3, 4, 5] rfl) hf
      · replace hf := br_n hc hf
        refine lv_aload_n hx hb d_Mo_shorten_66 rfl (lv_at hl 1 rfl) ?_
        refine mg_0_24 hx hb hts hown hK hP q_842 d_Mo_shorten_67 ?_
        refine lv_iload_n hx hb d_Mo_shorten_70 rfl (lv_at hl 4 rfl) ?_
        refine lv_iload hx hb d_Mo_shorten_71 (lv_at hl 0 rfl) ?_
        obtain ⟨hi, hf⟩ := gd_x hf
        obtain ⟨μ3, hμ3, hf⟩ := bd_x hf
        refine ms_19 hx hb hK (hDA _) hP hS (inb_in hi) d_Mo_shorten_73 hμ3 (fun H locs hP hS => ?_)
        refine lv_iconst (v := 1) hx hb d_Mo_shorten_74 (by decide) ?_
        refine lv_istore_n (lv' := [(1, .int (1 : Int32)), (5, .int v2), (0, .ref (ad 0)), (2, .int x2), (3, .int x3), (4, .int x4)]) hx hb d_Mo_shorten_75 rfl hl (Nat.le_of_ble_eq_true rfl) rfl (fun ls hl => ?_)
        exact w_Mo_shorten_76 X hDA hκ4 ih hP hS (lv_sub (l' := [(0, .ref (ad 0)), (1, .int (bz true)), (2, .int x2), (3, .int x3), (4, .int x4)]) hl [2, 0, 3, 4, 5] rfl) hf
def f_Mo_shorten_4 : Nat → Mem → Bool → Int32 → Option (Bool × Mem)
  | 0, _, _, _ => none
  | n + 1, μ, x1, x2 => (if (μ.1 0 23) ≤ x2 then (some (x1, μ)) else (gd (inb x2 700) (gd (inb x2 700) (gd (inb x2 700) (bd (((8 : Int32) * ((μ.1 14 x2.toNatClampNeg) + (μ.1 15 x2.toNatClampNeg))) + (μ.1 16 x2.toNatClampNeg)) (fun v1 => f_Mo_shorten_39 (f_Mo_shorten_4 n) n μ x1 x2 v1 (0 : Int32)))))))
set_option maxHeartbeats 4000000 in
set_option maxRecDepth 100000 in
theorem w_Mo_shorten_4 {p : Program} {l : Launch} {e : Env} {s : State} {m : MethodId} {args : Array Value} {below : List Frame} {meth : Method} {c : Code} {D : va_G} {g : Nat → ClassId} {ad : Nat → Nat} {r : Bool} {μ' : Mem} {A : Nat → Prop} (X : Cx p s m args meth c b_Mo_shorten 6 R_Mo (some .boolean) D CL (TY g)) (hDA : ∀ μ : Mem, va_D A (WM g ad μ)) : ∀ (n : Nat) (μ : Mem) (x1 : Bool) (x2 : Int32) (ls : Array Slot) (H : Heap) (locs : List Loc), va_P D CL (WM g ad μ) H → va_S A s.heap H locs → lv_has ls 6 [(0, .ref (ad 0)), (1, .int (bz x1)), (2, .int x2)] → f_Mo_shorten_4 n μ x1 x2 = some (r, μ') → WU p l e rm_Mo_shorten s m args below meth c H locs D (WM g ad μ') A (some (.int (bz r))) (F0 m 4 ls []) := by
  intro n
  induction n with
  | zero => intro μ x1 x2 ls H locs hP hS hl hf; rw [f_Mo_shorten_4] at hf; cases hf
  | succ n ih =>
    intro μ x1 x2 ls H locs hP hS hl hf
    obtain ⟨S, hr, hlk, hK⟩ := id X
    obtain ⟨hx, hb, hml, hown, hts⟩ := id S
    rw [f_Mo_shorten_4] at hf
    refine lv_iload_n hx hb d_Mo_shorten_4 rfl (lv_at hl 2 rfl) ?_
    refine lv_aload_n hx hb d_Mo_shorten_5 rfl (lv_at hl 0 rfl) ?_
    refine mg_0_23 hx hb hts hown hK hP q_841 d_Mo_shorten_6 ?_
    refine lv_icmp_ge (tgt := 88) hx hb d_Mo_shorten_9 rfl (fun hc => ?_) (fun hc => ?_)
    · replace hf := br_p hc hf
      refine lv_iload_n hx hb d_Mo_shorten_88 rfl (lv_at hl 1 rfl) ?_
      obtain ⟨h1, h2⟩ := Prod.mk.inj (Option.some.inj hf)
      subst h1; subst h2
      exact W.zret hx hb hr (by first | rfl | exact bz_nar _) (fun t ht _ => ⟨rfl, by rw [ht]; exact hP, hS.F ht⟩) hS.2.2 d_Mo_shorten_89
    · replace hf := br_n hc hf
      refine lv_bipush (v := 8) hx hb d_Mo_shorten_12 (by decide) ?_
      refine lv_aload_n hx hb d_Mo_shorten_14 rfl (lv_at hl 0 rfl) ?_
      refine mg_0_18 hx hb hts hown hK hP q_836 d_Mo_shorten_15 ?_
      refine lv_iload_n hx hb d_Mo_shorten_18 rfl (lv_at hl 2 rfl) ?_
      obtain ⟨hi, hf⟩ := gd_x hf
      refine ml_14 hx hb hK hP (inb_in hi) d_Mo_shorten_19 ?_
      refine lv_aload_n hx hb d_Mo_shorten_20 rfl (lv_at hl 0 rfl) ?_
      refine mg_0_19 hx hb hts hown hK hP q_837 d_Mo_shorten_21 ?_
      refine lv_iload_n hx hb d_Mo_shorten_24 rfl (lv_at hl 2 rfl) ?_
      obtain ⟨hi, hf⟩ := gd_x hf
      refine ml_15 hx hb hK hP (inb_in hi) d_Mo_shorten_25 ?_
      refine lv_iadd hx hb d_Mo_shorten_26 ?_
      refine lv_imul hx hb d_Mo_shorten_27 ?_
      refine lv_aload_n hx hb d_Mo_shorten_28 rfl (lv_at hl 0 rfl) ?_
      refine mg_0_20 hx hb hts hown hK hP q_838 d_Mo_shorten_29 ?_
      refine lv_iload_n hx hb d_Mo_shorten_32 rfl (lv_at hl 2 rfl) ?_
      obtain ⟨hi, hf⟩ := gd_x hf
      refine ml_16 hx hb hK hP (inb_in hi) d_Mo_shorten_33 ?_
      refine lv_iadd hx hb d_Mo_shorten_34 ?_
      obtain ⟨v1, hv1, hf⟩ := bd_x hf
      refine top_i hv1 ?_
      refine lv_istore_n (lv' := [(3, .int v1), (0, .ref (ad 0)), (1, .int (bz x1)), (2, .int x2)]) hx hb d_Mo_shorten_35 rfl hl (Nat.le_of_ble_eq_true rfl) rfl (fun ls hl => ?_)
      refine lv_iconst (v := 0) hx hb d_Mo_shorten_36 (by decide) ?_
      refine lv_istore (lv' := [(4, .int (0 : Int32)), (3, .int v1), (0, .ref (ad 0)), (1, .int (bz x1)), (2, .int x2)]) hx hb d_Mo_shorten_37 hl (Nat.le_of_ble_eq_true rfl) rfl (fun ls hl => ?_)
      exact w_Mo_shorten_39 X hDA ih _ _ _ _ _ _ _ _ _ hP hS (lv_sub (l' := [(0, .ref (ad 0)), (1, .int (bz x1)), (2, .int x2), (3, .int v1), (4, .int (0 : Int32))]) hl [2, 3, 4, 1, 0] rfl) hf
def f_Mo_shorten (n : Nat) (μ : Mem) : Option (Bool × Mem) := f_Mo_shorten_4 n μ false (0 : Int32)
set_option maxHeartbeats 4000000 in
set_option maxRecDepth 100000 in
theorem w_Mo_shorten {p : Program} {l : Launch} {e : Env} {s : State} {m : MethodId} {args : Array Value} {below : List Frame} {meth : Method} {c : Code} {D : va_G} {g : Nat → ClassId} {ad : Nat → Nat} {r : Bool} {μ' : Mem} {A : Nat → Prop} {n : Nat} {μ : Mem} {ls : Array Slot} {H : Heap} {locs : List Loc} (X : Cx p s m args meth c b_Mo_shorten 6 R_Mo (some .boolean) D CL (TY g)) (hDA : ∀ μ : Mem, va_D A (WM g ad μ)) (hP : va_P D CL (WM g ad μ) H) (hS : va_S A s.heap H locs) (hl : lv_has ls 6 [(0, .ref (ad 0))]) (hf : f_Mo_shorten n μ = some (r, μ')) : WU p l e rm_Mo_shorten s m args below meth c H locs D (WM g ad μ') A (some (.int (bz r))) (F0 m 0 ls []) := by
  obtain ⟨S, hr, hlk, hK⟩ := id X
  obtain ⟨hx, hb, hml, hown, hts⟩ := id S
  rw [f_Mo_shorten] at hf
  refine lv_iconst (v := 0) hx hb d_Mo_shorten_0 (by decide) ?_
  refine lv_istore_n (lv' := [(1, .int (0 : Int32)), (0, .ref (ad 0))]) hx hb d_Mo_shorten_1 rfl hl (Nat.le_of_ble_eq_true rfl) rfl (fun ls hl => ?_)
  refine lv_iconst (v := 0) hx hb d_Mo_shorten_2 (by decide) ?_
  refine lv_istore_n (lv' := [(2, .int (0 : Int32)), (1, .int (0 : Int32)), (0, .ref (ad 0))]) hx hb d_Mo_shorten_3 rfl hl (Nat.le_of_ble_eq_true rfl) rfl (fun ls hl => ?_)
  exact w_Mo_shorten_4 X hDA _ _ _ _ _ _ _ hP hS (lv_sub (l' := [(0, .ref (ad 0)), (1, .int (bz false)), (2, .int (0 : Int32))]) hl [2, 1, 0] rfl) hf
theorem c_Mo_shorten {l : Launch} {D : va_G} {g : Nat → ClassId} {ad : Nat → Nat} {μ : Mem} {r : Bool} {μ' : Mem} {A : Nat → Prop} {n : Nat} (hDA : ∀ μ : Mem, va_D A (WM g ad μ)) (hf : f_Mo_shorten n μ = some (r, μ')) : Met l y_Mo_shorten (Cond.code y_Mo_shorten b_Mo_shorten 6 (some .boolean) :: ww) rm_Mo_shorten (RP D CL (TY g) (WM g ad μ) [.ref (ad 0)]) (QW D CL (WM g ad μ') A (some (.int (bz r)))) 0 0 A := by
  refine met_of (by decide) (Nat.le_of_ble_eq_true rfl) ?_
  intro p e s m below meth c ls X hP hl
  have hl : lv_has ls 6 [(0, .ref (ad 0))] := hl
  exact w_Mo_shorten X hDA hP va_S.rf hl hf
theorem d_Mo_total_0 : decode b_Mo_total 0 = .ok (.ldc 174, 2) := by decide +kernel
theorem d_Mo_total_2 : decode b_Mo_total 2 = .ok (.istore_n 1, 1) := by decide +kernel
theorem d_Mo_total_3 : decode b_Mo_total 3 = .ok (.iconst 0, 1) := by decide +kernel
theorem d_Mo_total_4 : decode b_Mo_total 4 = .ok (.istore_n 2, 1) := by decide +kernel
theorem d_Mo_total_5 : decode b_Mo_total 5 = .ok (.iload_n 2, 1) := by decide +kernel
theorem d_Mo_total_6 : decode b_Mo_total 6 = .ok (.bipush 8, 2) := by decide +kernel
theorem d_Mo_total_8 : decode b_Mo_total 8 = .ok (.if_icmp .ge 57, 3) := by decide +kernel
theorem d_Mo_total_11 : decode b_Mo_total 11 = .ok (.aload_n 0, 1) := by decide +kernel
theorem d_Mo_total_12 : decode b_Mo_total 12 = .ok (.getfield 64, 3) := by decide +kernel
theorem d_Mo_total_15 : decode b_Mo_total 15 = .ok (.bipush 8, 2) := by decide +kernel
theorem d_Mo_total_17 : decode b_Mo_total 17 = .ok (.aload_n 0, 1) := by decide +kernel
theorem d_Mo_total_18 : decode b_Mo_total 18 = .ok (.getfield 129, 3) := by decide +kernel
theorem d_Mo_total_21 : decode b_Mo_total 21 = .ok (.imul, 1) := by decide +kernel
theorem d_Mo_total_22 : decode b_Mo_total 22 = .ok (.iload_n 2, 1) := by decide +kernel
theorem d_Mo_total_23 : decode b_Mo_total 23 = .ok (.iadd, 1) := by decide +kernel
theorem d_Mo_total_24 : decode b_Mo_total 24 = .ok (.iaload, 1) := by decide +kernel
theorem d_Mo_total_25 : decode b_Mo_total 25 = .ok (.istore_n 3, 1) := by decide +kernel
theorem d_Mo_total_26 : decode b_Mo_total 26 = .ok (.iload_n 3, 1) := by decide +kernel
theorem d_Mo_total_27 : decode b_Mo_total 27 = .ok (.ldc 174, 2) := by decide +kernel
theorem d_Mo_total_29 : decode b_Mo_total 29 = .ok (.if_icmp .eq 30, 3) := by decide +kernel
theorem d_Mo_total_32 : decode b_Mo_total 32 = .ok (.iload_n 3, 1) := by decide +kernel
theorem d_Mo_total_33 : decode b_Mo_total 33 = .ok (.aload_n 0, 1) := by decide +kernel
theorem d_Mo_total_34 : decode b_Mo_total 34 = .ok (.getfield 40, 3) := by decide +kernel
theorem d_Mo_total_37 : decode b_Mo_total 37 = .ok (.bipush 8, 2) := by decide +kernel
theorem d_Mo_total_39 : decode b_Mo_total 39 = .ok (.iload_n 2, 1) := by decide +kernel
theorem d_Mo_total_40 : decode b_Mo_total 40 = .ok (.imul, 1) := by decide +kernel
theorem d_Mo_total_41 : decode b_Mo_total 41 = .ok (.iaload, 1) := by decide +kernel
theorem d_Mo_total_42 : decode b_Mo_total 42 = .ok (.iadd, 1) := by decide +kernel
theorem d_Mo_total_43 : decode b_Mo_total 43 = .ok (.iload_n 1, 1) := by decide +kernel
theorem d_Mo_total_44 : decode b_Mo_total 44 = .ok (.if_icmp .ge 15, 3) := by decide +kernel
theorem d_Mo_total_47 : decode b_Mo_total 47 = .ok (.iload_n 3, 1) := by decide +kernel
theorem d_Mo_total_48 : decode b_Mo_total 48 = .ok (.aload_n 0, 1) := by decide +kernel
theorem d_Mo_total_49 : decode b_Mo_total 49 = .ok (.getfield 40, 3) := by decide +kernel
theorem d_Mo_total_52 : decode b_Mo_total 52 = .ok (.bipush 8, 2) := by decide +kernel
theorem d_Mo_total_54 : decode b_Mo_total 54 = .ok (.iload_n 2, 1) := by decide +kernel
theorem d_Mo_total_55 : decode b_Mo_total 55 = .ok (.imul, 1) := by decide +kernel
theorem d_Mo_total_56 : decode b_Mo_total 56 = .ok (.iaload, 1) := by decide +kernel
theorem d_Mo_total_57 : decode b_Mo_total 57 = .ok (.iadd, 1) := by decide +kernel
theorem d_Mo_total_58 : decode b_Mo_total 58 = .ok (.istore_n 1, 1) := by decide +kernel
theorem d_Mo_total_59 : decode b_Mo_total 59 = .ok (.iinc 2 1, 3) := by decide +kernel
theorem d_Mo_total_62 : decode b_Mo_total 62 = .ok (.goto (-57), 3) := by decide +kernel
theorem d_Mo_total_65 : decode b_Mo_total 65 = .ok (.iload_n 1, 1) := by decide +kernel
theorem d_Mo_total_66 : decode b_Mo_total 66 = .ok (.ireturn, 1) := by decide +kernel
abbrev rm_Mo_total : Room := { frames := 0, cells := 0, slots := 0, locals := 0 }
def f_Mo_total_59 (κ5 : Int32 → Int32 → Option Int32) (μ : Mem) (n : Nat) (x1 : Int32) (x2 : Int32) : Option Int32 := bd (x2 + 1) (fun v1 => κ5 x1 v1)
set_option maxHeartbeats 4000000 in
set_option maxRecDepth 100000 in
theorem w_Mo_total_59 {p : Program} {l : Launch} {e : Env} {s : State} {m : MethodId} {args : Array Value} {below : List Frame} {meth : Method} {c : Code} {D : va_G} {g : Nat → ClassId} {ad : Nat → Nat} {μ : Mem} {r : Int32} {κ5 : Int32 → Int32 → Option Int32} {n : Nat} {x1 : Int32} {x2 : Int32} {ls : Array Slot} (X : Cx p s m args meth c b_Mo_total 4 R_Mo (some .int) D CL (TY g)) (hP : va_P D CL (WM g ad μ) s.heap) (hκ5 : ∀ (x1 : Int32) (x2 : Int32) (ls : Array Slot), lv_has ls 4 [(0, .ref (ad 0)), (1, .int x1), (2, .int x2)] → κ5 x1 x2 = some r → WR p l e rm_Mo_total s m args below meth c (.int r) (F0 m 5 ls [])) (hl : lv_has ls 4 [(0, .ref (ad 0)), (1, .int x1), (2, .int x2)]) (hf : f_Mo_total_59 κ5 μ n x1 x2 = some r) : WR p l e rm_Mo_total s m args below meth c (.int r) (F0 m 59 ls []) := by
  obtain ⟨S, hr, hlk, hK⟩ := id X
  obtain ⟨hx, hb, hml, hown, hts⟩ := id S
  rw [f_Mo_total_59] at hf
  obtain ⟨v1, hv1, hf⟩ := bd_x hf
  refine lv_iinc (lv' := [(2, .int v1), (0, .ref (ad 0)), (1, .int x1)]) hx hb d_Mo_total_59 hl (k := 2) rfl (show x2 + Int32.ofInt (1) = v1 from hv1) (Nat.le_of_ble_eq_true rfl) rfl (fun ls hl => ?_)
  refine lv_goto (tgt := 5) hx hb d_Mo_total_62 rfl ?_
  exact hκ5 _ _ _ (lv_sub (l' := [(0, .ref (ad 0)), (1, .int x1), (2, .int v1)]) hl [1, 2, 0] rfl) hf
def f_Mo_total_5 (μ : Mem) : Nat → Int32 → Int32 → Option Int32
  | 0, _, _ => none
  | n + 1, x1, x2 => (if (8 : Int32) ≤ x2 then (some x1) else (gd (inb (((8 : Int32) * (μ.1 0 1)) + x2) 200) (bd (μ.1 19 (((8 : Int32) * (μ.1 0 1)) + x2).toNatClampNeg) (fun v1 => (if v1 = (1073741824 : Int32) then (f_Mo_total_59 (f_Mo_total_5 μ n) μ n x1 x2) else (gd (inb ((8 : Int32) * x2) 64) ((if x1 ≤ (v1 + (μ.1 11 ((8 : Int32) * x2).toNatClampNeg)) then (f_Mo_total_59 (f_Mo_total_5 μ n) μ n x1 x2) else (gd (inb ((8 : Int32) * x2) 64) (bd (v1 + (μ.1 11 ((8 : Int32) * x2).toNatClampNeg)) (fun v2 => f_Mo_total_59 (f_Mo_total_5 μ n) μ n v2 x2)))))))))))
set_option maxHeartbeats 4000000 in
set_option maxRecDepth 100000 in
theorem w_Mo_total_5 {p : Program} {l : Launch} {e : Env} {s : State} {m : MethodId} {args : Array Value} {below : List Frame} {meth : Method} {c : Code} {D : va_G} {g : Nat → ClassId} {ad : Nat → Nat} {μ : Mem} {r : Int32} (X : Cx p s m args meth c b_Mo_total 4 R_Mo (some .int) D CL (TY g)) (hP : va_P D CL (WM g ad μ) s.heap) : ∀ (n : Nat) (x1 : Int32) (x2 : Int32) (ls : Array Slot), lv_has ls 4 [(0, .ref (ad 0)), (1, .int x1), (2, .int x2)] → f_Mo_total_5 μ n x1 x2 = some r → WR p l e rm_Mo_total s m args below meth c (.int r) (F0 m 5 ls []) := by
  intro n
  induction n with
  | zero => intro x1 x2 ls hl hf; rw [f_Mo_total_5] at hf; cases hf
  | succ n ih =>
    intro x1 x2 ls hl hf
    obtain ⟨S, hr, hlk, hK⟩ := id X
    obtain ⟨hx, hb, hml, hown, hts⟩ := id S
    rw [f_Mo_total_5] at hf
    refine lv_iload_n hx hb d_Mo_total_5 rfl (lv_at hl 2 rfl) ?_
    refine lv_bipush (v := 8) hx hb d_Mo_total_6 (by decide) ?_
    refine lv_icmp_ge (tgt := 65) hx hb d_Mo_total_8 rfl (fun hc => ?_) (fun hc => ?_)
    · replace hf := br_p hc hf
      refine lv_iload_n hx hb d_Mo_total_65 rfl (lv_at hl 1 rfl) ?_
      have h1 := Option.some.inj hf
      subst h1
      exact W.iret hx hb hr (fun t ht _ => ⟨rfl, ht⟩) (fun _ h => by cases h) d_Mo_total_66
    · replace hf := br_n hc hf
      refine lv_aload_n hx hb d_Mo_total_11 rfl (lv_at hl 0 rfl) ?_
      refine mg_0_24 hx hb hts hown hK hP q_842 d_Mo_total_12 ?_
      refine lv_bipush (v := 8) hx hb d_Mo_total_15 (by decide) ?_
      refine lv_aload_n hx hb d_Mo_total_17 rfl (lv_at hl 0 rfl) ?_
      refine mg_0_1 hx hb hts hown hK hP q_819 d_Mo_total_18 ?_
      refine lv_imul hx hb d_Mo_total_21 ?_
      refine lv_iload_n hx hb d_Mo_total_22 rfl (lv_at hl 2 rfl) ?_
      refine lv_iadd hx hb d_Mo_total_23 ?_
      obtain ⟨hi, hf⟩ := gd_x hf
      refine ml_19 hx hb hK hP (inb_in hi) d_Mo_total_24 ?_
      obtain ⟨v1, hv1, hf⟩ := bd_x hf
      refine top_i hv1 ?_
      refine lv_istore_n (lv' := [(3, .int v1), (0, .ref (ad 0)), (1, .int x1), (2, .int x2)]) hx hb d_Mo_total_25 rfl hl (Nat.le_of_ble_eq_true rfl) rfl (fun ls hl => ?_)
      refine lv_iload_n hx hb d_Mo_total_26 rfl (lv_at hl 0 rfl) ?_
      refine lv_ldc (v := 1073741824) hx hb hown (hts _ q_1036) d_Mo_total_27 ?_
      refine lv_icmp_eq (tgt := 59) hx hb d_Mo_total_29 rfl (fun hc => ?_) (fun hc => ?_)
      · replace hf := br_p hc hf
        exact w_Mo_total_59 X hP ih (lv_sub (l' := [(0, .ref (ad 0)), (1, .int x1), (2, .int x2)]) hl [1, 2, 3] rfl) hf
      · replace hf := br_n hc hf
        refine lv_iload_n hx hb d_Mo_total_32 rfl (lv_at hl 0 rfl) ?_
        refine lv_aload_n hx hb d_Mo_total_33 rfl (lv_at hl 1 rfl) ?_
        refine mg_0_12 hx hb hts hown hK hP q_830 d_Mo_total_34 ?_
        refine lv_bipush (v := 8) hx hb d_Mo_total_37 (by decide) ?_
        refine lv_iload_n hx hb d_Mo_total_39 rfl (lv_at hl 3 rfl) ?_
        refine lv_imul hx hb d_Mo_total_40 ?_
        obtain ⟨hi, hf⟩ := gd_x hf
        refine ml_11 hx hb hK hP (inb_in hi) d_Mo_total_41 ?_
        refine lv_iadd hx hb d_Mo_total_42 ?_
        refine lv_iload_n hx hb d_Mo_total_43 rfl (lv_at hl 2 rfl) ?_
        refine lv_icmp_ge (tgt := 59) hx hb d_Mo_total_44 rfl (fun hc => ?_) (fun hc => ?_)
        · replace hf := br_p hc hf
          exact w_Mo_total_59 X hP ih (lv_sub (l' := [(0, .ref (ad 0)), (1, .int x1), (2, .int x2)]) hl [1, 2, 3] rfl) hf
        · replace hf := br_n hc hf
          refine lv_iload_n hx hb d_Mo_total_47 rfl (lv_at hl 0 rfl) ?_
          refine lv_aload_n hx hb d_Mo_total_48 rfl (lv_at hl 1 rfl) ?_
          refine mg_0_12 hx hb hts hown hK hP q_830 d_Mo_total_49 ?_
          refine lv_bipush (v := 8) hx hb d_Mo_total_52 (by decide) ?_
          refine lv_iload_n hx hb d_Mo_total_54 rfl (lv_at hl 3 rfl) ?_
          refine lv_imul hx hb d_Mo_total_55 ?_
          obtain ⟨hi, hf⟩ := gd_x hf
          refine ml_11 hx hb hK hP (inb_in hi) d_Mo_total_56 ?_
          refine lv_iadd hx hb d_Mo_total_57 ?_
          obtain ⟨v2, hv2, hf⟩ := bd_x hf
          refine top_i hv2 ?_
          refine lv_istore_n (lv' := [(1, .int v2), (3, .int v1), (0, .ref (ad 0)), (2, .int x2)]) hx hb d_Mo_total_58 rfl hl (Nat.le_of_ble_eq_true rfl) rfl (fun ls hl => ?_)
          exact w_Mo_total_59 X hP ih (lv_sub (l' := [(0, .ref (ad 0)), (1, .int v2), (2, .int x2)]) hl [2, 0, 3] rfl) hf
def f_Mo_total (n : Nat) (μ : Mem) : Option Int32 := f_Mo_total_5 μ n (1073741824 : Int32) (0 : Int32)
set_option maxHeartbeats 4000000 in
set_option maxRecDepth 100000 in
theorem w_Mo_total {p : Program} {l : Launch} {e : Env} {s : State} {m : MethodId} {args : Array Value} {below : List Frame} {meth : Method} {c : Code} {D : va_G} {g : Nat → ClassId} {ad : Nat → Nat} {μ : Mem} {r : Int32} {n : Nat} {ls : Array Slot} (X : Cx p s m args meth c b_Mo_total 4 R_Mo (some .int) D CL (TY g)) (hP : va_P D CL (WM g ad μ) s.heap) (hl : lv_has ls 4 [(0, .ref (ad 0))]) (hf : f_Mo_total n μ = some r) : WR p l e rm_Mo_total s m args below meth c (.int r) (F0 m 0 ls []) := by
  obtain ⟨S, hr, hlk, hK⟩ := id X
  obtain ⟨hx, hb, hml, hown, hts⟩ := id S
  rw [f_Mo_total] at hf
  refine lv_ldc (v := 1073741824) hx hb hown (hts _ q_1036) d_Mo_total_0 ?_
  refine lv_istore_n (lv' := [(1, .int (1073741824 : Int32)), (0, .ref (ad 0))]) hx hb d_Mo_total_2 rfl hl (Nat.le_of_ble_eq_true rfl) rfl (fun ls hl => ?_)
  refine lv_iconst (v := 0) hx hb d_Mo_total_3 (by decide) ?_
  refine lv_istore_n (lv' := [(2, .int (0 : Int32)), (1, .int (1073741824 : Int32)), (0, .ref (ad 0))]) hx hb d_Mo_total_4 rfl hl (Nat.le_of_ble_eq_true rfl) rfl (fun ls hl => ?_)
  exact w_Mo_total_5 X hP _ _ _ _ (lv_sub (l' := [(0, .ref (ad 0)), (1, .int (1073741824 : Int32)), (2, .int (0 : Int32))]) hl [2, 1, 0] rfl) hf
theorem c_Mo_total {l : Launch} {D : va_G} {g : Nat → ClassId} {ad : Nat → Nat} {μ : Mem} {r : Int32} {n : Nat} (hf : f_Mo_total n μ = some r) : Met l y_Mo_total (Cond.code y_Mo_total b_Mo_total 4 (some .int) :: ww) rm_Mo_total (RP D CL (TY g) (WM g ad μ) [.ref (ad 0)]) (k2_QcV (.int r)) 0 0 (fun _ => False) := by
  refine met_of (by decide) (Nat.le_of_ble_eq_true rfl) ?_
  intro p e s m below meth c ls X hP hl
  have hl : lv_has ls 4 [(0, .ref (ad 0))] := hl
  exact w_Mo_total X hP hl hf
theorem d_Mo_before_0 : decode b_Mo_before 0 = .ok (.iload_n 2, 1) := by decide +kernel
theorem d_Mo_before_1 : decode b_Mo_before 1 = .ok (.ifCond .lt 48, 3) := by decide +kernel
theorem d_Mo_before_4 : decode b_Mo_before 4 = .ok (.aload_n 0, 1) := by decide +kernel
theorem d_Mo_before_5 : decode b_Mo_before 5 = .ok (.getfield 52, 3) := by decide +kernel
theorem d_Mo_before_8 : decode b_Mo_before 8 = .ok (.iload_n 1, 1) := by decide +kernel
theorem d_Mo_before_9 : decode b_Mo_before 9 = .ok (.iaload, 1) := by decide +kernel
theorem d_Mo_before_10 : decode b_Mo_before 10 = .ok (.aload_n 0, 1) := by decide +kernel
theorem d_Mo_before_11 : decode b_Mo_before 11 = .ok (.getfield 52, 3) := by decide +kernel
theorem d_Mo_before_14 : decode b_Mo_before 14 = .ok (.iload_n 2, 1) := by decide +kernel
theorem d_Mo_before_15 : decode b_Mo_before 15 = .ok (.iaload, 1) := by decide +kernel
theorem d_Mo_before_16 : decode b_Mo_before 16 = .ok (.if_icmp .gt 33, 3) := by decide +kernel
theorem d_Mo_before_19 : decode b_Mo_before 19 = .ok (.aload_n 0, 1) := by decide +kernel
theorem d_Mo_before_20 : decode b_Mo_before 20 = .ok (.getfield 52, 3) := by decide +kernel
theorem d_Mo_before_23 : decode b_Mo_before 23 = .ok (.iload_n 1, 1) := by decide +kernel
theorem d_Mo_before_24 : decode b_Mo_before 24 = .ok (.iaload, 1) := by decide +kernel
theorem d_Mo_before_25 : decode b_Mo_before 25 = .ok (.aload_n 0, 1) := by decide +kernel
theorem d_Mo_before_26 : decode b_Mo_before 26 = .ok (.getfield 52, 3) := by decide +kernel
theorem d_Mo_before_29 : decode b_Mo_before 29 = .ok (.iload_n 2, 1) := by decide +kernel
theorem d_Mo_before_30 : decode b_Mo_before 30 = .ok (.iaload, 1) := by decide +kernel
theorem d_Mo_before_31 : decode b_Mo_before 31 = .ok (.if_icmp .ne 22, 3) := by decide +kernel
theorem d_Mo_before_34 : decode b_Mo_before 34 = .ok (.aload_n 0, 1) := by decide +kernel
theorem d_Mo_before_35 : decode b_Mo_before 35 = .ok (.getfield 61, 3) := by decide +kernel
theorem d_Mo_before_38 : decode b_Mo_before 38 = .ok (.iload_n 1, 1) := by decide +kernel
theorem d_Mo_before_39 : decode b_Mo_before 39 = .ok (.iaload, 1) := by decide +kernel
theorem d_Mo_before_40 : decode b_Mo_before 40 = .ok (.aload_n 0, 1) := by decide +kernel
theorem d_Mo_before_41 : decode b_Mo_before 41 = .ok (.getfield 61, 3) := by decide +kernel
theorem d_Mo_before_44 : decode b_Mo_before 44 = .ok (.iload_n 2, 1) := by decide +kernel
theorem d_Mo_before_45 : decode b_Mo_before 45 = .ok (.iaload, 1) := by decide +kernel
theorem d_Mo_before_46 : decode b_Mo_before 46 = .ok (.if_icmp .ge 7, 3) := by decide +kernel
theorem d_Mo_before_49 : decode b_Mo_before 49 = .ok (.iconst 1, 1) := by decide +kernel
theorem d_Mo_before_50 : decode b_Mo_before 50 = .ok (.goto 4, 3) := by decide +kernel
theorem d_Mo_before_53 : decode b_Mo_before 53 = .ok (.iconst 0, 1) := by decide +kernel
theorem d_Mo_before_54 : decode b_Mo_before 54 = .ok (.ireturn, 1) := by decide +kernel
abbrev rm_Mo_before : Room := { frames := 0, cells := 0, slots := 0, locals := 0 }
def f_Mo_before_49 (μ : Mem) (n : Nat) : Option Bool := some true
set_option maxHeartbeats 4000000 in
set_option maxRecDepth 100000 in
theorem w_Mo_before_49 {p : Program} {l : Launch} {e : Env} {s : State} {m : MethodId} {args : Array Value} {below : List Frame} {meth : Method} {c : Code} {D : va_G} {g : Nat → ClassId} {ad : Nat → Nat} {μ : Mem} {r : Bool} {n : Nat} {ls : Array Slot} (X : Cx p s m args meth c b_Mo_before 3 R_Mo (some .boolean) D CL (TY g)) (hP : va_P D CL (WM g ad μ) s.heap) (hl : lv_has ls 3 []) (hf : f_Mo_before_49 μ n = some r) : WR p l e rm_Mo_before s m args below meth c (.int (bz r)) (F0 m 49 ls []) := by
  obtain ⟨S, hr, hlk, hK⟩ := id X
  obtain ⟨hx, hb, hml, hown, hts⟩ := id S
  rw [f_Mo_before_49] at hf
  refine lv_iconst (v := 1) hx hb d_Mo_before_49 (by decide) ?_
  refine lv_goto (tgt := 54) hx hb d_Mo_before_50 rfl ?_
  have h1 := Option.some.inj hf
  subst h1
  exact W.zret hx hb hr (by first | rfl | exact bz_nar _) (fun t ht _ => ⟨rfl, ht⟩) (fun _ h => by cases h) d_Mo_before_54
def f_Mo_before (n : Nat) (μ : Mem) (a1 : Int32) (a2 : Int32) : Option Bool := (if a2 < 0 then (f_Mo_before_49 μ n) else (gd (inb a1 700) (gd (inb a2 700) ((if (μ.1 15 a2.toNatClampNeg) < (μ.1 15 a1.toNatClampNeg) then (f_Mo_before_49 μ n) else (gd (inb a1 700) (gd (inb a2 700) ((if (μ.1 15 a1.toNatClampNeg) = (μ.1 15 a2.toNatClampNeg) then (gd (inb a1 700) (gd (inb a2 700) ((if (μ.1 18 a2.toNatClampNeg) ≤ (μ.1 18 a1.toNatClampNeg) then (some false) else (f_Mo_before_49 μ n))))) else (some false))))))))))
set_option maxHeartbeats 4000000 in
set_option maxRecDepth 100000 in
theorem w_Mo_before {p : Program} {l : Launch} {e : Env} {s : State} {m : MethodId} {args : Array Value} {below : List Frame} {meth : Method} {c : Code} {D : va_G} {g : Nat → ClassId} {ad : Nat → Nat} {μ : Mem} {r : Bool} {n : Nat} {a1 : Int32} {a2 : Int32} {ls : Array Slot} (X : Cx p s m args meth c b_Mo_before 3 R_Mo (some .boolean) D CL (TY g)) (hP : va_P D CL (WM g ad μ) s.heap) (hl : lv_has ls 3 [(0, .ref (ad 0)), (1, .int a1), (2, .int a2)]) (hf : f_Mo_before n μ a1 a2 = some r) : WR p l e rm_Mo_before s m args below meth c (.int (bz r)) (F0 m 0 ls []) := by
  obtain ⟨S, hr, hlk, hK⟩ := id X
  obtain ⟨hx, hb, hml, hown, hts⟩ := id S
  rw [f_Mo_before] at hf
  refine lv_iload_n hx hb d_Mo_before_0 rfl (lv_at hl 2 rfl) ?_
  refine lv_if_lt (tgt := 49) hx hb d_Mo_before_1 rfl (fun hc => ?_) (fun hc => ?_)
  · replace hf := br_p hc hf
    exact w_Mo_before_49 X hP (lv_sub (l' := []) hl [] rfl) hf
  · replace hf := br_n hc hf
    refine lv_aload_n hx hb d_Mo_before_4 rfl (lv_at hl 0 rfl) ?_
    refine mg_0_19 hx hb hts hown hK hP q_837 d_Mo_before_5 ?_
    refine lv_iload_n hx hb d_Mo_before_8 rfl (lv_at hl 1 rfl) ?_
    obtain ⟨hi, hf⟩ := gd_x hf
    refine ml_15 hx hb hK hP (inb_in hi) d_Mo_before_9 ?_
    refine lv_aload_n hx hb d_Mo_before_10 rfl (lv_at hl 0 rfl) ?_
    refine mg_0_19 hx hb hts hown hK hP q_837 d_Mo_before_11 ?_
    refine lv_iload_n hx hb d_Mo_before_14 rfl (lv_at hl 2 rfl) ?_
    obtain ⟨hi, hf⟩ := gd_x hf
    refine ml_15 hx hb hK hP (inb_in hi) d_Mo_before_15 ?_
    refine lv_icmp_gt (tgt := 49) hx hb d_Mo_before_16 rfl (fun hc => ?_) (fun hc => ?_)
    · replace hf := br_p hc hf
      exact w_Mo_before_49 X hP (lv_sub (l' := []) hl [] rfl) hf
    · replace hf := br_n hc hf
      refine lv_aload_n hx hb d_Mo_before_19 rfl (lv_at hl 0 rfl) ?_
      refine mg_0_19 hx hb hts hown hK hP q_837 d_Mo_before_20 ?_
      refine lv_iload_n hx hb d_Mo_before_23 rfl (lv_at hl 1 rfl) ?_
      obtain ⟨hi, hf⟩ := gd_x hf
      refine ml_15 hx hb hK hP (inb_in hi) d_Mo_before_24 ?_
      refine lv_aload_n hx hb d_Mo_before_25 rfl (lv_at hl 0 rfl) ?_
      refine mg_0_19 hx hb hts hown hK hP q_837 d_Mo_before_26 ?_
      refine lv_iload_n hx hb d_Mo_before_29 rfl (lv_at hl 2 rfl) ?_
      obtain ⟨hi, hf⟩ := gd_x hf
      refine ml_15 hx hb hK hP (inb_in hi) d_Mo_before_30 ?_
      refine lv_icmp_ne (tgt := 53) hx hb d_Mo_before_31 rfl (fun hc => ?_) (fun hc => ?_)
      · replace hf := br_n hc hf
        refine lv_iconst (v := 0) hx hb d_Mo_before_53 (by decide) ?_
        have h1 := Option.some.inj hf
        subst h1
        exact W.zret hx hb hr (by first | rfl | exact bz_nar _) (fun t ht _ => ⟨rfl, ht⟩) (fun _ h => by cases h) d_Mo_before_54
      · replace hf := br_p hc hf
        refine lv_aload_n hx hb d_Mo_before_34 rfl (lv_at hl 0 rfl) ?_
        refine mg_0_22 hx hb hts hown hK hP q_840 d_Mo_before_35 ?_
        refine lv_iload_n hx hb d_Mo_before_38 rfl (lv_at hl 1 rfl) ?_
        obtain ⟨hi, hf⟩ := gd_x hf
        refine ml_18 hx hb hK hP (inb_in hi) d_Mo_before_39 ?_
        refine lv_aload_n hx hb d_Mo_before_40 rfl (lv_at hl 0 rfl) ?_
        refine mg_0_22 hx hb hts hown hK hP q_840 d_Mo_before_41 ?_
        refine lv_iload_n hx hb d_Mo_before_44 rfl (lv_at hl 2 rfl) ?_
        obtain ⟨hi, hf⟩ := gd_x hf
        refine ml_18 hx hb hK hP (inb_in hi) d_Mo_before_45 ?_
        refine lv_icmp_ge (tgt := 53) hx hb d_Mo_before_46 rfl (fun hc => ?_) (fun hc => ?_)
        · replace hf := br_p hc hf
          refine lv_iconst (v := 0) hx hb d_Mo_before_53 (by decide) ?_
          have h1 := Option.some.inj hf
          subst h1
          exact W.zret hx hb hr (by first | rfl | exact bz_nar _) (fun t ht _ => ⟨rfl, ht⟩) (fun _ h => by cases h) d_Mo_before_54
        · replace hf := br_n hc hf
          exact w_Mo_before_49 X hP (lv_sub (l' := []) hl [] rfl) hf
theorem c_Mo_before {l : Launch} {D : va_G} {g : Nat → ClassId} {ad : Nat → Nat} {μ : Mem} {r : Bool} {n : Nat} {a1 : Int32} {a2 : Int32} (hf : f_Mo_before n μ a1 a2 = some r) : Met l y_Mo_before (Cond.code y_Mo_before b_Mo_before 3 (some .boolean) :: ww) rm_Mo_before (RP D CL (TY g) (WM g ad μ) [.ref (ad 0), .int a1, .int a2]) (k2_QcV (.int (bz r))) 0 0 (fun _ => False) := by
  refine met_of (by decide) (Nat.le_of_ble_eq_true rfl) ?_
  intro p e s m below meth c ls X hP hl
  have hl : lv_has ls 3 [(0, .ref (ad 0)), (1, .int a1), (2, .int a2)] := hl
  exact w_Mo_before X hP hl hf
theorem d_Mo_ends_0 : decode b_Mo_ends 0 = .ok (.iconst 0, 1) := by decide +kernel
theorem d_Mo_ends_1 : decode b_Mo_ends 1 = .ok (.istore_n 3, 1) := by decide +kernel
theorem d_Mo_ends_2 : decode b_Mo_ends 2 = .ok (.iload_n 3, 1) := by decide +kernel
theorem d_Mo_ends_3 : decode b_Mo_ends 3 = .ok (.bipush 8, 2) := by decide +kernel
theorem d_Mo_ends_5 : decode b_Mo_ends 5 = .ok (.if_icmp .ge 21, 3) := by decide +kernel
theorem d_Mo_ends_8 : decode b_Mo_ends 8 = .ok (.aload_n 0, 1) := by decide +kernel
theorem d_Mo_ends_9 : decode b_Mo_ends 9 = .ok (.iload_n 3, 1) := by decide +kernel
theorem d_Mo_ends_10 : decode b_Mo_ends 10 = .ok (.iload_n 1, 1) := by decide +kernel
theorem d_Mo_ends_11 : decode b_Mo_ends 11 = .ok (.invokevirtual 175, 3) := by decide +kernel
theorem d_Mo_ends_14 : decode b_Mo_ends 14 = .ok (.iload_n 2, 1) := by decide +kernel
theorem d_Mo_ends_15 : decode b_Mo_ends 15 = .ok (.if_icmp .ne 5, 3) := by decide +kernel
theorem d_Mo_ends_18 : decode b_Mo_ends 18 = .ok (.iconst 1, 1) := by decide +kernel
theorem d_Mo_ends_19 : decode b_Mo_ends 19 = .ok (.ireturn, 1) := by decide +kernel
theorem d_Mo_ends_20 : decode b_Mo_ends 20 = .ok (.iinc 3 1, 3) := by decide +kernel
theorem d_Mo_ends_23 : decode b_Mo_ends 23 = .ok (.goto (-21), 3) := by decide +kernel
theorem d_Mo_ends_26 : decode b_Mo_ends 26 = .ok (.iconst 0, 1) := by decide +kernel
theorem d_Mo_ends_27 : decode b_Mo_ends 27 = .ok (.ireturn, 1) := by decide +kernel
abbrev rm_Mo_ends : Room := { frames := 1, cells := 0, slots := 0, locals := 23 }
def f_Mo_ends_2 (μ : Mem) : Nat → Int32 → Int32 → Int32 → Option Bool
  | 0, _, _, _ => none
  | n + 1, x1, x2, x3 => (if (8 : Int32) ≤ x3 then (some false) else (cl (f_Mo_through n μ x3 x1) (fun v1 => (if v1 = x2 then (some true) else (bd (x3 + 1) (fun v2 => (f_Mo_ends_2 μ n) x1 x2 v2))))))
set_option maxHeartbeats 4000000 in
set_option maxRecDepth 100000 in
theorem w_Mo_ends_2 {p : Program} {l : Launch} {e : Env} {s : State} {m : MethodId} {args : Array Value} {below : List Frame} {meth : Method} {c : Code} {D : va_G} {g : Nat → ClassId} {ad : Nat → Nat} {μ : Mem} {r : Bool} (X : Cx p s m args meth c b_Mo_ends 4 R_Mo (some .boolean) D CL (TY g)) (hP : va_P D CL (WM g ad μ) s.heap) : ∀ (n : Nat) (x1 : Int32) (x2 : Int32) (x3 : Int32) (ls : Array Slot), lv_has ls 4 [(0, .ref (ad 0)), (1, .int x1), (2, .int x2), (3, .int x3)] → f_Mo_ends_2 μ n x1 x2 x3 = some r → WR p l e rm_Mo_ends s m args below meth c (.int (bz r)) (F0 m 2 ls []) := by
  intro n
  induction n with
  | zero => intro x1 x2 x3 ls hl hf; rw [f_Mo_ends_2] at hf; cases hf
  | succ n ih =>
    intro x1 x2 x3 ls hl hf
    obtain ⟨S, hr, hlk, hK⟩ := id X
    obtain ⟨hx, hb, hml, hown, hts⟩ := id S
    rw [f_Mo_ends_2] at hf
    refine lv_iload_n hx hb d_Mo_ends_2 rfl (lv_at hl 3 rfl) ?_
    refine lv_bipush (v := 8) hx hb d_Mo_ends_3 (by decide) ?_
    refine lv_icmp_ge (tgt := 26) hx hb d_Mo_ends_5 rfl (fun hc => ?_) (fun hc => ?_)
    · replace hf := br_p hc hf
      refine lv_iconst (v := 0) hx hb d_Mo_ends_26 (by decide) ?_
      have h1 := Option.some.inj hf
      subst h1
      exact W.zret hx hb hr (by first | rfl | exact bz_nar _) (fun t ht _ => ⟨rfl, ht⟩) (fun _ h => by cases h) d_Mo_ends_27
    · replace hf := br_n hc hf
      refine lv_aload_n hx hb d_Mo_ends_8 rfl (lv_at hl 0 rfl) ?_
      refine lv_iload_n hx hb d_Mo_ends_9 rfl (lv_at hl 3 rfl) ?_
      refine lv_iload_n hx hb d_Mo_ends_10 rfl (lv_at hl 1 rfl) ?_
      obtain ⟨v1, hv1, hf⟩ := cl_x hf
      refine rdV (As := [.int x3, .int x1]) (rest := []) S K_Mo_through q_1041 (c_Mo_through hv1) hK hP ⟨rfl, rfl⟩ ⟨Nat.le_of_ble_eq_true rfl, Nat.le_of_ble_eq_true rfl⟩ (mr_0 hK hP) rfl hl.1 rfl (Nat.le_of_ble_eq_true rfl) d_Mo_ends_11 ⟨Nat.le_refl _, Nat.le_refl _⟩ ?_
      refine lv_iload_n hx hb d_Mo_ends_14 rfl (lv_at hl 2 rfl) ?_
      refine lv_icmp_ne (tgt := 20) hx hb d_Mo_ends_15 rfl (fun hc => ?_) (fun hc => ?_)
      · replace hf := br_n hc hf
        obtain ⟨v2, hv2, hf⟩ := bd_x hf
        refine lv_iinc (lv' := [(3, .int v2), (0, .ref (ad 0)), (1, .int x1), (2, .int x2)]) hx hb d_Mo_ends_20 hl (k := 3) rfl (show x3 + Int32.ofInt (1) = v2 from hv2) (Nat.le_of_ble_eq_true rfl) rfl (fun ls hl => ?_)
        refine lv_goto (tgt := 2) hx hb d_Mo_ends_23 rfl ?_
        exact ih _ _ _ _ (lv_sub (l' := [(0, .ref (ad 0)), (1, .int x1), (2, .int x2), (3, .int v2)]) hl [1, 2, 3, 0] rfl) hf
      · replace hf := br_p hc hf
        refine lv_iconst (v := 1) hx hb d_Mo_ends_18 (by decide) ?_
        have h1 := Option.some.inj hf
        subst h1
        exact W.zret hx hb hr (by first | rfl | exact bz_nar _) (fun t ht _ => ⟨rfl, ht⟩) (fun _ h => by cases h) d_Mo_ends_19
def f_Mo_ends (n : Nat) (μ : Mem) (a1 : Int32) (a2 : Int32) : Option Bool := f_Mo_ends_2 μ n a1 a2 (0 : Int32)
set_option maxHeartbeats 4000000 in
set_option maxRecDepth 100000 in
theorem w_Mo_ends {p : Program} {l : Launch} {e : Env} {s : State} {m : MethodId} {args : Array Value} {below : List Frame} {meth : Method} {c : Code} {D : va_G} {g : Nat → ClassId} {ad : Nat → Nat} {μ : Mem} {r : Bool} {n : Nat} {a1 : Int32} {a2 : Int32} {ls : Array Slot} (X : Cx p s m args meth c b_Mo_ends 4 R_Mo (some .boolean) D CL (TY g)) (hP : va_P D CL (WM g ad μ) s.heap) (hl : lv_has ls 4 [(0, .ref (ad 0)), (1, .int a1), (2, .int a2)]) (hf : f_Mo_ends n μ a1 a2 = some r) : WR p l e rm_Mo_ends s m args below meth c (.int (bz r)) (F0 m 0 ls []) := by
  obtain ⟨S, hr, hlk, hK⟩ := id X
  obtain ⟨hx, hb, hml, hown, hts⟩ := id S
  rw [f_Mo_ends] at hf
  refine lv_iconst (v := 0) hx hb d_Mo_ends_0 (by decide) ?_
  refine lv_istore_n (lv' := [(3, .int (0 : Int32)), (0, .ref (ad 0)), (1, .int a1), (2, .int a2)]) hx hb d_Mo_ends_1 rfl hl (Nat.le_of_ble_eq_true rfl) rfl (fun ls hl => ?_)
  exact w_Mo_ends_2 X hP _ _ _ _ _ (lv_sub (l' := [(0, .ref (ad 0)), (1, .int a1), (2, .int a2), (3, .int (0 : Int32))]) hl [1, 2, 3, 0] rfl) hf
theorem c_Mo_ends {l : Launch} {D : va_G} {g : Nat → ClassId} {ad : Nat → Nat} {μ : Mem} {r : Bool} {n : Nat} {a1 : Int32} {a2 : Int32} (hf : f_Mo_ends n μ a1 a2 = some r) : Met l y_Mo_ends (Cond.code y_Mo_ends b_Mo_ends 4 (some .boolean) :: ww) rm_Mo_ends (RP D CL (TY g) (WM g ad μ) [.ref (ad 0), .int a1, .int a2]) (k2_QcV (.int (bz r))) 0 0 (fun _ => False) := by
  refine met_of (by decide) (Nat.le_of_ble_eq_true rfl) ?_
  intro p e s m below meth c ls X hP hl
  have hl : lv_has ls 4 [(0, .ref (ad 0)), (1, .int a1), (2, .int a2)] := hl
  exact w_Mo_ends X hP hl hf
theorem d_Mo_trace_0 : decode b_Mo_trace 0 = .ok (.aload_n 0, 1) := by decide +kernel
theorem d_Mo_trace_1 : decode b_Mo_trace 1 = .ok (.iconst 0, 1) := by decide +kernel
theorem d_Mo_trace_2 : decode b_Mo_trace 2 = .ok (.putfield 190, 3) := by decide +kernel
theorem d_Mo_trace_5 : decode b_Mo_trace 5 = .ok (.aload_n 0, 1) := by decide +kernel
theorem d_Mo_trace_6 : decode b_Mo_trace 6 = .ok (.getfield 129, 3) := by decide +kernel
theorem d_Mo_trace_9 : decode b_Mo_trace 9 = .ok (.istore_n 1, 1) := by decide +kernel
theorem d_Mo_trace_10 : decode b_Mo_trace 10 = .ok (.iconst 0, 1) := by decide +kernel
theorem d_Mo_trace_11 : decode b_Mo_trace 11 = .ok (.istore_n 2, 1) := by decide +kernel
theorem d_Mo_trace_12 : decode b_Mo_trace 12 = .ok (.aload_n 0, 1) := by decide +kernel
theorem d_Mo_trace_13 : decode b_Mo_trace 13 = .ok (.invokevirtual 193, 3) := by decide +kernel
theorem d_Mo_trace_16 : decode b_Mo_trace 16 = .ok (.istore_n 3, 1) := by decide +kernel
theorem d_Mo_trace_17 : decode b_Mo_trace 17 = .ok (.iload_n 1, 1) := by decide +kernel
theorem d_Mo_trace_18 : decode b_Mo_trace 18 = .ok (.ifCond .le 166, 3) := by decide +kernel
theorem d_Mo_trace_21 : decode b_Mo_trace 21 = .ok (.iconst (-1), 1) := by decide +kernel
theorem d_Mo_trace_22 : decode b_Mo_trace 22 = .ok (.istore 4, 2) := by decide +kernel
theorem d_Mo_trace_24 : decode b_Mo_trace 24 = .ok (.iconst 0, 1) := by decide +kernel
theorem d_Mo_trace_25 : decode b_Mo_trace 25 = .ok (.istore 5, 2) := by decide +kernel
theorem d_Mo_trace_27 : decode b_Mo_trace 27 = .ok (.iload 5, 2) := by decide +kernel
theorem d_Mo_trace_29 : decode b_Mo_trace 29 = .ok (.aload_n 0, 1) := by decide +kernel
theorem d_Mo_trace_30 : decode b_Mo_trace 30 = .ok (.getfield 159, 3) := by decide +kernel
theorem d_Mo_trace_33 : decode b_Mo_trace 33 = .ok (.if_icmp .ge 83, 3) := by decide +kernel
theorem d_Mo_trace_36 : decode b_Mo_trace 36 = .ok (.aload_n 0, 1) := by decide +kernel
theorem d_Mo_trace_37 : decode b_Mo_trace 37 = .ok (.getfield 49, 3) := by decide +kernel
theorem d_Mo_trace_40 : decode b_Mo_trace 40 = .ok (.iload 5, 2) := by decide +kernel
theorem d_Mo_trace_42 : decode b_Mo_trace 42 = .ok (.iaload, 1) := by decide +kernel
theorem d_Mo_trace_43 : decode b_Mo_trace 43 = .ok (.aload_n 0, 1) := by decide +kernel
theorem d_Mo_trace_44 : decode b_Mo_trace 44 = .ok (.getfield 52, 3) := by decide +kernel
theorem d_Mo_trace_47 : decode b_Mo_trace 47 = .ok (.iload 5, 2) := by decide +kernel
theorem d_Mo_trace_49 : decode b_Mo_trace 49 = .ok (.iaload, 1) := by decide +kernel
theorem d_Mo_trace_50 : decode b_Mo_trace 50 = .ok (.iadd, 1) := by decide +kernel
theorem d_Mo_trace_51 : decode b_Mo_trace 51 = .ok (.iload_n 1, 1) := by decide +kernel
theorem d_Mo_trace_52 : decode b_Mo_trace 52 = .ok (.if_icmp .ne 7, 3) := by decide +kernel
theorem d_Mo_trace_55 : decode b_Mo_trace 55 = .ok (.iconst 1, 1) := by decide +kernel
theorem d_Mo_trace_56 : decode b_Mo_trace 56 = .ok (.goto 4, 3) := by decide +kernel
theorem d_Mo_trace_59 : decode b_Mo_trace 59 = .ok (.iconst 0, 1) := by decide +kernel
theorem d_Mo_trace_60 : decode b_Mo_trace 60 = .ok (.istore 6, 2) := by decide +kernel
theorem d_Mo_trace_62 : decode b_Mo_trace 62 = .ok (.iload 6, 2) := by decide +kernel
theorem d_Mo_trace_64 : decode b_Mo_trace 64 = .ok (.ifCond .eq 46, 3) := by decide +kernel
theorem d_Mo_trace_67 : decode b_Mo_trace 67 = .ok (.aload_n 0, 1) := by decide +kernel
theorem d_Mo_trace_68 : decode b_Mo_trace 68 = .ok (.iload 5, 2) := by decide +kernel
theorem d_Mo_trace_70 : decode b_Mo_trace 70 = .ok (.iload 4, 2) := by decide +kernel
theorem d_Mo_trace_72 : decode b_Mo_trace 72 = .ok (.invokevirtual 196, 3) := by decide +kernel
theorem d_Mo_trace_75 : decode b_Mo_trace 75 = .ok (.ifCond .eq 35, 3) := by decide +kernel
theorem d_Mo_trace_78 : decode b_Mo_trace 78 = .ok (.aload_n 0, 1) := by decide +kernel
theorem d_Mo_trace_79 : decode b_Mo_trace 79 = .ok (.iload 5, 2) := by decide +kernel
theorem d_Mo_trace_81 : decode b_Mo_trace 81 = .ok (.iload_n 3, 1) := by decide +kernel
theorem d_Mo_trace_82 : decode b_Mo_trace 82 = .ok (.aload_n 0, 1) := by decide +kernel
theorem d_Mo_trace_83 : decode b_Mo_trace 83 = .ok (.getfield 40, 3) := by decide +kernel
theorem d_Mo_trace_86 : decode b_Mo_trace 86 = .ok (.bipush 8, 2) := by decide +kernel
theorem d_Mo_trace_88 : decode b_Mo_trace 88 = .ok (.aload_n 0, 1) := by decide +kernel
theorem d_Mo_trace_89 : decode b_Mo_trace 89 = .ok (.getfield 55, 3) := by decide +kernel
theorem d_Mo_trace_92 : decode b_Mo_trace 92 = .ok (.iload 5, 2) := by decide +kernel
theorem d_Mo_trace_94 : decode b_Mo_trace 94 = .ok (.iaload, 1) := by decide +kernel
theorem d_Mo_trace_95 : decode b_Mo_trace 95 = .ok (.imul, 1) := by decide +kernel
theorem d_Mo_trace_96 : decode b_Mo_trace 96 = .ok (.iload_n 2, 1) := by decide +kernel
theorem d_Mo_trace_97 : decode b_Mo_trace 97 = .ok (.iadd, 1) := by decide +kernel
theorem d_Mo_trace_98 : decode b_Mo_trace 98 = .ok (.iaload, 1) := by decide +kernel
theorem d_Mo_trace_99 : decode b_Mo_trace 99 = .ok (.isub, 1) := by decide +kernel
theorem d_Mo_trace_100 : decode b_Mo_trace 100 = .ok (.invokevirtual 199, 3) := by decide +kernel
theorem d_Mo_trace_103 : decode b_Mo_trace 103 = .ok (.ifCond .eq 7, 3) := by decide +kernel
theorem d_Mo_trace_106 : decode b_Mo_trace 106 = .ok (.iload 5, 2) := by decide +kernel
theorem d_Mo_trace_108 : decode b_Mo_trace 108 = .ok (.istore 4, 2) := by decide +kernel
theorem d_Mo_trace_110 : decode b_Mo_trace 110 = .ok (.iinc 5 1, 3) := by decide +kernel
theorem d_Mo_trace_113 : decode b_Mo_trace 113 = .ok (.goto (-86), 3) := by decide +kernel
theorem d_Mo_trace_116 : decode b_Mo_trace 116 = .ok (.iload_n 3, 1) := by decide +kernel
theorem d_Mo_trace_117 : decode b_Mo_trace 117 = .ok (.aload_n 0, 1) := by decide +kernel
theorem d_Mo_trace_118 : decode b_Mo_trace 118 = .ok (.getfield 40, 3) := by decide +kernel
theorem d_Mo_trace_121 : decode b_Mo_trace 121 = .ok (.bipush 8, 2) := by decide +kernel
theorem d_Mo_trace_123 : decode b_Mo_trace 123 = .ok (.aload_n 0, 1) := by decide +kernel
theorem d_Mo_trace_124 : decode b_Mo_trace 124 = .ok (.getfield 55, 3) := by decide +kernel
theorem d_Mo_trace_127 : decode b_Mo_trace 127 = .ok (.iload 4, 2) := by decide +kernel
theorem d_Mo_trace_129 : decode b_Mo_trace 129 = .ok (.iaload, 1) := by decide +kernel
theorem d_Mo_trace_130 : decode b_Mo_trace 130 = .ok (.imul, 1) := by decide +kernel
theorem d_Mo_trace_131 : decode b_Mo_trace 131 = .ok (.iload_n 2, 1) := by decide +kernel
theorem d_Mo_trace_132 : decode b_Mo_trace 132 = .ok (.iadd, 1) := by decide +kernel
theorem d_Mo_trace_133 : decode b_Mo_trace 133 = .ok (.iaload, 1) := by decide +kernel
theorem d_Mo_trace_134 : decode b_Mo_trace 134 = .ok (.isub, 1) := by decide +kernel
theorem d_Mo_trace_135 : decode b_Mo_trace 135 = .ok (.aload_n 0, 1) := by decide +kernel
theorem d_Mo_trace_136 : decode b_Mo_trace 136 = .ok (.getfield 58, 3) := by decide +kernel
theorem d_Mo_trace_139 : decode b_Mo_trace 139 = .ok (.iload 4, 2) := by decide +kernel
theorem d_Mo_trace_141 : decode b_Mo_trace 141 = .ok (.iaload, 1) := by decide +kernel
theorem d_Mo_trace_142 : decode b_Mo_trace 142 = .ok (.isub, 1) := by decide +kernel
theorem d_Mo_trace_143 : decode b_Mo_trace 143 = .ok (.istore_n 3, 1) := by decide +kernel
theorem d_Mo_trace_144 : decode b_Mo_trace 144 = .ok (.aload_n 0, 1) := by decide +kernel
theorem d_Mo_trace_145 : decode b_Mo_trace 145 = .ok (.getfield 55, 3) := by decide +kernel
theorem d_Mo_trace_148 : decode b_Mo_trace 148 = .ok (.iload 4, 2) := by decide +kernel
theorem d_Mo_trace_150 : decode b_Mo_trace 150 = .ok (.iaload, 1) := by decide +kernel
theorem d_Mo_trace_151 : decode b_Mo_trace 151 = .ok (.istore_n 2, 1) := by decide +kernel
theorem d_Mo_trace_152 : decode b_Mo_trace 152 = .ok (.aload_n 0, 1) := by decide +kernel
theorem d_Mo_trace_153 : decode b_Mo_trace 153 = .ok (.getfield 49, 3) := by decide +kernel
theorem d_Mo_trace_156 : decode b_Mo_trace 156 = .ok (.iload 4, 2) := by decide +kernel
theorem d_Mo_trace_158 : decode b_Mo_trace 158 = .ok (.iaload, 1) := by decide +kernel
theorem d_Mo_trace_159 : decode b_Mo_trace 159 = .ok (.istore_n 1, 1) := by decide +kernel
theorem d_Mo_trace_160 : decode b_Mo_trace 160 = .ok (.aload_n 0, 1) := by decide +kernel
theorem d_Mo_trace_161 : decode b_Mo_trace 161 = .ok (.getfield 71, 3) := by decide +kernel
theorem d_Mo_trace_164 : decode b_Mo_trace 164 = .ok (.aload_n 0, 1) := by decide +kernel
theorem d_Mo_trace_165 : decode b_Mo_trace 165 = .ok (.getfield 190, 3) := by decide +kernel
theorem d_Mo_trace_168 : decode b_Mo_trace 168 = .ok (.iload 4, 2) := by decide +kernel
theorem d_Mo_trace_170 : decode b_Mo_trace 170 = .ok (.iastore, 1) := by decide +kernel
theorem d_Mo_trace_171 : decode b_Mo_trace 171 = .ok (.aload_n 0, 1) := by decide +kernel
theorem d_Mo_trace_172 : decode b_Mo_trace 172 = .ok (.dup, 1) := by decide +kernel
theorem d_Mo_trace_173 : decode b_Mo_trace 173 = .ok (.getfield 190, 3) := by decide +kernel
theorem d_Mo_trace_176 : decode b_Mo_trace 176 = .ok (.iconst 1, 1) := by decide +kernel
theorem d_Mo_trace_177 : decode b_Mo_trace 177 = .ok (.iadd, 1) := by decide +kernel
theorem d_Mo_trace_178 : decode b_Mo_trace 178 = .ok (.putfield 190, 3) := by decide +kernel
theorem d_Mo_trace_181 : decode b_Mo_trace 181 = .ok (.goto (-164), 3) := by decide +kernel
theorem d_Mo_trace_184 : decode b_Mo_trace 184 = .ok (.return_, 1) := by decide +kernel
abbrev rm_Mo_trace : Room := { frames := 2, cells := 0, slots := 0, locals := 46 }
def f_Mo_trace_110 (κ17 : Mem → Int32 → Int32 → Int32 → Option Mem) (κ27 : Mem → Int32 → Int32 → Int32 → Int32 → Int32 → Option Mem) (n : Nat) (μ : Mem) (x1 : Int32) (x2 : Int32) (x3 : Int32) (x4 : Int32) (x5 : Int32) : Option Mem := bd (x5 + 1) (fun v1 => κ27 μ x1 x2 x3 x4 v1)
set_option maxHeartbeats 4000000 in
set_option maxRecDepth 100000 in
theorem w_Mo_trace_110 {p : Program} {l : Launch} {e : Env} {s : State} {m : MethodId} {args : Array Value} {below : List Frame} {meth : Method} {c : Code} {D : va_G} {g : Nat → ClassId} {ad : Nat → Nat} {μ' : Mem} {A : Nat → Prop} {κ17 : Mem → Int32 → Int32 → Int32 → Option Mem} {κ27 : Mem → Int32 → Int32 → Int32 → Int32 → Int32 → Option Mem} {n : Nat} {μ : Mem} {x1 : Int32} {x2 : Int32} {x3 : Int32} {x4 : Int32} {x5 : Int32} {ls : Array Slot} {H : Heap} {locs : List Loc} (X : Cx p s m args meth c b_Mo_trace 7 R_Mo none D CL (TY g)) (hDA : ∀ μ : Mem, va_D A (WM g ad μ)) (hκ17 : ∀ (μ : Mem) (x1 : Int32) (x2 : Int32) (x3 : Int32) (ls : Array Slot) (H : Heap) (locs : List Loc), va_P D CL (WM g ad μ) H → va_S A s.heap H locs → lv_has ls 7 [(0, .ref (ad 0)), (1, .int x1), (2, .int x2), (3, .int x3)] → κ17 μ x1 x2 x3 = some μ' → WU p l e rm_Mo_trace s m args below meth c H locs D (WM g ad μ') A none (F0 m 17 ls [])) (hκ27 : ∀ (μ : Mem) (x1 : Int32) (x2 : Int32) (x3 : Int32) (x4 : Int32) (x5 : Int32) (ls : Array Slot) (H : Heap) (locs : List Loc), va_P D CL (WM g ad μ) H → va_S A s.heap H locs → lv_has ls 7 [(0, .ref (ad 0)), (1, .int x1), (2, .int x2), (3, .int x3), (4, .int x4), (5, .int x5)] → κ27 μ x1 x2 x3 x4 x5 = some μ' → WU p l e rm_Mo_trace s m args below meth c H locs D (WM g ad μ') A none (F0 m 27 ls [])) (hP : va_P D CL (WM g ad μ) H) (hS : va_S A s.heap H locs) (hl : lv_has ls 7 [(0, .ref (ad 0)), (1, .int x1), (2, .int x2), (3, .int x3), (4, .int x4), (5, .int x5)]) (hf : f_Mo_trace_110 κ17 κ27 n μ x1 x2 x3 x4 x5 = some μ') : WU p l e rm_Mo_trace s m args below meth c H locs D (WM g ad μ') A none (F0 m 110 ls []) := by
  obtain ⟨S, hr, hlk, hK⟩ := id X
  obtain ⟨hx, hb, hml, hown, hts⟩ := id S
  rw [f_Mo_trace_110] at hf
  obtain ⟨v1, hv1, hf⟩ := bd_x hf
  refine lv_iinc (lv' := [(5, .int v1), (0, .ref (ad 0)), (1, .int x1), (2, .int x2), (3, .int x3), (4, .int x4)]) hx hb d_Mo_trace_110 hl (k := 5) rfl (show x5 + Int32.ofInt (1) = v1 from hv1) (Nat.le_of_ble_eq_true rfl) rfl (fun ls hl => ?_)
  refine lv_goto (tgt := 27) hx hb d_Mo_trace_113 rfl ?_
  exact hκ27 _ _ _ _ _ _ _ _ _ hP hS (lv_sub (l' := [(0, .ref (ad 0)), (1, .int x1), (2, .int x2), (3, .int x3), (4, .int x4), (5, .int v1)]) hl [1, 2, 3, 4, 5, 0] rfl) hf
def f_Mo_trace_60 (κ17 : Mem → Int32 → Int32 → Int32 → Option Mem) (κ27 : Mem → Int32 → Int32 → Int32 → Int32 → Int32 → Option Mem) (n : Nat) (μ : Mem) (x1 : Int32) (x2 : Int32) (x3 : Int32) (x4 : Int32) (x5 : Int32) (s0 : Bool) : Option Mem := (if (bz s0) = 0 then (f_Mo_trace_110 κ17 κ27 n μ x1 x2 x3 x4 x5) else (cl (f_Mo_before n μ x5 x4) (fun v1 => (if (bz v1) = 0 then (f_Mo_trace_110 κ17 κ27 n μ x1 x2 x3 x4 x5) else (gd (inb x5 700) (gd (inb (((8 : Int32) * (μ.1 16 x5.toNatClampNeg)) + x2) 64) (cl (f_Mo_ends n μ x5 (x3 - (μ.1 11 (((8 : Int32) * (μ.1 16 x5.toNatClampNeg)) + x2).toNatClampNeg))) (fun v2 => (if (bz v2) = 0 then (f_Mo_trace_110 κ17 κ27 n μ x1 x2 x3 x4 x5) else (f_Mo_trace_110 κ17 κ27 n μ x1 x2 x3 x5 x5))))))))))
set_option maxHeartbeats 4000000 in
set_option maxRecDepth 100000 in
theorem w_Mo_trace_60 {p : Program} {l : Launch} {e : Env} {s : State} {m : MethodId} {args : Array Value} {below : List Frame} {meth : Method} {c : Code} {D : va_G} {g : Nat → ClassId} {ad : Nat → Nat} {μ' : Mem} {A : Nat → Prop} {κ17 : Mem → Int32 → Int32 → Int32 → Option Mem} {κ27 : Mem → Int32 → Int32 → Int32 → Int32 → Int32 → Option Mem} {n : Nat} {μ : Mem} {x1 : Int32} {x2 : Int32} {x3 : Int32} {x4 : Int32} {x5 : Int32} {s0 : Bool} {ls : Array Slot} {H : Heap} {locs : List Loc} (X : Cx p s m args meth c b_Mo_trace 7 R_Mo none D CL (TY g)) (hDA : ∀ μ : Mem, va_D A (WM g ad μ)) (hκ17 : ∀ (μ : Mem) (x1 : Int32) (x2 : Int32) (x3 : Int32) (ls : Array Slot) (H : Heap) (locs : List Loc), va_P D CL (WM g ad μ) H → va_S A s.heap H locs → lv_has ls 7 [(0, .ref (ad 0)), (1, .int x1), (2, .int x2), (3, .int x3)] → κ17 μ x1 x2 x3 = some μ' → WU p l e rm_Mo_trace s m args below meth c H locs D (WM g ad μ') A none (F0 m 17 ls [])) (hκ27 : ∀ (μ : Mem) (x1 : Int32) (x2 : Int32) (x3 : Int32) (x4 : Int32) (x5 : Int32) (ls : Array Slot) (H : Heap) (locs : List Loc), va_P D CL (WM g ad μ) H → va_S A s.heap H locs → lv_has ls 7 [(0, .ref (ad 0)), (1, .int x1), (2, .int x2), (3, .int x3), (4, .int x4), (5, .int x5)] → κ27 μ x1 x2 x3 x4 x5 = some μ' → WU p l e rm_Mo_trace s m args below meth c H locs D (WM g ad μ') A none (F0 m 27 ls [])) (hP : va_P D CL (WM g ad μ) H) (hS : va_S A s.heap H locs) (hl : lv_has ls 7 [(0, .ref (ad 0)), (1, .int x1), (2, .int x2), (3, .int x3), (4, .int x4), (5, .int x5)]) (hf : f_Mo_trace_60 κ17 κ27 n μ x1 x2 x3 x4 x5 s0 = some μ') : WU p l e rm_Mo_trace s m args below meth c H locs D (WM g ad μ') A none (F0 m 60 ls [.int (bz s0)]) := by
  obtain ⟨S, hr, hlk, hK⟩ := id X
  obtain ⟨hx, hb, hml, hown, hts⟩ := id S
  rw [f_Mo_trace_60] at hf
  refine lv_istore (lv' := [(6, .int (bz s0)), (0, .ref (ad 0)), (1, .int x1), (2, .int x2), (3, .int x3), (4, .int x4), (5, .int x5)]) hx hb d_Mo_trace_60 hl (Nat.le_of_ble_eq_true rfl) rfl (fun ls hl => ?_)
  refine lv_iload hx hb d_Mo_trace_62 (lv_at hl 0 rfl) ?_
  refine lv_if_eq (tgt := 110) hx hb d_Mo_trace_64 rfl (fun hc => ?_) (fun hc => ?_)
  · replace hf := br_p hc hf
    exact w_Mo_trace_110 X hDA hκ17 hκ27 hP hS (lv_sub (l' := [(0, .ref (ad 0)), (1, .int x1), (2, .int x2), (3, .int x3), (4, .int x4), (5, .int x5)]) hl [1, 2, 3, 4, 5, 6] rfl) hf
  · replace hf := br_n hc hf
    refine lv_aload_n hx hb d_Mo_trace_67 rfl (lv_at hl 1 rfl) ?_
    refine lv_iload hx hb d_Mo_trace_68 (lv_at hl 6 rfl) ?_
    refine lv_iload hx hb d_Mo_trace_70 (lv_at hl 5 rfl) ?_
    obtain ⟨v1, hv1, hf⟩ := cl_x hf
    refine rdV (As := [.int x5, .int x4]) (rest := []) S K_Mo_before q_1053 (c_Mo_before hv1) hK hP ⟨rfl, rfl⟩ ⟨Nat.le_of_ble_eq_true rfl, Nat.le_of_ble_eq_true rfl⟩ (mr_0 hK hP) rfl hl.1 rfl (Nat.le_of_ble_eq_true rfl) d_Mo_trace_72 ⟨Nat.le_refl _, Nat.le_refl _⟩ ?_
    refine lv_if_eq (tgt := 110) hx hb d_Mo_trace_75 rfl (fun hc => ?_) (fun hc => ?_)
    · replace hf := br_p hc hf
      exact w_Mo_trace_110 X hDA hκ17 hκ27 hP hS (lv_sub (l' := [(0, .ref (ad 0)), (1, .int x1), (2, .int x2), (3, .int x3), (4, .int x4), (5, .int x5)]) hl [1, 2, 3, 4, 5, 6] rfl) hf
    · replace hf := br_n hc hf
      refine lv_aload_n hx hb d_Mo_trace_78 rfl (lv_at hl 1 rfl) ?_
      refine lv_iload hx hb d_Mo_trace_79 (lv_at hl 6 rfl) ?_
      refine lv_iload_n hx hb d_Mo_trace_81 rfl (lv_at hl 4 rfl) ?_
      refine lv_aload_n hx hb d_Mo_trace_82 rfl (lv_at hl 1 rfl) ?_
      refine mg_0_12 hx hb hts hown hK hP q_830 d_Mo_trace_83 ?_
      refine lv_bipush (v := 8) hx hb d_Mo_trace_86 (by decide) ?_
      refine lv_aload_n hx hb d_Mo_trace_88 rfl (lv_at hl 1 rfl) ?_
      refine mg_0_20 hx hb hts hown hK hP q_838 d_Mo_trace_89 ?_
      refine lv_iload hx hb d_Mo_trace_92 (lv_at hl 6 rfl) ?_
      obtain ⟨hi, hf⟩ := gd_x hf
      refine ml_16 hx hb hK hP (inb_in hi) d_Mo_trace_94 ?_
      refine lv_imul hx hb d_Mo_trace_95 ?_
      refine lv_iload_n hx hb d_Mo_trace_96 rfl (lv_at hl 3 rfl) ?_
      refine lv_iadd hx hb d_Mo_trace_97 ?_
      obtain ⟨hi, hf⟩ := gd_x hf
      refine ml_11 hx hb hK hP (inb_in hi) d_Mo_trace_98 ?_
      refine lv_isub hx hb d_Mo_trace_99 ?_
      obtain ⟨v2, hv2, hf⟩ := cl_x hf
      refine rdV (As := [.int x5, .int (x3 - (μ.1 11 (((8 : Int32) * (μ.1 16 x5.toNatClampNeg)) + x2).toNatClampNeg))]) (rest := []) S K_Mo_ends q_1057 (c_Mo_ends hv2) hK hP ⟨rfl, rfl⟩ ⟨Nat.le_of_ble_eq_true rfl, Nat.le_of_ble_eq_true rfl⟩ (mr_0 hK hP) rfl hl.1 rfl (Nat.le_of_ble_eq_true rfl) d_Mo_trace_100 ⟨Nat.le_refl _, Nat.le_refl _⟩ ?_
      refine lv_if_eq (tgt := 110) hx hb d_Mo_trace_103 rfl (fun hc => ?_) (fun hc => ?_)
      · replace hf := br_p hc hf
        exact w_Mo_trace_110 X hDA hκ17 hκ27 hP hS (lv_sub (l' := [(0, .ref (ad 0)), (1, .int x1), (2, .int x2), (3, .int x3), (4, .int x4), (5, .int x5)]) hl [1, 2, 3, 4, 5, 6] rfl) hf
      · replace hf := br_n hc hf
        refine lv_iload hx hb d_Mo_trace_106 (lv_at hl 6 rfl) ?_
        refine lv_istore (lv' := [(4, .int x5), (6, .int (bz s0)), (0, .ref (ad 0)), (1, .int x1), (2, .int x2), (3, .int x3), (5, .int x5)]) hx hb d_Mo_trace_108 hl (Nat.le_of_ble_eq_true rfl) rfl (fun ls hl => ?_)
        exact w_Mo_trace_110 X hDA hκ17 hκ27 hP hS (lv_sub (l' := [(0, .ref (ad 0)), (1, .int x1), (2, .int x2), (3, .int x3), (4, .int x5), (5, .int x5)]) hl [2, 3, 4, 5, 0, 6] rfl) hf
def f_Mo_trace_27 (κ17 : Mem → Int32 → Int32 → Int32 → Option Mem) : Nat → Mem → Int32 → Int32 → Int32 → Int32 → Int32 → Option Mem
  | 0, _, _, _, _, _, _ => none
  | n + 1, μ, x1, x2, x3, x4, x5 => (if (μ.1 0 23) ≤ x5 then (gd (inb x4 700) (gd (inb (((8 : Int32) * (μ.1 16 x4.toNatClampNeg)) + x2) 64) (gd (inb x4 700) (bd ((x3 - (μ.1 11 (((8 : Int32) * (μ.1 16 x4.toNatClampNeg)) + x2).toNatClampNeg)) - (μ.1 17 x4.toNatClampNeg)) (fun v1 => gd (inb x4 700) (bd (μ.1 16 x4.toNatClampNeg) (fun v2 => gd (inb x4 700) (bd (μ.1 14 x4.toNatClampNeg) (fun v3 => gd (inb (μ.1 0 27) 24) (bd (wi μ 21 (μ.1 0 27).toNatClampNeg x4) (fun μ4 => bd (wi μ4 0 27 ((μ4.1 0 27) + (1 : Int32))) (fun μ5 => κ17 μ5 v3 v2 v1)))))))))))) else (gd (inb x5 700) (gd (inb x5 700) ((if ((μ.1 14 x5.toNatClampNeg) + (μ.1 15 x5.toNatClampNeg)) = x1 then (f_Mo_trace_60 κ17 (f_Mo_trace_27 κ17 n) n μ x1 x2 x3 x4 x5 true) else (f_Mo_trace_60 κ17 (f_Mo_trace_27 κ17 n) n μ x1 x2 x3 x4 x5 false))))))
set_option maxHeartbeats 4000000 in
set_option maxRecDepth 100000 in
theorem w_Mo_trace_27 {p : Program} {l : Launch} {e : Env} {s : State} {m : MethodId} {args : Array Value} {below : List Frame} {meth : Method} {c : Code} {D : va_G} {g : Nat → ClassId} {ad : Nat → Nat} {μ' : Mem} {A : Nat → Prop} {κ17 : Mem → Int32 → Int32 → Int32 → Option Mem} (X : Cx p s m args meth c b_Mo_trace 7 R_Mo none D CL (TY g)) (hDA : ∀ μ : Mem, va_D A (WM g ad μ)) (hκ17 : ∀ (μ : Mem) (x1 : Int32) (x2 : Int32) (x3 : Int32) (ls : Array Slot) (H : Heap) (locs : List Loc), va_P D CL (WM g ad μ) H → va_S A s.heap H locs → lv_has ls 7 [(0, .ref (ad 0)), (1, .int x1), (2, .int x2), (3, .int x3)] → κ17 μ x1 x2 x3 = some μ' → WU p l e rm_Mo_trace s m args below meth c H locs D (WM g ad μ') A none (F0 m 17 ls [])) : ∀ (n : Nat) (μ : Mem) (x1 : Int32) (x2 : Int32) (x3 : Int32) (x4 : Int32) (x5 : Int32) (ls : Array Slot) (H : Heap) (locs : List Loc), va_P D CL (WM g ad μ) H → va_S A s.heap H locs → lv_has ls 7 [(0, .ref (ad 0)), (1, .int x1), (2, .int x2), (3, .int x3), (4, .int x4), (5, .int x5)] → f_Mo_trace_27 κ17 n μ x1 x2 x3 x4 x5 = some μ' → WU p l e rm_Mo_trace s m args below meth c H locs D (WM g ad μ') A none (F0 m 27 ls []) := by
  intro n
  induction n with
  | zero => intro μ x1 x2 x3 x4 x5 ls H locs hP hS hl hf; rw [f_Mo_trace_27] at hf; cases hf
  | succ n ih =>
    intro μ x1 x2 x3 x4 x5 ls H locs hP hS hl hf
    obtain ⟨S, hr, hlk, hK⟩ := id X
    obtain ⟨hx, hb, hml, hown, hts⟩ := id S
    rw [f_Mo_trace_27] at hf
    refine lv_iload hx hb d_Mo_trace_27 (lv_at hl 5 rfl) ?_
    refine lv_aload_n hx hb d_Mo_trace_29 rfl (lv_at hl 0 rfl) ?_
    refine mg_0_23 hx hb hts hown hK hP q_841 d_Mo_trace_30 ?_
    refine lv_icmp_ge (tgt := 116) hx hb d_Mo_trace_33 rfl (fun hc => ?_) (fun hc => ?_)
    · replace hf := br_p hc hf
      refine lv_iload_n hx hb d_Mo_trace_116 rfl (lv_at hl 3 rfl) ?_
      refine lv_aload_n hx hb d_Mo_trace_117 rfl (lv_at hl 0 rfl) ?_
      refine mg_0_12 hx hb hts hown hK hP q_830 d_Mo_trace_118 ?_
      refine lv_bipush (v := 8) hx hb d_Mo_trace_121 (by decide) ?_
      refine lv_aload_n hx hb d_Mo_trace_123 rfl (lv_at hl 0 rfl) ?_
      refine mg_0_20 hx hb hts hown hK hP q_838 d_Mo_trace_124 ?_
      refine lv_iload hx hb d_Mo_trace_127 (lv_at hl 4 rfl) ?_
      obtain ⟨hi, hf⟩ := gd_x hf
      refine ml_16 hx hb hK hP (inb_in hi) d_Mo_trace_129 ?_
      refine lv_imul hx hb d_Mo_trace_130 ?_
      refine lv_iload_n hx hb d_Mo_trace_131 rfl (lv_at hl 2 rfl) ?_
      refine lv_iadd hx hb d_Mo_trace_132 ?_
      obtain ⟨hi, hf⟩ := gd_x hf
      refine ml_11 hx hb hK hP (inb_in hi) d_Mo_trace_133 ?_
      refine lv_isub hx hb d_Mo_trace_134 ?_
      refine lv_aload_n hx hb d_Mo_trace_135 rfl (lv_at hl 0 rfl) ?_
      refine mg_0_21 hx hb hts hown hK hP q_839 d_Mo_trace_136 ?_
      refine lv_iload hx hb d_Mo_trace_139 (lv_at hl 4 rfl) ?_
      obtain ⟨hi, hf⟩ := gd_x hf
      refine ml_17 hx hb hK hP (inb_in hi) d_Mo_trace_141 ?_
      refine lv_isub hx hb d_Mo_trace_142 ?_
      obtain ⟨v1, hv1, hf⟩ := bd_x hf
      refine top_i hv1 ?_
      refine lv_istore_n (lv' := [(3, .int v1), (0, .ref (ad 0)), (1, .int x1), (2, .int x2), (4, .int x4), (5, .int x5)]) hx hb d_Mo_trace_143 rfl hl (Nat.le_of_ble_eq_true rfl) rfl (fun ls hl => ?_)
      refine lv_aload_n hx hb d_Mo_trace_144 rfl (lv_at hl 1 rfl) ?_
      refine mg_0_20 hx hb hts hown hK hP q_838 d_Mo_trace_145 ?_
      refine lv_iload hx hb d_Mo_trace_148 (lv_at hl 4 rfl) ?_
      obtain ⟨hi, hf⟩ := gd_x hf
      refine ml_16 hx hb hK hP (inb_in hi) d_Mo_trace_150 ?_
      obtain ⟨v2, hv2, hf⟩ := bd_x hf
      refine top_i hv2 ?_
      refine lv_istore_n (lv' := [(2, .int v2), (3, .int v1), (0, .ref (ad 0)), (1, .int x1), (4, .int x4), (5, .int x5)]) hx hb d_Mo_trace_151 rfl hl (Nat.le_of_ble_eq_true rfl) rfl (fun ls hl => ?_)
      refine lv_aload_n hx hb d_Mo_trace_152 rfl (lv_at hl 2 rfl) ?_
      refine mg_0_18 hx hb hts hown hK hP q_836 d_Mo_trace_153 ?_
      refine lv_iload hx hb d_Mo_trace_156 (lv_at hl 4 rfl) ?_
      obtain ⟨hi, hf⟩ := gd_x hf
      refine ml_14 hx hb hK hP (inb_in hi) d_Mo_trace_158 ?_
      obtain ⟨v3, hv3, hf⟩ := bd_x hf
      refine top_i hv3 ?_
      refine lv_istore_n (lv' := [(1, .int v3), (2, .int v2), (3, .int v1), (0, .ref (ad 0)), (4, .int x4), (5, .int x5)]) hx hb d_Mo_trace_159 rfl hl (Nat.le_of_ble_eq_true rfl) rfl (fun ls hl => ?_)
      refine lv_aload_n hx hb d_Mo_trace_160 rfl (lv_at hl 3 rfl) ?_
      refine mg_0_26 hx hb hts hown hK hP q_844 d_Mo_trace_161 ?_
      refine lv_aload_n hx hb d_Mo_trace_164 rfl (lv_at hl 3 rfl) ?_
      refine mg_0_27 hx hb hts hown hK hP q_845 d_Mo_trace_165 ?_
      refine lv_iload hx hb d_Mo_trace_168 (lv_at hl 4 rfl) ?_
      obtain ⟨hi, hf⟩ := gd_x hf
      obtain ⟨μ4, hμ4, hf⟩ := bd_x hf
      refine ms_21 hx hb hK (hDA _) hP hS (inb_in hi) d_Mo_trace_170 hμ4 (fun H locs hP hS => ?_)
      refine lv_aload_n hx hb d_Mo_trace_171 rfl (lv_at hl 3 rfl) ?_
      refine lv_dup hx hb d_Mo_trace_172 rfl ?_
      refine mg_0_27 hx hb hts hown hK hP q_845 d_Mo_trace_173 ?_
      refine lv_iconst (v := 1) hx hb d_Mo_trace_176 (by decide) ?_
      refine lv_iadd hx hb d_Mo_trace_177 ?_
      obtain ⟨μ5, hμ5, hf⟩ := bd_x hf
      refine mp_0_27 hx hb hts hown hK (hDA _) hP hS q_845 d_Mo_trace_178 hμ5 (fun H locs hP hS => ?_)
      refine lv_goto (tgt := 17) hx hb d_Mo_trace_181 rfl ?_
      exact hκ17 _ _ _ _ _ _ _ hP hS (lv_sub (l' := [(0, .ref (ad 0)), (1, .int v3), (2, .int v2), (3, .int v1)]) hl [3, 0, 1, 2] rfl) hf
    · replace hf := br_n hc hf
      refine lv_aload_n hx hb d_Mo_trace_36 rfl (lv_at hl 0 rfl) ?_
      refine mg_0_18 hx hb hts hown hK hP q_836 d_Mo_trace_37 ?_
      refine lv_iload hx hb d_Mo_trace_40 (lv_at hl 5 rfl) ?_
      obtain ⟨hi, hf⟩ := gd_x hf
      refine ml_14 hx hb hK hP (inb_in hi) d_Mo_trace_42 ?_
      refine lv_aload_n hx hb d_Mo_trace_43 rfl (lv_at hl 0 rfl) ?_
      refine mg_0_19 hx hb hts hown hK hP q_837 d_Mo_trace_44 ?_
      refine lv_iload hx hb d_Mo_trace_47 (lv_at hl 5 rfl) ?_
      obtain ⟨hi, hf⟩ := gd_x hf
      refine ml_15 hx hb hK hP (inb_in hi) d_Mo_trace_49 ?_
      refine lv_iadd hx hb d_Mo_trace_50 ?_
      refine lv_iload_n hx hb d_Mo_trace_51 rfl (lv_at hl 1 rfl) ?_
      refine lv_icmp_ne (tgt := 59) hx hb d_Mo_trace_52 rfl (fun hc => ?_) (fun hc => ?_)
      · replace hf := br_n hc hf
        refine lv_iconst (v := 0) hx hb d_Mo_trace_59 (by decide) ?_
        refine top_i (z := bz false) (by decide) ?_
        exact w_Mo_trace_60 X hDA hκ17 ih hP hS (lv_sub (l' := [(0, .ref (ad 0)), (1, .int x1), (2, .int x2), (3, .int x3), (4, .int x4), (5, .int x5)]) hl [0, 1, 2, 3, 4, 5] rfl) hf
      · replace hf := br_p hc hf
        refine lv_iconst (v := 1) hx hb d_Mo_trace_55 (by decide) ?_
        refine lv_goto (tgt := 60) hx hb d_Mo_trace_56 rfl ?_
        refine top_i (z := bz true) (by decide) ?_
        exact w_Mo_trace_60 X hDA hκ17 ih hP hS (lv_sub (l' := [(0, .ref (ad 0)), (1, .int x1), (2, .int x2), (3, .int x3), (4, .int x4), (5, .int x5)]) hl [0, 1, 2, 3, 4, 5] rfl) hf
def f_Mo_trace_17 : Nat → Mem → Int32 → Int32 → Int32 → Option Mem
  | 0, _, _, _, _ => none
  | n + 1, μ, x1, x2, x3 => (if x1 ≤ 0 then (some μ) else (f_Mo_trace_27 (f_Mo_trace_17 n) n μ x1 x2 x3 (-1 : Int32) (0 : Int32)))
set_option maxHeartbeats 4000000 in
set_option maxRecDepth 100000 in
theorem w_Mo_trace_17 {p : Program} {l : Launch} {e : Env} {s : State} {m : MethodId} {args : Array Value} {below : List Frame} {meth : Method} {c : Code} {D : va_G} {g : Nat → ClassId} {ad : Nat → Nat} {μ' : Mem} {A : Nat → Prop} (X : Cx p s m args meth c b_Mo_trace 7 R_Mo none D CL (TY g)) (hDA : ∀ μ : Mem, va_D A (WM g ad μ)) : ∀ (n : Nat) (μ : Mem) (x1 : Int32) (x2 : Int32) (x3 : Int32) (ls : Array Slot) (H : Heap) (locs : List Loc), va_P D CL (WM g ad μ) H → va_S A s.heap H locs → lv_has ls 7 [(0, .ref (ad 0)), (1, .int x1), (2, .int x2), (3, .int x3)] → f_Mo_trace_17 n μ x1 x2 x3 = some μ' → WU p l e rm_Mo_trace s m args below meth c H locs D (WM g ad μ') A none (F0 m 17 ls []) := by
  intro n
  induction n with
  | zero => intro μ x1 x2 x3 ls H locs hP hS hl hf; rw [f_Mo_trace_17] at hf; cases hf
  | succ n ih =>
    intro μ x1 x2 x3 ls H locs hP hS hl hf
    obtain ⟨S, hr, hlk, hK⟩ := id X
    obtain ⟨hx, hb, hml, hown, hts⟩ := id S
    rw [f_Mo_trace_17] at hf
    refine lv_iload_n hx hb d_Mo_trace_17 rfl (lv_at hl 1 rfl) ?_
    refine lv_if_le (tgt := 184) hx hb d_Mo_trace_18 rfl (fun hc => ?_) (fun hc => ?_)
    · replace hf := br_p hc hf
      obtain rfl := Option.some.inj hf
      exact W.vret hx hb hr (fun t ht _ => ⟨rfl, by rw [ht]; exact hP, hS.F ht⟩) hS.2.2 d_Mo_trace_184
    · replace hf := br_n hc hf
      refine lv_iconst (v := -1) hx hb d_Mo_trace_21 (by decide) ?_
      refine lv_istore (lv' := [(4, .int (-1 : Int32)), (0, .ref (ad 0)), (1, .int x1), (2, .int x2), (3, .int x3)]) hx hb d_Mo_trace_22 hl (Nat.le_of_ble_eq_true rfl) rfl (fun ls hl => ?_)
      refine lv_iconst (v := 0) hx hb d_Mo_trace_24 (by decide) ?_
      refine lv_istore (lv' := [(5, .int (0 : Int32)), (4, .int (-1 : Int32)), (0, .ref (ad 0)), (1, .int x1), (2, .int x2), (3, .int x3)]) hx hb d_Mo_trace_25 hl (Nat.le_of_ble_eq_true rfl) rfl (fun ls hl => ?_)
      exact w_Mo_trace_27 X hDA ih _ _ _ _ _ _ _ _ _ _ hP hS (lv_sub (l' := [(0, .ref (ad 0)), (1, .int x1), (2, .int x2), (3, .int x3), (4, .int (-1 : Int32)), (5, .int (0 : Int32))]) hl [2, 3, 4, 5, 1, 0] rfl) hf
def f_Mo_trace (n : Nat) (μ : Mem) : Option Mem := bd (wi μ 0 27 (0 : Int32)) (fun μ1 => bd (μ1.1 0 1) (fun v2 => cl (f_Mo_total n μ1) (fun v3 => f_Mo_trace_17 n μ1 v2 (0 : Int32) v3)))
set_option maxHeartbeats 4000000 in
set_option maxRecDepth 100000 in
theorem w_Mo_trace {p : Program} {l : Launch} {e : Env} {s : State} {m : MethodId} {args : Array Value} {below : List Frame} {meth : Method} {c : Code} {D : va_G} {g : Nat → ClassId} {ad : Nat → Nat} {μ' : Mem} {A : Nat → Prop} {n : Nat} {μ : Mem} {ls : Array Slot} {H : Heap} {locs : List Loc} (X : Cx p s m args meth c b_Mo_trace 7 R_Mo none D CL (TY g)) (hDA : ∀ μ : Mem, va_D A (WM g ad μ)) (hP : va_P D CL (WM g ad μ) H) (hS : va_S A s.heap H locs) (hl : lv_has ls 7 [(0, .ref (ad 0))]) (hf : f_Mo_trace n μ = some μ') : WU p l e rm_Mo_trace s m args below meth c H locs D (WM g ad μ') A none (F0 m 0 ls []) := by
  obtain ⟨S, hr, hlk, hK⟩ := id X
  obtain ⟨hx, hb, hml, hown, hts⟩ := id S
  rw [f_Mo_trace] at hf
  refine lv_aload_n hx hb d_Mo_trace_0 rfl (lv_at hl 0 rfl) ?_
  refine lv_iconst (v := 0) hx hb d_Mo_trace_1 (by decide) ?_
  obtain ⟨μ1, hμ1, hf⟩ := bd_x hf
  refine mp_0_27 hx hb hts hown hK (hDA _) hP hS q_845 d_Mo_trace_2 hμ1 (fun H locs hP hS => ?_)
  refine lv_aload_n hx hb d_Mo_trace_5 rfl (lv_at hl 0 rfl) ?_
  refine mg_0_1 hx hb hts hown hK hP q_819 d_Mo_trace_6 ?_
  obtain ⟨v2, hv2, hf⟩ := bd_x hf
  refine top_i hv2 ?_
  refine lv_istore_n (lv' := [(1, .int v2), (0, .ref (ad 0))]) hx hb d_Mo_trace_9 rfl hl (Nat.le_of_ble_eq_true rfl) rfl (fun ls hl => ?_)
  refine lv_iconst (v := 0) hx hb d_Mo_trace_10 (by decide) ?_
  refine lv_istore_n (lv' := [(2, .int (0 : Int32)), (1, .int v2), (0, .ref (ad 0))]) hx hb d_Mo_trace_11 rfl hl (Nat.le_of_ble_eq_true rfl) rfl (fun ls hl => ?_)
  refine lv_aload_n hx hb d_Mo_trace_12 rfl (lv_at hl 2 rfl) ?_
  obtain ⟨v3, hv3, hf⟩ := cl_x hf
  refine rdV (As := []) (rest := []) S K_Mo_total q_1049 (c_Mo_total hv3) hK hP ⟨rfl, rfl⟩ ⟨Nat.le_of_ble_eq_true rfl, Nat.le_of_ble_eq_true rfl⟩ (mr_0 hK hP) rfl hl.1 rfl (Nat.le_of_ble_eq_true rfl) d_Mo_trace_13 ⟨Nat.le_refl _, Nat.le_refl _⟩ ?_
  refine lv_istore_n (lv' := [(3, .int v3), (2, .int (0 : Int32)), (1, .int v2), (0, .ref (ad 0))]) hx hb d_Mo_trace_16 rfl hl (Nat.le_of_ble_eq_true rfl) rfl (fun ls hl => ?_)
  exact w_Mo_trace_17 X hDA _ _ _ _ _ _ _ _ hP hS (lv_sub (l' := [(0, .ref (ad 0)), (1, .int v2), (2, .int (0 : Int32)), (3, .int v3)]) hl [3, 2, 1, 0] rfl) hf
theorem c_Mo_trace {l : Launch} {D : va_G} {g : Nat → ClassId} {ad : Nat → Nat} {μ : Mem} {μ' : Mem} {A : Nat → Prop} {n : Nat} (hDA : ∀ μ : Mem, va_D A (WM g ad μ)) (hf : f_Mo_trace n μ = some μ') : Met l y_Mo_trace (Cond.code y_Mo_trace b_Mo_trace 7 none :: ww) rm_Mo_trace (RP D CL (TY g) (WM g ad μ) [.ref (ad 0)]) (QW D CL (WM g ad μ') A none) 0 0 A := by
  refine met_of (by decide) (Nat.le_of_ble_eq_true rfl) ?_
  intro p e s m below meth c ls X hP hl
  have hl : lv_has ls 7 [(0, .ref (ad 0))] := hl
  exact w_Mo_trace X hDA hP va_S.rf hl hf
theorem d_Mo_work_0 : decode b_Mo_work 0 = .ok (.aload_n 0, 1) := by decide +kernel
theorem d_Mo_work_1 : decode b_Mo_work 1 = .ok (.iconst 0, 1) := by decide +kernel
theorem d_Mo_work_2 : decode b_Mo_work 2 = .ok (.putfield 159, 3) := by decide +kernel
theorem d_Mo_work_5 : decode b_Mo_work 5 = .ok (.iconst 0, 1) := by decide +kernel
theorem d_Mo_work_6 : decode b_Mo_work 6 = .ok (.istore_n 2, 1) := by decide +kernel
theorem d_Mo_work_7 : decode b_Mo_work 7 = .ok (.iload_n 2, 1) := by decide +kernel
theorem d_Mo_work_8 : decode b_Mo_work 8 = .ok (.aload_n 0, 1) := by decide +kernel
theorem d_Mo_work_9 : decode b_Mo_work 9 = .ok (.getfield 129, 3) := by decide +kernel
theorem d_Mo_work_12 : decode b_Mo_work 12 = .ok (.if_icmp .ge 15, 3) := by decide +kernel
theorem d_Mo_work_15 : decode b_Mo_work 15 = .ok (.aload_n 0, 1) := by decide +kernel
theorem d_Mo_work_16 : decode b_Mo_work 16 = .ok (.iload_n 2, 1) := by decide +kernel
theorem d_Mo_work_17 : decode b_Mo_work 17 = .ok (.iload_n 1, 1) := by decide +kernel
theorem d_Mo_work_18 : decode b_Mo_work 18 = .ok (.invokevirtual 179, 3) := by decide +kernel
theorem d_Mo_work_21 : decode b_Mo_work 21 = .ok (.iinc 2 1, 3) := by decide +kernel
theorem d_Mo_work_24 : decode b_Mo_work 24 = .ok (.goto (-17), 3) := by decide +kernel
theorem d_Mo_work_27 : decode b_Mo_work 27 = .ok (.iconst 0, 1) := by decide +kernel
theorem d_Mo_work_28 : decode b_Mo_work 28 = .ok (.istore_n 2, 1) := by decide +kernel
theorem d_Mo_work_29 : decode b_Mo_work 29 = .ok (.iload_n 2, 1) := by decide +kernel
theorem d_Mo_work_30 : decode b_Mo_work 30 = .ok (.sipush 200, 3) := by decide +kernel
theorem d_Mo_work_33 : decode b_Mo_work 33 = .ok (.if_icmp .ge 24, 3) := by decide +kernel
theorem d_Mo_work_36 : decode b_Mo_work 36 = .ok (.aload_n 0, 1) := by decide +kernel
theorem d_Mo_work_37 : decode b_Mo_work 37 = .ok (.getfield 64, 3) := by decide +kernel
theorem d_Mo_work_40 : decode b_Mo_work 40 = .ok (.iload_n 2, 1) := by decide +kernel
theorem d_Mo_work_41 : decode b_Mo_work 41 = .ok (.ldc 174, 2) := by decide +kernel
theorem d_Mo_work_43 : decode b_Mo_work 43 = .ok (.iastore, 1) := by decide +kernel
theorem d_Mo_work_44 : decode b_Mo_work 44 = .ok (.aload_n 0, 1) := by decide +kernel
theorem d_Mo_work_45 : decode b_Mo_work 45 = .ok (.getfield 67, 3) := by decide +kernel
theorem d_Mo_work_48 : decode b_Mo_work 48 = .ok (.iload_n 2, 1) := by decide +kernel
theorem d_Mo_work_49 : decode b_Mo_work 49 = .ok (.lconst 0, 1) := by decide +kernel
theorem d_Mo_work_50 : decode b_Mo_work 50 = .ok (.lastore, 1) := by decide +kernel
theorem d_Mo_work_51 : decode b_Mo_work 51 = .ok (.iinc 2 1, 3) := by decide +kernel
theorem d_Mo_work_54 : decode b_Mo_work 54 = .ok (.goto (-25), 3) := by decide +kernel
theorem d_Mo_work_57 : decode b_Mo_work 57 = .ok (.aload_n 0, 1) := by decide +kernel
theorem d_Mo_work_58 : decode b_Mo_work 58 = .ok (.getfield 64, 3) := by decide +kernel
theorem d_Mo_work_61 : decode b_Mo_work 61 = .ok (.iconst 0, 1) := by decide +kernel
theorem d_Mo_work_62 : decode b_Mo_work 62 = .ok (.iconst 0, 1) := by decide +kernel
theorem d_Mo_work_63 : decode b_Mo_work 63 = .ok (.iastore, 1) := by decide +kernel
theorem d_Mo_work_64 : decode b_Mo_work 64 = .ok (.aload_n 0, 1) := by decide +kernel
theorem d_Mo_work_65 : decode b_Mo_work 65 = .ok (.getfield 67, 3) := by decide +kernel
theorem d_Mo_work_68 : decode b_Mo_work 68 = .ok (.iconst 0, 1) := by decide +kernel
theorem d_Mo_work_69 : decode b_Mo_work 69 = .ok (.lconst 1, 1) := by decide +kernel
theorem d_Mo_work_70 : decode b_Mo_work 70 = .ok (.lastore, 1) := by decide +kernel
theorem d_Mo_work_71 : decode b_Mo_work 71 = .ok (.iconst 1, 1) := by decide +kernel
theorem d_Mo_work_72 : decode b_Mo_work 72 = .ok (.istore_n 2, 1) := by decide +kernel
theorem d_Mo_work_73 : decode b_Mo_work 73 = .ok (.iconst 0, 1) := by decide +kernel
theorem d_Mo_work_74 : decode b_Mo_work 74 = .ok (.istore_n 3, 1) := by decide +kernel
theorem d_Mo_work_75 : decode b_Mo_work 75 = .ok (.iload_n 3, 1) := by decide +kernel
theorem d_Mo_work_76 : decode b_Mo_work 76 = .ok (.bipush 30, 2) := by decide +kernel
theorem d_Mo_work_78 : decode b_Mo_work 78 = .ok (.if_icmp .ge 18, 3) := by decide +kernel
theorem d_Mo_work_81 : decode b_Mo_work 81 = .ok (.iload_n 2, 1) := by decide +kernel
theorem d_Mo_work_82 : decode b_Mo_work 82 = .ok (.ifCond .eq 14, 3) := by decide +kernel
theorem d_Mo_work_85 : decode b_Mo_work 85 = .ok (.aload_n 0, 1) := by decide +kernel
theorem d_Mo_work_86 : decode b_Mo_work 86 = .ok (.invokevirtual 183, 3) := by decide +kernel
theorem d_Mo_work_89 : decode b_Mo_work 89 = .ok (.istore_n 2, 1) := by decide +kernel
theorem d_Mo_work_90 : decode b_Mo_work 90 = .ok (.iinc 3 1, 3) := by decide +kernel
theorem d_Mo_work_93 : decode b_Mo_work 93 = .ok (.goto (-18), 3) := by decide +kernel
theorem d_Mo_work_96 : decode b_Mo_work 96 = .ok (.iconst 0, 1) := by decide +kernel
theorem d_Mo_work_97 : decode b_Mo_work 97 = .ok (.istore_n 3, 1) := by decide +kernel
theorem d_Mo_work_98 : decode b_Mo_work 98 = .ok (.iload_n 3, 1) := by decide +kernel
theorem d_Mo_work_99 : decode b_Mo_work 99 = .ok (.aload_n 0, 1) := by decide +kernel
theorem d_Mo_work_100 : decode b_Mo_work 100 = .ok (.getfield 159, 3) := by decide +kernel
theorem d_Mo_work_103 : decode b_Mo_work 103 = .ok (.if_icmp .ge 106, 3) := by decide +kernel
theorem d_Mo_work_106 : decode b_Mo_work 106 = .ok (.bipush 8, 2) := by decide +kernel
theorem d_Mo_work_108 : decode b_Mo_work 108 = .ok (.aload_n 0, 1) := by decide +kernel
theorem d_Mo_work_109 : decode b_Mo_work 109 = .ok (.getfield 49, 3) := by decide +kernel
theorem d_Mo_work_112 : decode b_Mo_work 112 = .ok (.iload_n 3, 1) := by decide +kernel
theorem d_Mo_work_113 : decode b_Mo_work 113 = .ok (.iaload, 1) := by decide +kernel
theorem d_Mo_work_114 : decode b_Mo_work 114 = .ok (.aload_n 0, 1) := by decide +kernel
theorem d_Mo_work_115 : decode b_Mo_work 115 = .ok (.getfield 52, 3) := by decide +kernel
theorem d_Mo_work_118 : decode b_Mo_work 118 = .ok (.iload_n 3, 1) := by decide +kernel
theorem d_Mo_work_119 : decode b_Mo_work 119 = .ok (.iaload, 1) := by decide +kernel
theorem d_Mo_work_120 : decode b_Mo_work 120 = .ok (.iadd, 1) := by decide +kernel
theorem d_Mo_work_121 : decode b_Mo_work 121 = .ok (.imul, 1) := by decide +kernel
theorem d_Mo_work_122 : decode b_Mo_work 122 = .ok (.aload_n 0, 1) := by decide +kernel
theorem d_Mo_work_123 : decode b_Mo_work 123 = .ok (.getfield 55, 3) := by decide +kernel
theorem d_Mo_work_126 : decode b_Mo_work 126 = .ok (.iload_n 3, 1) := by decide +kernel
theorem d_Mo_work_127 : decode b_Mo_work 127 = .ok (.iaload, 1) := by decide +kernel
theorem d_Mo_work_128 : decode b_Mo_work 128 = .ok (.iadd, 1) := by decide +kernel
theorem d_Mo_work_129 : decode b_Mo_work 129 = .ok (.istore 4, 2) := by decide +kernel
theorem d_Mo_work_131 : decode b_Mo_work 131 = .ok (.iconst 0, 1) := by decide +kernel
theorem d_Mo_work_132 : decode b_Mo_work 132 = .ok (.istore 5, 2) := by decide +kernel
theorem d_Mo_work_134 : decode b_Mo_work 134 = .ok (.iload 5, 2) := by decide +kernel
theorem d_Mo_work_136 : decode b_Mo_work 136 = .ok (.bipush 8, 2) := by decide +kernel
theorem d_Mo_work_138 : decode b_Mo_work 138 = .ok (.if_icmp .ge 65, 3) := by decide +kernel
theorem d_Mo_work_141 : decode b_Mo_work 141 = .ok (.aload_n 0, 1) := by decide +kernel
theorem d_Mo_work_142 : decode b_Mo_work 142 = .ok (.iload 5, 2) := by decide +kernel
theorem d_Mo_work_144 : decode b_Mo_work 144 = .ok (.iload_n 3, 1) := by decide +kernel
theorem d_Mo_work_145 : decode b_Mo_work 145 = .ok (.invokevirtual 175, 3) := by decide +kernel
theorem d_Mo_work_148 : decode b_Mo_work 148 = .ok (.aload_n 0, 1) := by decide +kernel
theorem d_Mo_work_149 : decode b_Mo_work 149 = .ok (.getfield 64, 3) := by decide +kernel
theorem d_Mo_work_152 : decode b_Mo_work 152 = .ok (.iload 4, 2) := by decide +kernel
theorem d_Mo_work_154 : decode b_Mo_work 154 = .ok (.iaload, 1) := by decide +kernel
theorem d_Mo_work_155 : decode b_Mo_work 155 = .ok (.if_icmp .ne 42, 3) := by decide +kernel
theorem d_Mo_work_158 : decode b_Mo_work 158 = .ok (.aload_n 0, 1) := by decide +kernel
theorem d_Mo_work_159 : decode b_Mo_work 159 = .ok (.getfield 64, 3) := by decide +kernel
theorem d_Mo_work_162 : decode b_Mo_work 162 = .ok (.iload 4, 2) := by decide +kernel
theorem d_Mo_work_164 : decode b_Mo_work 164 = .ok (.iaload, 1) := by decide +kernel
theorem d_Mo_work_165 : decode b_Mo_work 165 = .ok (.ldc 174, 2) := by decide +kernel
theorem d_Mo_work_167 : decode b_Mo_work 167 = .ok (.if_icmp .eq 30, 3) := by decide +kernel
theorem d_Mo_work_170 : decode b_Mo_work 170 = .ok (.aload_n 0, 1) := by decide +kernel
theorem d_Mo_work_171 : decode b_Mo_work 171 = .ok (.getfield 67, 3) := by decide +kernel
theorem d_Mo_work_174 : decode b_Mo_work 174 = .ok (.iload 4, 2) := by decide +kernel
theorem d_Mo_work_176 : decode b_Mo_work 176 = .ok (.dup2, 1) := by decide +kernel
theorem d_Mo_work_177 : decode b_Mo_work 177 = .ok (.laload, 1) := by decide +kernel
theorem d_Mo_work_178 : decode b_Mo_work 178 = .ok (.aload_n 0, 1) := by decide +kernel
theorem d_Mo_work_179 : decode b_Mo_work 179 = .ok (.getfield 67, 3) := by decide +kernel
theorem d_Mo_work_182 : decode b_Mo_work 182 = .ok (.bipush 8, 2) := by decide +kernel
theorem d_Mo_work_184 : decode b_Mo_work 184 = .ok (.aload_n 0, 1) := by decide +kernel
theorem d_Mo_work_185 : decode b_Mo_work 185 = .ok (.getfield 49, 3) := by decide +kernel
theorem d_Mo_work_188 : decode b_Mo_work 188 = .ok (.iload_n 3, 1) := by decide +kernel
theorem d_Mo_work_189 : decode b_Mo_work 189 = .ok (.iaload, 1) := by decide +kernel
theorem d_Mo_work_190 : decode b_Mo_work 190 = .ok (.imul, 1) := by decide +kernel
theorem d_Mo_work_191 : decode b_Mo_work 191 = .ok (.iload 5, 2) := by decide +kernel
theorem d_Mo_work_193 : decode b_Mo_work 193 = .ok (.iadd, 1) := by decide +kernel
theorem d_Mo_work_194 : decode b_Mo_work 194 = .ok (.laload, 1) := by decide +kernel
theorem d_Mo_work_195 : decode b_Mo_work 195 = .ok (.ladd, 1) := by decide +kernel
theorem d_Mo_work_196 : decode b_Mo_work 196 = .ok (.lastore, 1) := by decide +kernel
theorem d_Mo_work_197 : decode b_Mo_work 197 = .ok (.iinc 5 1, 3) := by decide +kernel
theorem d_Mo_work_200 : decode b_Mo_work 200 = .ok (.goto (-66), 3) := by decide +kernel
theorem d_Mo_work_203 : decode b_Mo_work 203 = .ok (.iinc 3 1, 3) := by decide +kernel
theorem d_Mo_work_206 : decode b_Mo_work 206 = .ok (.goto (-108), 3) := by decide +kernel
theorem d_Mo_work_209 : decode b_Mo_work 209 = .ok (.aload_n 0, 1) := by decide +kernel
theorem d_Mo_work_210 : decode b_Mo_work 210 = .ok (.invokevirtual 187, 3) := by decide +kernel
theorem d_Mo_work_213 : decode b_Mo_work 213 = .ok (.return_, 1) := by decide +kernel
abbrev rm_Mo_work : Room := { frames := 3, cells := 0, slots := 0, locals := 78 }
def f_Mo_work_197 (κ98 : Mem → Int32 → Option Mem) (κ134 : Mem → Int32 → Int32 → Int32 → Option Mem) (n : Nat) (μ : Mem) (x3 : Int32) (x4 : Int32) (x5 : Int32) : Option Mem := bd (x5 + 1) (fun v1 => κ134 μ x3 x4 v1)
set_option maxHeartbeats 4000000 in
set_option maxRecDepth 100000 in
theorem w_Mo_work_197 {p : Program} {l : Launch} {e : Env} {s : State} {m : MethodId} {args : Array Value} {below : List Frame} {meth : Method} {c : Code} {D : va_G} {g : Nat → ClassId} {ad : Nat → Nat} {μ' : Mem} {A : Nat → Prop} {κ98 : Mem → Int32 → Option Mem} {κ134 : Mem → Int32 → Int32 → Int32 → Option Mem} {n : Nat} {μ : Mem} {x3 : Int32} {x4 : Int32} {x5 : Int32} {ls : Array Slot} {H : Heap} {locs : List Loc} (X : Cx p s m args meth c b_Mo_work 6 R_Mo none D CL (TY g)) (hDA : ∀ μ : Mem, va_D A (WM g ad μ)) (hκ98 : ∀ (μ : Mem) (x3 : Int32) (ls : Array Slot) (H : Heap) (locs : List Loc), va_P D CL (WM g ad μ) H → va_S A s.heap H locs → lv_has ls 6 [(0, .ref (ad 0)), (3, .int x3)] → κ98 μ x3 = some μ' → WU p l e rm_Mo_work s m args below meth c H locs D (WM g ad μ') A none (F0 m 98 ls [])) (hκ134 : ∀ (μ : Mem) (x3 : Int32) (x4 : Int32) (x5 : Int32) (ls : Array Slot) (H : Heap) (locs : List Loc), va_P D CL (WM g ad μ) H → va_S A s.heap H locs → lv_has ls 6 [(0, .ref (ad 0)), (3, .int x3), (4, .int x4), (5, .int x5)] → κ134 μ x3 x4 x5 = some μ' → WU p l e rm_Mo_work s m args below meth c H locs D (WM g ad μ') A none (F0 m 134 ls [])) (hP : va_P D CL (WM g ad μ) H) (hS : va_S A s.heap H locs) (hl : lv_has ls 6 [(0, .ref (ad 0)), (3, .int x3), (4, .int x4), (5, .int x5)]) (hf : f_Mo_work_197 κ98 κ134 n μ x3 x4 x5 = some μ') : WU p l e rm_Mo_work s m args below meth c H locs D (WM g ad μ') A none (F0 m 197 ls []) := by
  obtain ⟨S, hr, hlk, hK⟩ := id X
  obtain ⟨hx, hb, hml, hown, hts⟩ := id S
  rw [f_Mo_work_197] at hf
  obtain ⟨v1, hv1, hf⟩ := bd_x hf
  refine lv_iinc (lv' := [(5, .int v1), (0, .ref (ad 0)), (3, .int x3), (4, .int x4)]) hx hb d_Mo_work_197 hl (k := 3) rfl (show x5 + Int32.ofInt (1) = v1 from hv1) (Nat.le_of_ble_eq_true rfl) rfl (fun ls hl => ?_)
  refine lv_goto (tgt := 134) hx hb d_Mo_work_200 rfl ?_
  exact hκ134 _ _ _ _ _ _ _ hP hS (lv_sub (l' := [(0, .ref (ad 0)), (3, .int x3), (4, .int x4), (5, .int v1)]) hl [1, 2, 3, 0] rfl) hf
def f_Mo_work_134 (κ98 : Mem → Int32 → Option Mem) : Nat → Mem → Int32 → Int32 → Int32 → Option Mem
  | 0, _, _, _, _ => none
  | n + 1, μ, x3, x4, x5 => (if (8 : Int32) ≤ x5 then (bd (x3 + 1) (fun v1 => κ98 μ v1)) else (cl (f_Mo_through n μ x5 x3) (fun v2 => gd (inb x4 200) ((if v2 = (μ.1 19 x4.toNatClampNeg) then (gd (inb x4 200) ((if (μ.1 19 x4.toNatClampNeg) = (1073741824 : Int32) then (f_Mo_work_197 κ98 (f_Mo_work_134 κ98 n) n μ x3 x4 x5) else (gd (inb x4 200) (gd (inb x3 700) (gd (inb (((8 : Int32) * (μ.1 14 x3.toNatClampNeg)) + x5) 200) (gd (inb x4 200) (bd (wl μ 20 x4.toNatClampNeg ((μ.2 20 x4.toNatClampNeg) + (μ.2 20 (((8 : Int32) * (μ.1 14 x3.toNatClampNeg)) + x5).toNatClampNeg))) (fun μ3 => f_Mo_work_197 κ98 (f_Mo_work_134 κ98 n) n μ3 x3 x4 x5))))))))) else (f_Mo_work_197 κ98 (f_Mo_work_134 κ98 n) n μ x3 x4 x5))))))
set_option maxHeartbeats 4000000 in
set_option maxRecDepth 100000 in
theorem w_Mo_work_134 {p : Program} {l : Launch} {e : Env} {s : State} {m : MethodId} {args : Array Value} {below : List Frame} {meth : Method} {c : Code} {D : va_G} {g : Nat → ClassId} {ad : Nat → Nat} {μ' : Mem} {A : Nat → Prop} {κ98 : Mem → Int32 → Option Mem} (X : Cx p s m args meth c b_Mo_work 6 R_Mo none D CL (TY g)) (hDA : ∀ μ : Mem, va_D A (WM g ad μ)) (hκ98 : ∀ (μ : Mem) (x3 : Int32) (ls : Array Slot) (H : Heap) (locs : List Loc), va_P D CL (WM g ad μ) H → va_S A s.heap H locs → lv_has ls 6 [(0, .ref (ad 0)), (3, .int x3)] → κ98 μ x3 = some μ' → WU p l e rm_Mo_work s m args below meth c H locs D (WM g ad μ') A none (F0 m 98 ls [])) : ∀ (n : Nat) (μ : Mem) (x3 : Int32) (x4 : Int32) (x5 : Int32) (ls : Array Slot) (H : Heap) (locs : List Loc), va_P D CL (WM g ad μ) H → va_S A s.heap H locs → lv_has ls 6 [(0, .ref (ad 0)), (3, .int x3), (4, .int x4), (5, .int x5)] → f_Mo_work_134 κ98 n μ x3 x4 x5 = some μ' → WU p l e rm_Mo_work s m args below meth c H locs D (WM g ad μ') A none (F0 m 134 ls []) := by
  intro n
  induction n with
  | zero => intro μ x3 x4 x5 ls H locs hP hS hl hf; rw [f_Mo_work_134] at hf; cases hf
  | succ n ih =>
    intro μ x3 x4 x5 ls H locs hP hS hl hf
    obtain ⟨S, hr, hlk, hK⟩ := id X
    obtain ⟨hx, hb, hml, hown, hts⟩ := id S
    rw [f_Mo_work_134] at hf
    refine lv_iload hx hb d_Mo_work_134 (lv_at hl 3 rfl) ?_
    refine lv_bipush (v := 8) hx hb d_Mo_work_136 (by decide) ?_
    refine lv_icmp_ge (tgt := 203) hx hb d_Mo_work_138 rfl (fun hc => ?_) (fun hc => ?_)
    · replace hf := br_p hc hf
      obtain ⟨v1, hv1, hf⟩ := bd_x hf
      refine lv_iinc (lv' := [(3, .int v1), (0, .ref (ad 0)), (4, .int x4), (5, .int x5)]) hx hb d_Mo_work_203 hl (k := 1) rfl (show x3 + Int32.ofInt (1) = v1 from hv1) (Nat.le_of_ble_eq_true rfl) rfl (fun ls hl => ?_)
      refine lv_goto (tgt := 98) hx hb d_Mo_work_206 rfl ?_
      exact hκ98 _ _ _ _ _ hP hS (lv_sub (l' := [(0, .ref (ad 0)), (3, .int v1)]) hl [1, 0] rfl) hf
    · replace hf := br_n hc hf
      refine lv_aload_n hx hb d_Mo_work_141 rfl (lv_at hl 0 rfl) ?_
      refine lv_iload hx hb d_Mo_work_142 (lv_at hl 3 rfl) ?_
      refine lv_iload_n hx hb d_Mo_work_144 rfl (lv_at hl 1 rfl) ?_
      obtain ⟨v2, hv2, hf⟩ := cl_x hf
      refine rdV (As := [.int x5, .int x3]) (rest := []) S K_Mo_through q_1041 (c_Mo_through hv2) hK hP ⟨rfl, rfl⟩ ⟨Nat.le_of_ble_eq_true rfl, Nat.le_of_ble_eq_true rfl⟩ (mr_0 hK hP) rfl hl.1 rfl (Nat.le_of_ble_eq_true rfl) d_Mo_work_145 ⟨Nat.le_refl _, Nat.le_refl _⟩ ?_
      refine lv_aload_n hx hb d_Mo_work_148 rfl (lv_at hl 0 rfl) ?_
      refine mg_0_24 hx hb hts hown hK hP q_842 d_Mo_work_149 ?_
      refine lv_iload hx hb d_Mo_work_152 (lv_at hl 2 rfl) ?_
      obtain ⟨hi, hf⟩ := gd_x hf
      refine ml_19 hx hb hK hP (inb_in hi) d_Mo_work_154 ?_
      refine lv_icmp_ne (tgt := 197) hx hb d_Mo_work_155 rfl (fun hc => ?_) (fun hc => ?_)
      · replace hf := br_n hc hf
        exact w_Mo_work_197 X hDA hκ98 ih hP hS (lv_sub (l' := [(0, .ref (ad 0)), (3, .int x3), (4, .int x4), (5, .int x5)]) hl [0, 1, 2, 3] rfl) hf
      · replace hf := br_p hc hf
        refine lv_aload_n hx hb d_Mo_work_158 rfl (lv_at hl 0 rfl) ?_
        refine mg_0_24 hx hb hts hown hK hP q_842 d_Mo_work_159 ?_
        refine lv_iload hx hb d_Mo_work_162 (lv_at hl 2 rfl) ?_
        obtain ⟨hi, hf⟩ := gd_x hf
        refine ml_19 hx hb hK hP (inb_in hi) d_Mo_work_164 ?_
        refine lv_ldc (v := 1073741824) hx hb hown (hts _ q_1036) d_Mo_work_165 ?_
        refine lv_icmp_eq (tgt := 197) hx hb d_Mo_work_167 rfl (fun hc => ?_) (fun hc => ?_)
        · replace hf := br_p hc hf
          exact w_Mo_work_197 X hDA hκ98 ih hP hS (lv_sub (l' := [(0, .ref (ad 0)), (3, .int x3), (4, .int x4), (5, .int x5)]) hl [0, 1, 2, 3] rfl) hf
        · replace hf := br_n hc hf
          refine lv_aload_n hx hb d_Mo_work_170 rfl (lv_at hl 0 rfl) ?_
          refine mg_0_25 hx hb hts hown hK hP q_843 d_Mo_work_171 ?_
          refine lv_iload hx hb d_Mo_work_174 (lv_at hl 2 rfl) ?_
          refine lv_dup2_11 hx hb d_Mo_work_176 rfl rfl ?_
          obtain ⟨hi, hf⟩ := gd_x hf
          refine ml_20 hx hb hK hP (inb_in hi) d_Mo_work_177 ?_
          refine lv_aload_n hx hb d_Mo_work_178 rfl (lv_at hl 0 rfl) ?_
          refine mg_0_25 hx hb hts hown hK hP q_843 d_Mo_work_179 ?_
          refine lv_bipush (v := 8) hx hb d_Mo_work_182 (by decide) ?_
          refine lv_aload_n hx hb d_Mo_work_184 rfl (lv_at hl 0 rfl) ?_
          refine mg_0_18 hx hb hts hown hK hP q_836 d_Mo_work_185 ?_
          refine lv_iload_n hx hb d_Mo_work_188 rfl (lv_at hl 1 rfl) ?_
          obtain ⟨hi, hf⟩ := gd_x hf
          refine ml_14 hx hb hK hP (inb_in hi) d_Mo_work_189 ?_
          refine lv_imul hx hb d_Mo_work_190 ?_
          refine lv_iload hx hb d_Mo_work_191 (lv_at hl 3 rfl) ?_
          refine lv_iadd hx hb d_Mo_work_193 ?_
          obtain ⟨hi, hf⟩ := gd_x hf
          refine ml_20 hx hb hK hP (inb_in hi) d_Mo_work_194 ?_
          refine lv_ladd hx hb d_Mo_work_195 ?_
          obtain ⟨hi, hf⟩ := gd_x hf
          obtain ⟨μ3, hμ3, hf⟩ := bd_x hf
          refine ms_20 hx hb hK (hDA _) hP hS (inb_in hi) d_Mo_work_196 hμ3 (fun H locs hP hS => ?_)
          exact w_Mo_work_197 X hDA hκ98 ih hP hS (lv_sub (l' := [(0, .ref (ad 0)), (3, .int x3), (4, .int x4), (5, .int x5)]) hl [0, 1, 2, 3] rfl) hf
def f_Mo_work_98 : Nat → Mem → Int32 → Option Mem
  | 0, _, _ => none
  | n + 1, μ, x3 => (if (μ.1 0 23) ≤ x3 then (cl (f_Mo_trace n μ) (fun μ2 => some μ2)) else (gd (inb x3 700) (gd (inb x3 700) (gd (inb x3 700) (bd (((8 : Int32) * ((μ.1 14 x3.toNatClampNeg) + (μ.1 15 x3.toNatClampNeg))) + (μ.1 16 x3.toNatClampNeg)) (fun v3 => f_Mo_work_134 (f_Mo_work_98 n) n μ x3 v3 (0 : Int32)))))))
set_option maxHeartbeats 4000000 in
set_option maxRecDepth 100000 in
theorem w_Mo_work_98 {p : Program} {l : Launch} {e : Env} {s : State} {m : MethodId} {args : Array Value} {below : List Frame} {meth : Method} {c : Code} {D : va_G} {g : Nat → ClassId} {ad : Nat → Nat} {μ' : Mem} {A : Nat → Prop} (X : Cx p s m args meth c b_Mo_work 6 R_Mo none D CL (TY g)) (hDA : ∀ μ : Mem, va_D A (WM g ad μ)) : ∀ (n : Nat) (μ : Mem) (x3 : Int32) (ls : Array Slot) (H : Heap) (locs : List Loc), va_P D CL (WM g ad μ) H → va_S A s.heap H locs → lv_has ls 6 [(0, .ref (ad 0)), (3, .int x3)] → f_Mo_work_98 n μ x3 = some μ' → WU p l e rm_Mo_work s m args below meth c H locs D (WM g ad μ') A none (F0 m 98 ls []) := by
  intro n
  induction n with
  | zero => intro μ x3 ls H locs hP hS hl hf; rw [f_Mo_work_98] at hf; cases hf
  | succ n ih =>
    intro μ x3 ls H locs hP hS hl hf
    obtain ⟨S, hr, hlk, hK⟩ := id X
    obtain ⟨hx, hb, hml, hown, hts⟩ := id S
    rw [f_Mo_work_98] at hf
    refine lv_iload_n hx hb d_Mo_work_98 rfl (lv_at hl 1 rfl) ?_
    refine lv_aload_n hx hb d_Mo_work_99 rfl (lv_at hl 0 rfl) ?_
    refine mg_0_23 hx hb hts hown hK hP q_841 d_Mo_work_100 ?_
    refine lv_icmp_ge (tgt := 209) hx hb d_Mo_work_103 rfl (fun hc => ?_) (fun hc => ?_)
    · replace hf := br_p hc hf
      refine lv_aload_n hx hb d_Mo_work_209 rfl (lv_at hl 0 rfl) ?_
      obtain ⟨μ2, hv1, hf⟩ := cl_x hf
      refine wrV (As := []) (rest := []) S K_Mo_trace q_1045 (c_Mo_trace hDA hv1) hK hP hS ⟨rfl, rfl⟩ ⟨Nat.le_of_ble_eq_true rfl, Nat.le_of_ble_eq_true rfl⟩ (mr_0 hK hP) rfl hl.1 rfl (Nat.le_of_ble_eq_true rfl) d_Mo_work_210 ⟨Nat.le_refl _, Nat.le_refl _⟩ (fun H locs hP hS => ?_)
      obtain rfl := Option.some.inj hf
      exact W.vret hx hb hr (fun t ht _ => ⟨rfl, by rw [ht]; exact hP, hS.F ht⟩) hS.2.2 d_Mo_work_213
    · replace hf := br_n hc hf
      refine lv_bipush (v := 8) hx hb d_Mo_work_106 (by decide) ?_
      refine lv_aload_n hx hb d_Mo_work_108 rfl (lv_at hl 0 rfl) ?_
      refine mg_0_18 hx hb hts hown hK hP q_836 d_Mo_work_109 ?_
      refine lv_iload_n hx hb d_Mo_work_112 rfl (lv_at hl 1 rfl) ?_
      obtain ⟨hi, hf⟩ := gd_x hf
      refine ml_14 hx hb hK hP (inb_in hi) d_Mo_work_113 ?_
      refine lv_aload_n hx hb d_Mo_work_114 rfl (lv_at hl 0 rfl) ?_
      refine mg_0_19 hx hb hts hown hK hP q_837 d_Mo_work_115 ?_
      refine lv_iload_n hx hb d_Mo_work_118 rfl (lv_at hl 1 rfl) ?_
      obtain ⟨hi, hf⟩ := gd_x hf
      refine ml_15 hx hb hK hP (inb_in hi) d_Mo_work_119 ?_
      refine lv_iadd hx hb d_Mo_work_120 ?_
      refine lv_imul hx hb d_Mo_work_121 ?_
      refine lv_aload_n hx hb d_Mo_work_122 rfl (lv_at hl 0 rfl) ?_
      refine mg_0_20 hx hb hts hown hK hP q_838 d_Mo_work_123 ?_
      refine lv_iload_n hx hb d_Mo_work_126 rfl (lv_at hl 1 rfl) ?_
      obtain ⟨hi, hf⟩ := gd_x hf
      refine ml_16 hx hb hK hP (inb_in hi) d_Mo_work_127 ?_
      refine lv_iadd hx hb d_Mo_work_128 ?_
      obtain ⟨v3, hv3, hf⟩ := bd_x hf
      refine top_i hv3 ?_
      refine lv_istore (lv' := [(4, .int v3), (0, .ref (ad 0)), (3, .int x3)]) hx hb d_Mo_work_129 hl (Nat.le_of_ble_eq_true rfl) rfl (fun ls hl => ?_)
      refine lv_iconst (v := 0) hx hb d_Mo_work_131 (by decide) ?_
      refine lv_istore (lv' := [(5, .int (0 : Int32)), (4, .int v3), (0, .ref (ad 0)), (3, .int x3)]) hx hb d_Mo_work_132 hl (Nat.le_of_ble_eq_true rfl) rfl (fun ls hl => ?_)
      exact w_Mo_work_134 X hDA ih _ _ _ _ _ _ _ _ hP hS (lv_sub (l' := [(0, .ref (ad 0)), (3, .int x3), (4, .int v3), (5, .int (0 : Int32))]) hl [2, 3, 1, 0] rfl) hf
def f_Mo_work_96 (n : Nat) (μ : Mem) : Option Mem := f_Mo_work_98 n μ (0 : Int32)
set_option maxHeartbeats 4000000 in
set_option maxRecDepth 100000 in
theorem w_Mo_work_96 {p : Program} {l : Launch} {e : Env} {s : State} {m : MethodId} {args : Array Value} {below : List Frame} {meth : Method} {c : Code} {D : va_G} {g : Nat → ClassId} {ad : Nat → Nat} {μ' : Mem} {A : Nat → Prop} {n : Nat} {μ : Mem} {ls : Array Slot} {H : Heap} {locs : List Loc} (X : Cx p s m args meth c b_Mo_work 6 R_Mo none D CL (TY g)) (hDA : ∀ μ : Mem, va_D A (WM g ad μ)) (hP : va_P D CL (WM g ad μ) H) (hS : va_S A s.heap H locs) (hl : lv_has ls 6 [(0, .ref (ad 0))]) (hf : f_Mo_work_96 n μ = some μ') : WU p l e rm_Mo_work s m args below meth c H locs D (WM g ad μ') A none (F0 m 96 ls []) := by
  obtain ⟨S, hr, hlk, hK⟩ := id X
  obtain ⟨hx, hb, hml, hown, hts⟩ := id S
  rw [f_Mo_work_96] at hf
  refine lv_iconst (v := 0) hx hb d_Mo_work_96 (by decide) ?_
  refine lv_istore_n (lv' := [(3, .int (0 : Int32)), (0, .ref (ad 0))]) hx hb d_Mo_work_97 rfl hl (Nat.le_of_ble_eq_true rfl) rfl (fun ls hl => ?_)
  exact w_Mo_work_98 X hDA _ _ _ _ _ _ hP hS (lv_sub (l' := [(0, .ref (ad 0)), (3, .int (0 : Int32))]) hl [1, 0] rfl) hf
def f_Mo_work_75 : Nat → Mem → Bool → Int32 → Option Mem
  | 0, _, _, _ => none
  | n + 1, μ, x2, x3 => (if (30 : Int32) ≤ x3 then (f_Mo_work_96 n μ) else (if (bz x2) = 0 then (f_Mo_work_96 n μ) else (cl2 (f_Mo_shorten n μ) (fun v1 μ2 => bd (x3 + 1) (fun v3 => (f_Mo_work_75 n) μ2 v1 v3)))))
set_option maxHeartbeats 4000000 in
set_option maxRecDepth 100000 in
theorem w_Mo_work_75 {p : Program} {l : Launch} {e : Env} {s : State} {m : MethodId} {args : Array Value} {below : List Frame} {meth : Method} {c : Code} {D : va_G} {g : Nat → ClassId} {ad : Nat → Nat} {μ' : Mem} {A : Nat → Prop} (X : Cx p s m args meth c b_Mo_work 6 R_Mo none D CL (TY g)) (hDA : ∀ μ : Mem, va_D A (WM g ad μ)) : ∀ (n : Nat) (μ : Mem) (x2 : Bool) (x3 : Int32) (ls : Array Slot) (H : Heap) (locs : List Loc), va_P D CL (WM g ad μ) H → va_S A s.heap H locs → lv_has ls 6 [(0, .ref (ad 0)), (2, .int (bz x2)), (3, .int x3)] → f_Mo_work_75 n μ x2 x3 = some μ' → WU p l e rm_Mo_work s m args below meth c H locs D (WM g ad μ') A none (F0 m 75 ls []) := by
  intro n
  induction n with
  | zero => intro μ x2 x3 ls H locs hP hS hl hf; rw [f_Mo_work_75] at hf; cases hf
  | succ n ih =>
    intro μ x2 x3 ls H locs hP hS hl hf
    obtain ⟨S, hr, hlk, hK⟩ := id X
    obtain ⟨hx, hb, hml, hown, hts⟩ := id S
    rw [f_Mo_work_75] at hf
    refine lv_iload_n hx hb d_Mo_work_75 rfl (lv_at hl 2 rfl) ?_
    refine lv_bipush (v := 30) hx hb d_Mo_work_76 (by decide) ?_
    refine lv_icmp_ge (tgt := 96) hx hb d_Mo_work_78 rfl (fun hc => ?_) (fun hc => ?_)
    · replace hf := br_p hc hf
      exact w_Mo_work_96 X hDA hP hS (lv_sub (l' := [(0, .ref (ad 0))]) hl [0] rfl) hf
    · replace hf := br_n hc hf
      refine lv_iload_n hx hb d_Mo_work_81 rfl (lv_at hl 1 rfl) ?_
      refine lv_if_eq (tgt := 96) hx hb d_Mo_work_82 rfl (fun hc => ?_) (fun hc => ?_)
      · replace hf := br_p hc hf
        exact w_Mo_work_96 X hDA hP hS (lv_sub (l' := [(0, .ref (ad 0))]) hl [0] rfl) hf
      · replace hf := br_n hc hf
        refine lv_aload_n hx hb d_Mo_work_85 rfl (lv_at hl 0 rfl) ?_
        obtain ⟨v1, μ2, hv1, hf⟩ := cl2_x hf
        refine wrV (As := []) (rest := []) S K_Mo_shorten q_1037 (c_Mo_shorten hDA hv1) hK hP hS ⟨rfl, rfl⟩ ⟨Nat.le_of_ble_eq_true rfl, Nat.le_of_ble_eq_true rfl⟩ (mr_0 hK hP) rfl hl.1 rfl (Nat.le_of_ble_eq_true rfl) d_Mo_work_86 ⟨Nat.le_refl _, Nat.le_refl _⟩ (fun H locs hP hS => ?_)
        refine lv_istore_n (lv' := [(2, .int (bz v1)), (0, .ref (ad 0)), (3, .int x3)]) hx hb d_Mo_work_89 rfl hl (Nat.le_of_ble_eq_true rfl) rfl (fun ls hl => ?_)
        obtain ⟨v3, hv3, hf⟩ := bd_x hf
        refine lv_iinc (lv' := [(3, .int v3), (2, .int (bz v1)), (0, .ref (ad 0))]) hx hb d_Mo_work_90 hl (k := 2) rfl (show x3 + Int32.ofInt (1) = v3 from hv3) (Nat.le_of_ble_eq_true rfl) rfl (fun ls hl => ?_)
        refine lv_goto (tgt := 75) hx hb d_Mo_work_93 rfl ?_
        exact ih _ _ _ _ _ _ hP hS (lv_sub (l' := [(0, .ref (ad 0)), (2, .int (bz v1)), (3, .int v3)]) hl [2, 1, 0] rfl) hf
def f_Mo_work_29 : Nat → Mem → Int32 → Option Mem
  | 0, _, _ => none
  | n + 1, μ, x2 => (if (200 : Int32) ≤ x2 then (gd (inb (0 : Int32) 200) (bd (wi μ 19 (0 : Int32).toNatClampNeg (0 : Int32)) (fun μ1 => gd (inb (0 : Int32) 200) (bd (wl μ1 20 (0 : Int32).toNatClampNeg (1 : Int64)) (fun μ2 => f_Mo_work_75 n μ2 true (0 : Int32)))))) else (gd (inb x2 200) (bd (wi μ 19 x2.toNatClampNeg (1073741824 : Int32)) (fun μ3 => gd (inb x2 200) (bd (wl μ3 20 x2.toNatClampNeg (0 : Int64)) (fun μ4 => bd (x2 + 1) (fun v5 => (f_Mo_work_29 n) μ4 v5)))))))
set_option maxHeartbeats 4000000 in
set_option maxRecDepth 100000 in
theorem w_Mo_work_29 {p : Program} {l : Launch} {e : Env} {s : State} {m : MethodId} {args : Array Value} {below : List Frame} {meth : Method} {c : Code} {D : va_G} {g : Nat → ClassId} {ad : Nat → Nat} {μ' : Mem} {A : Nat → Prop} (X : Cx p s m args meth c b_Mo_work 6 R_Mo none D CL (TY g)) (hDA : ∀ μ : Mem, va_D A (WM g ad μ)) : ∀ (n : Nat) (μ : Mem) (x2 : Int32) (ls : Array Slot) (H : Heap) (locs : List Loc), va_P D CL (WM g ad μ) H → va_S A s.heap H locs → lv_has ls 6 [(0, .ref (ad 0)), (2, .int x2)] → f_Mo_work_29 n μ x2 = some μ' → WU p l e rm_Mo_work s m args below meth c H locs D (WM g ad μ') A none (F0 m 29 ls []) := by
  intro n
  induction n with
  | zero => intro μ x2 ls H locs hP hS hl hf; rw [f_Mo_work_29] at hf; cases hf
  | succ n ih =>
    intro μ x2 ls H locs hP hS hl hf
    obtain ⟨S, hr, hlk, hK⟩ := id X
    obtain ⟨hx, hb, hml, hown, hts⟩ := id S
    rw [f_Mo_work_29] at hf
    refine lv_iload_n hx hb d_Mo_work_29 rfl (lv_at hl 1 rfl) ?_
    refine lv_sipush (v := 200) hx hb d_Mo_work_30 (by decide) ?_
    refine lv_icmp_ge (tgt := 57) hx hb d_Mo_work_33 rfl (fun hc => ?_) (fun hc => ?_)
    · replace hf := br_p hc hf
      refine lv_aload_n hx hb d_Mo_work_57 rfl (lv_at hl 0 rfl) ?_
      refine mg_0_24 hx hb hts hown hK hP q_842 d_Mo_work_58 ?_
      refine lv_iconst (v := 0) hx hb d_Mo_work_61 (by decide) ?_
      refine lv_iconst (v := 0) hx hb d_Mo_work_62 (by decide) ?_
      obtain ⟨hi, hf⟩ := gd_x hf
      obtain ⟨μ1, hμ1, hf⟩ := bd_x hf
      refine ms_19 hx hb hK (hDA _) hP hS (inb_in hi) d_Mo_work_63 hμ1 (fun H locs hP hS => ?_)
      refine lv_aload_n hx hb d_Mo_work_64 rfl (lv_at hl 0 rfl) ?_
      refine mg_0_25 hx hb hts hown hK hP q_843 d_Mo_work_65 ?_
      refine lv_iconst (v := 0) hx hb d_Mo_work_68 (by decide) ?_
      refine lv_lconst (v := 1) hx hb d_Mo_work_69 (by decide) ?_
      obtain ⟨hi, hf⟩ := gd_x hf
      obtain ⟨μ2, hμ2, hf⟩ := bd_x hf
      refine ms_20 hx hb hK (hDA _) hP hS (inb_in hi) d_Mo_work_70 hμ2 (fun H locs hP hS => ?_)
      refine lv_iconst (v := 1) hx hb d_Mo_work_71 (by decide) ?_
      refine lv_istore_n (lv' := [(2, .int (1 : Int32)), (0, .ref (ad 0))]) hx hb d_Mo_work_72 rfl hl (Nat.le_of_ble_eq_true rfl) rfl (fun ls hl => ?_)
      refine lv_iconst (v := 0) hx hb d_Mo_work_73 (by decide) ?_
      refine lv_istore_n (lv' := [(3, .int (0 : Int32)), (2, .int (1 : Int32)), (0, .ref (ad 0))]) hx hb d_Mo_work_74 rfl hl (Nat.le_of_ble_eq_true rfl) rfl (fun ls hl => ?_)
      exact w_Mo_work_75 X hDA _ _ _ _ _ _ _ hP hS (lv_sub (l' := [(0, .ref (ad 0)), (2, .int (bz true)), (3, .int (0 : Int32))]) hl [2, 1, 0] rfl) hf
    · replace hf := br_n hc hf
      refine lv_aload_n hx hb d_Mo_work_36 rfl (lv_at hl 0 rfl) ?_
      refine mg_0_24 hx hb hts hown hK hP q_842 d_Mo_work_37 ?_
      refine lv_iload_n hx hb d_Mo_work_40 rfl (lv_at hl 1 rfl) ?_
      refine lv_ldc (v := 1073741824) hx hb hown (hts _ q_1036) d_Mo_work_41 ?_
      obtain ⟨hi, hf⟩ := gd_x hf
      obtain ⟨μ3, hμ3, hf⟩ := bd_x hf
      refine ms_19 hx hb hK (hDA _) hP hS (inb_in hi) d_Mo_work_43 hμ3 (fun H locs hP hS => ?_)
      refine lv_aload_n hx hb d_Mo_work_44 rfl (lv_at hl 0 rfl) ?_
      refine mg_0_25 hx hb hts hown hK hP q_843 d_Mo_work_45 ?_
      refine lv_iload_n hx hb d_Mo_work_48 rfl (lv_at hl 1 rfl) ?_
      refine lv_lconst (v := 0) hx hb d_Mo_work_49 (by decide) ?_
      obtain ⟨hi, hf⟩ := gd_x hf
      obtain ⟨μ4, hμ4, hf⟩ := bd_x hf
      refine ms_20 hx hb hK (hDA _) hP hS (inb_in hi) d_Mo_work_50 hμ4 (fun H locs hP hS => ?_)
      obtain ⟨v5, hv5, hf⟩ := bd_x hf
      refine lv_iinc (lv' := [(2, .int v5), (0, .ref (ad 0))]) hx hb d_Mo_work_51 hl (k := 1) rfl (show x2 + Int32.ofInt (1) = v5 from hv5) (Nat.le_of_ble_eq_true rfl) rfl (fun ls hl => ?_)
      refine lv_goto (tgt := 29) hx hb d_Mo_work_54 rfl ?_
      exact ih _ _ _ _ _ hP hS (lv_sub (l' := [(0, .ref (ad 0)), (2, .int v5)]) hl [1, 0] rfl) hf
def f_Mo_work_7 : Nat → Mem → Int32 → Int32 → Option Mem
  | 0, _, _, _ => none
  | n + 1, μ, x1, x2 => (if (μ.1 0 1) ≤ x2 then (f_Mo_work_29 n μ (0 : Int32)) else (cl (f_Mo_nodesAt n μ x2 x1) (fun μ2 => bd (x2 + 1) (fun v3 => (f_Mo_work_7 n) μ2 x1 v3))))
set_option maxHeartbeats 4000000 in
set_option maxRecDepth 100000 in
theorem w_Mo_work_7 {p : Program} {l : Launch} {e : Env} {s : State} {m : MethodId} {args : Array Value} {below : List Frame} {meth : Method} {c : Code} {D : va_G} {g : Nat → ClassId} {ad : Nat → Nat} {μ' : Mem} {A : Nat → Prop} (X : Cx p s m args meth c b_Mo_work 6 R_Mo none D CL (TY g)) (hDA : ∀ μ : Mem, va_D A (WM g ad μ)) : ∀ (n : Nat) (μ : Mem) (x1 : Int32) (x2 : Int32) (ls : Array Slot) (H : Heap) (locs : List Loc), va_P D CL (WM g ad μ) H → va_S A s.heap H locs → lv_has ls 6 [(0, .ref (ad 0)), (1, .int x1), (2, .int x2)] → f_Mo_work_7 n μ x1 x2 = some μ' → WU p l e rm_Mo_work s m args below meth c H locs D (WM g ad μ') A none (F0 m 7 ls []) := by
  intro n
  induction n with
  | zero => intro μ x1 x2 ls H locs hP hS hl hf; rw [f_Mo_work_7] at hf; cases hf
  | succ n ih =>
    intro μ x1 x2 ls H locs hP hS hl hf
    obtain ⟨S, hr, hlk, hK⟩ := id X
    obtain ⟨hx, hb, hml, hown, hts⟩ := id S
    rw [f_Mo_work_7] at hf
    refine lv_iload_n hx hb d_Mo_work_7 rfl (lv_at hl 2 rfl) ?_
    refine lv_aload_n hx hb d_Mo_work_8 rfl (lv_at hl 0 rfl) ?_
    refine mg_0_1 hx hb hts hown hK hP q_819 d_Mo_work_9 ?_
    refine lv_icmp_ge (tgt := 27) hx hb d_Mo_work_12 rfl (fun hc => ?_) (fun hc => ?_)
    · replace hf := br_p hc hf
      refine lv_iconst (v := 0) hx hb d_Mo_work_27 (by decide) ?_
      refine lv_istore_n (lv' := [(2, .int (0 : Int32)), (0, .ref (ad 0)), (1, .int x1)]) hx hb d_Mo_work_28 rfl hl (Nat.le_of_ble_eq_true rfl) rfl (fun ls hl => ?_)
      exact w_Mo_work_29 X hDA _ _ _ _ _ _ hP hS (lv_sub (l' := [(0, .ref (ad 0)), (2, .int (0 : Int32))]) hl [1, 0] rfl) hf
    · replace hf := br_n hc hf
      refine lv_aload_n hx hb d_Mo_work_15 rfl (lv_at hl 0 rfl) ?_
      refine lv_iload_n hx hb d_Mo_work_16 rfl (lv_at hl 2 rfl) ?_
      refine lv_iload_n hx hb d_Mo_work_17 rfl (lv_at hl 1 rfl) ?_
      obtain ⟨μ2, hv1, hf⟩ := cl_x hf
      refine wrV (As := [.int x2, .int x1]) (rest := []) S K_Mo_nodesAt q_1020 (c_Mo_nodesAt hDA hv1) hK hP hS ⟨rfl, rfl⟩ ⟨Nat.le_of_ble_eq_true rfl, Nat.le_of_ble_eq_true rfl⟩ (mr_0 hK hP) rfl hl.1 rfl (Nat.le_of_ble_eq_true rfl) d_Mo_work_18 ⟨Nat.le_refl _, Nat.le_refl _⟩ (fun H locs hP hS => ?_)
      obtain ⟨v3, hv3, hf⟩ := bd_x hf
      refine lv_iinc (lv' := [(2, .int v3), (0, .ref (ad 0)), (1, .int x1)]) hx hb d_Mo_work_21 hl (k := 2) rfl (show x2 + Int32.ofInt (1) = v3 from hv3) (Nat.le_of_ble_eq_true rfl) rfl (fun ls hl => ?_)
      refine lv_goto (tgt := 7) hx hb d_Mo_work_24 rfl ?_
      exact ih _ _ _ _ _ _ hP hS (lv_sub (l' := [(0, .ref (ad 0)), (1, .int x1), (2, .int v3)]) hl [1, 2, 0] rfl) hf
def f_Mo_work (n : Nat) (μ : Mem) (a1 : Int32) : Option Mem := bd (wi μ 0 23 (0 : Int32)) (fun μ1 => f_Mo_work_7 n μ1 a1 (0 : Int32))
set_option maxHeartbeats 4000000 in
set_option maxRecDepth 100000 in
theorem w_Mo_work {p : Program} {l : Launch} {e : Env} {s : State} {m : MethodId} {args : Array Value} {below : List Frame} {meth : Method} {c : Code} {D : va_G} {g : Nat → ClassId} {ad : Nat → Nat} {μ' : Mem} {A : Nat → Prop} {n : Nat} {μ : Mem} {a1 : Int32} {ls : Array Slot} {H : Heap} {locs : List Loc} (X : Cx p s m args meth c b_Mo_work 6 R_Mo none D CL (TY g)) (hDA : ∀ μ : Mem, va_D A (WM g ad μ)) (hP : va_P D CL (WM g ad μ) H) (hS : va_S A s.heap H locs) (hl : lv_has ls 6 [(0, .ref (ad 0)), (1, .int a1)]) (hf : f_Mo_work n μ a1 = some μ') : WU p l e rm_Mo_work s m args below meth c H locs D (WM g ad μ') A none (F0 m 0 ls []) := by
  obtain ⟨S, hr, hlk, hK⟩ := id X
  obtain ⟨hx, hb, hml, hown, hts⟩ := id S
  rw [f_Mo_work] at hf
  refine lv_aload_n hx hb d_Mo_work_0 rfl (lv_at hl 0 rfl) ?_
  refine lv_iconst (v := 0) hx hb d_Mo_work_1 (by decide) ?_
  obtain ⟨μ1, hμ1, hf⟩ := bd_x hf
  refine mp_0_23 hx hb hts hown hK (hDA _) hP hS q_841 d_Mo_work_2 hμ1 (fun H locs hP hS => ?_)
  refine lv_iconst (v := 0) hx hb d_Mo_work_5 (by decide) ?_
  refine lv_istore_n (lv' := [(2, .int (0 : Int32)), (0, .ref (ad 0)), (1, .int a1)]) hx hb d_Mo_work_6 rfl hl (Nat.le_of_ble_eq_true rfl) rfl (fun ls hl => ?_)
  exact w_Mo_work_7 X hDA _ _ _ _ _ _ _ hP hS (lv_sub (l' := [(0, .ref (ad 0)), (1, .int a1), (2, .int (0 : Int32))]) hl [1, 2, 0] rfl) hf
theorem c_Mo_work {l : Launch} {D : va_G} {g : Nat → ClassId} {ad : Nat → Nat} {μ : Mem} {μ' : Mem} {A : Nat → Prop} {n : Nat} {a1 : Int32} (hDA : ∀ μ : Mem, va_D A (WM g ad μ)) (hf : f_Mo_work n μ a1 = some μ') : Met l y_Mo_work (Cond.code y_Mo_work b_Mo_work 6 none :: ww) rm_Mo_work (RP D CL (TY g) (WM g ad μ) [.ref (ad 0), .int a1]) (QW D CL (WM g ad μ') A none) 0 0 A := by
  refine met_of (by decide) (Nat.le_of_ble_eq_true rfl) ?_
  intro p e s m below meth c ls X hP hl
  have hl : lv_has ls 6 [(0, .ref (ad 0)), (1, .int a1)] := hl
  exact w_Mo_work X hDA hP va_S.rf hl hf
theorem d_Mo_plain_0 : decode b_Mo_plain 0 = .ok (.aload_n 0, 1) := by decide +kernel
theorem d_Mo_plain_1 : decode b_Mo_plain 1 = .ok (.iconst 0, 1) := by decide +kernel
theorem d_Mo_plain_2 : decode b_Mo_plain 2 = .ok (.invokevirtual 202, 3) := by decide +kernel
theorem d_Mo_plain_5 : decode b_Mo_plain 5 = .ok (.aload_n 0, 1) := by decide +kernel
theorem d_Mo_plain_6 : decode b_Mo_plain 6 = .ok (.aload_n 0, 1) := by decide +kernel
theorem d_Mo_plain_7 : decode b_Mo_plain 7 = .ok (.getfield 190, 3) := by decide +kernel
theorem d_Mo_plain_10 : decode b_Mo_plain 10 = .ok (.putfield 206, 3) := by decide +kernel
theorem d_Mo_plain_13 : decode b_Mo_plain 13 = .ok (.iconst 0, 1) := by decide +kernel
theorem d_Mo_plain_14 : decode b_Mo_plain 14 = .ok (.istore_n 1, 1) := by decide +kernel
theorem d_Mo_plain_15 : decode b_Mo_plain 15 = .ok (.iload_n 1, 1) := by decide +kernel
theorem d_Mo_plain_16 : decode b_Mo_plain 16 = .ok (.aload_n 0, 1) := by decide +kernel
theorem d_Mo_plain_17 : decode b_Mo_plain 17 = .ok (.getfield 190, 3) := by decide +kernel
theorem d_Mo_plain_20 : decode b_Mo_plain 20 = .ok (.if_icmp .ge 77, 3) := by decide +kernel
theorem d_Mo_plain_23 : decode b_Mo_plain 23 = .ok (.aload_n 0, 1) := by decide +kernel
theorem d_Mo_plain_24 : decode b_Mo_plain 24 = .ok (.getfield 74, 3) := by decide +kernel
theorem d_Mo_plain_27 : decode b_Mo_plain 27 = .ok (.iload_n 1, 1) := by decide +kernel
theorem d_Mo_plain_28 : decode b_Mo_plain 28 = .ok (.aload_n 0, 1) := by decide +kernel
theorem d_Mo_plain_29 : decode b_Mo_plain 29 = .ok (.getfield 49, 3) := by decide +kernel
theorem d_Mo_plain_32 : decode b_Mo_plain 32 = .ok (.aload_n 0, 1) := by decide +kernel
theorem d_Mo_plain_33 : decode b_Mo_plain 33 = .ok (.getfield 71, 3) := by decide +kernel
theorem d_Mo_plain_36 : decode b_Mo_plain 36 = .ok (.iload_n 1, 1) := by decide +kernel
theorem d_Mo_plain_37 : decode b_Mo_plain 37 = .ok (.iaload, 1) := by decide +kernel
theorem d_Mo_plain_38 : decode b_Mo_plain 38 = .ok (.iaload, 1) := by decide +kernel
theorem d_Mo_plain_39 : decode b_Mo_plain 39 = .ok (.iastore, 1) := by decide +kernel
theorem d_Mo_plain_40 : decode b_Mo_plain 40 = .ok (.aload_n 0, 1) := by decide +kernel
theorem d_Mo_plain_41 : decode b_Mo_plain 41 = .ok (.getfield 77, 3) := by decide +kernel
theorem d_Mo_plain_44 : decode b_Mo_plain 44 = .ok (.iload_n 1, 1) := by decide +kernel
theorem d_Mo_plain_45 : decode b_Mo_plain 45 = .ok (.aload_n 0, 1) := by decide +kernel
theorem d_Mo_plain_46 : decode b_Mo_plain 46 = .ok (.getfield 52, 3) := by decide +kernel
theorem d_Mo_plain_49 : decode b_Mo_plain 49 = .ok (.aload_n 0, 1) := by decide +kernel
theorem d_Mo_plain_50 : decode b_Mo_plain 50 = .ok (.getfield 71, 3) := by decide +kernel
theorem d_Mo_plain_53 : decode b_Mo_plain 53 = .ok (.iload_n 1, 1) := by decide +kernel
theorem d_Mo_plain_54 : decode b_Mo_plain 54 = .ok (.iaload, 1) := by decide +kernel
theorem d_Mo_plain_55 : decode b_Mo_plain 55 = .ok (.iaload, 1) := by decide +kernel
theorem d_Mo_plain_56 : decode b_Mo_plain 56 = .ok (.iastore, 1) := by decide +kernel
theorem d_Mo_plain_57 : decode b_Mo_plain 57 = .ok (.aload_n 0, 1) := by decide +kernel
theorem d_Mo_plain_58 : decode b_Mo_plain 58 = .ok (.getfield 80, 3) := by decide +kernel
theorem d_Mo_plain_61 : decode b_Mo_plain 61 = .ok (.iload_n 1, 1) := by decide +kernel
theorem d_Mo_plain_62 : decode b_Mo_plain 62 = .ok (.aload_n 0, 1) := by decide +kernel
theorem d_Mo_plain_63 : decode b_Mo_plain 63 = .ok (.getfield 55, 3) := by decide +kernel
theorem d_Mo_plain_66 : decode b_Mo_plain 66 = .ok (.aload_n 0, 1) := by decide +kernel
theorem d_Mo_plain_67 : decode b_Mo_plain 67 = .ok (.getfield 71, 3) := by decide +kernel
theorem d_Mo_plain_70 : decode b_Mo_plain 70 = .ok (.iload_n 1, 1) := by decide +kernel
theorem d_Mo_plain_71 : decode b_Mo_plain 71 = .ok (.iaload, 1) := by decide +kernel
theorem d_Mo_plain_72 : decode b_Mo_plain 72 = .ok (.iaload, 1) := by decide +kernel
theorem d_Mo_plain_73 : decode b_Mo_plain 73 = .ok (.iastore, 1) := by decide +kernel
theorem d_Mo_plain_74 : decode b_Mo_plain 74 = .ok (.aload_n 0, 1) := by decide +kernel
theorem d_Mo_plain_75 : decode b_Mo_plain 75 = .ok (.getfield 83, 3) := by decide +kernel
theorem d_Mo_plain_78 : decode b_Mo_plain 78 = .ok (.iload_n 1, 1) := by decide +kernel
theorem d_Mo_plain_79 : decode b_Mo_plain 79 = .ok (.aload_n 0, 1) := by decide +kernel
theorem d_Mo_plain_80 : decode b_Mo_plain 80 = .ok (.getfield 61, 3) := by decide +kernel
theorem d_Mo_plain_83 : decode b_Mo_plain 83 = .ok (.aload_n 0, 1) := by decide +kernel
theorem d_Mo_plain_84 : decode b_Mo_plain 84 = .ok (.getfield 71, 3) := by decide +kernel
theorem d_Mo_plain_87 : decode b_Mo_plain 87 = .ok (.iload_n 1, 1) := by decide +kernel
theorem d_Mo_plain_88 : decode b_Mo_plain 88 = .ok (.iaload, 1) := by decide +kernel
theorem d_Mo_plain_89 : decode b_Mo_plain 89 = .ok (.iaload, 1) := by decide +kernel
theorem d_Mo_plain_90 : decode b_Mo_plain 90 = .ok (.iastore, 1) := by decide +kernel
theorem d_Mo_plain_91 : decode b_Mo_plain 91 = .ok (.iinc 1 1, 3) := by decide +kernel
theorem d_Mo_plain_94 : decode b_Mo_plain 94 = .ok (.goto (-79), 3) := by decide +kernel
theorem d_Mo_plain_97 : decode b_Mo_plain 97 = .ok (.return_, 1) := by decide +kernel
abbrev rm_Mo_plain : Room := { frames := 4, cells := 0, slots := 0, locals := 103 }
def f_Mo_plain_15 : Nat → Mem → Int32 → Option Mem
  | 0, _, _ => none
  | n + 1, μ, x1 => (if (μ.1 0 27) ≤ x1 then (some μ) else (gd (inb x1 24) (gd (inb (μ.1 21 x1.toNatClampNeg) 700) (gd (inb x1 24) (bd (wi μ 22 x1.toNatClampNeg (μ.1 14 (μ.1 21 x1.toNatClampNeg).toNatClampNeg)) (fun μ1 => gd (inb x1 24) (gd (inb (μ1.1 21 x1.toNatClampNeg) 700) (gd (inb x1 24) (bd (wi μ1 23 x1.toNatClampNeg (μ1.1 15 (μ1.1 21 x1.toNatClampNeg).toNatClampNeg)) (fun μ2 => gd (inb x1 24) (gd (inb (μ2.1 21 x1.toNatClampNeg) 700) (gd (inb x1 24) (bd (wi μ2 24 x1.toNatClampNeg (μ2.1 16 (μ2.1 21 x1.toNatClampNeg).toNatClampNeg)) (fun μ3 => gd (inb x1 24) (gd (inb (μ3.1 21 x1.toNatClampNeg) 700) (gd (inb x1 24) (bd (wi μ3 25 x1.toNatClampNeg (μ3.1 18 (μ3.1 21 x1.toNatClampNeg).toNatClampNeg)) (fun μ4 => bd (x1 + 1) (fun v5 => (f_Mo_plain_15 n) μ4 v5)))))))))))))))))))
set_option maxHeartbeats 4000000 in
set_option maxRecDepth 100000 in
theorem w_Mo_plain_15 {p : Program} {l : Launch} {e : Env} {s : State} {m : MethodId} {args : Array Value} {below : List Frame} {meth : Method} {c : Code} {D : va_G} {g : Nat → ClassId} {ad : Nat → Nat} {μ' : Mem} {A : Nat → Prop} (X : Cx p s m args meth c b_Mo_plain 2 R_Mo none D CL (TY g)) (hDA : ∀ μ : Mem, va_D A (WM g ad μ)) : ∀ (n : Nat) (μ : Mem) (x1 : Int32) (ls : Array Slot) (H : Heap) (locs : List Loc), va_P D CL (WM g ad μ) H → va_S A s.heap H locs → lv_has ls 2 [(0, .ref (ad 0)), (1, .int x1)] → f_Mo_plain_15 n μ x1 = some μ' → WU p l e rm_Mo_plain s m args below meth c H locs D (WM g ad μ') A none (F0 m 15 ls []) := by
  intro n
  induction n with
  | zero => intro μ x1 ls H locs hP hS hl hf; rw [f_Mo_plain_15] at hf; cases hf
  | succ n ih =>
    intro μ x1 ls H locs hP hS hl hf
    obtain ⟨S, hr, hlk, hK⟩ := id X
    obtain ⟨hx, hb, hml, hown, hts⟩ := id S
    rw [f_Mo_plain_15] at hf
    refine lv_iload_n hx hb d_Mo_plain_15 rfl (lv_at hl 1 rfl) ?_
    refine lv_aload_n hx hb d_Mo_plain_16 rfl (lv_at hl 0 rfl) ?_
    refine mg_0_27 hx hb hts hown hK hP q_845 d_Mo_plain_17 ?_
    refine lv_icmp_ge (tgt := 97) hx hb d_Mo_plain_20 rfl (fun hc => ?_) (fun hc => ?_)
    · replace hf := br_p hc hf
      obtain rfl := Option.some.inj hf
      exact W.vret hx hb hr (fun t ht _ => ⟨rfl, by rw [ht]; exact hP, hS.F ht⟩) hS.2.2 d_Mo_plain_97
    · replace hf := br_n hc hf
      refine lv_aload_n hx hb d_Mo_plain_23 rfl (lv_at hl 0 rfl) ?_
      refine mg_0_28 hx hb hts hown hK hP q_846 d_Mo_plain_24 ?_
      refine lv_iload_n hx hb d_Mo_plain_27 rfl (lv_at hl 1 rfl) ?_
      refine lv_aload_n hx hb d_Mo_plain_28 rfl (lv_at hl 0 rfl) ?_
      refine mg_0_18 hx hb hts hown hK hP q_836 d_Mo_plain_29 ?_
      refine lv_aload_n hx hb d_Mo_plain_32 rfl (lv_at hl 0 rfl) ?_
      refine mg_0_26 hx hb hts hown hK hP q_844 d_Mo_plain_33 ?_
      refine lv_iload_n hx hb d_Mo_plain_36 rfl (lv_at hl 1 rfl) ?_
      obtain ⟨hi, hf⟩ := gd_x hf
      refine ml_21 hx hb hK hP (inb_in hi) d_Mo_plain_37 ?_
      obtain ⟨hi, hf⟩ := gd_x hf
      refine ml_14 hx hb hK hP (inb_in hi) d_Mo_plain_38 ?_
      obtain ⟨hi, hf⟩ := gd_x hf
      obtain ⟨μ1, hμ1, hf⟩ := bd_x hf
      refine ms_22 hx hb hK (hDA _) hP hS (inb_in hi) d_Mo_plain_39 hμ1 (fun H locs hP hS => ?_)
      refine lv_aload_n hx hb d_Mo_plain_40 rfl (lv_at hl 0 rfl) ?_
      refine mg_0_29 hx hb hts hown hK hP q_847 d_Mo_plain_41 ?_
      refine lv_iload_n hx hb d_Mo_plain_44 rfl (lv_at hl 1 rfl) ?_
      refine lv_aload_n hx hb d_Mo_plain_45 rfl (lv_at hl 0 rfl) ?_
      refine mg_0_19 hx hb hts hown hK hP q_837 d_Mo_plain_46 ?_
      refine lv_aload_n hx hb d_Mo_plain_49 rfl (lv_at hl 0 rfl) ?_
      refine mg_0_26 hx hb hts hown hK hP q_844 d_Mo_plain_50 ?_
      refine lv_iload_n hx hb d_Mo_plain_53 rfl (lv_at hl 1 rfl) ?_
      obtain ⟨hi, hf⟩ := gd_x hf
      refine ml_21 hx hb hK hP (inb_in hi) d_Mo_plain_54 ?_
      obtain ⟨hi, hf⟩ := gd_x hf
      refine ml_15 hx hb hK hP (inb_in hi) d_Mo_plain_55 ?_
      obtain ⟨hi, hf⟩ := gd_x hf
      obtain ⟨μ2, hμ2, hf⟩ := bd_x hf
      refine ms_23 hx hb hK (hDA _) hP hS (inb_in hi) d_Mo_plain_56 hμ2 (fun H locs hP hS => ?_)
      refine lv_aload_n hx hb d_Mo_plain_57 rfl (lv_at hl 0 rfl) ?_
      refine mg_0_30 hx hb hts hown hK hP q_848 d_Mo_plain_58 ?_
      refine lv_iload_n hx hb d_Mo_plain_61 rfl (lv_at hl 1 rfl) ?_
      refine lv_aload_n hx hb d_Mo_plain_62 rfl (lv_at hl 0 rfl) ?_
      refine mg_0_20 hx hb hts hown hK hP q_838 d_Mo_plain_63 ?_
      refine lv_aload_n hx hb d_Mo_plain_66 rfl (lv_at hl 0 rfl) ?_
      refine mg_0_26 hx hb hts hown hK hP q_844 d_Mo_plain_67 ?_
      refine lv_iload_n hx hb d_Mo_plain_70 rfl (lv_at hl 1 rfl) ?_
      obtain ⟨hi, hf⟩ := gd_x hf
      refine ml_21 hx hb hK hP (inb_in hi) d_Mo_plain_71 ?_
      obtain ⟨hi, hf⟩ := gd_x hf
      refine ml_16 hx hb hK hP (inb_in hi) d_Mo_plain_72 ?_
      obtain ⟨hi, hf⟩ := gd_x hf
      obtain ⟨μ3, hμ3, hf⟩ := bd_x hf
      refine ms_24 hx hb hK (hDA _) hP hS (inb_in hi) d_Mo_plain_73 hμ3 (fun H locs hP hS => ?_)
      refine lv_aload_n hx hb d_Mo_plain_74 rfl (lv_at hl 0 rfl) ?_
      refine mg_0_31 hx hb hts hown hK hP q_849 d_Mo_plain_75 ?_
      refine lv_iload_n hx hb d_Mo_plain_78 rfl (lv_at hl 1 rfl) ?_
      refine lv_aload_n hx hb d_Mo_plain_79 rfl (lv_at hl 0 rfl) ?_
      refine mg_0_22 hx hb hts hown hK hP q_840 d_Mo_plain_80 ?_
      refine lv_aload_n hx hb d_Mo_plain_83 rfl (lv_at hl 0 rfl) ?_
      refine mg_0_26 hx hb hts hown hK hP q_844 d_Mo_plain_84 ?_
      refine lv_iload_n hx hb d_Mo_plain_87 rfl (lv_at hl 1 rfl) ?_
      obtain ⟨hi, hf⟩ := gd_x hf
      refine ml_21 hx hb hK hP (inb_in hi) d_Mo_plain_88 ?_
      obtain ⟨hi, hf⟩ := gd_x hf
      refine ml_18 hx hb hK hP (inb_in hi) d_Mo_plain_89 ?_
      obtain ⟨hi, hf⟩ := gd_x hf
      obtain ⟨μ4, hμ4, hf⟩ := bd_x hf
      refine ms_25 hx hb hK (hDA _) hP hS (inb_in hi) d_Mo_plain_90 hμ4 (fun H locs hP hS => ?_)
      obtain ⟨v5, hv5, hf⟩ := bd_x hf
      refine lv_iinc (lv' := [(1, .int v5), (0, .ref (ad 0))]) hx hb d_Mo_plain_91 hl (k := 1) rfl (show x1 + Int32.ofInt (1) = v5 from hv5) (Nat.le_of_ble_eq_true rfl) rfl (fun ls hl => ?_)
      refine lv_goto (tgt := 15) hx hb d_Mo_plain_94 rfl ?_
      exact ih _ _ _ _ _ hP hS (lv_sub (l' := [(0, .ref (ad 0)), (1, .int v5)]) hl [1, 0] rfl) hf
def f_Mo_plain (n : Nat) (μ : Mem) : Option Mem := cl (f_Mo_work n μ (0 : Int32)) (fun μ2 => bd (wi μ2 0 32 (μ2.1 0 27)) (fun μ3 => f_Mo_plain_15 n μ3 (0 : Int32)))
set_option maxHeartbeats 4000000 in
set_option maxRecDepth 100000 in
theorem w_Mo_plain {p : Program} {l : Launch} {e : Env} {s : State} {m : MethodId} {args : Array Value} {below : List Frame} {meth : Method} {c : Code} {D : va_G} {g : Nat → ClassId} {ad : Nat → Nat} {μ' : Mem} {A : Nat → Prop} {n : Nat} {μ : Mem} {ls : Array Slot} {H : Heap} {locs : List Loc} (X : Cx p s m args meth c b_Mo_plain 2 R_Mo none D CL (TY g)) (hDA : ∀ μ : Mem, va_D A (WM g ad μ)) (hP : va_P D CL (WM g ad μ) H) (hS : va_S A s.heap H locs) (hl : lv_has ls 2 [(0, .ref (ad 0))]) (hf : f_Mo_plain n μ = some μ') : WU p l e rm_Mo_plain s m args below meth c H locs D (WM g ad μ') A none (F0 m 0 ls []) := by
  obtain ⟨S, hr, hlk, hK⟩ := id X
  obtain ⟨hx, hb, hml, hown, hts⟩ := id S
  rw [f_Mo_plain] at hf
  refine lv_aload_n hx hb d_Mo_plain_0 rfl (lv_at hl 0 rfl) ?_
  refine lv_iconst (v := 0) hx hb d_Mo_plain_1 (by decide) ?_
  obtain ⟨μ2, hv1, hf⟩ := cl_x hf
  refine wrV (As := [.int (0 : Int32)]) (rest := []) S K_Mo_work q_1016 (c_Mo_work hDA hv1) hK hP hS ⟨rfl, rfl⟩ ⟨Nat.le_of_ble_eq_true rfl, Nat.le_of_ble_eq_true rfl⟩ (mr_0 hK hP) rfl hl.1 rfl (Nat.le_of_ble_eq_true rfl) d_Mo_plain_2 ⟨Nat.le_refl _, Nat.le_refl _⟩ (fun H locs hP hS => ?_)
  refine lv_aload_n hx hb d_Mo_plain_5 rfl (lv_at hl 0 rfl) ?_
  refine lv_aload_n hx hb d_Mo_plain_6 rfl (lv_at hl 0 rfl) ?_
  refine mg_0_27 hx hb hts hown hK hP q_845 d_Mo_plain_7 ?_
  obtain ⟨μ3, hμ3, hf⟩ := bd_x hf
  refine mp_0_32 hx hb hts hown hK (hDA _) hP hS q_850 d_Mo_plain_10 hμ3 (fun H locs hP hS => ?_)
  refine lv_iconst (v := 0) hx hb d_Mo_plain_13 (by decide) ?_
  refine lv_istore_n (lv' := [(1, .int (0 : Int32)), (0, .ref (ad 0))]) hx hb d_Mo_plain_14 rfl hl (Nat.le_of_ble_eq_true rfl) rfl (fun ls hl => ?_)
  exact w_Mo_plain_15 X hDA _ _ _ _ _ _ hP hS (lv_sub (l' := [(0, .ref (ad 0)), (1, .int (0 : Int32))]) hl [1, 0] rfl) hf
theorem c_Mo_plain {l : Launch} {D : va_G} {g : Nat → ClassId} {ad : Nat → Nat} {μ : Mem} {μ' : Mem} {A : Nat → Prop} {n : Nat} (hDA : ∀ μ : Mem, va_D A (WM g ad μ)) (hf : f_Mo_plain n μ = some μ') : Met l y_Mo_plain (Cond.code y_Mo_plain b_Mo_plain 2 none :: ww) rm_Mo_plain (RP D CL (TY g) (WM g ad μ) [.ref (ad 0)]) (QW D CL (WM g ad μ') A none) 0 0 A := by
  refine met_of (by decide) (Nat.le_of_ble_eq_true rfl) ?_
  intro p e s m below meth c ls X hP hl
  have hl : lv_has ls 2 [(0, .ref (ad 0))] := hl
  exact w_Mo_plain X hDA hP va_S.rf hl hf
theorem d_Mo_cut_0 : decode b_Mo_cut 0 = .ok (.aload_n 0, 1) := by decide +kernel
theorem d_Mo_cut_1 : decode b_Mo_cut 1 = .ok (.invokevirtual 209, 3) := by decide +kernel
theorem d_Mo_cut_4 : decode b_Mo_cut 4 = .ok (.aload_n 0, 1) := by decide +kernel
theorem d_Mo_cut_5 : decode b_Mo_cut 5 = .ok (.iconst 1, 1) := by decide +kernel
theorem d_Mo_cut_6 : decode b_Mo_cut 6 = .ok (.invokevirtual 202, 3) := by decide +kernel
theorem d_Mo_cut_9 : decode b_Mo_cut 9 = .ok (.aload_n 0, 1) := by decide +kernel
theorem d_Mo_cut_10 : decode b_Mo_cut 10 = .ok (.iconst 0, 1) := by decide +kernel
theorem d_Mo_cut_11 : decode b_Mo_cut 11 = .ok (.putfield 212, 3) := by decide +kernel
theorem d_Mo_cut_14 : decode b_Mo_cut 14 = .ok (.aload_n 0, 1) := by decide +kernel
theorem d_Mo_cut_15 : decode b_Mo_cut 15 = .ok (.getfield 190, 3) := by decide +kernel
theorem d_Mo_cut_18 : decode b_Mo_cut 18 = .ok (.iconst 1, 1) := by decide +kernel
theorem d_Mo_cut_19 : decode b_Mo_cut 19 = .ok (.isub, 1) := by decide +kernel
theorem d_Mo_cut_20 : decode b_Mo_cut 20 = .ok (.istore_n 1, 1) := by decide +kernel
theorem d_Mo_cut_21 : decode b_Mo_cut 21 = .ok (.iload_n 1, 1) := by decide +kernel
theorem d_Mo_cut_22 : decode b_Mo_cut 22 = .ok (.ifCond .lt 160, 3) := by decide +kernel
theorem d_Mo_cut_25 : decode b_Mo_cut 25 = .ok (.aload_n 0, 1) := by decide +kernel
theorem d_Mo_cut_26 : decode b_Mo_cut 26 = .ok (.getfield 71, 3) := by decide +kernel
theorem d_Mo_cut_29 : decode b_Mo_cut 29 = .ok (.iload_n 1, 1) := by decide +kernel
theorem d_Mo_cut_30 : decode b_Mo_cut 30 = .ok (.iaload, 1) := by decide +kernel
theorem d_Mo_cut_31 : decode b_Mo_cut 31 = .ok (.istore_n 2, 1) := by decide +kernel
theorem d_Mo_cut_32 : decode b_Mo_cut 32 = .ok (.aload_n 0, 1) := by decide +kernel
theorem d_Mo_cut_33 : decode b_Mo_cut 33 = .ok (.getfield 61, 3) := by decide +kernel
theorem d_Mo_cut_36 : decode b_Mo_cut 36 = .ok (.iload_n 2, 1) := by decide +kernel
theorem d_Mo_cut_37 : decode b_Mo_cut 37 = .ok (.iaload, 1) := by decide +kernel
theorem d_Mo_cut_38 : decode b_Mo_cut 38 = .ok (.bipush 40, 2) := by decide +kernel
theorem d_Mo_cut_40 : decode b_Mo_cut 40 = .ok (.if_icmp .ne 7, 3) := by decide +kernel
theorem d_Mo_cut_43 : decode b_Mo_cut 43 = .ok (.iconst 0, 1) := by decide +kernel
theorem d_Mo_cut_44 : decode b_Mo_cut 44 = .ok (.goto 14, 3) := by decide +kernel
theorem d_Mo_cut_47 : decode b_Mo_cut 47 = .ok (.aload_n 0, 1) := by decide +kernel
theorem d_Mo_cut_48 : decode b_Mo_cut 48 = .ok (.getfield 25, 3) := by decide +kernel
theorem d_Mo_cut_51 : decode b_Mo_cut 51 = .ok (.aload_n 0, 1) := by decide +kernel
theorem d_Mo_cut_52 : decode b_Mo_cut 52 = .ok (.getfield 61, 3) := by decide +kernel
theorem d_Mo_cut_55 : decode b_Mo_cut 55 = .ok (.iload_n 2, 1) := by decide +kernel
theorem d_Mo_cut_56 : decode b_Mo_cut 56 = .ok (.iaload, 1) := by decide +kernel
theorem d_Mo_cut_57 : decode b_Mo_cut 57 = .ok (.iaload, 1) := by decide +kernel
theorem d_Mo_cut_58 : decode b_Mo_cut 58 = .ok (.istore_n 3, 1) := by decide +kernel
theorem d_Mo_cut_59 : decode b_Mo_cut 59 = .ok (.iconst 0, 1) := by decide +kernel
theorem d_Mo_cut_60 : decode b_Mo_cut 60 = .ok (.istore 4, 2) := by decide +kernel
theorem d_Mo_cut_62 : decode b_Mo_cut 62 = .ok (.iload 4, 2) := by decide +kernel
theorem d_Mo_cut_64 : decode b_Mo_cut 64 = .ok (.aload_n 0, 1) := by decide +kernel
theorem d_Mo_cut_65 : decode b_Mo_cut 65 = .ok (.getfield 52, 3) := by decide +kernel
theorem d_Mo_cut_68 : decode b_Mo_cut 68 = .ok (.iload_n 2, 1) := by decide +kernel
theorem d_Mo_cut_69 : decode b_Mo_cut 69 = .ok (.iaload, 1) := by decide +kernel
theorem d_Mo_cut_70 : decode b_Mo_cut 70 = .ok (.if_icmp .ge 106, 3) := by decide +kernel
theorem d_Mo_cut_73 : decode b_Mo_cut 73 = .ok (.iload 4, 2) := by decide +kernel
theorem d_Mo_cut_75 : decode b_Mo_cut 75 = .ok (.ifCond .eq 12, 3) := by decide +kernel
theorem d_Mo_cut_78 : decode b_Mo_cut 78 = .ok (.iload_n 3, 1) := by decide +kernel
theorem d_Mo_cut_79 : decode b_Mo_cut 79 = .ok (.iload 4, 2) := by decide +kernel
theorem d_Mo_cut_81 : decode b_Mo_cut 81 = .ok (.ishr, 1) := by decide +kernel
theorem d_Mo_cut_82 : decode b_Mo_cut 82 = .ok (.iconst 1, 1) := by decide +kernel
theorem d_Mo_cut_83 : decode b_Mo_cut 83 = .ok (.iand, 1) := by decide +kernel
theorem d_Mo_cut_84 : decode b_Mo_cut 84 = .ok (.ifCond .eq 71, 3) := by decide +kernel
theorem d_Mo_cut_87 : decode b_Mo_cut 87 = .ok (.aload_n 0, 1) := by decide +kernel
theorem d_Mo_cut_88 : decode b_Mo_cut 88 = .ok (.getfield 86, 3) := by decide +kernel
theorem d_Mo_cut_91 : decode b_Mo_cut 91 = .ok (.aload_n 0, 1) := by decide +kernel
theorem d_Mo_cut_92 : decode b_Mo_cut 92 = .ok (.getfield 212, 3) := by decide +kernel
theorem d_Mo_cut_95 : decode b_Mo_cut 95 = .ok (.aload_n 0, 1) := by decide +kernel
theorem d_Mo_cut_96 : decode b_Mo_cut 96 = .ok (.getfield 49, 3) := by decide +kernel
theorem d_Mo_cut_99 : decode b_Mo_cut 99 = .ok (.iload_n 2, 1) := by decide +kernel
theorem d_Mo_cut_100 : decode b_Mo_cut 100 = .ok (.iaload, 1) := by decide +kernel
theorem d_Mo_cut_101 : decode b_Mo_cut 101 = .ok (.iload 4, 2) := by decide +kernel
theorem d_Mo_cut_103 : decode b_Mo_cut 103 = .ok (.iadd, 1) := by decide +kernel
theorem d_Mo_cut_104 : decode b_Mo_cut 104 = .ok (.iastore, 1) := by decide +kernel
theorem d_Mo_cut_105 : decode b_Mo_cut 105 = .ok (.aload_n 0, 1) := by decide +kernel
theorem d_Mo_cut_106 : decode b_Mo_cut 106 = .ok (.getfield 89, 3) := by decide +kernel
theorem d_Mo_cut_109 : decode b_Mo_cut 109 = .ok (.aload_n 0, 1) := by decide +kernel
theorem d_Mo_cut_110 : decode b_Mo_cut 110 = .ok (.getfield 212, 3) := by decide +kernel
theorem d_Mo_cut_113 : decode b_Mo_cut 113 = .ok (.iconst 0, 1) := by decide +kernel
theorem d_Mo_cut_114 : decode b_Mo_cut 114 = .ok (.iastore, 1) := by decide +kernel
theorem d_Mo_cut_115 : decode b_Mo_cut 115 = .ok (.aload_n 0, 1) := by decide +kernel
theorem d_Mo_cut_116 : decode b_Mo_cut 116 = .ok (.getfield 92, 3) := by decide +kernel
theorem d_Mo_cut_119 : decode b_Mo_cut 119 = .ok (.aload_n 0, 1) := by decide +kernel
theorem d_Mo_cut_120 : decode b_Mo_cut 120 = .ok (.getfield 212, 3) := by decide +kernel
theorem d_Mo_cut_123 : decode b_Mo_cut 123 = .ok (.aload_n 0, 1) := by decide +kernel
theorem d_Mo_cut_124 : decode b_Mo_cut 124 = .ok (.getfield 55, 3) := by decide +kernel
theorem d_Mo_cut_127 : decode b_Mo_cut 127 = .ok (.iload_n 2, 1) := by decide +kernel
theorem d_Mo_cut_128 : decode b_Mo_cut 128 = .ok (.iaload, 1) := by decide +kernel
theorem d_Mo_cut_129 : decode b_Mo_cut 129 = .ok (.iastore, 1) := by decide +kernel
theorem d_Mo_cut_130 : decode b_Mo_cut 130 = .ok (.aload_n 0, 1) := by decide +kernel
theorem d_Mo_cut_131 : decode b_Mo_cut 131 = .ok (.getfield 95, 3) := by decide +kernel
theorem d_Mo_cut_134 : decode b_Mo_cut 134 = .ok (.aload_n 0, 1) := by decide +kernel
theorem d_Mo_cut_135 : decode b_Mo_cut 135 = .ok (.getfield 212, 3) := by decide +kernel
theorem d_Mo_cut_138 : decode b_Mo_cut 138 = .ok (.aload_n 0, 1) := by decide +kernel
theorem d_Mo_cut_139 : decode b_Mo_cut 139 = .ok (.getfield 61, 3) := by decide +kernel
theorem d_Mo_cut_142 : decode b_Mo_cut 142 = .ok (.iload_n 2, 1) := by decide +kernel
theorem d_Mo_cut_143 : decode b_Mo_cut 143 = .ok (.iaload, 1) := by decide +kernel
theorem d_Mo_cut_144 : decode b_Mo_cut 144 = .ok (.iastore, 1) := by decide +kernel
theorem d_Mo_cut_145 : decode b_Mo_cut 145 = .ok (.aload_n 0, 1) := by decide +kernel
theorem d_Mo_cut_146 : decode b_Mo_cut 146 = .ok (.dup, 1) := by decide +kernel
theorem d_Mo_cut_147 : decode b_Mo_cut 147 = .ok (.getfield 212, 3) := by decide +kernel
theorem d_Mo_cut_150 : decode b_Mo_cut 150 = .ok (.iconst 1, 1) := by decide +kernel
theorem d_Mo_cut_151 : decode b_Mo_cut 151 = .ok (.iadd, 1) := by decide +kernel
theorem d_Mo_cut_152 : decode b_Mo_cut 152 = .ok (.putfield 212, 3) := by decide +kernel
theorem d_Mo_cut_155 : decode b_Mo_cut 155 = .ok (.aload_n 0, 1) := by decide +kernel
theorem d_Mo_cut_156 : decode b_Mo_cut 156 = .ok (.getfield 89, 3) := by decide +kernel
theorem d_Mo_cut_159 : decode b_Mo_cut 159 = .ok (.aload_n 0, 1) := by decide +kernel
theorem d_Mo_cut_160 : decode b_Mo_cut 160 = .ok (.getfield 212, 3) := by decide +kernel
theorem d_Mo_cut_163 : decode b_Mo_cut 163 = .ok (.iconst 1, 1) := by decide +kernel
theorem d_Mo_cut_164 : decode b_Mo_cut 164 = .ok (.isub, 1) := by decide +kernel
theorem d_Mo_cut_165 : decode b_Mo_cut 165 = .ok (.dup2, 1) := by decide +kernel
theorem d_Mo_cut_166 : decode b_Mo_cut 166 = .ok (.iaload, 1) := by decide +kernel
theorem d_Mo_cut_167 : decode b_Mo_cut 167 = .ok (.iconst 1, 1) := by decide +kernel
theorem d_Mo_cut_168 : decode b_Mo_cut 168 = .ok (.iadd, 1) := by decide +kernel
theorem d_Mo_cut_169 : decode b_Mo_cut 169 = .ok (.iastore, 1) := by decide +kernel
theorem d_Mo_cut_170 : decode b_Mo_cut 170 = .ok (.iinc 4 1, 3) := by decide +kernel
theorem d_Mo_cut_173 : decode b_Mo_cut 173 = .ok (.goto (-111), 3) := by decide +kernel
theorem d_Mo_cut_176 : decode b_Mo_cut 176 = .ok (.iinc 1 (-1), 3) := by decide +kernel
theorem d_Mo_cut_179 : decode b_Mo_cut 179 = .ok (.goto (-158), 3) := by decide +kernel
theorem d_Mo_cut_182 : decode b_Mo_cut 182 = .ok (.return_, 1) := by decide +kernel
abbrev rm_Mo_cut : Room := { frames := 5, cells := 0, slots := 0, locals := 124 }
def f_Mo_cut_155 (κ21 : Mem → Int32 → Option Mem) (κ62 : Mem → Int32 → Int32 → Int32 → Int32 → Option Mem) (n : Nat) (μ : Mem) (x1 : Int32) (x2 : Int32) (x3 : Int32) (x4 : Int32) : Option Mem := gd (inb ((μ.1 0 37) - (1 : Int32)) 24) (gd (inb ((μ.1 0 37) - (1 : Int32)) 24) (bd (wi μ 27 ((μ.1 0 37) - (1 : Int32)).toNatClampNeg ((μ.1 27 ((μ.1 0 37) - (1 : Int32)).toNatClampNeg) + (1 : Int32))) (fun μ1 => bd (x4 + 1) (fun v2 => κ62 μ1 x1 x2 x3 v2))))
set_option maxHeartbeats 4000000 in
set_option maxRecDepth 100000 in
theorem w_Mo_cut_155 {p : Program} {l : Launch} {e : Env} {s : State} {m : MethodId} {args : Array Value} {below : List Frame} {meth : Method} {c : Code} {D : va_G} {g : Nat → ClassId} {ad : Nat → Nat} {μ' : Mem} {A : Nat → Prop} {κ21 : Mem → Int32 → Option Mem} {κ62 : Mem → Int32 → Int32 → Int32 → Int32 → Option Mem} {n : Nat} {μ : Mem} {x1 : Int32} {x2 : Int32} {x3 : Int32} {x4 : Int32} {ls : Array Slot} {H : Heap} {locs : List Loc} (X : Cx p s m args meth c b_Mo_cut 5 R_Mo none D CL (TY g)) (hDA : ∀ μ : Mem, va_D A (WM g ad μ)) (hκ21 : ∀ (μ : Mem) (x1 : Int32) (ls : Array Slot) (H : Heap) (locs : List Loc), va_P D CL (WM g ad μ) H → va_S A s.heap H locs → lv_has ls 5 [(0, .ref (ad 0)), (1, .int x1)] → κ21 μ x1 = some μ' → WU p l e rm_Mo_cut s m args below meth c H locs D (WM g ad μ') A none (F0 m 21 ls [])) (hκ62 : ∀ (μ : Mem) (x1 : Int32) (x2 : Int32) (x3 : Int32) (x4 : Int32) (ls : Array Slot) (H : Heap) (locs : List Loc), va_P D CL (WM g ad μ) H → va_S A s.heap H locs → lv_has ls 5 [(0, .ref (ad 0)), (1, .int x1), (2, .int x2), (3, .int x3), (4, .int x4)] → κ62 μ x1 x2 x3 x4 = some μ' → WU p l e rm_Mo_cut s m args below meth c H locs D (WM g ad μ') A none (F0 m 62 ls [])) (hP : va_P D CL (WM g ad μ) H) (hS : va_S A s.heap H locs) (hl : lv_has ls 5 [(0, .ref (ad 0)), (1, .int x1), (2, .int x2), (3, .int x3), (4, .int x4)]) (hf : f_Mo_cut_155 κ21 κ62 n μ x1 x2 x3 x4 = some μ') : WU p l e rm_Mo_cut s m args below meth c H locs D (WM g ad μ') A none (F0 m 155 ls []) := by
  obtain ⟨S, hr, hlk, hK⟩ := id X
  obtain ⟨hx, hb, hml, hown, hts⟩ := id S
  rw [f_Mo_cut_155] at hf
  refine lv_aload_n hx hb d_Mo_cut_155 rfl (lv_at hl 0 rfl) ?_
  refine mg_0_34 hx hb hts hown hK hP q_852 d_Mo_cut_156 ?_
  refine lv_aload_n hx hb d_Mo_cut_159 rfl (lv_at hl 0 rfl) ?_
  refine mg_0_37 hx hb hts hown hK hP q_855 d_Mo_cut_160 ?_
  refine lv_iconst (v := 1) hx hb d_Mo_cut_163 (by decide) ?_
  refine lv_isub hx hb d_Mo_cut_164 ?_
  refine lv_dup2_11 hx hb d_Mo_cut_165 rfl rfl ?_
  obtain ⟨hi, hf⟩ := gd_x hf
  refine ml_27 hx hb hK hP (inb_in hi) d_Mo_cut_166 ?_
  refine lv_iconst (v := 1) hx hb d_Mo_cut_167 (by decide) ?_
  refine lv_iadd hx hb d_Mo_cut_168 ?_
  obtain ⟨hi, hf⟩ := gd_x hf
  obtain ⟨μ1, hμ1, hf⟩ := bd_x hf
  refine ms_27 hx hb hK (hDA _) hP hS (inb_in hi) d_Mo_cut_169 hμ1 (fun H locs hP hS => ?_)
  obtain ⟨v2, hv2, hf⟩ := bd_x hf
  refine lv_iinc (lv' := [(4, .int v2), (0, .ref (ad 0)), (1, .int x1), (2, .int x2), (3, .int x3)]) hx hb d_Mo_cut_170 hl (k := 4) rfl (show x4 + Int32.ofInt (1) = v2 from hv2) (Nat.le_of_ble_eq_true rfl) rfl (fun ls hl => ?_)
  refine lv_goto (tgt := 62) hx hb d_Mo_cut_173 rfl ?_
  exact hκ62 _ _ _ _ _ _ _ _ hP hS (lv_sub (l' := [(0, .ref (ad 0)), (1, .int x1), (2, .int x2), (3, .int x3), (4, .int v2)]) hl [1, 2, 3, 4, 0] rfl) hf
def f_Mo_cut_87 (κ21 : Mem → Int32 → Option Mem) (κ62 : Mem → Int32 → Int32 → Int32 → Int32 → Option Mem) (n : Nat) (μ : Mem) (x1 : Int32) (x2 : Int32) (x3 : Int32) (x4 : Int32) : Option Mem := gd (inb x2 700) (gd (inb (μ.1 0 37) 24) (bd (wi μ 26 (μ.1 0 37).toNatClampNeg ((μ.1 14 x2.toNatClampNeg) + x4)) (fun μ1 => gd (inb (μ1.1 0 37) 24) (bd (wi μ1 27 (μ1.1 0 37).toNatClampNeg (0 : Int32)) (fun μ2 => gd (inb x2 700) (gd (inb (μ2.1 0 37) 24) (bd (wi μ2 28 (μ2.1 0 37).toNatClampNeg (μ2.1 16 x2.toNatClampNeg)) (fun μ3 => gd (inb x2 700) (gd (inb (μ3.1 0 37) 24) (bd (wi μ3 29 (μ3.1 0 37).toNatClampNeg (μ3.1 18 x2.toNatClampNeg)) (fun μ4 => bd (wi μ4 0 37 ((μ4.1 0 37) + (1 : Int32))) (fun μ5 => f_Mo_cut_155 κ21 κ62 n μ5 x1 x2 x3 x4))))))))))))
set_option maxHeartbeats 4000000 in
set_option maxRecDepth 100000 in
theorem w_Mo_cut_87 {p : Program} {l : Launch} {e : Env} {s : State} {m : MethodId} {args : Array Value} {below : List Frame} {meth : Method} {c : Code} {D : va_G} {g : Nat → ClassId} {ad : Nat → Nat} {μ' : Mem} {A : Nat → Prop} {κ21 : Mem → Int32 → Option Mem} {κ62 : Mem → Int32 → Int32 → Int32 → Int32 → Option Mem} {n : Nat} {μ : Mem} {x1 : Int32} {x2 : Int32} {x3 : Int32} {x4 : Int32} {ls : Array Slot} {H : Heap} {locs : List Loc} (X : Cx p s m args meth c b_Mo_cut 5 R_Mo none D CL (TY g)) (hDA : ∀ μ : Mem, va_D A (WM g ad μ)) (hκ21 : ∀ (μ : Mem) (x1 : Int32) (ls : Array Slot) (H : Heap) (locs : List Loc), va_P D CL (WM g ad μ) H → va_S A s.heap H locs → lv_has ls 5 [(0, .ref (ad 0)), (1, .int x1)] → κ21 μ x1 = some μ' → WU p l e rm_Mo_cut s m args below meth c H locs D (WM g ad μ') A none (F0 m 21 ls [])) (hκ62 : ∀ (μ : Mem) (x1 : Int32) (x2 : Int32) (x3 : Int32) (x4 : Int32) (ls : Array Slot) (H : Heap) (locs : List Loc), va_P D CL (WM g ad μ) H → va_S A s.heap H locs → lv_has ls 5 [(0, .ref (ad 0)), (1, .int x1), (2, .int x2), (3, .int x3), (4, .int x4)] → κ62 μ x1 x2 x3 x4 = some μ' → WU p l e rm_Mo_cut s m args below meth c H locs D (WM g ad μ') A none (F0 m 62 ls [])) (hP : va_P D CL (WM g ad μ) H) (hS : va_S A s.heap H locs) (hl : lv_has ls 5 [(0, .ref (ad 0)), (1, .int x1), (2, .int x2), (3, .int x3), (4, .int x4)]) (hf : f_Mo_cut_87 κ21 κ62 n μ x1 x2 x3 x4 = some μ') : WU p l e rm_Mo_cut s m args below meth c H locs D (WM g ad μ') A none (F0 m 87 ls []) := by
  obtain ⟨S, hr, hlk, hK⟩ := id X
  obtain ⟨hx, hb, hml, hown, hts⟩ := id S
  rw [f_Mo_cut_87] at hf
  refine lv_aload_n hx hb d_Mo_cut_87 rfl (lv_at hl 0 rfl) ?_
  refine mg_0_33 hx hb hts hown hK hP q_851 d_Mo_cut_88 ?_
  refine lv_aload_n hx hb d_Mo_cut_91 rfl (lv_at hl 0 rfl) ?_
  refine mg_0_37 hx hb hts hown hK hP q_855 d_Mo_cut_92 ?_
  refine lv_aload_n hx hb d_Mo_cut_95 rfl (lv_at hl 0 rfl) ?_
  refine mg_0_18 hx hb hts hown hK hP q_836 d_Mo_cut_96 ?_
  refine lv_iload_n hx hb d_Mo_cut_99 rfl (lv_at hl 2 rfl) ?_
  obtain ⟨hi, hf⟩ := gd_x hf
  refine ml_14 hx hb hK hP (inb_in hi) d_Mo_cut_100 ?_
  refine lv_iload hx hb d_Mo_cut_101 (lv_at hl 4 rfl) ?_
  refine lv_iadd hx hb d_Mo_cut_103 ?_
  obtain ⟨hi, hf⟩ := gd_x hf
  obtain ⟨μ1, hμ1, hf⟩ := bd_x hf
  refine ms_26 hx hb hK (hDA _) hP hS (inb_in hi) d_Mo_cut_104 hμ1 (fun H locs hP hS => ?_)
  refine lv_aload_n hx hb d_Mo_cut_105 rfl (lv_at hl 0 rfl) ?_
  refine mg_0_34 hx hb hts hown hK hP q_852 d_Mo_cut_106 ?_
  refine lv_aload_n hx hb d_Mo_cut_109 rfl (lv_at hl 0 rfl) ?_
  refine mg_0_37 hx hb hts hown hK hP q_855 d_Mo_cut_110 ?_
  refine lv_iconst (v := 0) hx hb d_Mo_cut_113 (by decide) ?_
  obtain ⟨hi, hf⟩ := gd_x hf
  obtain ⟨μ2, hμ2, hf⟩ := bd_x hf
  refine ms_27 hx hb hK (hDA _) hP hS (inb_in hi) d_Mo_cut_114 hμ2 (fun H locs hP hS => ?_)
  refine lv_aload_n hx hb d_Mo_cut_115 rfl (lv_at hl 0 rfl) ?_
  refine mg_0_35 hx hb hts hown hK hP q_853 d_Mo_cut_116 ?_
  refine lv_aload_n hx hb d_Mo_cut_119 rfl (lv_at hl 0 rfl) ?_
  refine mg_0_37 hx hb hts hown hK hP q_855 d_Mo_cut_120 ?_
  refine lv_aload_n hx hb d_Mo_cut_123 rfl (lv_at hl 0 rfl) ?_
  refine mg_0_20 hx hb hts hown hK hP q_838 d_Mo_cut_124 ?_
  refine lv_iload_n hx hb d_Mo_cut_127 rfl (lv_at hl 2 rfl) ?_
  obtain ⟨hi, hf⟩ := gd_x hf
  refine ml_16 hx hb hK hP (inb_in hi) d_Mo_cut_128 ?_
  obtain ⟨hi, hf⟩ := gd_x hf
  obtain ⟨μ3, hμ3, hf⟩ := bd_x hf
  refine ms_28 hx hb hK (hDA _) hP hS (inb_in hi) d_Mo_cut_129 hμ3 (fun H locs hP hS => ?_)
  refine lv_aload_n hx hb d_Mo_cut_130 rfl (lv_at hl 0 rfl) ?_
  refine mg_0_36 hx hb hts hown hK hP q_854 d_Mo_cut_131 ?_
  refine lv_aload_n hx hb d_Mo_cut_134 rfl (lv_at hl 0 rfl) ?_
  refine mg_0_37 hx hb hts hown hK hP q_855 d_Mo_cut_135 ?_
  refine lv_aload_n hx hb d_Mo_cut_138 rfl (lv_at hl 0 rfl) ?_
  refine mg_0_22 hx hb hts hown hK hP q_840 d_Mo_cut_139 ?_
  refine lv_iload_n hx hb d_Mo_cut_142 rfl (lv_at hl 2 rfl) ?_
  obtain ⟨hi, hf⟩ := gd_x hf
  refine ml_18 hx hb hK hP (inb_in hi) d_Mo_cut_143 ?_
  obtain ⟨hi, hf⟩ := gd_x hf
  obtain ⟨μ4, hμ4, hf⟩ := bd_x hf
  refine ms_29 hx hb hK (hDA _) hP hS (inb_in hi) d_Mo_cut_144 hμ4 (fun H locs hP hS => ?_)
  refine lv_aload_n hx hb d_Mo_cut_145 rfl (lv_at hl 0 rfl) ?_
  refine lv_dup hx hb d_Mo_cut_146 rfl ?_
  refine mg_0_37 hx hb hts hown hK hP q_855 d_Mo_cut_147 ?_
  refine lv_iconst (v := 1) hx hb d_Mo_cut_150 (by decide) ?_
  refine lv_iadd hx hb d_Mo_cut_151 ?_
  obtain ⟨μ5, hμ5, hf⟩ := bd_x hf
  refine mp_0_37 hx hb hts hown hK (hDA _) hP hS q_855 d_Mo_cut_152 hμ5 (fun H locs hP hS => ?_)
  exact w_Mo_cut_155 X hDA hκ21 hκ62 hP hS (lv_sub (l' := [(0, .ref (ad 0)), (1, .int x1), (2, .int x2), (3, .int x3), (4, .int x4)]) hl [0, 1, 2, 3, 4] rfl) hf
def f_Mo_cut_62 (κ21 : Mem → Int32 → Option Mem) : Nat → Mem → Int32 → Int32 → Int32 → Int32 → Option Mem
  | 0, _, _, _, _, _ => none
  | n + 1, μ, x1, x2, x3, x4 => gd (inb x2 700) ((if (μ.1 15 x2.toNatClampNeg) ≤ x4 then (bd (x1 + (-1)) (fun v1 => κ21 μ v1)) else (if x4 = 0 then (f_Mo_cut_87 κ21 (f_Mo_cut_62 κ21 n) n μ x1 x2 x3 x4) else (if ((x3 >>> (x4 &&& 31)) &&& (1 : Int32)) = 0 then (f_Mo_cut_155 κ21 (f_Mo_cut_62 κ21 n) n μ x1 x2 x3 x4) else (f_Mo_cut_87 κ21 (f_Mo_cut_62 κ21 n) n μ x1 x2 x3 x4)))))
set_option maxHeartbeats 4000000 in
set_option maxRecDepth 100000 in
theorem w_Mo_cut_62 {p : Program} {l : Launch} {e : Env} {s : State} {m : MethodId} {args : Array Value} {below : List Frame} {meth : Method} {c : Code} {D : va_G} {g : Nat → ClassId} {ad : Nat → Nat} {μ' : Mem} {A : Nat → Prop} {κ21 : Mem → Int32 → Option Mem} (X : Cx p s m args meth c b_Mo_cut 5 R_Mo none D CL (TY g)) (hDA : ∀ μ : Mem, va_D A (WM g ad μ)) (hκ21 : ∀ (μ : Mem) (x1 : Int32) (ls : Array Slot) (H : Heap) (locs : List Loc), va_P D CL (WM g ad μ) H → va_S A s.heap H locs → lv_has ls 5 [(0, .ref (ad 0)), (1, .int x1)] → κ21 μ x1 = some μ' → WU p l e rm_Mo_cut s m args below meth c H locs D (WM g ad μ') A none (F0 m 21 ls [])) : ∀ (n : Nat) (μ : Mem) (x1 : Int32) (x2 : Int32) (x3 : Int32) (x4 : Int32) (ls : Array Slot) (H : Heap) (locs : List Loc), va_P D CL (WM g ad μ) H → va_S A s.heap H locs → lv_has ls 5 [(0, .ref (ad 0)), (1, .int x1), (2, .int x2), (3, .int x3), (4, .int x4)] → f_Mo_cut_62 κ21 n μ x1 x2 x3 x4 = some μ' → WU p l e rm_Mo_cut s m args below meth c H locs D (WM g ad μ') A none (F0 m 62 ls []) := by
  intro n
  induction n with
  | zero => intro μ x1 x2 x3 x4 ls H locs hP hS hl hf; rw [f_Mo_cut_62] at hf; cases hf
  | succ n ih =>
    intro μ x1 x2 x3 x4 ls H locs hP hS hl hf
    obtain ⟨S, hr, hlk, hK⟩ := id X
    obtain ⟨hx, hb, hml, hown, hts⟩ := id S
    rw [f_Mo_cut_62] at hf
    refine lv_iload hx hb d_Mo_cut_62 (lv_at hl 4 rfl) ?_
    refine lv_aload_n hx hb d_Mo_cut_64 rfl (lv_at hl 0 rfl) ?_
    refine mg_0_19 hx hb hts hown hK hP q_837 d_Mo_cut_65 ?_
    refine lv_iload_n hx hb d_Mo_cut_68 rfl (lv_at hl 2 rfl) ?_
    obtain ⟨hi, hf⟩ := gd_x hf
    refine ml_15 hx hb hK hP (inb_in hi) d_Mo_cut_69 ?_
    refine lv_icmp_ge (tgt := 176) hx hb d_Mo_cut_70 rfl (fun hc => ?_) (fun hc => ?_)
    · replace hf := br_p hc hf
      obtain ⟨v1, hv1, hf⟩ := bd_x hf
      refine lv_iinc (lv' := [(1, .int v1), (0, .ref (ad 0)), (2, .int x2), (3, .int x3), (4, .int x4)]) hx hb d_Mo_cut_176 hl (k := 1) rfl (show x1 + Int32.ofInt (-1) = v1 from hv1) (Nat.le_of_ble_eq_true rfl) rfl (fun ls hl => ?_)
      refine lv_goto (tgt := 21) hx hb d_Mo_cut_179 rfl ?_
      exact hκ21 _ _ _ _ _ hP hS (lv_sub (l' := [(0, .ref (ad 0)), (1, .int v1)]) hl [1, 0] rfl) hf
    · replace hf := br_n hc hf
      refine lv_iload hx hb d_Mo_cut_73 (lv_at hl 4 rfl) ?_
      refine lv_if_eq (tgt := 87) hx hb d_Mo_cut_75 rfl (fun hc => ?_) (fun hc => ?_)
      · replace hf := br_p hc hf
        exact w_Mo_cut_87 X hDA hκ21 ih hP hS (lv_sub (l' := [(0, .ref (ad 0)), (1, .int x1), (2, .int x2), (3, .int x3), (4, .int x4)]) hl [0, 1, 2, 3, 4] rfl) hf
      · replace hf := br_n hc hf
        refine lv_iload_n hx hb d_Mo_cut_78 rfl (lv_at hl 3 rfl) ?_
        refine lv_iload hx hb d_Mo_cut_79 (lv_at hl 4 rfl) ?_
        refine lv_ishr hx hb d_Mo_cut_81 ?_
        refine lv_iconst (v := 1) hx hb d_Mo_cut_82 (by decide) ?_
        refine lv_iand hx hb d_Mo_cut_83 ?_
        refine lv_if_eq (tgt := 155) hx hb d_Mo_cut_84 rfl (fun hc => ?_) (fun hc => ?_)
        · replace hf := br_p hc hf
          exact w_Mo_cut_155 X hDA hκ21 ih hP hS (lv_sub (l' := [(0, .ref (ad 0)), (1, .int x1), (2, .int x2), (3, .int x3), (4, .int x4)]) hl [0, 1, 2, 3, 4] rfl) hf
        · replace hf := br_n hc hf
          exact w_Mo_cut_87 X hDA hκ21 ih hP hS (lv_sub (l' := [(0, .ref (ad 0)), (1, .int x1), (2, .int x2), (3, .int x3), (4, .int x4)]) hl [0, 1, 2, 3, 4] rfl) hf
def f_Mo_cut_58 (κ21 : Mem → Int32 → Option Mem) (n : Nat) (μ : Mem) (x1 : Int32) (x2 : Int32) (s0 : Int32) : Option Mem := f_Mo_cut_62 κ21 n μ x1 x2 s0 (0 : Int32)
set_option maxHeartbeats 4000000 in
set_option maxRecDepth 100000 in
theorem w_Mo_cut_58 {p : Program} {l : Launch} {e : Env} {s : State} {m : MethodId} {args : Array Value} {below : List Frame} {meth : Method} {c : Code} {D : va_G} {g : Nat → ClassId} {ad : Nat → Nat} {μ' : Mem} {A : Nat → Prop} {κ21 : Mem → Int32 → Option Mem} {n : Nat} {μ : Mem} {x1 : Int32} {x2 : Int32} {s0 : Int32} {ls : Array Slot} {H : Heap} {locs : List Loc} (X : Cx p s m args meth c b_Mo_cut 5 R_Mo none D CL (TY g)) (hDA : ∀ μ : Mem, va_D A (WM g ad μ)) (hκ21 : ∀ (μ : Mem) (x1 : Int32) (ls : Array Slot) (H : Heap) (locs : List Loc), va_P D CL (WM g ad μ) H → va_S A s.heap H locs → lv_has ls 5 [(0, .ref (ad 0)), (1, .int x1)] → κ21 μ x1 = some μ' → WU p l e rm_Mo_cut s m args below meth c H locs D (WM g ad μ') A none (F0 m 21 ls [])) (hP : va_P D CL (WM g ad μ) H) (hS : va_S A s.heap H locs) (hl : lv_has ls 5 [(0, .ref (ad 0)), (1, .int x1), (2, .int x2)]) (hf : f_Mo_cut_58 κ21 n μ x1 x2 s0 = some μ') : WU p l e rm_Mo_cut s m args below meth c H locs D (WM g ad μ') A none (F0 m 58 ls [.int s0]) := by
  obtain ⟨S, hr, hlk, hK⟩ := id X
  obtain ⟨hx, hb, hml, hown, hts⟩ := id S
  rw [f_Mo_cut_58] at hf
  refine lv_istore_n (lv' := [(3, .int s0), (0, .ref (ad 0)), (1, .int x1), (2, .int x2)]) hx hb d_Mo_cut_58 rfl hl (Nat.le_of_ble_eq_true rfl) rfl (fun ls hl => ?_)
  refine lv_iconst (v := 0) hx hb d_Mo_cut_59 (by decide) ?_
  refine lv_istore (lv' := [(4, .int (0 : Int32)), (3, .int s0), (0, .ref (ad 0)), (1, .int x1), (2, .int x2)]) hx hb d_Mo_cut_60 hl (Nat.le_of_ble_eq_true rfl) rfl (fun ls hl => ?_)
  exact w_Mo_cut_62 X hDA hκ21 _ _ _ _ _ _ _ _ _ hP hS (lv_sub (l' := [(0, .ref (ad 0)), (1, .int x1), (2, .int x2), (3, .int s0), (4, .int (0 : Int32))]) hl [2, 3, 4, 1, 0] rfl) hf
def f_Mo_cut_21 : Nat → Mem → Int32 → Option Mem
  | 0, _, _ => none
  | n + 1, μ, x1 => (if x1 < 0 then (some μ) else (gd (inb x1 24) (bd (μ.1 21 x1.toNatClampNeg) (fun v1 => gd (inb v1 700) ((if (μ.1 18 v1.toNatClampNeg) = (40 : Int32) then (f_Mo_cut_58 (f_Mo_cut_21 n) n μ x1 v1 (0 : Int32)) else (gd (inb v1 700) (gd (inb (μ.1 18 v1.toNatClampNeg) 40) (f_Mo_cut_58 (f_Mo_cut_21 n) n μ x1 v1 (μ.1 6 (μ.1 18 v1.toNatClampNeg).toNatClampNeg))))))))))
set_option maxHeartbeats 4000000 in
set_option maxRecDepth 100000 in
theorem w_Mo_cut_21 {p : Program} {l : Launch} {e : Env} {s : State} {m : MethodId} {args : Array Value} {below : List Frame} {meth : Method} {c : Code} {D : va_G} {g : Nat → ClassId} {ad : Nat → Nat} {μ' : Mem} {A : Nat → Prop} (X : Cx p s m args meth c b_Mo_cut 5 R_Mo none D CL (TY g)) (hDA : ∀ μ : Mem, va_D A (WM g ad μ)) : ∀ (n : Nat) (μ : Mem) (x1 : Int32) (ls : Array Slot) (H : Heap) (locs : List Loc), va_P D CL (WM g ad μ) H → va_S A s.heap H locs → lv_has ls 5 [(0, .ref (ad 0)), (1, .int x1)] → f_Mo_cut_21 n μ x1 = some μ' → WU p l e rm_Mo_cut s m args below meth c H locs D (WM g ad μ') A none (F0 m 21 ls []) := by
  intro n
  induction n with
  | zero => intro μ x1 ls H locs hP hS hl hf; rw [f_Mo_cut_21] at hf; cases hf
  | succ n ih =>
    intro μ x1 ls H locs hP hS hl hf
    obtain ⟨S, hr, hlk, hK⟩ := id X
    obtain ⟨hx, hb, hml, hown, hts⟩ := id S
    rw [f_Mo_cut_21] at hf
    refine lv_iload_n hx hb d_Mo_cut_21 rfl (lv_at hl 1 rfl) ?_
    refine lv_if_lt (tgt := 182) hx hb d_Mo_cut_22 rfl (fun hc => ?_) (fun hc => ?_)
    · replace hf := br_p hc hf
      obtain rfl := Option.some.inj hf
      exact W.vret hx hb hr (fun t ht _ => ⟨rfl, by rw [ht]; exact hP, hS.F ht⟩) hS.2.2 d_Mo_cut_182
    · replace hf := br_n hc hf
      refine lv_aload_n hx hb d_Mo_cut_25 rfl (lv_at hl 0 rfl) ?_
      refine mg_0_26 hx hb hts hown hK hP q_844 d_Mo_cut_26 ?_
      refine lv_iload_n hx hb d_Mo_cut_29 rfl (lv_at hl 1 rfl) ?_
      obtain ⟨hi, hf⟩ := gd_x hf
      refine ml_21 hx hb hK hP (inb_in hi) d_Mo_cut_30 ?_
      obtain ⟨v1, hv1, hf⟩ := bd_x hf
      refine top_i hv1 ?_
      refine lv_istore_n (lv' := [(2, .int v1), (0, .ref (ad 0)), (1, .int x1)]) hx hb d_Mo_cut_31 rfl hl (Nat.le_of_ble_eq_true rfl) rfl (fun ls hl => ?_)
      refine lv_aload_n hx hb d_Mo_cut_32 rfl (lv_at hl 1 rfl) ?_
      refine mg_0_22 hx hb hts hown hK hP q_840 d_Mo_cut_33 ?_
      refine lv_iload_n hx hb d_Mo_cut_36 rfl (lv_at hl 0 rfl) ?_
      obtain ⟨hi, hf⟩ := gd_x hf
      refine ml_18 hx hb hK hP (inb_in hi) d_Mo_cut_37 ?_
      refine lv_bipush (v := 40) hx hb d_Mo_cut_38 (by decide) ?_
      refine lv_icmp_ne (tgt := 47) hx hb d_Mo_cut_40 rfl (fun hc => ?_) (fun hc => ?_)
      · replace hf := br_n hc hf
        refine lv_aload_n hx hb d_Mo_cut_47 rfl (lv_at hl 1 rfl) ?_
        refine mg_0_6 hx hb hts hown hK hP q_824 d_Mo_cut_48 ?_
        refine lv_aload_n hx hb d_Mo_cut_51 rfl (lv_at hl 1 rfl) ?_
        refine mg_0_22 hx hb hts hown hK hP q_840 d_Mo_cut_52 ?_
        refine lv_iload_n hx hb d_Mo_cut_55 rfl (lv_at hl 0 rfl) ?_
        obtain ⟨hi, hf⟩ := gd_x hf
        refine ml_18 hx hb hK hP (inb_in hi) d_Mo_cut_56 ?_
        obtain ⟨hi, hf⟩ := gd_x hf
        refine ml_6 hx hb hK hP (inb_in hi) d_Mo_cut_57 ?_
        exact w_Mo_cut_58 X hDA ih hP hS (lv_sub (l' := [(0, .ref (ad 0)), (1, .int x1), (2, .int v1)]) hl [1, 2, 0] rfl) hf
      · replace hf := br_p hc hf
        refine lv_iconst (v := 0) hx hb d_Mo_cut_43 (by decide) ?_
        refine lv_goto (tgt := 58) hx hb d_Mo_cut_44 rfl ?_
        exact w_Mo_cut_58 X hDA ih hP hS (lv_sub (l' := [(0, .ref (ad 0)), (1, .int x1), (2, .int v1)]) hl [1, 2, 0] rfl) hf
def f_Mo_cut (n : Nat) (μ : Mem) : Option Mem := cl (f_Mo_plain n μ) (fun μ2 => cl (f_Mo_work n μ2 (1 : Int32)) (fun μ4 => bd (wi μ4 0 37 (0 : Int32)) (fun μ5 => bd ((μ5.1 0 27) - (1 : Int32)) (fun v6 => f_Mo_cut_21 n μ5 v6))))
set_option maxHeartbeats 4000000 in
set_option maxRecDepth 100000 in
theorem w_Mo_cut {p : Program} {l : Launch} {e : Env} {s : State} {m : MethodId} {args : Array Value} {below : List Frame} {meth : Method} {c : Code} {D : va_G} {g : Nat → ClassId} {ad : Nat → Nat} {μ' : Mem} {A : Nat → Prop} {n : Nat} {μ : Mem} {ls : Array Slot} {H : Heap} {locs : List Loc} (X : Cx p s m args meth c b_Mo_cut 5 R_Mo none D CL (TY g)) (hDA : ∀ μ : Mem, va_D A (WM g ad μ)) (hP : va_P D CL (WM g ad μ) H) (hS : va_S A s.heap H locs) (hl : lv_has ls 5 [(0, .ref (ad 0))]) (hf : f_Mo_cut n μ = some μ') : WU p l e rm_Mo_cut s m args below meth c H locs D (WM g ad μ') A none (F0 m 0 ls []) := by
  obtain ⟨S, hr, hlk, hK⟩ := id X
  obtain ⟨hx, hb, hml, hown, hts⟩ := id S
  rw [f_Mo_cut] at hf
  refine lv_aload_n hx hb d_Mo_cut_0 rfl (lv_at hl 0 rfl) ?_
  obtain ⟨μ2, hv1, hf⟩ := cl_x hf
  refine wrV (As := []) (rest := []) S K_Mo_plain q_1077 (c_Mo_plain hDA hv1) hK hP hS ⟨rfl, rfl⟩ ⟨Nat.le_of_ble_eq_true rfl, Nat.le_of_ble_eq_true rfl⟩ (mr_0 hK hP) rfl hl.1 rfl (Nat.le_of_ble_eq_true rfl) d_Mo_cut_1 ⟨Nat.le_refl _, Nat.le_refl _⟩ (fun H locs hP hS => ?_)
  refine lv_aload_n hx hb d_Mo_cut_4 rfl (lv_at hl 0 rfl) ?_
  refine lv_iconst (v := 1) hx hb d_Mo_cut_5 (by decide) ?_
  obtain ⟨μ4, hv3, hf⟩ := cl_x hf
  refine wrV (As := [.int (1 : Int32)]) (rest := []) S K_Mo_work q_1016 (c_Mo_work hDA hv3) hK hP hS ⟨rfl, rfl⟩ ⟨Nat.le_of_ble_eq_true rfl, Nat.le_of_ble_eq_true rfl⟩ (mr_0 hK hP) rfl hl.1 rfl (Nat.le_of_ble_eq_true rfl) d_Mo_cut_6 ⟨Nat.le_refl _, Nat.le_refl _⟩ (fun H locs hP hS => ?_)
  refine lv_aload_n hx hb d_Mo_cut_9 rfl (lv_at hl 0 rfl) ?_
  refine lv_iconst (v := 0) hx hb d_Mo_cut_10 (by decide) ?_
  obtain ⟨μ5, hμ5, hf⟩ := bd_x hf
  refine mp_0_37 hx hb hts hown hK (hDA _) hP hS q_855 d_Mo_cut_11 hμ5 (fun H locs hP hS => ?_)
  refine lv_aload_n hx hb d_Mo_cut_14 rfl (lv_at hl 0 rfl) ?_
  refine mg_0_27 hx hb hts hown hK hP q_845 d_Mo_cut_15 ?_
  refine lv_iconst (v := 1) hx hb d_Mo_cut_18 (by decide) ?_
  refine lv_isub hx hb d_Mo_cut_19 ?_
  obtain ⟨v6, hv6, hf⟩ := bd_x hf
  refine top_i hv6 ?_
  refine lv_istore_n (lv' := [(1, .int v6), (0, .ref (ad 0))]) hx hb d_Mo_cut_20 rfl hl (Nat.le_of_ble_eq_true rfl) rfl (fun ls hl => ?_)
  exact w_Mo_cut_21 X hDA _ _ _ _ _ _ hP hS (lv_sub (l' := [(0, .ref (ad 0)), (1, .int v6)]) hl [1, 0] rfl) hf
theorem c_Mo_cut {l : Launch} {D : va_G} {g : Nat → ClassId} {ad : Nat → Nat} {μ : Mem} {μ' : Mem} {A : Nat → Prop} {n : Nat} (hDA : ∀ μ : Mem, va_D A (WM g ad μ)) (hf : f_Mo_cut n μ = some μ') : Met l y_Mo_cut (Cond.code y_Mo_cut b_Mo_cut 5 none :: ww) rm_Mo_cut (RP D CL (TY g) (WM g ad μ) [.ref (ad 0)]) (QW D CL (WM g ad μ') A none) 0 0 A := by
  refine met_of (by decide) (Nat.le_of_ble_eq_true rfl) ?_
  intro p e s m below meth c ls X hP hl
  have hl : lv_has ls 5 [(0, .ref (ad 0))] := hl
  exact w_Mo_cut X hDA hP va_S.rf hl hf
theorem d_Mo_compound_0 : decode b_Mo_compound 0 = .ok (.iconst 0, 1) := by decide +kernel
theorem d_Mo_compound_1 : decode b_Mo_compound 1 = .ok (.istore_n 2, 1) := by decide +kernel
theorem d_Mo_compound_2 : decode b_Mo_compound 2 = .ok (.iload_n 2, 1) := by decide +kernel
theorem d_Mo_compound_3 : decode b_Mo_compound 3 = .ok (.aload_n 0, 1) := by decide +kernel
theorem d_Mo_compound_4 : decode b_Mo_compound 4 = .ok (.getfield 206, 3) := by decide +kernel
theorem d_Mo_compound_7 : decode b_Mo_compound 7 = .ok (.if_icmp .ge 103, 3) := by decide +kernel
theorem d_Mo_compound_10 : decode b_Mo_compound 10 = .ok (.aload_n 0, 1) := by decide +kernel
theorem d_Mo_compound_11 : decode b_Mo_compound 11 = .ok (.getfield 83, 3) := by decide +kernel
theorem d_Mo_compound_14 : decode b_Mo_compound 14 = .ok (.iload_n 2, 1) := by decide +kernel
theorem d_Mo_compound_15 : decode b_Mo_compound 15 = .ok (.iaload, 1) := by decide +kernel
theorem d_Mo_compound_16 : decode b_Mo_compound 16 = .ok (.istore_n 3, 1) := by decide +kernel
theorem d_Mo_compound_17 : decode b_Mo_compound 17 = .ok (.aload_n 0, 1) := by decide +kernel
theorem d_Mo_compound_18 : decode b_Mo_compound 18 = .ok (.getfield 74, 3) := by decide +kernel
theorem d_Mo_compound_21 : decode b_Mo_compound 21 = .ok (.iload_n 2, 1) := by decide +kernel
theorem d_Mo_compound_22 : decode b_Mo_compound 22 = .ok (.iaload, 1) := by decide +kernel
theorem d_Mo_compound_23 : decode b_Mo_compound 23 = .ok (.aload_n 0, 1) := by decide +kernel
theorem d_Mo_compound_24 : decode b_Mo_compound 24 = .ok (.getfield 86, 3) := by decide +kernel
theorem d_Mo_compound_27 : decode b_Mo_compound 27 = .ok (.iload_n 1, 1) := by decide +kernel
theorem d_Mo_compound_28 : decode b_Mo_compound 28 = .ok (.iaload, 1) := by decide +kernel
theorem d_Mo_compound_29 : decode b_Mo_compound 29 = .ok (.if_icmp .ne 75, 3) := by decide +kernel
theorem d_Mo_compound_32 : decode b_Mo_compound 32 = .ok (.iload_n 3, 1) := by decide +kernel
theorem d_Mo_compound_33 : decode b_Mo_compound 33 = .ok (.bipush 40, 2) := by decide +kernel
theorem d_Mo_compound_35 : decode b_Mo_compound 35 = .ok (.if_icmp .eq 12, 3) := by decide +kernel
theorem d_Mo_compound_38 : decode b_Mo_compound 38 = .ok (.aload_n 0, 1) := by decide +kernel
theorem d_Mo_compound_39 : decode b_Mo_compound 39 = .ok (.getfield 25, 3) := by decide +kernel
theorem d_Mo_compound_42 : decode b_Mo_compound 42 = .ok (.iload_n 3, 1) := by decide +kernel
theorem d_Mo_compound_43 : decode b_Mo_compound 43 = .ok (.iaload, 1) := by decide +kernel
theorem d_Mo_compound_44 : decode b_Mo_compound 44 = .ok (.ifCond .ne 60, 3) := by decide +kernel
theorem d_Mo_compound_47 : decode b_Mo_compound 47 = .ok (.aload_n 0, 1) := by decide +kernel
theorem d_Mo_compound_48 : decode b_Mo_compound 48 = .ok (.getfield 74, 3) := by decide +kernel
theorem d_Mo_compound_51 : decode b_Mo_compound 51 = .ok (.iload_n 2, 1) := by decide +kernel
theorem d_Mo_compound_52 : decode b_Mo_compound 52 = .ok (.iaload, 1) := by decide +kernel
theorem d_Mo_compound_53 : decode b_Mo_compound 53 = .ok (.aload_n 0, 1) := by decide +kernel
theorem d_Mo_compound_54 : decode b_Mo_compound 54 = .ok (.getfield 77, 3) := by decide +kernel
theorem d_Mo_compound_57 : decode b_Mo_compound 57 = .ok (.iload_n 2, 1) := by decide +kernel
theorem d_Mo_compound_58 : decode b_Mo_compound 58 = .ok (.iaload, 1) := by decide +kernel
theorem d_Mo_compound_59 : decode b_Mo_compound 59 = .ok (.iadd, 1) := by decide +kernel
theorem d_Mo_compound_60 : decode b_Mo_compound 60 = .ok (.istore 4, 2) := by decide +kernel
theorem d_Mo_compound_62 : decode b_Mo_compound 62 = .ok (.iload_n 1, 1) := by decide +kernel
theorem d_Mo_compound_63 : decode b_Mo_compound 63 = .ok (.iconst 1, 1) := by decide +kernel
theorem d_Mo_compound_64 : decode b_Mo_compound 64 = .ok (.iadd, 1) := by decide +kernel
theorem d_Mo_compound_65 : decode b_Mo_compound 65 = .ok (.istore 5, 2) := by decide +kernel
theorem d_Mo_compound_67 : decode b_Mo_compound 67 = .ok (.iload 5, 2) := by decide +kernel
theorem d_Mo_compound_69 : decode b_Mo_compound 69 = .ok (.aload_n 0, 1) := by decide +kernel
theorem d_Mo_compound_70 : decode b_Mo_compound 70 = .ok (.getfield 212, 3) := by decide +kernel
theorem d_Mo_compound_73 : decode b_Mo_compound 73 = .ok (.if_icmp .ge 31, 3) := by decide +kernel
theorem d_Mo_compound_76 : decode b_Mo_compound 76 = .ok (.aload_n 0, 1) := by decide +kernel
theorem d_Mo_compound_77 : decode b_Mo_compound 77 = .ok (.getfield 86, 3) := by decide +kernel
theorem d_Mo_compound_80 : decode b_Mo_compound 80 = .ok (.iload 5, 2) := by decide +kernel
theorem d_Mo_compound_82 : decode b_Mo_compound 82 = .ok (.iaload, 1) := by decide +kernel
theorem d_Mo_compound_83 : decode b_Mo_compound 83 = .ok (.aload_n 0, 1) := by decide +kernel
theorem d_Mo_compound_84 : decode b_Mo_compound 84 = .ok (.getfield 89, 3) := by decide +kernel
theorem d_Mo_compound_87 : decode b_Mo_compound 87 = .ok (.iload 5, 2) := by decide +kernel
theorem d_Mo_compound_89 : decode b_Mo_compound 89 = .ok (.iaload, 1) := by decide +kernel
theorem d_Mo_compound_90 : decode b_Mo_compound 90 = .ok (.iadd, 1) := by decide +kernel
theorem d_Mo_compound_91 : decode b_Mo_compound 91 = .ok (.iload 4, 2) := by decide +kernel
theorem d_Mo_compound_93 : decode b_Mo_compound 93 = .ok (.if_icmp .ne 5, 3) := by decide +kernel
theorem d_Mo_compound_96 : decode b_Mo_compound 96 = .ok (.iload_n 2, 1) := by decide +kernel
theorem d_Mo_compound_97 : decode b_Mo_compound 97 = .ok (.ireturn, 1) := by decide +kernel
theorem d_Mo_compound_98 : decode b_Mo_compound 98 = .ok (.iinc 5 1, 3) := by decide +kernel
theorem d_Mo_compound_101 : decode b_Mo_compound 101 = .ok (.goto (-34), 3) := by decide +kernel
theorem d_Mo_compound_104 : decode b_Mo_compound 104 = .ok (.iinc 2 1, 3) := by decide +kernel
theorem d_Mo_compound_107 : decode b_Mo_compound 107 = .ok (.goto (-105), 3) := by decide +kernel
theorem d_Mo_compound_110 : decode b_Mo_compound 110 = .ok (.iconst (-1), 1) := by decide +kernel
theorem d_Mo_compound_111 : decode b_Mo_compound 111 = .ok (.ireturn, 1) := by decide +kernel
abbrev rm_Mo_compound : Room := { frames := 0, cells := 0, slots := 0, locals := 0 }
def f_Mo_compound_104 (κ2 : Int32 → Int32 → Option Int32) (μ : Mem) (n : Nat) (x1 : Int32) (x2 : Int32) : Option Int32 := bd (x2 + 1) (fun v1 => κ2 x1 v1)
set_option maxHeartbeats 4000000 in
set_option maxRecDepth 100000 in
theorem w_Mo_compound_104 {p : Program} {l : Launch} {e : Env} {s : State} {m : MethodId} {args : Array Value} {below : List Frame} {meth : Method} {c : Code} {D : va_G} {g : Nat → ClassId} {ad : Nat → Nat} {μ : Mem} {r : Int32} {κ2 : Int32 → Int32 → Option Int32} {n : Nat} {x1 : Int32} {x2 : Int32} {ls : Array Slot} (X : Cx p s m args meth c b_Mo_compound 6 R_Mo (some .int) D CL (TY g)) (hP : va_P D CL (WM g ad μ) s.heap) (hκ2 : ∀ (x1 : Int32) (x2 : Int32) (ls : Array Slot), lv_has ls 6 [(0, .ref (ad 0)), (1, .int x1), (2, .int x2)] → κ2 x1 x2 = some r → WR p l e rm_Mo_compound s m args below meth c (.int r) (F0 m 2 ls [])) (hl : lv_has ls 6 [(0, .ref (ad 0)), (1, .int x1), (2, .int x2)]) (hf : f_Mo_compound_104 κ2 μ n x1 x2 = some r) : WR p l e rm_Mo_compound s m args below meth c (.int r) (F0 m 104 ls []) := by
  obtain ⟨S, hr, hlk, hK⟩ := id X
  obtain ⟨hx, hb, hml, hown, hts⟩ := id S
  rw [f_Mo_compound_104] at hf
  obtain ⟨v1, hv1, hf⟩ := bd_x hf
  refine lv_iinc (lv' := [(2, .int v1), (0, .ref (ad 0)), (1, .int x1)]) hx hb d_Mo_compound_104 hl (k := 2) rfl (show x2 + Int32.ofInt (1) = v1 from hv1) (Nat.le_of_ble_eq_true rfl) rfl (fun ls hl => ?_)
  refine lv_goto (tgt := 2) hx hb d_Mo_compound_107 rfl ?_
  exact hκ2 _ _ _ (lv_sub (l' := [(0, .ref (ad 0)), (1, .int x1), (2, .int v1)]) hl [1, 2, 0] rfl) hf
def f_Mo_compound_67 (κ2 : Int32 → Int32 → Option Int32) (μ : Mem) : Nat → Int32 → Int32 → Int32 → Int32 → Option Int32
  | 0, _, _, _, _ => none
  | n + 1, x1, x2, x4, x5 => (if (μ.1 0 37) ≤ x5 then (f_Mo_compound_104 κ2 μ n x1 x2) else (gd (inb x5 24) (gd (inb x5 24) ((if ((μ.1 26 x5.toNatClampNeg) + (μ.1 27 x5.toNatClampNeg)) = x4 then (some x2) else (bd (x5 + 1) (fun v1 => (f_Mo_compound_67 κ2 μ n) x1 x2 x4 v1)))))))
set_option maxHeartbeats 4000000 in
set_option maxRecDepth 100000 in
theorem w_Mo_compound_67 {p : Program} {l : Launch} {e : Env} {s : State} {m : MethodId} {args : Array Value} {below : List Frame} {meth : Method} {c : Code} {D : va_G} {g : Nat → ClassId} {ad : Nat → Nat} {μ : Mem} {r : Int32} {κ2 : Int32 → Int32 → Option Int32} (X : Cx p s m args meth c b_Mo_compound 6 R_Mo (some .int) D CL (TY g)) (hP : va_P D CL (WM g ad μ) s.heap) (hκ2 : ∀ (x1 : Int32) (x2 : Int32) (ls : Array Slot), lv_has ls 6 [(0, .ref (ad 0)), (1, .int x1), (2, .int x2)] → κ2 x1 x2 = some r → WR p l e rm_Mo_compound s m args below meth c (.int r) (F0 m 2 ls [])) : ∀ (n : Nat) (x1 : Int32) (x2 : Int32) (x4 : Int32) (x5 : Int32) (ls : Array Slot), lv_has ls 6 [(0, .ref (ad 0)), (1, .int x1), (2, .int x2), (4, .int x4), (5, .int x5)] → f_Mo_compound_67 κ2 μ n x1 x2 x4 x5 = some r → WR p l e rm_Mo_compound s m args below meth c (.int r) (F0 m 67 ls []) := by
  intro n
  induction n with
  | zero => intro x1 x2 x4 x5 ls hl hf; rw [f_Mo_compound_67] at hf; cases hf
  | succ n ih =>
    intro x1 x2 x4 x5 ls hl hf
    obtain ⟨S, hr, hlk, hK⟩ := id X
    obtain ⟨hx, hb, hml, hown, hts⟩ := id S
    rw [f_Mo_compound_67] at hf
    refine lv_iload hx hb d_Mo_compound_67 (lv_at hl 4 rfl) ?_
    refine lv_aload_n hx hb d_Mo_compound_69 rfl (lv_at hl 0 rfl) ?_
    refine mg_0_37 hx hb hts hown hK hP q_855 d_Mo_compound_70 ?_
    refine lv_icmp_ge (tgt := 104) hx hb d_Mo_compound_73 rfl (fun hc => ?_) (fun hc => ?_)
    · replace hf := br_p hc hf
      exact w_Mo_compound_104 X hP hκ2 (lv_sub (l' := [(0, .ref (ad 0)), (1, .int x1), (2, .int x2)]) hl [0, 1, 2] rfl) hf
    · replace hf := br_n hc hf
      refine lv_aload_n hx hb d_Mo_compound_76 rfl (lv_at hl 0 rfl) ?_
      refine mg_0_33 hx hb hts hown hK hP q_851 d_Mo_compound_77 ?_
      refine lv_iload hx hb d_Mo_compound_80 (lv_at hl 4 rfl) ?_
      obtain ⟨hi, hf⟩ := gd_x hf
      refine ml_26 hx hb hK hP (inb_in hi) d_Mo_compound_82 ?_
      refine lv_aload_n hx hb d_Mo_compound_83 rfl (lv_at hl 0 rfl) ?_
      refine mg_0_34 hx hb hts hown hK hP q_852 d_Mo_compound_84 ?_
      refine lv_iload hx hb d_Mo_compound_87 (lv_at hl 4 rfl) ?_
      obtain ⟨hi, hf⟩ := gd_x hf
      refine ml_27 hx hb hK hP (inb_in hi) d_Mo_compound_89 ?_
      refine lv_iadd hx hb d_Mo_compound_90 ?_
      refine lv_iload hx hb d_Mo_compound_91 (lv_at hl 3 rfl) ?_
      refine lv_icmp_ne (tgt := 98) hx hb d_Mo_compound_93 rfl (fun hc => ?_) (fun hc => ?_)
      · replace hf := br_n hc hf
        obtain ⟨v1, hv1, hf⟩ := bd_x hf
        refine lv_iinc (lv' := [(5, .int v1), (0, .ref (ad 0)), (1, .int x1), (2, .int x2), (4, .int x4)]) hx hb d_Mo_compound_98 hl (k := 4) rfl (show x5 + Int32.ofInt (1) = v1 from hv1) (Nat.le_of_ble_eq_true rfl) rfl (fun ls hl => ?_)
        refine lv_goto (tgt := 67) hx hb d_Mo_compound_101 rfl ?_
        exact ih _ _ _ _ _ (lv_sub (l' := [(0, .ref (ad 0)), (1, .int x1), (2, .int x2), (4, .int x4), (5, .int v1)]) hl [1, 2, 3, 4, 0] rfl) hf
      · replace hf := br_p hc hf
        refine lv_iload_n hx hb d_Mo_compound_96 rfl (lv_at hl 2 rfl) ?_
        have h1 := Option.some.inj hf
        subst h1
        exact W.iret hx hb hr (fun t ht _ => ⟨rfl, ht⟩) (fun _ h => by cases h) d_Mo_compound_97
def f_Mo_compound_47 (κ2 : Int32 → Int32 → Option Int32) (μ : Mem) (n : Nat) (x1 : Int32) (x2 : Int32) : Option Int32 := gd (inb x2 24) (gd (inb x2 24) (bd ((μ.1 22 x2.toNatClampNeg) + (μ.1 23 x2.toNatClampNeg)) (fun v1 => bd (x1 + (1 : Int32)) (fun v2 => f_Mo_compound_67 κ2 μ n x1 x2 v1 v2))))
set_option maxHeartbeats 4000000 in
set_option maxRecDepth 100000 in
theorem w_Mo_compound_47 {p : Program} {l : Launch} {e : Env} {s : State} {m : MethodId} {args : Array Value} {below : List Frame} {meth : Method} {c : Code} {D : va_G} {g : Nat → ClassId} {ad : Nat → Nat} {μ : Mem} {r : Int32} {κ2 : Int32 → Int32 → Option Int32} {n : Nat} {x1 : Int32} {x2 : Int32} {ls : Array Slot} (X : Cx p s m args meth c b_Mo_compound 6 R_Mo (some .int) D CL (TY g)) (hP : va_P D CL (WM g ad μ) s.heap) (hκ2 : ∀ (x1 : Int32) (x2 : Int32) (ls : Array Slot), lv_has ls 6 [(0, .ref (ad 0)), (1, .int x1), (2, .int x2)] → κ2 x1 x2 = some r → WR p l e rm_Mo_compound s m args below meth c (.int r) (F0 m 2 ls [])) (hl : lv_has ls 6 [(0, .ref (ad 0)), (1, .int x1), (2, .int x2)]) (hf : f_Mo_compound_47 κ2 μ n x1 x2 = some r) : WR p l e rm_Mo_compound s m args below meth c (.int r) (F0 m 47 ls []) := by
  obtain ⟨S, hr, hlk, hK⟩ := id X
  obtain ⟨hx, hb, hml, hown, hts⟩ := id S
  rw [f_Mo_compound_47] at hf
  refine lv_aload_n hx hb d_Mo_compound_47 rfl (lv_at hl 0 rfl) ?_
  refine mg_0_28 hx hb hts hown hK hP q_846 d_Mo_compound_48 ?_
  refine lv_iload_n hx hb d_Mo_compound_51 rfl (lv_at hl 2 rfl) ?_
  obtain ⟨hi, hf⟩ := gd_x hf
  refine ml_22 hx hb hK hP (inb_in hi) d_Mo_compound_52 ?_
  refine lv_aload_n hx hb d_Mo_compound_53 rfl (lv_at hl 0 rfl) ?_
  refine mg_0_29 hx hb hts hown hK hP q_847 d_Mo_compound_54 ?_
  refine lv_iload_n hx hb d_Mo_compound_57 rfl (lv_at hl 2 rfl) ?_
  obtain ⟨hi, hf⟩ := gd_x hf
  refine ml_23 hx hb hK hP (inb_in hi) d_Mo_compound_58 ?_
  refine lv_iadd hx hb d_Mo_compound_59 ?_
  obtain ⟨v1, hv1, hf⟩ := bd_x hf
  refine top_i hv1 ?_
  refine lv_istore (lv' := [(4, .int v1), (0, .ref (ad 0)), (1, .int x1), (2, .int x2)]) hx hb d_Mo_compound_60 hl (Nat.le_of_ble_eq_true rfl) rfl (fun ls hl => ?_)
  refine lv_iload_n hx hb d_Mo_compound_62 rfl (lv_at hl 2 rfl) ?_
  refine lv_iconst (v := 1) hx hb d_Mo_compound_63 (by decide) ?_
  refine lv_iadd hx hb d_Mo_compound_64 ?_
  obtain ⟨v2, hv2, hf⟩ := bd_x hf
  refine top_i hv2 ?_
  refine lv_istore (lv' := [(5, .int v2), (4, .int v1), (0, .ref (ad 0)), (1, .int x1), (2, .int x2)]) hx hb d_Mo_compound_65 hl (Nat.le_of_ble_eq_true rfl) rfl (fun ls hl => ?_)
  exact w_Mo_compound_67 X hP hκ2 _ _ _ _ _ _ (lv_sub (l' := [(0, .ref (ad 0)), (1, .int x1), (2, .int x2), (4, .int v1), (5, .int v2)]) hl [2, 3, 4, 1, 0] rfl) hf
def f_Mo_compound_2 (μ : Mem) : Nat → Int32 → Int32 → Option Int32
  | 0, _, _ => none
  | n + 1, x1, x2 => (if (μ.1 0 32) ≤ x2 then (some (-1 : Int32)) else (gd (inb x2 24) (bd (μ.1 25 x2.toNatClampNeg) (fun v1 => gd (inb x2 24) (gd (inb x1 24) ((if (μ.1 22 x2.toNatClampNeg) = (μ.1 26 x1.toNatClampNeg) then (if v1 = (40 : Int32) then (f_Mo_compound_47 (f_Mo_compound_2 μ n) μ n x1 x2) else (gd (inb v1 40) ((if (μ.1 6 v1.toNatClampNeg) = 0 then (f_Mo_compound_47 (f_Mo_compound_2 μ n) μ n x1 x2) else (f_Mo_compound_104 (f_Mo_compound_2 μ n) μ n x1 x2))))) else (f_Mo_compound_104 (f_Mo_compound_2 μ n) μ n x1 x2))))))))
set_option maxHeartbeats 4000000 in
set_option maxRecDepth 100000 in
theorem w_Mo_compound_2 {p : Program} {l : Launch} {e : Env} {s : State} {m : MethodId} {args : Array Value} {below : List Frame} {meth : Method} {c : Code} {D : va_G} {g : Nat → ClassId} {ad : Nat → Nat} {μ : Mem} {r : Int32} (X : Cx p s m args meth c b_Mo_compound 6 R_Mo (some .int) D CL (TY g)) (hP : va_P D CL (WM g ad μ) s.heap) : ∀ (n : Nat) (x1 : Int32) (x2 : Int32) (ls : Array Slot), lv_has ls 6 [(0, .ref (ad 0)), (1, .int x1), (2, .int x2)] → f_Mo_compound_2 μ n x1 x2 = some r → WR p l e rm_Mo_compound s m args below meth c (.int r) (F0 m 2 ls []) := by
  intro n
  induction n with
  | zero => intro x1 x2 ls hl hf; rw [f_Mo_compound_2] at hf; cases hf
  | succ n ih =>
    intro x1 x2 ls hl hf
    obtain ⟨S, hr, hlk, hK⟩ := id X
    obtain ⟨hx, hb, hml, hown, hts⟩ := id S
    rw [f_Mo_compound_2] at hf
    refine lv_iload_n hx hb d_Mo_compound_2 rfl (lv_at hl 2 rfl) ?_
    refine lv_aload_n hx hb d_Mo_compound_3 rfl (lv_at hl 0 rfl) ?_
    refine mg_0_32 hx hb hts hown hK hP q_850 d_Mo_compound_4 ?_
    refine lv_icmp_ge (tgt := 110) hx hb d_Mo_compound_7 rfl (fun hc => ?_) (fun hc => ?_)
    · replace hf := br_p hc hf
      refine lv_iconst (v := -1) hx hb d_Mo_compound_110 (by decide) ?_
      have h1 := Option.some.inj hf
      subst h1
      exact W.iret hx hb hr (fun t ht _ => ⟨rfl, ht⟩) (fun _ h => by cases h) d_Mo_compound_111
    · replace hf := br_n hc hf
      refine lv_aload_n hx hb d_Mo_compound_10 rfl (lv_at hl 0 rfl) ?_
      refine mg_0_31 hx hb hts hown hK hP q_849 d_Mo_compound_11 ?_
      refine lv_iload_n hx hb d_Mo_compound_14 rfl (lv_at hl 2 rfl) ?_
      obtain ⟨hi, hf⟩ := gd_x hf
      refine ml_25 hx hb hK hP (inb_in hi) d_Mo_compound_15 ?_
      obtain ⟨v1, hv1, hf⟩ := bd_x hf
      refine top_i hv1 ?_
      refine lv_istore_n (lv' := [(3, .int v1), (0, .ref (ad 0)), (1, .int x1), (2, .int x2)]) hx hb d_Mo_compound_16 rfl hl (Nat.le_of_ble_eq_true rfl) rfl (fun ls hl => ?_)
      refine lv_aload_n hx hb d_Mo_compound_17 rfl (lv_at hl 1 rfl) ?_
      refine mg_0_28 hx hb hts hown hK hP q_846 d_Mo_compound_18 ?_
      refine lv_iload_n hx hb d_Mo_compound_21 rfl (lv_at hl 3 rfl) ?_
      obtain ⟨hi, hf⟩ := gd_x hf
      refine ml_22 hx hb hK hP (inb_in hi) d_Mo_compound_22 ?_
      refine lv_aload_n hx hb d_Mo_compound_23 rfl (lv_at hl 1 rfl) ?_
      refine mg_0_33 hx hb hts hown hK hP q_851 d_Mo_compound_24 ?_
      refine lv_iload_n hx hb d_Mo_compound_27 rfl (lv_at hl 2 rfl) ?_
      obtain ⟨hi, hf⟩ := gd_x hf
      refine ml_26 hx hb hK hP (inb_in hi) d_Mo_compound_28 ?_
      refine lv_icmp_ne (tgt := 104) hx hb d_Mo_compound_29 rfl (fun hc => ?_) (fun hc => ?_)
      · replace hf := br_n hc hf
        exact w_Mo_compound_104 X hP ih (lv_sub (l' := [(0, .ref (ad 0)), (1, .int x1), (2, .int x2)]) hl [1, 2, 3] rfl) hf
      · replace hf := br_p hc hf
        refine lv_iload_n hx hb d_Mo_compound_32 rfl (lv_at hl 0 rfl) ?_
        refine lv_bipush (v := 40) hx hb d_Mo_compound_33 (by decide) ?_
        refine lv_icmp_eq (tgt := 47) hx hb d_Mo_compound_35 rfl (fun hc => ?_) (fun hc => ?_)
        · replace hf := br_p hc hf
          exact w_Mo_compound_47 X hP ih (lv_sub (l' := [(0, .ref (ad 0)), (1, .int x1), (2, .int x2)]) hl [1, 2, 3] rfl) hf
        · replace hf := br_n hc hf
          refine lv_aload_n hx hb d_Mo_compound_38 rfl (lv_at hl 1 rfl) ?_
          refine mg_0_6 hx hb hts hown hK hP q_824 d_Mo_compound_39 ?_
          refine lv_iload_n hx hb d_Mo_compound_42 rfl (lv_at hl 0 rfl) ?_
          obtain ⟨hi, hf⟩ := gd_x hf
          refine ml_6 hx hb hK hP (inb_in hi) d_Mo_compound_43 ?_
          refine lv_if_ne (tgt := 104) hx hb d_Mo_compound_44 rfl (fun hc => ?_) (fun hc => ?_)
          · replace hf := br_n hc hf
            exact w_Mo_compound_104 X hP ih (lv_sub (l' := [(0, .ref (ad 0)), (1, .int x1), (2, .int x2)]) hl [1, 2, 3] rfl) hf
          · replace hf := br_p hc hf
            exact w_Mo_compound_47 X hP ih (lv_sub (l' := [(0, .ref (ad 0)), (1, .int x1), (2, .int x2)]) hl [1, 2, 3] rfl) hf
def f_Mo_compound (n : Nat) (μ : Mem) (a1 : Int32) : Option Int32 := f_Mo_compound_2 μ n a1 (0 : Int32)
set_option maxHeartbeats 4000000 in
set_option maxRecDepth 100000 in
theorem w_Mo_compound {p : Program} {l : Launch} {e : Env} {s : State} {m : MethodId} {args : Array Value} {below : List Frame} {meth : Method} {c : Code} {D : va_G} {g : Nat → ClassId} {ad : Nat → Nat} {μ : Mem} {r : Int32} {n : Nat} {a1 : Int32} {ls : Array Slot} (X : Cx p s m args meth c b_Mo_compound 6 R_Mo (some .int) D CL (TY g)) (hP : va_P D CL (WM g ad μ) s.heap) (hl : lv_has ls 6 [(0, .ref (ad 0)), (1, .int a1)]) (hf : f_Mo_compound n μ a1 = some r) : WR p l e rm_Mo_compound s m args below meth c (.int r) (F0 m 0 ls []) := by
  obtain ⟨S, hr, hlk, hK⟩ := id X
  obtain ⟨hx, hb, hml, hown, hts⟩ := id S
  rw [f_Mo_compound] at hf
  refine lv_iconst (v := 0) hx hb d_Mo_compound_0 (by decide) ?_
  refine lv_istore_n (lv' := [(2, .int (0 : Int32)), (0, .ref (ad 0)), (1, .int a1)]) hx hb d_Mo_compound_1 rfl hl (Nat.le_of_ble_eq_true rfl) rfl (fun ls hl => ?_)
  exact w_Mo_compound_2 X hP _ _ _ _ (lv_sub (l' := [(0, .ref (ad 0)), (1, .int a1), (2, .int (0 : Int32))]) hl [1, 2, 0] rfl) hf
theorem c_Mo_compound {l : Launch} {D : va_G} {g : Nat → ClassId} {ad : Nat → Nat} {μ : Mem} {r : Int32} {n : Nat} {a1 : Int32} (hf : f_Mo_compound n μ a1 = some r) : Met l y_Mo_compound (Cond.code y_Mo_compound b_Mo_compound 6 (some .int) :: ww) rm_Mo_compound (RP D CL (TY g) (WM g ad μ) [.ref (ad 0), .int a1]) (k2_QcV (.int r)) 0 0 (fun _ => False) := by
  refine met_of (by decide) (Nat.le_of_ble_eq_true rfl) ?_
  intro p e s m below meth c ls X hP hl
  have hl : lv_has ls 6 [(0, .ref (ad 0)), (1, .int a1)] := hl
  exact w_Mo_compound X hP hl hf
theorem d_Mo_stems_0 : decode b_Mo_stems 0 = .ok (.aload_n 0, 1) := by decide +kernel
theorem d_Mo_stems_1 : decode b_Mo_stems 1 = .ok (.getfield 215, 3) := by decide +kernel
theorem d_Mo_stems_4 : decode b_Mo_stems 4 = .ok (.iload_n 1, 1) := by decide +kernel
theorem d_Mo_stems_5 : decode b_Mo_stems 5 = .ok (.if_icmp .le 20, 3) := by decide +kernel
theorem d_Mo_stems_8 : decode b_Mo_stems 8 = .ok (.aload_n 0, 1) := by decide +kernel
theorem d_Mo_stems_9 : decode b_Mo_stems 9 = .ok (.getfield 98, 3) := by decide +kernel
theorem d_Mo_stems_12 : decode b_Mo_stems 12 = .ok (.aload_n 0, 1) := by decide +kernel
theorem d_Mo_stems_13 : decode b_Mo_stems 13 = .ok (.getfield 215, 3) := by decide +kernel
theorem d_Mo_stems_16 : decode b_Mo_stems 16 = .ok (.iconst 1, 1) := by decide +kernel
theorem d_Mo_stems_17 : decode b_Mo_stems 17 = .ok (.isub, 1) := by decide +kernel
theorem d_Mo_stems_18 : decode b_Mo_stems 18 = .ok (.iaload, 1) := by decide +kernel
theorem d_Mo_stems_19 : decode b_Mo_stems 19 = .ok (.sipush 191, 3) := by decide +kernel
theorem d_Mo_stems_22 : decode b_Mo_stems 22 = .ok (.if_icmp .eq 5, 3) := by decide +kernel
theorem d_Mo_stems_25 : decode b_Mo_stems 25 = .ok (.iconst 0, 1) := by decide +kernel
theorem d_Mo_stems_26 : decode b_Mo_stems 26 = .ok (.ireturn, 1) := by decide +kernel
theorem d_Mo_stems_27 : decode b_Mo_stems 27 = .ok (.iconst 0, 1) := by decide +kernel
theorem d_Mo_stems_28 : decode b_Mo_stems 28 = .ok (.istore_n 2, 1) := by decide +kernel
theorem d_Mo_stems_29 : decode b_Mo_stems 29 = .ok (.iload_n 2, 1) := by decide +kernel
theorem d_Mo_stems_30 : decode b_Mo_stems 30 = .ok (.aload_n 0, 1) := by decide +kernel
theorem d_Mo_stems_31 : decode b_Mo_stems 31 = .ok (.getfield 215, 3) := by decide +kernel
theorem d_Mo_stems_34 : decode b_Mo_stems 34 = .ok (.if_icmp .ge 24, 3) := by decide +kernel
theorem d_Mo_stems_37 : decode b_Mo_stems 37 = .ok (.aload_n 0, 1) := by decide +kernel
theorem d_Mo_stems_38 : decode b_Mo_stems 38 = .ok (.getfield 98, 3) := by decide +kernel
theorem d_Mo_stems_41 : decode b_Mo_stems 41 = .ok (.iload_n 2, 1) := by decide +kernel
theorem d_Mo_stems_42 : decode b_Mo_stems 42 = .ok (.iaload, 1) := by decide +kernel
theorem d_Mo_stems_43 : decode b_Mo_stems 43 = .ok (.bipush 64, 2) := by decide +kernel
theorem d_Mo_stems_45 : decode b_Mo_stems 45 = .ok (.idiv, 1) := by decide +kernel
theorem d_Mo_stems_46 : decode b_Mo_stems 46 = .ok (.iconst 2, 1) := by decide +kernel
theorem d_Mo_stems_47 : decode b_Mo_stems 47 = .ok (.if_icmp .eq 5, 3) := by decide +kernel
theorem d_Mo_stems_50 : decode b_Mo_stems 50 = .ok (.iconst 0, 1) := by decide +kernel
theorem d_Mo_stems_51 : decode b_Mo_stems 51 = .ok (.ireturn, 1) := by decide +kernel
theorem d_Mo_stems_52 : decode b_Mo_stems 52 = .ok (.iinc 2 1, 3) := by decide +kernel
theorem d_Mo_stems_55 : decode b_Mo_stems 55 = .ok (.goto (-26), 3) := by decide +kernel
theorem d_Mo_stems_58 : decode b_Mo_stems 58 = .ok (.iconst 1, 1) := by decide +kernel
theorem d_Mo_stems_59 : decode b_Mo_stems 59 = .ok (.ireturn, 1) := by decide +kernel
abbrev rm_Mo_stems : Room := { frames := 0, cells := 0, slots := 0, locals := 0 }
def f_Mo_stems_29 (μ : Mem) : Nat → Int32 → Option Bool
  | 0, _ => none
  | n + 1, x2 => (if (μ.1 0 39) ≤ x2 then (some true) else (gd (inb x2 8) ((if ((μ.1 30 x2.toNatClampNeg) / (64 : Int32)) = (2 : Int32) then (bd (x2 + 1) (fun v1 => (f_Mo_stems_29 μ n) v1)) else (some false)))))
set_option maxHeartbeats 4000000 in
set_option maxRecDepth 100000 in
theorem w_Mo_stems_29 {p : Program} {l : Launch} {e : Env} {s : State} {m : MethodId} {args : Array Value} {below : List Frame} {meth : Method} {c : Code} {D : va_G} {g : Nat → ClassId} {ad : Nat → Nat} {μ : Mem} {r : Bool} (X : Cx p s m args meth c b_Mo_stems 3 R_Mo (some .boolean) D CL (TY g)) (hP : va_P D CL (WM g ad μ) s.heap) : ∀ (n : Nat) (x2 : Int32) (ls : Array Slot), lv_has ls 3 [(0, .ref (ad 0)), (2, .int x2)] → f_Mo_stems_29 μ n x2 = some r → WR p l e rm_Mo_stems s m args below meth c (.int (bz r)) (F0 m 29 ls []) := by
  intro n
  induction n with
  | zero => intro x2 ls hl hf; rw [f_Mo_stems_29] at hf; cases hf
  | succ n ih =>
    intro x2 ls hl hf
    obtain ⟨S, hr, hlk, hK⟩ := id X
    obtain ⟨hx, hb, hml, hown, hts⟩ := id S
    rw [f_Mo_stems_29] at hf
    refine lv_iload_n hx hb d_Mo_stems_29 rfl (lv_at hl 1 rfl) ?_
    refine lv_aload_n hx hb d_Mo_stems_30 rfl (lv_at hl 0 rfl) ?_
    refine mg_0_39 hx hb hts hown hK hP q_857 d_Mo_stems_31 ?_
    refine lv_icmp_ge (tgt := 58) hx hb d_Mo_stems_34 rfl (fun hc => ?_) (fun hc => ?_)
    · replace hf := br_p hc hf
      refine lv_iconst (v := 1) hx hb d_Mo_stems_58 (by decide) ?_
      have h1 := Option.some.inj hf
      subst h1
      exact W.zret hx hb hr (by first | rfl | exact bz_nar _) (fun t ht _ => ⟨rfl, ht⟩) (fun _ h => by cases h) d_Mo_stems_59
    · replace hf := br_n hc hf
      refine lv_aload_n hx hb d_Mo_stems_37 rfl (lv_at hl 0 rfl) ?_
      refine mg_0_38 hx hb hts hown hK hP q_856 d_Mo_stems_38 ?_
      refine lv_iload_n hx hb d_Mo_stems_41 rfl (lv_at hl 1 rfl) ?_
      obtain ⟨hi, hf⟩ := gd_x hf
      refine ml_30 hx hb hK hP (inb_in hi) d_Mo_stems_42 ?_
      refine lv_bipush (v := 64) hx hb d_Mo_stems_43 (by decide) ?_
      refine lv_idiv hx hb d_Mo_stems_45 (by decide) ?_
      refine lv_iconst (v := 2) hx hb d_Mo_stems_46 (by decide) ?_
      refine lv_icmp_eq (tgt := 52) hx hb d_Mo_stems_47 rfl (fun hc => ?_) (fun hc => ?_)
      · replace hf := br_p hc hf
        obtain ⟨v1, hv1, hf⟩ := bd_x hf
        refine lv_iinc (lv' := [(2, .int v1), (0, .ref (ad 0))]) hx hb d_Mo_stems_52 hl (k := 1) rfl (show x2 + Int32.ofInt (1) = v1 from hv1) (Nat.le_of_ble_eq_true rfl) rfl (fun ls hl => ?_)
        refine lv_goto (tgt := 29) hx hb d_Mo_stems_55 rfl ?_
        exact ih _ _ (lv_sub (l' := [(0, .ref (ad 0)), (2, .int v1)]) hl [1, 0] rfl) hf
      · replace hf := br_n hc hf
        refine lv_iconst (v := 0) hx hb d_Mo_stems_50 (by decide) ?_
        have h1 := Option.some.inj hf
        subst h1
        exact W.zret hx hb hr (by first | rfl | exact bz_nar _) (fun t ht _ => ⟨rfl, ht⟩) (fun _ h => by cases h) d_Mo_stems_51
def f_Mo_stems (n : Nat) (μ : Mem) (a1 : Int32) : Option Bool := (if (μ.1 0 39) ≤ a1 then (some false) else (gd (inb ((μ.1 0 39) - (1 : Int32)) 8) ((if (μ.1 30 ((μ.1 0 39) - (1 : Int32)).toNatClampNeg) = (191 : Int32) then (f_Mo_stems_29 μ n (0 : Int32)) else (some false)))))
set_option maxHeartbeats 4000000 in
set_option maxRecDepth 100000 in
theorem w_Mo_stems {p : Program} {l : Launch} {e : Env} {s : State} {m : MethodId} {args : Array Value} {below : List Frame} {meth : Method} {c : Code} {D : va_G} {g : Nat → ClassId} {ad : Nat → Nat} {μ : Mem} {r : Bool} {n : Nat} {a1 : Int32} {ls : Array Slot} (X : Cx p s m args meth c b_Mo_stems 3 R_Mo (some .boolean) D CL (TY g)) (hP : va_P D CL (WM g ad μ) s.heap) (hl : lv_has ls 3 [(0, .ref (ad 0)), (1, .int a1)]) (hf : f_Mo_stems n μ a1 = some r) : WR p l e rm_Mo_stems s m args below meth c (.int (bz r)) (F0 m 0 ls []) := by
  obtain ⟨S, hr, hlk, hK⟩ := id X
  obtain ⟨hx, hb, hml, hown, hts⟩ := id S
  rw [f_Mo_stems] at hf
  refine lv_aload_n hx hb d_Mo_stems_0 rfl (lv_at hl 0 rfl) ?_
  refine mg_0_39 hx hb hts hown hK hP q_857 d_Mo_stems_1 ?_
  refine lv_iload_n hx hb d_Mo_stems_4 rfl (lv_at hl 1 rfl) ?_
  refine lv_icmp_le (tgt := 25) hx hb d_Mo_stems_5 rfl (fun hc => ?_) (fun hc => ?_)
  · replace hf := br_p hc hf
    refine lv_iconst (v := 0) hx hb d_Mo_stems_25 (by decide) ?_
    have h1 := Option.some.inj hf
    subst h1
    exact W.zret hx hb hr (by first | rfl | exact bz_nar _) (fun t ht _ => ⟨rfl, ht⟩) (fun _ h => by cases h) d_Mo_stems_26
  · replace hf := br_n hc hf
    refine lv_aload_n hx hb d_Mo_stems_8 rfl (lv_at hl 0 rfl) ?_
    refine mg_0_38 hx hb hts hown hK hP q_856 d_Mo_stems_9 ?_
    refine lv_aload_n hx hb d_Mo_stems_12 rfl (lv_at hl 0 rfl) ?_
    refine mg_0_39 hx hb hts hown hK hP q_857 d_Mo_stems_13 ?_
    refine lv_iconst (v := 1) hx hb d_Mo_stems_16 (by decide) ?_
    refine lv_isub hx hb d_Mo_stems_17 ?_
    obtain ⟨hi, hf⟩ := gd_x hf
    refine ml_30 hx hb hK hP (inb_in hi) d_Mo_stems_18 ?_
    refine lv_sipush (v := 191) hx hb d_Mo_stems_19 (by decide) ?_
    refine lv_icmp_eq (tgt := 27) hx hb d_Mo_stems_22 rfl (fun hc => ?_) (fun hc => ?_)
    · replace hf := br_p hc hf
      refine lv_iconst (v := 0) hx hb d_Mo_stems_27 (by decide) ?_
      refine lv_istore_n (lv' := [(2, .int (0 : Int32)), (0, .ref (ad 0)), (1, .int a1)]) hx hb d_Mo_stems_28 rfl hl (Nat.le_of_ble_eq_true rfl) rfl (fun ls hl => ?_)
      exact w_Mo_stems_29 X hP _ _ _ (lv_sub (l' := [(0, .ref (ad 0)), (2, .int (0 : Int32))]) hl [1, 0] rfl) hf
    · replace hf := br_n hc hf
      refine lv_iconst (v := 0) hx hb d_Mo_stems_25 (by decide) ?_
      have h1 := Option.some.inj hf
      subst h1
      exact W.zret hx hb hr (by first | rfl | exact bz_nar _) (fun t ht _ => ⟨rfl, ht⟩) (fun _ h => by cases h) d_Mo_stems_26
theorem c_Mo_stems {l : Launch} {D : va_G} {g : Nat → ClassId} {ad : Nat → Nat} {μ : Mem} {r : Bool} {n : Nat} {a1 : Int32} (hf : f_Mo_stems n μ a1 = some r) : Met l y_Mo_stems (Cond.code y_Mo_stems b_Mo_stems 3 (some .boolean) :: ww) rm_Mo_stems (RP D CL (TY g) (WM g ad μ) [.ref (ad 0), .int a1]) (k2_QcV (.int (bz r))) 0 0 (fun _ => False) := by
  refine met_of (by decide) (Nat.le_of_ble_eq_true rfl) ?_
  intro p e s m below meth c ls X hP hl
  have hl : lv_has ls 3 [(0, .ref (ad 0)), (1, .int a1)] := hl
  exact w_Mo_stems X hP hl hf
theorem d_Mo_pass_0 : decode b_Mo_pass 0 = .ok (.iload_n 1, 1) := by decide +kernel
theorem d_Mo_pass_1 : decode b_Mo_pass 1 = .ok (.ifCond .ne 14, 3) := by decide +kernel
theorem d_Mo_pass_4 : decode b_Mo_pass 4 = .ok (.iload_n 3, 1) := by decide +kernel
theorem d_Mo_pass_5 : decode b_Mo_pass 5 = .ok (.iload_n 2, 1) := by decide +kernel
theorem d_Mo_pass_6 : decode b_Mo_pass 6 = .ok (.if_icmp .eq 7, 3) := by decide +kernel
theorem d_Mo_pass_9 : decode b_Mo_pass 9 = .ok (.iconst 1, 1) := by decide +kernel
theorem d_Mo_pass_10 : decode b_Mo_pass 10 = .ok (.goto 4, 3) := by decide +kernel
theorem d_Mo_pass_13 : decode b_Mo_pass 13 = .ok (.iconst 0, 1) := by decide +kernel
theorem d_Mo_pass_14 : decode b_Mo_pass 14 = .ok (.ireturn, 1) := by decide +kernel
theorem d_Mo_pass_15 : decode b_Mo_pass 15 = .ok (.iload_n 1, 1) := by decide +kernel
theorem d_Mo_pass_16 : decode b_Mo_pass 16 = .ok (.iconst 1, 1) := by decide +kernel
theorem d_Mo_pass_17 : decode b_Mo_pass 17 = .ok (.if_icmp .ne 78, 3) := by decide +kernel
theorem d_Mo_pass_20 : decode b_Mo_pass 20 = .ok (.iload 4, 2) := by decide +kernel
theorem d_Mo_pass_22 : decode b_Mo_pass 22 = .ok (.bipush 40, 2) := by decide +kernel
theorem d_Mo_pass_24 : decode b_Mo_pass 24 = .ok (.if_icmp .eq 71, 3) := by decide +kernel
theorem d_Mo_pass_27 : decode b_Mo_pass 27 = .ok (.aload_n 0, 1) := by decide +kernel
theorem d_Mo_pass_28 : decode b_Mo_pass 28 = .ok (.getfield 28, 3) := by decide +kernel
theorem d_Mo_pass_31 : decode b_Mo_pass 31 = .ok (.iload 4, 2) := by decide +kernel
theorem d_Mo_pass_33 : decode b_Mo_pass 33 = .ok (.iaload, 1) := by decide +kernel
theorem d_Mo_pass_34 : decode b_Mo_pass 34 = .ok (.ifCond .lt 61, 3) := by decide +kernel
theorem d_Mo_pass_37 : decode b_Mo_pass 37 = .ok (.aload_n 0, 1) := by decide +kernel
theorem d_Mo_pass_38 : decode b_Mo_pass 38 = .ok (.getfield 28, 3) := by decide +kernel
theorem d_Mo_pass_41 : decode b_Mo_pass 41 = .ok (.iload 4, 2) := by decide +kernel
theorem d_Mo_pass_43 : decode b_Mo_pass 43 = .ok (.iaload, 1) := by decide +kernel
theorem d_Mo_pass_44 : decode b_Mo_pass 44 = .ok (.istore 5, 2) := by decide +kernel
theorem d_Mo_pass_46 : decode b_Mo_pass 46 = .ok (.aload_n 0, 1) := by decide +kernel
theorem d_Mo_pass_47 : decode b_Mo_pass 47 = .ok (.aload_n 0, 1) := by decide +kernel
theorem d_Mo_pass_48 : decode b_Mo_pass 48 = .ok (.getfield 16, 3) := by decide +kernel
theorem d_Mo_pass_51 : decode b_Mo_pass 51 = .ok (.iload 5, 2) := by decide +kernel
theorem d_Mo_pass_53 : decode b_Mo_pass 53 = .ok (.iaload, 1) := by decide +kernel
theorem d_Mo_pass_54 : decode b_Mo_pass 54 = .ok (.putfield 215, 3) := by decide +kernel
theorem d_Mo_pass_57 : decode b_Mo_pass 57 = .ok (.iconst 0, 1) := by decide +kernel
theorem d_Mo_pass_58 : decode b_Mo_pass 58 = .ok (.istore 6, 2) := by decide +kernel
theorem d_Mo_pass_60 : decode b_Mo_pass 60 = .ok (.iload 6, 2) := by decide +kernel
theorem d_Mo_pass_62 : decode b_Mo_pass 62 = .ok (.aload_n 0, 1) := by decide +kernel
theorem d_Mo_pass_63 : decode b_Mo_pass 63 = .ok (.getfield 215, 3) := by decide +kernel
theorem d_Mo_pass_66 : decode b_Mo_pass 66 = .ok (.if_icmp .ge 29, 3) := by decide +kernel
theorem d_Mo_pass_69 : decode b_Mo_pass 69 = .ok (.aload_n 0, 1) := by decide +kernel
theorem d_Mo_pass_70 : decode b_Mo_pass 70 = .ok (.getfield 98, 3) := by decide +kernel
theorem d_Mo_pass_73 : decode b_Mo_pass 73 = .ok (.iload 6, 2) := by decide +kernel
theorem d_Mo_pass_75 : decode b_Mo_pass 75 = .ok (.aload_n 0, 1) := by decide +kernel
theorem d_Mo_pass_76 : decode b_Mo_pass 76 = .ok (.getfield 13, 3) := by decide +kernel
theorem d_Mo_pass_79 : decode b_Mo_pass 79 = .ok (.bipush 8, 2) := by decide +kernel
theorem d_Mo_pass_81 : decode b_Mo_pass 81 = .ok (.iload 5, 2) := by decide +kernel
theorem d_Mo_pass_83 : decode b_Mo_pass 83 = .ok (.imul, 1) := by decide +kernel
theorem d_Mo_pass_84 : decode b_Mo_pass 84 = .ok (.iload 6, 2) := by decide +kernel
theorem d_Mo_pass_86 : decode b_Mo_pass 86 = .ok (.iadd, 1) := by decide +kernel
theorem d_Mo_pass_87 : decode b_Mo_pass 87 = .ok (.iaload, 1) := by decide +kernel
theorem d_Mo_pass_88 : decode b_Mo_pass 88 = .ok (.iastore, 1) := by decide +kernel
theorem d_Mo_pass_89 : decode b_Mo_pass 89 = .ok (.iinc 6 1, 3) := by decide +kernel
theorem d_Mo_pass_92 : decode b_Mo_pass 92 = .ok (.goto (-32), 3) := by decide +kernel
theorem d_Mo_pass_95 : decode b_Mo_pass 95 = .ok (.iconst 0, 1) := by decide +kernel
theorem d_Mo_pass_96 : decode b_Mo_pass 96 = .ok (.istore 5, 2) := by decide +kernel
theorem d_Mo_pass_98 : decode b_Mo_pass 98 = .ok (.iload 5, 2) := by decide +kernel
theorem d_Mo_pass_100 : decode b_Mo_pass 100 = .ok (.aload_n 0, 1) := by decide +kernel
theorem d_Mo_pass_101 : decode b_Mo_pass 101 = .ok (.getfield 215, 3) := by decide +kernel
theorem d_Mo_pass_104 : decode b_Mo_pass 104 = .ok (.if_icmp .ge 43, 3) := by decide +kernel
theorem d_Mo_pass_107 : decode b_Mo_pass 107 = .ok (.iload_n 1, 1) := by decide +kernel
theorem d_Mo_pass_108 : decode b_Mo_pass 108 = .ok (.iconst 2, 1) := by decide +kernel
theorem d_Mo_pass_109 : decode b_Mo_pass 109 = .ok (.if_icmp .ne 38, 3) := by decide +kernel
theorem d_Mo_pass_112 : decode b_Mo_pass 112 = .ok (.aload_n 0, 1) := by decide +kernel
theorem d_Mo_pass_113 : decode b_Mo_pass 113 = .ok (.getfield 98, 3) := by decide +kernel
theorem d_Mo_pass_116 : decode b_Mo_pass 116 = .ok (.iload 5, 2) := by decide +kernel
theorem d_Mo_pass_118 : decode b_Mo_pass 118 = .ok (.dup2, 1) := by decide +kernel
theorem d_Mo_pass_119 : decode b_Mo_pass 119 = .ok (.iaload, 1) := by decide +kernel
theorem d_Mo_pass_120 : decode b_Mo_pass 120 = .ok (.aload_n 0, 1) := by decide +kernel
theorem d_Mo_pass_121 : decode b_Mo_pass 121 = .ok (.getfield 98, 3) := by decide +kernel
theorem d_Mo_pass_124 : decode b_Mo_pass 124 = .ok (.iload 5, 2) := by decide +kernel
theorem d_Mo_pass_126 : decode b_Mo_pass 126 = .ok (.iaload, 1) := by decide +kernel
theorem d_Mo_pass_127 : decode b_Mo_pass 127 = .ok (.sipush 192, 3) := by decide +kernel
theorem d_Mo_pass_130 : decode b_Mo_pass 130 = .ok (.if_icmp .lt 8, 3) := by decide +kernel
theorem d_Mo_pass_133 : decode b_Mo_pass 133 = .ok (.bipush 64, 2) := by decide +kernel
theorem d_Mo_pass_135 : decode b_Mo_pass 135 = .ok (.goto 4, 3) := by decide +kernel
theorem d_Mo_pass_138 : decode b_Mo_pass 138 = .ok (.iconst 0, 1) := by decide +kernel
theorem d_Mo_pass_139 : decode b_Mo_pass 139 = .ok (.isub, 1) := by decide +kernel
theorem d_Mo_pass_140 : decode b_Mo_pass 140 = .ok (.iastore, 1) := by decide +kernel
theorem d_Mo_pass_141 : decode b_Mo_pass 141 = .ok (.iinc 5 1, 3) := by decide +kernel
theorem d_Mo_pass_144 : decode b_Mo_pass 144 = .ok (.goto (-46), 3) := by decide +kernel
theorem d_Mo_pass_147 : decode b_Mo_pass 147 = .ok (.iload_n 1, 1) := by decide +kernel
theorem d_Mo_pass_148 : decode b_Mo_pass 148 = .ok (.iconst 3, 1) := by decide +kernel
theorem d_Mo_pass_149 : decode b_Mo_pass 149 = .ok (.if_icmp .ne 21, 3) := by decide +kernel
theorem d_Mo_pass_152 : decode b_Mo_pass 152 = .ok (.aload_n 0, 1) := by decide +kernel
theorem d_Mo_pass_153 : decode b_Mo_pass 153 = .ok (.iload_n 2, 1) := by decide +kernel
theorem d_Mo_pass_154 : decode b_Mo_pass 154 = .ok (.invokevirtual 218, 3) := by decide +kernel
theorem d_Mo_pass_157 : decode b_Mo_pass 157 = .ok (.ifCond .eq 13, 3) := by decide +kernel
theorem d_Mo_pass_160 : decode b_Mo_pass 160 = .ok (.aload_n 0, 1) := by decide +kernel
theorem d_Mo_pass_161 : decode b_Mo_pass 161 = .ok (.dup, 1) := by decide +kernel
theorem d_Mo_pass_162 : decode b_Mo_pass 162 = .ok (.getfield 215, 3) := by decide +kernel
theorem d_Mo_pass_165 : decode b_Mo_pass 165 = .ok (.iconst 1, 1) := by decide +kernel
theorem d_Mo_pass_166 : decode b_Mo_pass 166 = .ok (.isub, 1) := by decide +kernel
theorem d_Mo_pass_167 : decode b_Mo_pass 167 = .ok (.putfield 215, 3) := by decide +kernel
theorem d_Mo_pass_170 : decode b_Mo_pass 170 = .ok (.iconst 1, 1) := by decide +kernel
theorem d_Mo_pass_171 : decode b_Mo_pass 171 = .ok (.ireturn, 1) := by decide +kernel
abbrev rm_Mo_pass : Room := { frames := 1, cells := 0, slots := 0, locals := 22 }
def f_Mo_pass_147 (n : Nat) (μ : Mem) (x1 : Int32) (x2 : Int32) : Option (Bool × Mem) := (if x1 = (3 : Int32) then (cl (f_Mo_stems n μ x2) (fun v1 => (if (bz v1) = 0 then (some (true, μ)) else (bd (wi μ 0 39 ((μ.1 0 39) - (1 : Int32))) (fun μ2 => some (true, μ2)))))) else (some (true, μ)))
set_option maxHeartbeats 4000000 in
set_option maxRecDepth 100000 in
theorem w_Mo_pass_147 {p : Program} {l : Launch} {e : Env} {s : State} {m : MethodId} {args : Array Value} {below : List Frame} {meth : Method} {c : Code} {D : va_G} {g : Nat → ClassId} {ad : Nat → Nat} {r : Bool} {μ' : Mem} {A : Nat → Prop} {n : Nat} {μ : Mem} {x1 : Int32} {x2 : Int32} {ls : Array Slot} {H : Heap} {locs : List Loc} (X : Cx p s m args meth c b_Mo_pass 7 R_Mo (some .boolean) D CL (TY g)) (hDA : ∀ μ : Mem, va_D A (WM g ad μ)) (hP : va_P D CL (WM g ad μ) H) (hS : va_S A s.heap H locs) (hl : lv_has ls 7 [(0, .ref (ad 0)), (1, .int x1), (2, .int x2)]) (hf : f_Mo_pass_147 n μ x1 x2 = some (r, μ')) : WU p l e rm_Mo_pass s m args below meth c H locs D (WM g ad μ') A (some (.int (bz r))) (F0 m 147 ls []) := by
  obtain ⟨S, hr, hlk, hK⟩ := id X
  obtain ⟨hx, hb, hml, hown, hts⟩ := id S
  rw [f_Mo_pass_147] at hf
  refine lv_iload_n hx hb d_Mo_pass_147 rfl (lv_at hl 1 rfl) ?_
  refine lv_iconst (v := 3) hx hb d_Mo_pass_148 (by decide) ?_
  refine lv_icmp_ne (tgt := 170) hx hb d_Mo_pass_149 rfl (fun hc => ?_) (fun hc => ?_)
  · replace hf := br_n hc hf
    refine lv_iconst (v := 1) hx hb d_Mo_pass_170 (by decide) ?_
    obtain ⟨h1, h2⟩ := Prod.mk.inj (Option.some.inj hf)
    subst h1; subst h2
    exact W.zret hx hb hr (by first | rfl | exact bz_nar _) (fun t ht _ => ⟨rfl, by rw [ht]; exact hP, hS.F ht⟩) hS.2.2 d_Mo_pass_171
  · replace hf := br_p hc hf
    refine lv_aload_n hx hb d_Mo_pass_152 rfl (lv_at hl 0 rfl) ?_
    refine lv_iload_n hx hb d_Mo_pass_153 rfl (lv_at hl 2 rfl) ?_
    obtain ⟨v1, hv1, hf⟩ := cl_x hf
    refine rdV (As := [.int x2]) (rest := []) S K_Mo_stems q_1105 (c_Mo_stems hv1) hK hP ⟨rfl, rfl⟩ ⟨Nat.le_of_ble_eq_true rfl, Nat.le_of_ble_eq_true rfl⟩ (mr_0 hK hP) rfl hl.1 rfl (Nat.le_of_ble_eq_true rfl) d_Mo_pass_154 ⟨Nat.le_refl _, Nat.le_refl _⟩ ?_
    refine lv_if_eq (tgt := 170) hx hb d_Mo_pass_157 rfl (fun hc => ?_) (fun hc => ?_)
    · replace hf := br_p hc hf
      refine lv_iconst (v := 1) hx hb d_Mo_pass_170 (by decide) ?_
      obtain ⟨h1, h2⟩ := Prod.mk.inj (Option.some.inj hf)
      subst h1; subst h2
      exact W.zret hx hb hr (by first | rfl | exact bz_nar _) (fun t ht _ => ⟨rfl, by rw [ht]; exact hP, hS.F ht⟩) hS.2.2 d_Mo_pass_171
    · replace hf := br_n hc hf
      refine lv_aload_n hx hb d_Mo_pass_160 rfl (lv_at hl 0 rfl) ?_
      refine lv_dup hx hb d_Mo_pass_161 rfl ?_
      refine mg_0_39 hx hb hts hown hK hP q_857 d_Mo_pass_162 ?_
      refine lv_iconst (v := 1) hx hb d_Mo_pass_165 (by decide) ?_
      refine lv_isub hx hb d_Mo_pass_166 ?_
      obtain ⟨μ2, hμ2, hf⟩ := bd_x hf
      refine mp_0_39 hx hb hts hown hK (hDA _) hP hS q_857 d_Mo_pass_167 hμ2 (fun H locs hP hS => ?_)
      refine lv_iconst (v := 1) hx hb d_Mo_pass_170 (by decide) ?_
      obtain ⟨h1, h2⟩ := Prod.mk.inj (Option.some.inj hf)
      subst h1; subst h2
      exact W.zret hx hb hr (by first | rfl | exact bz_nar _) (fun t ht _ => ⟨rfl, by rw [ht]; exact hP, hS.F ht⟩) hS.2.2 d_Mo_pass_171
def f_Mo_pass_139 (κ98 : Mem → Int32 → Int32 → Int32 → Option (Bool × Mem)) (n : Nat) (μ : Mem) (x1 : Int32) (x2 : Int32) (x5 : Int32) (s1 : Int32) (s2 : Int32) (s3 : Int32) : Option (Bool × Mem) := gd (inb s1 8) (bd (wi μ 30 s1.toNatClampNeg (s2 - s3)) (fun μ1 => bd (x5 + 1) (fun v2 => κ98 μ1 x1 x2 v2)))
set_option maxHeartbeats 4000000 in
set_option maxRecDepth 100000 in
theorem w_Mo_pass_139 {p : Program} {l : Launch} {e : Env} {s : State} {m : MethodId} {args : Array Value} {below : List Frame} {meth : Method} {c : Code} {D : va_G} {g : Nat → ClassId} {ad : Nat → Nat} {r : Bool} {μ' : Mem} {A : Nat → Prop} {κ98 : Mem → Int32 → Int32 → Int32 → Option (Bool × Mem)} {n : Nat} {μ : Mem} {x1 : Int32} {x2 : Int32} {x5 : Int32} {s1 : Int32} {s2 : Int32} {s3 : Int32} {ls : Array Slot} {H : Heap} {locs : List Loc} (X : Cx p s m args meth c b_Mo_pass 7 R_Mo (some .boolean) D CL (TY g)) (hDA : ∀ μ : Mem, va_D A (WM g ad μ)) (hκ98 : ∀ (μ : Mem) (x1 : Int32) (x2 : Int32) (x5 : Int32) (ls : Array Slot) (H : Heap) (locs : List Loc), va_P D CL (WM g ad μ) H → va_S A s.heap H locs → lv_has ls 7 [(0, .ref (ad 0)), (1, .int x1), (2, .int x2), (5, .int x5)] → κ98 μ x1 x2 x5 = some (r, μ') → WU p l e rm_Mo_pass s m args below meth c H locs D (WM g ad μ') A (some (.int (bz r))) (F0 m 98 ls [])) (hP : va_P D CL (WM g ad μ) H) (hS : va_S A s.heap H locs) (hl : lv_has ls 7 [(0, .ref (ad 0)), (1, .int x1), (2, .int x2), (5, .int x5)]) (hf : f_Mo_pass_139 κ98 n μ x1 x2 x5 s1 s2 s3 = some (r, μ')) : WU p l e rm_Mo_pass s m args below meth c H locs D (WM g ad μ') A (some (.int (bz r))) (F0 m 139 ls [.int s3, .int s2, .int s1, .ref (ad 30)]) := by
  obtain ⟨S, hr, hlk, hK⟩ := id X
  obtain ⟨hx, hb, hml, hown, hts⟩ := id S
  rw [f_Mo_pass_139] at hf
  refine lv_isub hx hb d_Mo_pass_139 ?_
  obtain ⟨hi, hf⟩ := gd_x hf
  obtain ⟨μ1, hμ1, hf⟩ := bd_x hf
  refine ms_30 hx hb hK (hDA _) hP hS (inb_in hi) d_Mo_pass_140 hμ1 (fun H locs hP hS => ?_)
  obtain ⟨v2, hv2, hf⟩ := bd_x hf
  refine lv_iinc (lv' := [(5, .int v2), (0, .ref (ad 0)), (1, .int x1), (2, .int x2)]) hx hb d_Mo_pass_141 hl (k := 3) rfl (show x5 + Int32.ofInt (1) = v2 from hv2) (Nat.le_of_ble_eq_true rfl) rfl (fun ls hl => ?_)
  refine lv_goto (tgt := 98) hx hb d_Mo_pass_144 rfl ?_
  exact hκ98 _ _ _ _ _ _ _ hP hS (lv_sub (l' := [(0, .ref (ad 0)), (1, .int x1), (2, .int x2), (5, .int v2)]) hl [1, 2, 3, 0] rfl) hf
def f_Mo_pass_98 : Nat → Mem → Int32 → Int32 → Int32 → Option (Bool × Mem)
  | 0, _, _, _, _ => none
  | n + 1, μ, x1, x2, x5 => (if (μ.1 0 39) ≤ x5 then (f_Mo_pass_147 n μ x1 x2) else (if x1 = (2 : Int32) then (gd (inb x5 8) (gd (inb x5 8) ((if (μ.1 30 x5.toNatClampNeg) < (192 : Int32) then (f_Mo_pass_139 (f_Mo_pass_98 n) n μ x1 x2 x5 x5 (μ.1 30 x5.toNatClampNeg) (0 : Int32)) else (f_Mo_pass_139 (f_Mo_pass_98 n) n μ x1 x2 x5 x5 (μ.1 30 x5.toNatClampNeg) (64 : Int32)))))) else (f_Mo_pass_147 n μ x1 x2)))
set_option maxHeartbeats 4000000 in
set_option maxRecDepth 100000 in
theorem w_Mo_pass_98 {p : Program} {l : Launch} {e : Env} {s : State} {m : MethodId} {args : Array Value} {below : List Frame} {meth : Method} {c : Code} {D : va_G} {g : Nat → ClassId} {ad : Nat → Nat} {r : Bool} {μ' : Mem} {A : Nat → Prop} (X : Cx p s m args meth c b_Mo_pass 7 R_Mo (some .boolean) D CL (TY g)) (hDA : ∀ μ : Mem, va_D A (WM g ad μ)) : ∀ (n : Nat) (μ : Mem) (x1 : Int32) (x2 : Int32) (x5 : Int32) (ls : Array Slot) (H : Heap) (locs : List Loc), va_P D CL (WM g ad μ) H → va_S A s.heap H locs → lv_has ls 7 [(0, .ref (ad 0)), (1, .int x1), (2, .int x2), (5, .int x5)] → f_Mo_pass_98 n μ x1 x2 x5 = some (r, μ') → WU p l e rm_Mo_pass s m args below meth c H locs D (WM g ad μ') A (some (.int (bz r))) (F0 m 98 ls []) := by
  intro n
  induction n with
  | zero => intro μ x1 x2 x5 ls H locs hP hS hl hf; rw [f_Mo_pass_98] at hf; cases hf
  | succ n ih =>
    intro μ x1 x2 x5 ls H locs hP hS hl hf
    obtain ⟨S, hr, hlk, hK⟩ := id X
    obtain ⟨hx, hb, hml, hown, hts⟩ := id S
    rw [f_Mo_pass_98] at hf
    refine lv_iload hx hb d_Mo_pass_98 (lv_at hl 3 rfl) ?_
    refine lv_aload_n hx hb d_Mo_pass_100 rfl (lv_at hl 0 rfl) ?_
    refine mg_0_39 hx hb hts hown hK hP q_857 d_Mo_pass_101 ?_
    refine lv_icmp_ge (tgt := 147) hx hb d_Mo_pass_104 rfl (fun hc => ?_) (fun hc => ?_)
    · replace hf := br_p hc hf
      exact w_Mo_pass_147 X hDA hP hS (lv_sub (l' := [(0, .ref (ad 0)), (1, .int x1), (2, .int x2)]) hl [0, 1, 2] rfl) hf
    · replace hf := br_n hc hf
      refine lv_iload_n hx hb d_Mo_pass_107 rfl (lv_at hl 1 rfl) ?_
      refine lv_iconst (v := 2) hx hb d_Mo_pass_108 (by decide) ?_
      refine lv_icmp_ne (tgt := 147) hx hb d_Mo_pass_109 rfl (fun hc => ?_) (fun hc => ?_)
      · replace hf := br_n hc hf
        exact w_Mo_pass_147 X hDA hP hS (lv_sub (l' := [(0, .ref (ad 0)), (1, .int x1), (2, .int x2)]) hl [0, 1, 2] rfl) hf
      · replace hf := br_p hc hf
        refine lv_aload_n hx hb d_Mo_pass_112 rfl (lv_at hl 0 rfl) ?_
        refine mg_0_38 hx hb hts hown hK hP q_856 d_Mo_pass_113 ?_
        refine lv_iload hx hb d_Mo_pass_116 (lv_at hl 3 rfl) ?_
        refine lv_dup2_11 hx hb d_Mo_pass_118 rfl rfl ?_
        obtain ⟨hi, hf⟩ := gd_x hf
        refine ml_30 hx hb hK hP (inb_in hi) d_Mo_pass_119 ?_
        refine lv_aload_n hx hb d_Mo_pass_120 rfl (lv_at hl 0 rfl) ?_
        refine mg_0_38 hx hb hts hown hK hP q_856 d_Mo_pass_121 ?_
        refine lv_iload hx hb d_Mo_pass_124 (lv_at hl 3 rfl) ?_
        obtain ⟨hi, hf⟩ := gd_x hf
        refine ml_30 hx hb hK hP (inb_in hi) d_Mo_pass_126 ?_
        refine lv_sipush (v := 192) hx hb d_Mo_pass_127 (by decide) ?_
        refine lv_icmp_lt (tgt := 138) hx hb d_Mo_pass_130 rfl (fun hc => ?_) (fun hc => ?_)
        · replace hf := br_p hc hf
          refine lv_iconst (v := 0) hx hb d_Mo_pass_138 (by decide) ?_
          exact w_Mo_pass_139 X hDA ih hP hS (lv_sub (l' := [(0, .ref (ad 0)), (1, .int x1), (2, .int x2), (5, .int x5)]) hl [0, 1, 2, 3] rfl) hf
        · replace hf := br_n hc hf
          refine lv_bipush (v := 64) hx hb d_Mo_pass_133 (by decide) ?_
          refine lv_goto (tgt := 139) hx hb d_Mo_pass_135 rfl ?_
          exact w_Mo_pass_139 X hDA ih hP hS (lv_sub (l' := [(0, .ref (ad 0)), (1, .int x1), (2, .int x2), (5, .int x5)]) hl [0, 1, 2, 3] rfl) hf
def f_Mo_pass_95 (n : Nat) (μ : Mem) (x1 : Int32) (x2 : Int32) : Option (Bool × Mem) := f_Mo_pass_98 n μ x1 x2 (0 : Int32)
set_option maxHeartbeats 4000000 in
set_option maxRecDepth 100000 in
theorem w_Mo_pass_95 {p : Program} {l : Launch} {e : Env} {s : State} {m : MethodId} {args : Array Value} {below : List Frame} {meth : Method} {c : Code} {D : va_G} {g : Nat → ClassId} {ad : Nat → Nat} {r : Bool} {μ' : Mem} {A : Nat → Prop} {n : Nat} {μ : Mem} {x1 : Int32} {x2 : Int32} {ls : Array Slot} {H : Heap} {locs : List Loc} (X : Cx p s m args meth c b_Mo_pass 7 R_Mo (some .boolean) D CL (TY g)) (hDA : ∀ μ : Mem, va_D A (WM g ad μ)) (hP : va_P D CL (WM g ad μ) H) (hS : va_S A s.heap H locs) (hl : lv_has ls 7 [(0, .ref (ad 0)), (1, .int x1), (2, .int x2)]) (hf : f_Mo_pass_95 n μ x1 x2 = some (r, μ')) : WU p l e rm_Mo_pass s m args below meth c H locs D (WM g ad μ') A (some (.int (bz r))) (F0 m 95 ls []) := by
  obtain ⟨S, hr, hlk, hK⟩ := id X
  obtain ⟨hx, hb, hml, hown, hts⟩ := id S
  rw [f_Mo_pass_95] at hf
  refine lv_iconst (v := 0) hx hb d_Mo_pass_95 (by decide) ?_
  refine lv_istore (lv' := [(5, .int (0 : Int32)), (0, .ref (ad 0)), (1, .int x1), (2, .int x2)]) hx hb d_Mo_pass_96 hl (Nat.le_of_ble_eq_true rfl) rfl (fun ls hl => ?_)
  exact w_Mo_pass_98 X hDA _ _ _ _ _ _ _ _ hP hS (lv_sub (l' := [(0, .ref (ad 0)), (1, .int x1), (2, .int x2), (5, .int (0 : Int32))]) hl [1, 2, 3, 0] rfl) hf
def f_Mo_pass_60 : Nat → Mem → Int32 → Int32 → Int32 → Int32 → Option (Bool × Mem)
  | 0, _, _, _, _, _ => none
  | n + 1, μ, x1, x2, x5, x6 => (if (μ.1 0 39) ≤ x6 then (f_Mo_pass_95 n μ x1 x2) else (gd (inb (((8 : Int32) * x5) + x6) 320) (gd (inb x6 8) (bd (wi μ 30 x6.toNatClampNeg (μ.1 2 (((8 : Int32) * x5) + x6).toNatClampNeg)) (fun μ1 => bd (x6 + 1) (fun v2 => (f_Mo_pass_60 n) μ1 x1 x2 x5 v2))))))
set_option maxHeartbeats 4000000 in
set_option maxRecDepth 100000 in
theorem w_Mo_pass_60 {p : Program} {l : Launch} {e : Env} {s : State} {m : MethodId} {args : Array Value} {below : List Frame} {meth : Method} {c : Code} {D : va_G} {g : Nat → ClassId} {ad : Nat → Nat} {r : Bool} {μ' : Mem} {A : Nat → Prop} (X : Cx p s m args meth c b_Mo_pass 7 R_Mo (some .boolean) D CL (TY g)) (hDA : ∀ μ : Mem, va_D A (WM g ad μ)) : ∀ (n : Nat) (μ : Mem) (x1 : Int32) (x2 : Int32) (x5 : Int32) (x6 : Int32) (ls : Array Slot) (H : Heap) (locs : List Loc), va_P D CL (WM g ad μ) H → va_S A s.heap H locs → lv_has ls 7 [(0, .ref (ad 0)), (1, .int x1), (2, .int x2), (5, .int x5), (6, .int x6)] → f_Mo_pass_60 n μ x1 x2 x5 x6 = some (r, μ') → WU p l e rm_Mo_pass s m args below meth c H locs D (WM g ad μ') A (some (.int (bz r))) (F0 m 60 ls []) := by
  intro n
  induction n with
  | zero => intro μ x1 x2 x5 x6 ls H locs hP hS hl hf; rw [f_Mo_pass_60] at hf; cases hf
  | succ n ih =>
    intro μ x1 x2 x5 x6 ls H locs hP hS hl hf
    obtain ⟨S, hr, hlk, hK⟩ := id X
    obtain ⟨hx, hb, hml, hown, hts⟩ := id S
    rw [f_Mo_pass_60] at hf
    refine lv_iload hx hb d_Mo_pass_60 (lv_at hl 4 rfl) ?_
    refine lv_aload_n hx hb d_Mo_pass_62 rfl (lv_at hl 0 rfl) ?_
    refine mg_0_39 hx hb hts hown hK hP q_857 d_Mo_pass_63 ?_
    refine lv_icmp_ge (tgt := 95) hx hb d_Mo_pass_66 rfl (fun hc => ?_) (fun hc => ?_)
    · replace hf := br_p hc hf
      exact w_Mo_pass_95 X hDA hP hS (lv_sub (l' := [(0, .ref (ad 0)), (1, .int x1), (2, .int x2)]) hl [0, 1, 2] rfl) hf
    · replace hf := br_n hc hf
      refine lv_aload_n hx hb d_Mo_pass_69 rfl (lv_at hl 0 rfl) ?_
      refine mg_0_38 hx hb hts hown hK hP q_856 d_Mo_pass_70 ?_
      refine lv_iload hx hb d_Mo_pass_73 (lv_at hl 4 rfl) ?_
      refine lv_aload_n hx hb d_Mo_pass_75 rfl (lv_at hl 0 rfl) ?_
      refine mg_0_2 hx hb hts hown hK hP q_820 d_Mo_pass_76 ?_
      refine lv_bipush (v := 8) hx hb d_Mo_pass_79 (by decide) ?_
      refine lv_iload hx hb d_Mo_pass_81 (lv_at hl 3 rfl) ?_
      refine lv_imul hx hb d_Mo_pass_83 ?_
      refine lv_iload hx hb d_Mo_pass_84 (lv_at hl 4 rfl) ?_
      refine lv_iadd hx hb d_Mo_pass_86 ?_
      obtain ⟨hi, hf⟩ := gd_x hf
      refine ml_2 hx hb hK hP (inb_in hi) d_Mo_pass_87 ?_
      obtain ⟨hi, hf⟩ := gd_x hf
      obtain ⟨μ1, hμ1, hf⟩ := bd_x hf
      refine ms_30 hx hb hK (hDA _) hP hS (inb_in hi) d_Mo_pass_88 hμ1 (fun H locs hP hS => ?_)
      obtain ⟨v2, hv2, hf⟩ := bd_x hf
      refine lv_iinc (lv' := [(6, .int v2), (0, .ref (ad 0)), (1, .int x1), (2, .int x2), (5, .int x5)]) hx hb d_Mo_pass_89 hl (k := 4) rfl (show x6 + Int32.ofInt (1) = v2 from hv2) (Nat.le_of_ble_eq_true rfl) rfl (fun ls hl => ?_)
      refine lv_goto (tgt := 60) hx hb d_Mo_pass_92 rfl ?_
      exact ih _ _ _ _ _ _ _ _ hP hS (lv_sub (l' := [(0, .ref (ad 0)), (1, .int x1), (2, .int x2), (5, .int x5), (6, .int v2)]) hl [1, 2, 3, 4, 0] rfl) hf
def f_Mo_pass (n : Nat) (μ : Mem) (a1 : Int32) (a2 : Int32) (a3 : Int32) (a4 : Int32) : Option (Bool × Mem) := (if a1 = 0 then (if a3 = a2 then (some (false, μ)) else (some (true, μ))) else (if a1 = (1 : Int32) then (if a4 = (40 : Int32) then (f_Mo_pass_95 n μ a1 a2) else (gd (inb a4 40) ((if (μ.1 7 a4.toNatClampNeg) < 0 then (f_Mo_pass_95 n μ a1 a2) else (gd (inb a4 40) (bd (μ.1 7 a4.toNatClampNeg) (fun v1 => gd (inb v1 40) (bd (wi μ 0 39 (μ.1 3 v1.toNatClampNeg)) (fun μ2 => f_Mo_pass_60 n μ2 a1 a2 v1 (0 : Int32)))))))))) else (f_Mo_pass_95 n μ a1 a2)))
set_option maxHeartbeats 4000000 in
set_option maxRecDepth 100000 in
theorem w_Mo_pass {p : Program} {l : Launch} {e : Env} {s : State} {m : MethodId} {args : Array Value} {below : List Frame} {meth : Method} {c : Code} {D : va_G} {g : Nat → ClassId} {ad : Nat → Nat} {r : Bool} {μ' : Mem} {A : Nat → Prop} {n : Nat} {μ : Mem} {a1 : Int32} {a2 : Int32} {a3 : Int32} {a4 : Int32} {ls : Array Slot} {H : Heap} {locs : List Loc} (X : Cx p s m args meth c b_Mo_pass 7 R_Mo (some .boolean) D CL (TY g)) (hDA : ∀ μ : Mem, va_D A (WM g ad μ)) (hP : va_P D CL (WM g ad μ) H) (hS : va_S A s.heap H locs) (hl : lv_has ls 7 [(0, .ref (ad 0)), (1, .int a1), (2, .int a2), (3, .int a3), (4, .int a4)]) (hf : f_Mo_pass n μ a1 a2 a3 a4 = some (r, μ')) : WU p l e rm_Mo_pass s m args below meth c H locs D (WM g ad μ') A (some (.int (bz r))) (F0 m 0 ls []) := by
  obtain ⟨S, hr, hlk, hK⟩ := id X
  obtain ⟨hx, hb, hml, hown, hts⟩ := id S
  rw [f_Mo_pass] at hf
  refine lv_iload_n hx hb d_Mo_pass_0 rfl (lv_at hl 1 rfl) ?_
  refine lv_if_ne (tgt := 15) hx hb d_Mo_pass_1 rfl (fun hc => ?_) (fun hc => ?_)
  · replace hf := br_n hc hf
    refine lv_iload_n hx hb d_Mo_pass_15 rfl (lv_at hl 1 rfl) ?_
    refine lv_iconst (v := 1) hx hb d_Mo_pass_16 (by decide) ?_
    refine lv_icmp_ne (tgt := 95) hx hb d_Mo_pass_17 rfl (fun hc => ?_) (fun hc => ?_)
    · replace hf := br_n hc hf
      exact w_Mo_pass_95 X hDA hP hS (lv_sub (l' := [(0, .ref (ad 0)), (1, .int a1), (2, .int a2)]) hl [0, 1, 2] rfl) hf
    · replace hf := br_p hc hf
      refine lv_iload hx hb d_Mo_pass_20 (lv_at hl 4 rfl) ?_
      refine lv_bipush (v := 40) hx hb d_Mo_pass_22 (by decide) ?_
      refine lv_icmp_eq (tgt := 95) hx hb d_Mo_pass_24 rfl (fun hc => ?_) (fun hc => ?_)
      · replace hf := br_p hc hf
        exact w_Mo_pass_95 X hDA hP hS (lv_sub (l' := [(0, .ref (ad 0)), (1, .int a1), (2, .int a2)]) hl [0, 1, 2] rfl) hf
      · replace hf := br_n hc hf
        refine lv_aload_n hx hb d_Mo_pass_27 rfl (lv_at hl 0 rfl) ?_
        refine mg_0_7 hx hb hts hown hK hP q_825 d_Mo_pass_28 ?_
        refine lv_iload hx hb d_Mo_pass_31 (lv_at hl 4 rfl) ?_
        obtain ⟨hi, hf⟩ := gd_x hf
        refine ml_7 hx hb hK hP (inb_in hi) d_Mo_pass_33 ?_
        refine lv_if_lt (tgt := 95) hx hb d_Mo_pass_34 rfl (fun hc => ?_) (fun hc => ?_)
        · replace hf := br_p hc hf
          exact w_Mo_pass_95 X hDA hP hS (lv_sub (l' := [(0, .ref (ad 0)), (1, .int a1), (2, .int a2)]) hl [0, 1, 2] rfl) hf
        · replace hf := br_n hc hf
          refine lv_aload_n hx hb d_Mo_pass_37 rfl (lv_at hl 0 rfl) ?_
          refine mg_0_7 hx hb hts hown hK hP q_825 d_Mo_pass_38 ?_
          refine lv_iload hx hb d_Mo_pass_41 (lv_at hl 4 rfl) ?_
          obtain ⟨hi, hf⟩ := gd_x hf
          refine ml_7 hx hb hK hP (inb_in hi) d_Mo_pass_43 ?_
          obtain ⟨v1, hv1, hf⟩ := bd_x hf
          refine top_i hv1 ?_
          refine lv_istore (lv' := [(5, .int v1), (0, .ref (ad 0)), (1, .int a1), (2, .int a2), (3, .int a3), (4, .int a4)]) hx hb d_Mo_pass_44 hl (Nat.le_of_ble_eq_true rfl) rfl (fun ls hl => ?_)
          refine lv_aload_n hx hb d_Mo_pass_46 rfl (lv_at hl 1 rfl) ?_
          refine lv_aload_n hx hb d_Mo_pass_47 rfl (lv_at hl 1 rfl) ?_
          refine mg_0_3 hx hb hts hown hK hP q_821 d_Mo_pass_48 ?_
          refine lv_iload hx hb d_Mo_pass_51 (lv_at hl 0 rfl) ?_
          obtain ⟨hi, hf⟩ := gd_x hf
          refine ml_3 hx hb hK hP (inb_in hi) d_Mo_pass_53 ?_
          obtain ⟨μ2, hμ2, hf⟩ := bd_x hf
          refine mp_0_39 hx hb hts hown hK (hDA _) hP hS q_857 d_Mo_pass_54 hμ2 (fun H locs hP hS => ?_)
          refine lv_iconst (v := 0) hx hb d_Mo_pass_57 (by decide) ?_
          refine lv_istore (lv' := [(6, .int (0 : Int32)), (5, .int v1), (0, .ref (ad 0)), (1, .int a1), (2, .int a2), (3, .int a3), (4, .int a4)]) hx hb d_Mo_pass_58 hl (Nat.le_of_ble_eq_true rfl) rfl (fun ls hl => ?_)
          exact w_Mo_pass_60 X hDA _ _ _ _ _ _ _ _ _ hP hS (lv_sub (l' := [(0, .ref (ad 0)), (1, .int a1), (2, .int a2), (5, .int v1), (6, .int (0 : Int32))]) hl [2, 3, 4, 1, 0] rfl) hf
  · replace hf := br_p hc hf
    refine lv_iload_n hx hb d_Mo_pass_4 rfl (lv_at hl 3 rfl) ?_
    refine lv_iload_n hx hb d_Mo_pass_5 rfl (lv_at hl 2 rfl) ?_
    refine lv_icmp_eq (tgt := 13) hx hb d_Mo_pass_6 rfl (fun hc => ?_) (fun hc => ?_)
    · replace hf := br_p hc hf
      refine lv_iconst (v := 0) hx hb d_Mo_pass_13 (by decide) ?_
      obtain ⟨h1, h2⟩ := Prod.mk.inj (Option.some.inj hf)
      subst h1; subst h2
      exact W.zret hx hb hr (by first | rfl | exact bz_nar _) (fun t ht _ => ⟨rfl, by rw [ht]; exact hP, hS.F ht⟩) hS.2.2 d_Mo_pass_14
    · replace hf := br_n hc hf
      refine lv_iconst (v := 1) hx hb d_Mo_pass_9 (by decide) ?_
      refine lv_goto (tgt := 14) hx hb d_Mo_pass_10 rfl ?_
      obtain ⟨h1, h2⟩ := Prod.mk.inj (Option.some.inj hf)
      subst h1; subst h2
      exact W.zret hx hb hr (by first | rfl | exact bz_nar _) (fun t ht _ => ⟨rfl, by rw [ht]; exact hP, hS.F ht⟩) hS.2.2 d_Mo_pass_14
theorem c_Mo_pass {l : Launch} {D : va_G} {g : Nat → ClassId} {ad : Nat → Nat} {μ : Mem} {r : Bool} {μ' : Mem} {A : Nat → Prop} {n : Nat} {a1 : Int32} {a2 : Int32} {a3 : Int32} {a4 : Int32} (hDA : ∀ μ : Mem, va_D A (WM g ad μ)) (hf : f_Mo_pass n μ a1 a2 a3 a4 = some (r, μ')) : Met l y_Mo_pass (Cond.code y_Mo_pass b_Mo_pass 7 (some .boolean) :: ww) rm_Mo_pass (RP D CL (TY g) (WM g ad μ) [.ref (ad 0), .int a1, .int a2, .int a3, .int a4]) (QW D CL (WM g ad μ') A (some (.int (bz r)))) 0 0 A := by
  refine met_of (by decide) (Nat.le_of_ble_eq_true rfl) ?_
  intro p e s m below meth c ls X hP hl
  have hl : lv_has ls 7 [(0, .ref (ad 0)), (1, .int a1), (2, .int a2), (3, .int a3), (4, .int a4)] := hl
  exact w_Mo_pass X hDA hP va_S.rf hl hf
theorem d_Mo_filtered_0 : decode b_Mo_filtered 0 = .ok (.aload_n 0, 1) := by decide +kernel
theorem d_Mo_filtered_1 : decode b_Mo_filtered 1 = .ok (.iload_n 2, 1) := by decide +kernel
theorem d_Mo_filtered_2 : decode b_Mo_filtered 2 = .ok (.putfield 215, 3) := by decide +kernel
theorem d_Mo_filtered_5 : decode b_Mo_filtered 5 = .ok (.iconst 0, 1) := by decide +kernel
theorem d_Mo_filtered_6 : decode b_Mo_filtered 6 = .ok (.istore 5, 2) := by decide +kernel
theorem d_Mo_filtered_8 : decode b_Mo_filtered 8 = .ok (.iload 5, 2) := by decide +kernel
theorem d_Mo_filtered_10 : decode b_Mo_filtered 10 = .ok (.iload_n 2, 1) := by decide +kernel
theorem d_Mo_filtered_11 : decode b_Mo_filtered 11 = .ok (.if_icmp .ge 25, 3) := by decide +kernel
theorem d_Mo_filtered_14 : decode b_Mo_filtered 14 = .ok (.aload_n 0, 1) := by decide +kernel
theorem d_Mo_filtered_15 : decode b_Mo_filtered 15 = .ok (.getfield 98, 3) := by decide +kernel
theorem d_Mo_filtered_18 : decode b_Mo_filtered 18 = .ok (.iload 5, 2) := by decide +kernel
theorem d_Mo_filtered_20 : decode b_Mo_filtered 20 = .ok (.aload_n 0, 1) := by decide +kernel
theorem d_Mo_filtered_21 : decode b_Mo_filtered 21 = .ok (.getfield 7, 3) := by decide +kernel
theorem d_Mo_filtered_24 : decode b_Mo_filtered 24 = .ok (.iload_n 1, 1) := by decide +kernel
theorem d_Mo_filtered_25 : decode b_Mo_filtered 25 = .ok (.iload 5, 2) := by decide +kernel
theorem d_Mo_filtered_27 : decode b_Mo_filtered 27 = .ok (.iadd, 1) := by decide +kernel
theorem d_Mo_filtered_28 : decode b_Mo_filtered 28 = .ok (.iaload, 1) := by decide +kernel
theorem d_Mo_filtered_29 : decode b_Mo_filtered 29 = .ok (.iastore, 1) := by decide +kernel
theorem d_Mo_filtered_30 : decode b_Mo_filtered 30 = .ok (.iinc 5 1, 3) := by decide +kernel
theorem d_Mo_filtered_33 : decode b_Mo_filtered 33 = .ok (.goto (-25), 3) := by decide +kernel
theorem d_Mo_filtered_36 : decode b_Mo_filtered 36 = .ok (.iconst 0, 1) := by decide +kernel
theorem d_Mo_filtered_37 : decode b_Mo_filtered 37 = .ok (.istore 5, 2) := by decide +kernel
theorem d_Mo_filtered_39 : decode b_Mo_filtered 39 = .ok (.iload 5, 2) := by decide +kernel
theorem d_Mo_filtered_41 : decode b_Mo_filtered 41 = .ok (.aload_n 0, 1) := by decide +kernel
theorem d_Mo_filtered_42 : decode b_Mo_filtered 42 = .ok (.getfield 156, 3) := by decide +kernel
theorem d_Mo_filtered_45 : decode b_Mo_filtered 45 = .ok (.if_icmp .ge 35, 3) := by decide +kernel
theorem d_Mo_filtered_48 : decode b_Mo_filtered 48 = .ok (.aload_n 0, 1) := by decide +kernel
theorem d_Mo_filtered_49 : decode b_Mo_filtered 49 = .ok (.aload_n 0, 1) := by decide +kernel
theorem d_Mo_filtered_50 : decode b_Mo_filtered 50 = .ok (.getfield 43, 3) := by decide +kernel
theorem d_Mo_filtered_53 : decode b_Mo_filtered 53 = .ok (.iload 5, 2) := by decide +kernel
theorem d_Mo_filtered_55 : decode b_Mo_filtered 55 = .ok (.iaload, 1) := by decide +kernel
theorem d_Mo_filtered_56 : decode b_Mo_filtered 56 = .ok (.aload_n 0, 1) := by decide +kernel
theorem d_Mo_filtered_57 : decode b_Mo_filtered 57 = .ok (.getfield 46, 3) := by decide +kernel
theorem d_Mo_filtered_60 : decode b_Mo_filtered 60 = .ok (.iload 5, 2) := by decide +kernel
theorem d_Mo_filtered_62 : decode b_Mo_filtered 62 = .ok (.iaload, 1) := by decide +kernel
theorem d_Mo_filtered_63 : decode b_Mo_filtered 63 = .ok (.iload_n 3, 1) := by decide +kernel
theorem d_Mo_filtered_64 : decode b_Mo_filtered 64 = .ok (.iload 4, 2) := by decide +kernel
theorem d_Mo_filtered_66 : decode b_Mo_filtered 66 = .ok (.invokevirtual 222, 3) := by decide +kernel
theorem d_Mo_filtered_69 : decode b_Mo_filtered 69 = .ok (.ifCond .ne 5, 3) := by decide +kernel
theorem d_Mo_filtered_72 : decode b_Mo_filtered 72 = .ok (.lconst 0, 1) := by decide +kernel
theorem d_Mo_filtered_73 : decode b_Mo_filtered 73 = .ok (.lreturn, 1) := by decide +kernel
theorem d_Mo_filtered_74 : decode b_Mo_filtered 74 = .ok (.iinc 5 1, 3) := by decide +kernel
theorem d_Mo_filtered_77 : decode b_Mo_filtered 77 = .ok (.goto (-38), 3) := by decide +kernel
theorem d_Mo_filtered_80 : decode b_Mo_filtered 80 = .ok (.lconst 0, 1) := by decide +kernel
theorem d_Mo_filtered_81 : decode b_Mo_filtered 81 = .ok (.lstore 5, 2) := by decide +kernel
theorem d_Mo_filtered_83 : decode b_Mo_filtered 83 = .ok (.aload_n 0, 1) := by decide +kernel
theorem d_Mo_filtered_84 : decode b_Mo_filtered 84 = .ok (.getfield 215, 3) := by decide +kernel
theorem d_Mo_filtered_87 : decode b_Mo_filtered 87 = .ok (.iconst 1, 1) := by decide +kernel
theorem d_Mo_filtered_88 : decode b_Mo_filtered 88 = .ok (.isub, 1) := by decide +kernel
theorem d_Mo_filtered_89 : decode b_Mo_filtered 89 = .ok (.istore 7, 2) := by decide +kernel
theorem d_Mo_filtered_91 : decode b_Mo_filtered 91 = .ok (.iload 7, 2) := by decide +kernel
theorem d_Mo_filtered_93 : decode b_Mo_filtered 93 = .ok (.ifCond .lt 25, 3) := by decide +kernel
theorem d_Mo_filtered_96 : decode b_Mo_filtered 96 = .ok (.lload 5, 2) := by decide +kernel
theorem d_Mo_filtered_98 : decode b_Mo_filtered 98 = .ok (.bipush 8, 2) := by decide +kernel
theorem d_Mo_filtered_100 : decode b_Mo_filtered 100 = .ok (.lshl, 1) := by decide +kernel
theorem d_Mo_filtered_101 : decode b_Mo_filtered 101 = .ok (.aload_n 0, 1) := by decide +kernel
theorem d_Mo_filtered_102 : decode b_Mo_filtered 102 = .ok (.getfield 98, 3) := by decide +kernel
theorem d_Mo_filtered_105 : decode b_Mo_filtered 105 = .ok (.iload 7, 2) := by decide +kernel
theorem d_Mo_filtered_107 : decode b_Mo_filtered 107 = .ok (.iaload, 1) := by decide +kernel
theorem d_Mo_filtered_108 : decode b_Mo_filtered 108 = .ok (.i2l, 1) := by decide +kernel
theorem d_Mo_filtered_109 : decode b_Mo_filtered 109 = .ok (.lor, 1) := by decide +kernel
theorem d_Mo_filtered_110 : decode b_Mo_filtered 110 = .ok (.lstore 5, 2) := by decide +kernel
theorem d_Mo_filtered_112 : decode b_Mo_filtered 112 = .ok (.iinc 7 (-1), 3) := by decide +kernel
theorem d_Mo_filtered_115 : decode b_Mo_filtered 115 = .ok (.goto (-24), 3) := by decide +kernel
theorem d_Mo_filtered_118 : decode b_Mo_filtered 118 = .ok (.lload 5, 2) := by decide +kernel
theorem d_Mo_filtered_120 : decode b_Mo_filtered 120 = .ok (.lreturn, 1) := by decide +kernel
abbrev rm_Mo_filtered : Room := { frames := 2, cells := 0, slots := 0, locals := 48 }
def f_Mo_filtered_91 : Nat → Mem → Int64 → Int32 → Option (Int64 × Mem)
  | 0, _, _, _ => none
  | n + 1, μ, x5, x7 => (if x7 < 0 then (some (x5, μ)) else (gd (inb x7 8) (bd ((x5 <<< (((8 : Int32) : Int32).toInt64 &&& 63)) ||| ((μ.1 30 x7.toNatClampNeg : Int32).toInt64)) (fun v1 => bd (x7 + (-1)) (fun v2 => (f_Mo_filtered_91 n) μ v1 v2)))))
set_option maxHeartbeats 4000000 in
set_option maxRecDepth 100000 in
theorem w_Mo_filtered_91 {p : Program} {l : Launch} {e : Env} {s : State} {m : MethodId} {args : Array Value} {below : List Frame} {meth : Method} {c : Code} {D : va_G} {g : Nat → ClassId} {ad : Nat → Nat} {r : Int64} {μ' : Mem} {A : Nat → Prop} (X : Cx p s m args meth c b_Mo_filtered 8 R_Mo (some .long) D CL (TY g)) (hDA : ∀ μ : Mem, va_D A (WM g ad μ)) : ∀ (n : Nat) (μ : Mem) (x5 : Int64) (x7 : Int32) (ls : Array Slot) (H : Heap) (locs : List Loc), va_P D CL (WM g ad μ) H → va_S A s.heap H locs → lv_has ls 8 [(0, .ref (ad 0)), (5, .long x5), (7, .int x7)] → f_Mo_filtered_91 n μ x5 x7 = some (r, μ') → WU p l e rm_Mo_filtered s m args below meth c H locs D (WM g ad μ') A (some (.long r)) (F0 m 91 ls []) := by
  intro n
  induction n with
  | zero => intro μ x5 x7 ls H locs hP hS hl hf; rw [f_Mo_filtered_91] at hf; cases hf
  | succ n ih =>
    intro μ x5 x7 ls H locs hP hS hl hf
    obtain ⟨S, hr, hlk, hK⟩ := id X
    obtain ⟨hx, hb, hml, hown, hts⟩ := id S
    rw [f_Mo_filtered_91] at hf
    refine lv_iload hx hb d_Mo_filtered_91 (lv_at hl 2 rfl) ?_
    refine lv_if_lt (tgt := 118) hx hb d_Mo_filtered_93 rfl (fun hc => ?_) (fun hc => ?_)
    · replace hf := br_p hc hf
      refine lv_lload hx hb d_Mo_filtered_118 (lv_at hl 1 rfl) ?_
      obtain ⟨h1, h2⟩ := Prod.mk.inj (Option.some.inj hf)
      subst h1; subst h2
      exact W.lret hx hb hr (fun t ht _ => ⟨rfl, by rw [ht]; exact hP, hS.F ht⟩) hS.2.2 d_Mo_filtered_120
    · replace hf := br_n hc hf
      refine lv_lload hx hb d_Mo_filtered_96 (lv_at hl 1 rfl) ?_
      refine lv_bipush (v := 8) hx hb d_Mo_filtered_98 (by decide) ?_
      refine lv_lshl (v := x5 <<< (((8 : Int32) : Int32).toInt64 &&& 63)) hx hb d_Mo_filtered_100 rfl ?_
      refine lv_aload_n hx hb d_Mo_filtered_101 rfl (lv_at hl 0 rfl) ?_
      refine mg_0_38 hx hb hts hown hK hP q_856 d_Mo_filtered_102 ?_
      refine lv_iload hx hb d_Mo_filtered_105 (lv_at hl 2 rfl) ?_
      obtain ⟨hi, hf⟩ := gd_x hf
      refine ml_30 hx hb hK hP (inb_in hi) d_Mo_filtered_107 ?_
      refine lv_i2l (v := (μ.1 30 x7.toNatClampNeg : Int32).toInt64) hx hb d_Mo_filtered_108 rfl ?_
      refine lv_lor hx hb d_Mo_filtered_109 ?_
      obtain ⟨v1, hv1, hf⟩ := bd_x hf
      refine top_l hv1 ?_
      refine lv_lstore (lv' := [(5, .long v1), (0, .ref (ad 0)), (7, .int x7)]) hx hb d_Mo_filtered_110 hl (Nat.le_of_ble_eq_true rfl) rfl (fun ls hl => ?_)
      obtain ⟨v2, hv2, hf⟩ := bd_x hf
      refine lv_iinc (lv' := [(7, .int v2), (5, .long v1), (0, .ref (ad 0))]) hx hb d_Mo_filtered_112 hl (k := 2) rfl (show x7 + Int32.ofInt (-1) = v2 from hv2) (Nat.le_of_ble_eq_true rfl) rfl (fun ls hl => ?_)
      refine lv_goto (tgt := 91) hx hb d_Mo_filtered_115 rfl ?_
      exact ih _ _ _ _ _ _ hP hS (lv_sub (l' := [(0, .ref (ad 0)), (5, .long v1), (7, .int v2)]) hl [2, 1, 0] rfl) hf
def f_Mo_filtered_39 : Nat → Mem → Int32 → Int32 → Int32 → Option (Int64 × Mem)
  | 0, _, _, _, _ => none
  | n + 1, μ, x3, x4, x5 => (if (μ.1 0 17) ≤ x5 then (bd ((μ.1 0 39) - (1 : Int32)) (fun v1 => f_Mo_filtered_91 n μ (0 : Int64) v1)) else (gd (inb x5 6) (gd (inb x5 6) (cl2 (f_Mo_pass n μ (μ.1 12 x5.toNatClampNeg) (μ.1 13 x5.toNatClampNeg) x3 x4) (fun v2 μ3 => (if (bz v2) = 0 then (some ((0 : Int64), μ3)) else (bd (x5 + 1) (fun v4 => (f_Mo_filtered_39 n) μ3 x3 x4 v4))))))))
set_option maxHeartbeats 4000000 in
set_option maxRecDepth 100000 in
theorem w_Mo_filtered_39 {p : Program} {l : Launch} {e : Env} {s : State} {m : MethodId} {args : Array Value} {below : List Frame} {meth : Method} {c : Code} {D : va_G} {g : Nat → ClassId} {ad : Nat → Nat} {r : Int64} {μ' : Mem} {A : Nat → Prop} (X : Cx p s m args meth c b_Mo_filtered 8 R_Mo (some .long) D CL (TY g)) (hDA : ∀ μ : Mem, va_D A (WM g ad μ)) : ∀ (n : Nat) (μ : Mem) (x3 : Int32) (x4 : Int32) (x5 : Int32) (ls : Array Slot) (H : Heap) (locs : List Loc), va_P D CL (WM g ad μ) H → va_S A s.heap H locs → lv_has ls 8 [(0, .ref (ad 0)), (3, .int x3), (4, .int x4), (5, .int x5)] → f_Mo_filtered_39 n μ x3 x4 x5 = some (r, μ') → WU p l e rm_Mo_filtered s m args below meth c H locs D (WM g ad μ') A (some (.long r)) (F0 m 39 ls []) := by
  intro n
  induction n with
  | zero => intro μ x3 x4 x5 ls H locs hP hS hl hf; rw [f_Mo_filtered_39] at hf; cases hf
  | succ n ih =>
    intro μ x3 x4 x5 ls H locs hP hS hl hf
    obtain ⟨S, hr, hlk, hK⟩ := id X
    obtain ⟨hx, hb, hml, hown, hts⟩ := id S
    rw [f_Mo_filtered_39] at hf
    refine lv_iload hx hb d_Mo_filtered_39 (lv_at hl 3 rfl) ?_
    refine lv_aload_n hx hb d_Mo_filtered_41 rfl (lv_at hl 0 rfl) ?_
    refine mg_0_17 hx hb hts hown hK hP q_835 d_Mo_filtered_42 ?_
    refine lv_icmp_ge (tgt := 80) hx hb d_Mo_filtered_45 rfl (fun hc => ?_) (fun hc => ?_)
    · replace hf := br_p hc hf
      refine lv_lconst (v := 0) hx hb d_Mo_filtered_80 (by decide) ?_
      refine lv_lstore (lv' := [(5, .long (0 : Int64)), (0, .ref (ad 0)), (3, .int x3), (4, .int x4)]) hx hb d_Mo_filtered_81 hl (Nat.le_of_ble_eq_true rfl) rfl (fun ls hl => ?_)
      refine lv_aload_n hx hb d_Mo_filtered_83 rfl (lv_at hl 1 rfl) ?_
      refine mg_0_39 hx hb hts hown hK hP q_857 d_Mo_filtered_84 ?_
      refine lv_iconst (v := 1) hx hb d_Mo_filtered_87 (by decide) ?_
      refine lv_isub hx hb d_Mo_filtered_88 ?_
      obtain ⟨v1, hv1, hf⟩ := bd_x hf
      refine top_i hv1 ?_
      refine lv_istore (lv' := [(7, .int v1), (5, .long (0 : Int64)), (0, .ref (ad 0)), (3, .int x3), (4, .int x4)]) hx hb d_Mo_filtered_89 hl (Nat.le_of_ble_eq_true rfl) rfl (fun ls hl => ?_)
      exact w_Mo_filtered_91 X hDA _ _ _ _ _ _ _ hP hS (lv_sub (l' := [(0, .ref (ad 0)), (5, .long (0 : Int64)), (7, .int v1)]) hl [2, 1, 0] rfl) hf
    · replace hf := br_n hc hf
      refine lv_aload_n hx hb d_Mo_filtered_48 rfl (lv_at hl 0 rfl) ?_
      refine lv_aload_n hx hb d_Mo_filtered_49 rfl (lv_at hl 0 rfl) ?_
      refine mg_0_15 hx hb hts hown hK hP q_833 d_Mo_filtered_50 ?_
      refine lv_iload hx hb d_Mo_filtered_53 (lv_at hl 3 rfl) ?_
      obtain ⟨hi, hf⟩ := gd_x hf
      refine ml_12 hx hb hK hP (inb_in hi) d_Mo_filtered_55 ?_
      refine lv_aload_n hx hb d_Mo_filtered_56 rfl (lv_at hl 0 rfl) ?_
      refine mg_0_16 hx hb hts hown hK hP q_834 d_Mo_filtered_57 ?_
      refine lv_iload hx hb d_Mo_filtered_60 (lv_at hl 3 rfl) ?_
      obtain ⟨hi, hf⟩ := gd_x hf
      refine ml_13 hx hb hK hP (inb_in hi) d_Mo_filtered_62 ?_
      refine lv_iload_n hx hb d_Mo_filtered_63 rfl (lv_at hl 1 rfl) ?_
      refine lv_iload hx hb d_Mo_filtered_64 (lv_at hl 2 rfl) ?_
      obtain ⟨v2, μ3, hv2, hf⟩ := cl2_x hf
      refine wrV (As := [.int (μ.1 12 x5.toNatClampNeg), .int (μ.1 13 x5.toNatClampNeg), .int x3, .int x4]) (rest := []) S K_Mo_pass q_1101 (c_Mo_pass hDA hv2) hK hP hS ⟨rfl, rfl⟩ ⟨Nat.le_of_ble_eq_true rfl, Nat.le_of_ble_eq_true rfl⟩ (mr_0 hK hP) rfl hl.1 rfl (Nat.le_of_ble_eq_true rfl) d_Mo_filtered_66 ⟨Nat.le_refl _, Nat.le_refl _⟩ (fun H locs hP hS => ?_)
      refine lv_if_ne (tgt := 74) hx hb d_Mo_filtered_69 rfl (fun hc => ?_) (fun hc => ?_)
      · replace hf := br_n hc hf
        obtain ⟨v4, hv4, hf⟩ := bd_x hf
        refine lv_iinc (lv' := [(5, .int v4), (0, .ref (ad 0)), (3, .int x3), (4, .int x4)]) hx hb d_Mo_filtered_74 hl (k := 3) rfl (show x5 + Int32.ofInt (1) = v4 from hv4) (Nat.le_of_ble_eq_true rfl) rfl (fun ls hl => ?_)
        refine lv_goto (tgt := 39) hx hb d_Mo_filtered_77 rfl ?_
        exact ih _ _ _ _ _ _ _ hP hS (lv_sub (l' := [(0, .ref (ad 0)), (3, .int x3), (4, .int x4), (5, .int v4)]) hl [1, 2, 3, 0] rfl) hf
      · replace hf := br_p hc hf
        refine lv_lconst (v := 0) hx hb d_Mo_filtered_72 (by decide) ?_
        obtain ⟨h1, h2⟩ := Prod.mk.inj (Option.some.inj hf)
        subst h1; subst h2
        exact W.lret hx hb hr (fun t ht _ => ⟨rfl, by rw [ht]; exact hP, hS.F ht⟩) hS.2.2 d_Mo_filtered_73
def f_Mo_filtered_8 : Nat → Mem → Int32 → Int32 → Int32 → Int32 → Int32 → Option (Int64 × Mem)
  | 0, _, _, _, _, _, _ => none
  | n + 1, μ, x1, x2, x3, x4, x5 => (if x2 ≤ x5 then (f_Mo_filtered_39 n μ x3 x4 (0 : Int32)) else (gd (inb (x1 + x5) 24) (gd (inb x5 8) (bd (wi μ 30 x5.toNatClampNeg (μ.1 1 (x1 + x5).toNatClampNeg)) (fun μ1 => bd (x5 + 1) (fun v2 => (f_Mo_filtered_8 n) μ1 x1 x2 x3 x4 v2))))))
set_option maxHeartbeats 4000000 in
set_option maxRecDepth 100000 in
theorem w_Mo_filtered_8 {p : Program} {l : Launch} {e : Env} {s : State} {m : MethodId} {args : Array Value} {below : List Frame} {meth : Method} {c : Code} {D : va_G} {g : Nat → ClassId} {ad : Nat → Nat} {r : Int64} {μ' : Mem} {A : Nat → Prop} (X : Cx p s m args meth c b_Mo_filtered 8 R_Mo (some .long) D CL (TY g)) (hDA : ∀ μ : Mem, va_D A (WM g ad μ)) : ∀ (n : Nat) (μ : Mem) (x1 : Int32) (x2 : Int32) (x3 : Int32) (x4 : Int32) (x5 : Int32) (ls : Array Slot) (H : Heap) (locs : List Loc), va_P D CL (WM g ad μ) H → va_S A s.heap H locs → lv_has ls 8 [(0, .ref (ad 0)), (1, .int x1), (2, .int x2), (3, .int x3), (4, .int x4), (5, .int x5)] → f_Mo_filtered_8 n μ x1 x2 x3 x4 x5 = some (r, μ') → WU p l e rm_Mo_filtered s m args below meth c H locs D (WM g ad μ') A (some (.long r)) (F0 m 8 ls []) := by
  intro n
  induction n with
  | zero => intro μ x1 x2 x3 x4 x5 ls H locs hP hS hl hf; rw [f_Mo_filtered_8] at hf; cases hf
  | succ n ih =>
    intro μ x1 x2 x3 x4 x5 ls H locs hP hS hl hf
    obtain ⟨S, hr, hlk, hK⟩ := id X
    obtain ⟨hx, hb, hml, hown, hts⟩ := id S
    rw [f_Mo_filtered_8] at hf
    refine lv_iload hx hb d_Mo_filtered_8 (lv_at hl 5 rfl) ?_
    refine lv_iload_n hx hb d_Mo_filtered_10 rfl (lv_at hl 2 rfl) ?_
    refine lv_icmp_ge (tgt := 36) hx hb d_Mo_filtered_11 rfl (fun hc => ?_) (fun hc => ?_)
    · replace hf := br_p hc hf
      refine lv_iconst (v := 0) hx hb d_Mo_filtered_36 (by decide) ?_
      refine lv_istore (lv' := [(5, .int (0 : Int32)), (0, .ref (ad 0)), (1, .int x1), (2, .int x2), (3, .int x3), (4, .int x4)]) hx hb d_Mo_filtered_37 hl (Nat.le_of_ble_eq_true rfl) rfl (fun ls hl => ?_)
      exact w_Mo_filtered_39 X hDA _ _ _ _ _ _ _ _ hP hS (lv_sub (l' := [(0, .ref (ad 0)), (3, .int x3), (4, .int x4), (5, .int (0 : Int32))]) hl [1, 4, 5, 0] rfl) hf
    · replace hf := br_n hc hf
      refine lv_aload_n hx hb d_Mo_filtered_14 rfl (lv_at hl 0 rfl) ?_
      refine mg_0_38 hx hb hts hown hK hP q_856 d_Mo_filtered_15 ?_
      refine lv_iload hx hb d_Mo_filtered_18 (lv_at hl 5 rfl) ?_
      refine lv_aload_n hx hb d_Mo_filtered_20 rfl (lv_at hl 0 rfl) ?_
      refine mg_0_0 hx hb hts hown hK hP q_818 d_Mo_filtered_21 ?_
      refine lv_iload_n hx hb d_Mo_filtered_24 rfl (lv_at hl 1 rfl) ?_
      refine lv_iload hx hb d_Mo_filtered_25 (lv_at hl 5 rfl) ?_
      refine lv_iadd hx hb d_Mo_filtered_27 ?_
      obtain ⟨hi, hf⟩ := gd_x hf
      refine ml_1 hx hb hK hP (inb_in hi) d_Mo_filtered_28 ?_
      obtain ⟨hi, hf⟩ := gd_x hf
      obtain ⟨μ1, hμ1, hf⟩ := bd_x hf
      refine ms_30 hx hb hK (hDA _) hP hS (inb_in hi) d_Mo_filtered_29 hμ1 (fun H locs hP hS => ?_)
      obtain ⟨v2, hv2, hf⟩ := bd_x hf
      refine lv_iinc (lv' := [(5, .int v2), (0, .ref (ad 0)), (1, .int x1), (2, .int x2), (3, .int x3), (4, .int x4)]) hx hb d_Mo_filtered_30 hl (k := 5) rfl (show x5 + Int32.ofInt (1) = v2 from hv2) (Nat.le_of_ble_eq_true rfl) rfl (fun ls hl => ?_)
      refine lv_goto (tgt := 8) hx hb d_Mo_filtered_33 rfl ?_
      exact ih _ _ _ _ _ _ _ _ _ hP hS (lv_sub (l' := [(0, .ref (ad 0)), (1, .int x1), (2, .int x2), (3, .int x3), (4, .int x4), (5, .int v2)]) hl [1, 2, 3, 4, 5, 0] rfl) hf
def f_Mo_filtered (n : Nat) (μ : Mem) (a1 : Int32) (a2 : Int32) (a3 : Int32) (a4 : Int32) : Option (Int64 × Mem) := bd (wi μ 0 39 a2) (fun μ1 => f_Mo_filtered_8 n μ1 a1 a2 a3 a4 (0 : Int32))
set_option maxHeartbeats 4000000 in
set_option maxRecDepth 100000 in
theorem w_Mo_filtered {p : Program} {l : Launch} {e : Env} {s : State} {m : MethodId} {args : Array Value} {below : List Frame} {meth : Method} {c : Code} {D : va_G} {g : Nat → ClassId} {ad : Nat → Nat} {r : Int64} {μ' : Mem} {A : Nat → Prop} {n : Nat} {μ : Mem} {a1 : Int32} {a2 : Int32} {a3 : Int32} {a4 : Int32} {ls : Array Slot} {H : Heap} {locs : List Loc} (X : Cx p s m args meth c b_Mo_filtered 8 R_Mo (some .long) D CL (TY g)) (hDA : ∀ μ : Mem, va_D A (WM g ad μ)) (hP : va_P D CL (WM g ad μ) H) (hS : va_S A s.heap H locs) (hl : lv_has ls 8 [(0, .ref (ad 0)), (1, .int a1), (2, .int a2), (3, .int a3), (4, .int a4)]) (hf : f_Mo_filtered n μ a1 a2 a3 a4 = some (r, μ')) : WU p l e rm_Mo_filtered s m args below meth c H locs D (WM g ad μ') A (some (.long r)) (F0 m 0 ls []) := by
  obtain ⟨S, hr, hlk, hK⟩ := id X
  obtain ⟨hx, hb, hml, hown, hts⟩ := id S
  rw [f_Mo_filtered] at hf
  refine lv_aload_n hx hb d_Mo_filtered_0 rfl (lv_at hl 0 rfl) ?_
  refine lv_iload_n hx hb d_Mo_filtered_1 rfl (lv_at hl 2 rfl) ?_
  obtain ⟨μ1, hμ1, hf⟩ := bd_x hf
  refine mp_0_39 hx hb hts hown hK (hDA _) hP hS q_857 d_Mo_filtered_2 hμ1 (fun H locs hP hS => ?_)
  refine lv_iconst (v := 0) hx hb d_Mo_filtered_5 (by decide) ?_
  refine lv_istore (lv' := [(5, .int (0 : Int32)), (0, .ref (ad 0)), (1, .int a1), (2, .int a2), (3, .int a3), (4, .int a4)]) hx hb d_Mo_filtered_6 hl (Nat.le_of_ble_eq_true rfl) rfl (fun ls hl => ?_)
  exact w_Mo_filtered_8 X hDA _ _ _ _ _ _ _ _ _ _ hP hS (lv_sub (l' := [(0, .ref (ad 0)), (1, .int a1), (2, .int a2), (3, .int a3), (4, .int a4), (5, .int (0 : Int32))]) hl [1, 2, 3, 4, 5, 0] rfl) hf
theorem c_Mo_filtered {l : Launch} {D : va_G} {g : Nat → ClassId} {ad : Nat → Nat} {μ : Mem} {r : Int64} {μ' : Mem} {A : Nat → Prop} {n : Nat} {a1 : Int32} {a2 : Int32} {a3 : Int32} {a4 : Int32} (hDA : ∀ μ : Mem, va_D A (WM g ad μ)) (hf : f_Mo_filtered n μ a1 a2 a3 a4 = some (r, μ')) : Met l y_Mo_filtered (Cond.code y_Mo_filtered b_Mo_filtered 8 (some .long) :: ww) rm_Mo_filtered (RP D CL (TY g) (WM g ad μ) [.ref (ad 0), .int a1, .int a2, .int a3, .int a4]) (QW D CL (WM g ad μ') A (some (.long r))) 0 0 A := by
  refine met_of (by decide) (Nat.le_of_ble_eq_true rfl) ?_
  intro p e s m below meth c ls X hP hl
  have hl : lv_has ls 8 [(0, .ref (ad 0)), (1, .int a1), (2, .int a2), (3, .int a3), (4, .int a4)] := hl
  exact w_Mo_filtered X hDA hP va_S.rf hl hf
theorem d_Mo_termOf_0 : decode b_Mo_termOf 0 = .ok (.aload_n 0, 1) := by decide +kernel
theorem d_Mo_termOf_1 : decode b_Mo_termOf 1 = .ok (.aload_n 0, 1) := by decide +kernel
theorem d_Mo_termOf_2 : decode b_Mo_termOf 2 = .ok (.getfield 86, 3) := by decide +kernel
theorem d_Mo_termOf_5 : decode b_Mo_termOf 5 = .ok (.iload_n 1, 1) := by decide +kernel
theorem d_Mo_termOf_6 : decode b_Mo_termOf 6 = .ok (.iaload, 1) := by decide +kernel
theorem d_Mo_termOf_7 : decode b_Mo_termOf 7 = .ok (.aload_n 0, 1) := by decide +kernel
theorem d_Mo_termOf_8 : decode b_Mo_termOf 8 = .ok (.getfield 89, 3) := by decide +kernel
theorem d_Mo_termOf_11 : decode b_Mo_termOf 11 = .ok (.iload_n 1, 1) := by decide +kernel
theorem d_Mo_termOf_12 : decode b_Mo_termOf 12 = .ok (.iaload, 1) := by decide +kernel
theorem d_Mo_termOf_13 : decode b_Mo_termOf 13 = .ok (.aload_n 0, 1) := by decide +kernel
theorem d_Mo_termOf_14 : decode b_Mo_termOf 14 = .ok (.getfield 92, 3) := by decide +kernel
theorem d_Mo_termOf_17 : decode b_Mo_termOf 17 = .ok (.iload_n 1, 1) := by decide +kernel
theorem d_Mo_termOf_18 : decode b_Mo_termOf 18 = .ok (.iaload, 1) := by decide +kernel
theorem d_Mo_termOf_19 : decode b_Mo_termOf 19 = .ok (.aload_n 0, 1) := by decide +kernel
theorem d_Mo_termOf_20 : decode b_Mo_termOf 20 = .ok (.getfield 95, 3) := by decide +kernel
theorem d_Mo_termOf_23 : decode b_Mo_termOf 23 = .ok (.iload_n 1, 1) := by decide +kernel
theorem d_Mo_termOf_24 : decode b_Mo_termOf 24 = .ok (.iaload, 1) := by decide +kernel
theorem d_Mo_termOf_25 : decode b_Mo_termOf 25 = .ok (.invokevirtual 226, 3) := by decide +kernel
theorem d_Mo_termOf_28 : decode b_Mo_termOf 28 = .ok (.lreturn, 1) := by decide +kernel
abbrev rm_Mo_termOf : Room := { frames := 3, cells := 0, slots := 0, locals := 75 }
def f_Mo_termOf (n : Nat) (μ : Mem) (a1 : Int32) : Option (Int64 × Mem) := gd (inb a1 24) (gd (inb a1 24) (gd (inb a1 24) (gd (inb a1 24) (cl2 (f_Mo_filtered n μ (μ.1 26 a1.toNatClampNeg) (μ.1 27 a1.toNatClampNeg) (μ.1 28 a1.toNatClampNeg) (μ.1 29 a1.toNatClampNeg)) (fun v1 μ2 => some (v1, μ2))))))
set_option maxHeartbeats 4000000 in
set_option maxRecDepth 100000 in
theorem w_Mo_termOf {p : Program} {l : Launch} {e : Env} {s : State} {m : MethodId} {args : Array Value} {below : List Frame} {meth : Method} {c : Code} {D : va_G} {g : Nat → ClassId} {ad : Nat → Nat} {r : Int64} {μ' : Mem} {A : Nat → Prop} {n : Nat} {μ : Mem} {a1 : Int32} {ls : Array Slot} {H : Heap} {locs : List Loc} (X : Cx p s m args meth c b_Mo_termOf 2 R_Mo (some .long) D CL (TY g)) (hDA : ∀ μ : Mem, va_D A (WM g ad μ)) (hP : va_P D CL (WM g ad μ) H) (hS : va_S A s.heap H locs) (hl : lv_has ls 2 [(0, .ref (ad 0)), (1, .int a1)]) (hf : f_Mo_termOf n μ a1 = some (r, μ')) : WU p l e rm_Mo_termOf s m args below meth c H locs D (WM g ad μ') A (some (.long r)) (F0 m 0 ls []) := by
  obtain ⟨S, hr, hlk, hK⟩ := id X
  obtain ⟨hx, hb, hml, hown, hts⟩ := id S
  rw [f_Mo_termOf] at hf
  refine lv_aload_n hx hb d_Mo_termOf_0 rfl (lv_at hl 0 rfl) ?_
  refine lv_aload_n hx hb d_Mo_termOf_1 rfl (lv_at hl 0 rfl) ?_
  refine mg_0_33 hx hb hts hown hK hP q_851 d_Mo_termOf_2 ?_
  refine lv_iload_n hx hb d_Mo_termOf_5 rfl (lv_at hl 1 rfl) ?_
  obtain ⟨hi, hf⟩ := gd_x hf
  refine ml_26 hx hb hK hP (inb_in hi) d_Mo_termOf_6 ?_
  refine lv_aload_n hx hb d_Mo_termOf_7 rfl (lv_at hl 0 rfl) ?_
  refine mg_0_34 hx hb hts hown hK hP q_852 d_Mo_termOf_8 ?_
  refine lv_iload_n hx hb d_Mo_termOf_11 rfl (lv_at hl 1 rfl) ?_
  obtain ⟨hi, hf⟩ := gd_x hf
  refine ml_27 hx hb hK hP (inb_in hi) d_Mo_termOf_12 ?_
  refine lv_aload_n hx hb d_Mo_termOf_13 rfl (lv_at hl 0 rfl) ?_
  refine mg_0_35 hx hb hts hown hK hP q_853 d_Mo_termOf_14 ?_
  refine lv_iload_n hx hb d_Mo_termOf_17 rfl (lv_at hl 1 rfl) ?_
  obtain ⟨hi, hf⟩ := gd_x hf
  refine ml_28 hx hb hK hP (inb_in hi) d_Mo_termOf_18 ?_
  refine lv_aload_n hx hb d_Mo_termOf_19 rfl (lv_at hl 0 rfl) ?_
  refine mg_0_36 hx hb hts hown hK hP q_854 d_Mo_termOf_20 ?_
  refine lv_iload_n hx hb d_Mo_termOf_23 rfl (lv_at hl 1 rfl) ?_
  obtain ⟨hi, hf⟩ := gd_x hf
  refine ml_29 hx hb hK hP (inb_in hi) d_Mo_termOf_24 ?_
  obtain ⟨v1, μ2, hv1, hf⟩ := cl2_x hf
  refine wrV (As := [.int (μ.1 26 a1.toNatClampNeg), .int (μ.1 27 a1.toNatClampNeg), .int (μ.1 28 a1.toNatClampNeg), .int (μ.1 29 a1.toNatClampNeg)]) (rest := []) S K_Mo_filtered q_1097 (c_Mo_filtered hDA hv1) hK hP hS ⟨rfl, rfl⟩ ⟨Nat.le_of_ble_eq_true rfl, Nat.le_of_ble_eq_true rfl⟩ (mr_0 hK hP) rfl hl.1 rfl (Nat.le_of_ble_eq_true rfl) d_Mo_termOf_25 ⟨Nat.le_refl _, Nat.le_refl _⟩ (fun H locs hP hS => ?_)
  obtain ⟨h1, h2⟩ := Prod.mk.inj (Option.some.inj hf)
  subst h1; subst h2
  exact W.lret hx hb hr (fun t ht _ => ⟨rfl, by rw [ht]; exact hP, hS.F ht⟩) hS.2.2 d_Mo_termOf_28
theorem c_Mo_termOf {l : Launch} {D : va_G} {g : Nat → ClassId} {ad : Nat → Nat} {μ : Mem} {r : Int64} {μ' : Mem} {A : Nat → Prop} {n : Nat} {a1 : Int32} (hDA : ∀ μ : Mem, va_D A (WM g ad μ)) (hf : f_Mo_termOf n μ a1 = some (r, μ')) : Met l y_Mo_termOf (Cond.code y_Mo_termOf b_Mo_termOf 2 (some .long) :: ww) rm_Mo_termOf (RP D CL (TY g) (WM g ad μ) [.ref (ad 0), .int a1]) (QW D CL (WM g ad μ') A (some (.long r))) 0 0 A := by
  refine met_of (by decide) (Nat.le_of_ble_eq_true rfl) ?_
  intro p e s m below meth c ls X hP hl
  have hl : lv_has ls 2 [(0, .ref (ad 0)), (1, .int a1)] := hl
  exact w_Mo_termOf X hDA hP va_S.rf hl hf
theorem d_Mo_cost_0 : decode b_Mo_cost 0 = .ok (.aload_n 0, 1) := by decide +kernel
theorem d_Mo_cost_1 : decode b_Mo_cost 1 = .ok (.iconst 1, 1) := by decide +kernel
theorem d_Mo_cost_2 : decode b_Mo_cost 2 = .ok (.invokevirtual 202, 3) := by decide +kernel
theorem d_Mo_cost_5 : decode b_Mo_cost 5 = .ok (.aload_n 0, 1) := by decide +kernel
theorem d_Mo_cost_6 : decode b_Mo_cost 6 = .ok (.invokevirtual 193, 3) := by decide +kernel
theorem d_Mo_cost_9 : decode b_Mo_cost 9 = .ok (.ireturn, 1) := by decide +kernel
abbrev rm_Mo_cost : Room := { frames := 4, cells := 0, slots := 0, locals := 103 }
def f_Mo_cost (n : Nat) (μ : Mem) : Option (Int32 × Mem) := cl (f_Mo_work n μ (1 : Int32)) (fun μ2 => cl (f_Mo_total n μ2) (fun v3 => some (v3, μ2)))
set_option maxHeartbeats 4000000 in
set_option maxRecDepth 100000 in
theorem w_Mo_cost {p : Program} {l : Launch} {e : Env} {s : State} {m : MethodId} {args : Array Value} {below : List Frame} {meth : Method} {c : Code} {D : va_G} {g : Nat → ClassId} {ad : Nat → Nat} {r : Int32} {μ' : Mem} {A : Nat → Prop} {n : Nat} {μ : Mem} {ls : Array Slot} {H : Heap} {locs : List Loc} (X : Cx p s m args meth c b_Mo_cost 1 R_Mo (some .int) D CL (TY g)) (hDA : ∀ μ : Mem, va_D A (WM g ad μ)) (hP : va_P D CL (WM g ad μ) H) (hS : va_S A s.heap H locs) (hl : lv_has ls 1 [(0, .ref (ad 0))]) (hf : f_Mo_cost n μ = some (r, μ')) : WU p l e rm_Mo_cost s m args below meth c H locs D (WM g ad μ') A (some (.int r)) (F0 m 0 ls []) := by
  obtain ⟨S, hr, hlk, hK⟩ := id X
  obtain ⟨hx, hb, hml, hown, hts⟩ := id S
  rw [f_Mo_cost] at hf
  refine lv_aload_n hx hb d_Mo_cost_0 rfl (lv_at hl 0 rfl) ?_
  refine lv_iconst (v := 1) hx hb d_Mo_cost_1 (by decide) ?_
  obtain ⟨μ2, hv1, hf⟩ := cl_x hf
  refine wrV (As := [.int (1 : Int32)]) (rest := []) S K_Mo_work q_1016 (c_Mo_work hDA hv1) hK hP hS ⟨rfl, rfl⟩ ⟨Nat.le_of_ble_eq_true rfl, Nat.le_of_ble_eq_true rfl⟩ (mr_0 hK hP) rfl hl.1 rfl (Nat.le_of_ble_eq_true rfl) d_Mo_cost_2 ⟨Nat.le_refl _, Nat.le_refl _⟩ (fun H locs hP hS => ?_)
  refine lv_aload_n hx hb d_Mo_cost_5 rfl (lv_at hl 0 rfl) ?_
  obtain ⟨v3, hv3, hf⟩ := cl_x hf
  refine rdV (As := []) (rest := []) S K_Mo_total q_1049 (c_Mo_total hv3) hK hP ⟨rfl, rfl⟩ ⟨Nat.le_of_ble_eq_true rfl, Nat.le_of_ble_eq_true rfl⟩ (mr_0 hK hP) rfl hl.1 rfl (Nat.le_of_ble_eq_true rfl) d_Mo_cost_6 ⟨Nat.le_refl _, Nat.le_refl _⟩ ?_
  obtain ⟨h1, h2⟩ := Prod.mk.inj (Option.some.inj hf)
  subst h1; subst h2
  exact W.iret hx hb hr (fun t ht _ => ⟨rfl, by rw [ht]; exact hP, hS.F ht⟩) hS.2.2 d_Mo_cost_9
theorem c_Mo_cost {l : Launch} {D : va_G} {g : Nat → ClassId} {ad : Nat → Nat} {μ : Mem} {r : Int32} {μ' : Mem} {A : Nat → Prop} {n : Nat} (hDA : ∀ μ : Mem, va_D A (WM g ad μ)) (hf : f_Mo_cost n μ = some (r, μ')) : Met l y_Mo_cost (Cond.code y_Mo_cost b_Mo_cost 1 (some .int) :: ww) rm_Mo_cost (RP D CL (TY g) (WM g ad μ) [.ref (ad 0)]) (QW D CL (WM g ad μ') A (some (.int r))) 0 0 A := by
  refine met_of (by decide) (Nat.le_of_ble_eq_true rfl) ?_
  intro p e s m below meth c ls X hP hl
  have hl : lv_has ls 1 [(0, .ref (ad 0))] := hl
  exact w_Mo_cost X hDA hP va_S.rf hl hf
theorem d_Mo_paths_0 : decode b_Mo_paths 0 = .ok (.aload_n 0, 1) := by decide +kernel
theorem d_Mo_paths_1 : decode b_Mo_paths 1 = .ok (.iconst 1, 1) := by decide +kernel
theorem d_Mo_paths_2 : decode b_Mo_paths 2 = .ok (.invokevirtual 202, 3) := by decide +kernel
theorem d_Mo_paths_5 : decode b_Mo_paths 5 = .ok (.aload_n 0, 1) := by decide +kernel
theorem d_Mo_paths_6 : decode b_Mo_paths 6 = .ok (.invokevirtual 193, 3) := by decide +kernel
theorem d_Mo_paths_9 : decode b_Mo_paths 9 = .ok (.istore_n 1, 1) := by decide +kernel
theorem d_Mo_paths_10 : decode b_Mo_paths 10 = .ok (.lconst 0, 1) := by decide +kernel
theorem d_Mo_paths_11 : decode b_Mo_paths 11 = .ok (.lstore_n 2, 1) := by decide +kernel
theorem d_Mo_paths_12 : decode b_Mo_paths 12 = .ok (.iconst 0, 1) := by decide +kernel
theorem d_Mo_paths_13 : decode b_Mo_paths 13 = .ok (.istore 4, 2) := by decide +kernel
theorem d_Mo_paths_15 : decode b_Mo_paths 15 = .ok (.iload 4, 2) := by decide +kernel
theorem d_Mo_paths_17 : decode b_Mo_paths 17 = .ok (.bipush 8, 2) := by decide +kernel
theorem d_Mo_paths_19 : decode b_Mo_paths 19 = .ok (.if_icmp .ge 77, 3) := by decide +kernel
theorem d_Mo_paths_22 : decode b_Mo_paths 22 = .ok (.aload_n 0, 1) := by decide +kernel
theorem d_Mo_paths_23 : decode b_Mo_paths 23 = .ok (.getfield 64, 3) := by decide +kernel
theorem d_Mo_paths_26 : decode b_Mo_paths 26 = .ok (.bipush 8, 2) := by decide +kernel
theorem d_Mo_paths_28 : decode b_Mo_paths 28 = .ok (.aload_n 0, 1) := by decide +kernel
theorem d_Mo_paths_29 : decode b_Mo_paths 29 = .ok (.getfield 129, 3) := by decide +kernel
theorem d_Mo_paths_32 : decode b_Mo_paths 32 = .ok (.imul, 1) := by decide +kernel
theorem d_Mo_paths_33 : decode b_Mo_paths 33 = .ok (.iload 4, 2) := by decide +kernel
theorem d_Mo_paths_35 : decode b_Mo_paths 35 = .ok (.iadd, 1) := by decide +kernel
theorem d_Mo_paths_36 : decode b_Mo_paths 36 = .ok (.iaload, 1) := by decide +kernel
theorem d_Mo_paths_37 : decode b_Mo_paths 37 = .ok (.ldc 174, 2) := by decide +kernel
theorem d_Mo_paths_39 : decode b_Mo_paths 39 = .ok (.if_icmp .eq 51, 3) := by decide +kernel
theorem d_Mo_paths_42 : decode b_Mo_paths 42 = .ok (.aload_n 0, 1) := by decide +kernel
theorem d_Mo_paths_43 : decode b_Mo_paths 43 = .ok (.getfield 64, 3) := by decide +kernel
theorem d_Mo_paths_46 : decode b_Mo_paths 46 = .ok (.bipush 8, 2) := by decide +kernel
theorem d_Mo_paths_48 : decode b_Mo_paths 48 = .ok (.aload_n 0, 1) := by decide +kernel
theorem d_Mo_paths_49 : decode b_Mo_paths 49 = .ok (.getfield 129, 3) := by decide +kernel
theorem d_Mo_paths_52 : decode b_Mo_paths 52 = .ok (.imul, 1) := by decide +kernel
theorem d_Mo_paths_53 : decode b_Mo_paths 53 = .ok (.iload 4, 2) := by decide +kernel
theorem d_Mo_paths_55 : decode b_Mo_paths 55 = .ok (.iadd, 1) := by decide +kernel
theorem d_Mo_paths_56 : decode b_Mo_paths 56 = .ok (.iaload, 1) := by decide +kernel
theorem d_Mo_paths_57 : decode b_Mo_paths 57 = .ok (.aload_n 0, 1) := by decide +kernel
theorem d_Mo_paths_58 : decode b_Mo_paths 58 = .ok (.getfield 40, 3) := by decide +kernel
theorem d_Mo_paths_61 : decode b_Mo_paths 61 = .ok (.bipush 8, 2) := by decide +kernel
theorem d_Mo_paths_63 : decode b_Mo_paths 63 = .ok (.iload 4, 2) := by decide +kernel
theorem d_Mo_paths_65 : decode b_Mo_paths 65 = .ok (.imul, 1) := by decide +kernel
theorem d_Mo_paths_66 : decode b_Mo_paths 66 = .ok (.iaload, 1) := by decide +kernel
theorem d_Mo_paths_67 : decode b_Mo_paths 67 = .ok (.iadd, 1) := by decide +kernel
theorem d_Mo_paths_68 : decode b_Mo_paths 68 = .ok (.iload_n 1, 1) := by decide +kernel
theorem d_Mo_paths_69 : decode b_Mo_paths 69 = .ok (.if_icmp .ne 21, 3) := by decide +kernel
theorem d_Mo_paths_72 : decode b_Mo_paths 72 = .ok (.lload_n 2, 1) := by decide +kernel
theorem d_Mo_paths_73 : decode b_Mo_paths 73 = .ok (.aload_n 0, 1) := by decide +kernel
theorem d_Mo_paths_74 : decode b_Mo_paths 74 = .ok (.getfield 67, 3) := by decide +kernel
theorem d_Mo_paths_77 : decode b_Mo_paths 77 = .ok (.bipush 8, 2) := by decide +kernel
theorem d_Mo_paths_79 : decode b_Mo_paths 79 = .ok (.aload_n 0, 1) := by decide +kernel
theorem d_Mo_paths_80 : decode b_Mo_paths 80 = .ok (.getfield 129, 3) := by decide +kernel
theorem d_Mo_paths_83 : decode b_Mo_paths 83 = .ok (.imul, 1) := by decide +kernel
theorem d_Mo_paths_84 : decode b_Mo_paths 84 = .ok (.iload 4, 2) := by decide +kernel
theorem d_Mo_paths_86 : decode b_Mo_paths 86 = .ok (.iadd, 1) := by decide +kernel
theorem d_Mo_paths_87 : decode b_Mo_paths 87 = .ok (.laload, 1) := by decide +kernel
theorem d_Mo_paths_88 : decode b_Mo_paths 88 = .ok (.ladd, 1) := by decide +kernel
theorem d_Mo_paths_89 : decode b_Mo_paths 89 = .ok (.lstore_n 2, 1) := by decide +kernel
theorem d_Mo_paths_90 : decode b_Mo_paths 90 = .ok (.iinc 4 1, 3) := by decide +kernel
theorem d_Mo_paths_93 : decode b_Mo_paths 93 = .ok (.goto (-78), 3) := by decide +kernel
theorem d_Mo_paths_96 : decode b_Mo_paths 96 = .ok (.lload_n 2, 1) := by decide +kernel
theorem d_Mo_paths_97 : decode b_Mo_paths 97 = .ok (.lreturn, 1) := by decide +kernel
abbrev rm_Mo_paths : Room := { frames := 4, cells := 0, slots := 0, locals := 103 }
def f_Mo_paths_90 (κ15 : Mem → Int32 → Int64 → Int32 → Option (Int64 × Mem)) (n : Nat) (μ : Mem) (x1 : Int32) (x2 : Int64) (x4 : Int32) : Option (Int64 × Mem) := bd (x4 + 1) (fun v1 => κ15 μ x1 x2 v1)
set_option maxHeartbeats 4000000 in
set_option maxRecDepth 100000 in
theorem w_Mo_paths_90 {p : Program} {l : Launch} {e : Env} {s : State} {m : MethodId} {args : Array Value} {below : List Frame} {meth : Method} {c : Code} {D : va_G} {g : Nat → ClassId} {ad : Nat → Nat} {r : Int64} {μ' : Mem} {A : Nat → Prop} {κ15 : Mem → Int32 → Int64 → Int32 → Option (Int64 × Mem)} {n : Nat} {μ : Mem} {x1 : Int32} {x2 : Int64} {x4 : Int32} {ls : Array Slot} {H : Heap} {locs : List Loc} (X : Cx p s m args meth c b_Mo_paths 5 R_Mo (some .long) D CL (TY g)) (hDA : ∀ μ : Mem, va_D A (WM g ad μ)) (hκ15 : ∀ (μ : Mem) (x1 : Int32) (x2 : Int64) (x4 : Int32) (ls : Array Slot) (H : Heap) (locs : List Loc), va_P D CL (WM g ad μ) H → va_S A s.heap H locs → lv_has ls 5 [(0, .ref (ad 0)), (1, .int x1), (2, .long x2), (4, .int x4)] → κ15 μ x1 x2 x4 = some (r, μ') → WU p l e rm_Mo_paths s m args below meth c H locs D (WM g ad μ') A (some (.long r)) (F0 m 15 ls [])) (hP : va_P D CL (WM g ad μ) H) (hS : va_S A s.heap H locs) (hl : lv_has ls 5 [(0, .ref (ad 0)), (1, .int x1), (2, .long x2), (4, .int x4)]) (hf : f_Mo_paths_90 κ15 n μ x1 x2 x4 = some (r, μ')) : WU p l e rm_Mo_paths s m args below meth c H locs D (WM g ad μ') A (some (.long r)) (F0 m 90 ls []) := by
  obtain ⟨S, hr, hlk, hK⟩ := id X
  obtain ⟨hx, hb, hml, hown, hts⟩ := id S
  rw [f_Mo_paths_90] at hf
  obtain ⟨v1, hv1, hf⟩ := bd_x hf
  refine lv_iinc (lv' := [(4, .int v1), (0, .ref (ad 0)), (1, .int x1), (2, .long x2)]) hx hb d_Mo_paths_90 hl (k := 3) rfl (show x4 + Int32.ofInt (1) = v1 from hv1) (Nat.le_of_ble_eq_true rfl) rfl (fun ls hl => ?_)
  refine lv_goto (tgt := 15) hx hb d_Mo_paths_93 rfl ?_
  exact hκ15 _ _ _ _ _ _ _ hP hS (lv_sub (l' := [(0, .ref (ad 0)), (1, .int x1), (2, .long x2), (4, .int v1)]) hl [1, 2, 3, 0] rfl) hf
def f_Mo_paths_15 : Nat → Mem → Int32 → Int64 → Int32 → Option (Int64 × Mem)
  | 0, _, _, _, _ => none
  | n + 1, μ, x1, x2, x4 => (if (8 : Int32) ≤ x4 then (some (x2, μ)) else (gd (inb (((8 : Int32) * (μ.1 0 1)) + x4) 200) ((if (μ.1 19 (((8 : Int32) * (μ.1 0 1)) + x4).toNatClampNeg) = (1073741824 : Int32) then (f_Mo_paths_90 (f_Mo_paths_15 n) n μ x1 x2 x4) else (gd (inb (((8 : Int32) * (μ.1 0 1)) + x4) 200) (gd (inb ((8 : Int32) * x4) 64) ((if ((μ.1 19 (((8 : Int32) * (μ.1 0 1)) + x4).toNatClampNeg) + (μ.1 11 ((8 : Int32) * x4).toNatClampNeg)) = x1 then (gd (inb (((8 : Int32) * (μ.1 0 1)) + x4) 200) (bd (x2 + (μ.2 20 (((8 : Int32) * (μ.1 0 1)) + x4).toNatClampNeg)) (fun v1 => f_Mo_paths_90 (f_Mo_paths_15 n) n μ x1 v1 x4))) else (f_Mo_paths_90 (f_Mo_paths_15 n) n μ x1 x2 x4)))))))))
set_option maxHeartbeats 4000000 in
set_option maxRecDepth 100000 in
theorem w_Mo_paths_15 {p : Program} {l : Launch} {e : Env} {s : State} {m : MethodId} {args : Array Value} {below : List Frame} {meth : Method} {c : Code} {D : va_G} {g : Nat → ClassId} {ad : Nat → Nat} {r : Int64} {μ' : Mem} {A : Nat → Prop} (X : Cx p s m args meth c b_Mo_paths 5 R_Mo (some .long) D CL (TY g)) (hDA : ∀ μ : Mem, va_D A (WM g ad μ)) : ∀ (n : Nat) (μ : Mem) (x1 : Int32) (x2 : Int64) (x4 : Int32) (ls : Array Slot) (H : Heap) (locs : List Loc), va_P D CL (WM g ad μ) H → va_S A s.heap H locs → lv_has ls 5 [(0, .ref (ad 0)), (1, .int x1), (2, .long x2), (4, .int x4)] → f_Mo_paths_15 n μ x1 x2 x4 = some (r, μ') → WU p l e rm_Mo_paths s m args below meth c H locs D (WM g ad μ') A (some (.long r)) (F0 m 15 ls []) := by
  intro n
  induction n with
  | zero => intro μ x1 x2 x4 ls H locs hP hS hl hf; rw [f_Mo_paths_15] at hf; cases hf
  | succ n ih =>
    intro μ x1 x2 x4 ls H locs hP hS hl hf
    obtain ⟨S, hr, hlk, hK⟩ := id X
    obtain ⟨hx, hb, hml, hown, hts⟩ := id S
    rw [f_Mo_paths_15] at hf
    refine lv_iload hx hb d_Mo_paths_15 (lv_at hl 3 rfl) ?_
    refine lv_bipush (v := 8) hx hb d_Mo_paths_17 (by decide) ?_
    refine lv_icmp_ge (tgt := 96) hx hb d_Mo_paths_19 rfl (fun hc => ?_) (fun hc => ?_)
    · replace hf := br_p hc hf
      refine lv_lload_n hx hb d_Mo_paths_96 rfl (lv_at hl 2 rfl) ?_
      obtain ⟨h1, h2⟩ := Prod.mk.inj (Option.some.inj hf)
      subst h1; subst h2
      exact W.lret hx hb hr (fun t ht _ => ⟨rfl, by rw [ht]; exact hP, hS.F ht⟩) hS.2.2 d_Mo_paths_97
    · replace hf := br_n hc hf
      refine lv_aload_n hx hb d_Mo_paths_22 rfl (lv_at hl 0 rfl) ?_
      refine mg_0_24 hx hb hts hown hK hP q_842 d_Mo_paths_23 ?_
      refine lv_bipush (v := 8) hx hb d_Mo_paths_26 (by decide) ?_
      refine lv_aload_n hx hb d_Mo_paths_28 rfl (lv_at hl 0 rfl) ?_
      refine mg_0_1 hx hb hts hown hK hP q_819 d_Mo_paths_29 ?_
      refine lv_imul hx hb d_Mo_paths_32 ?_
      refine lv_iload hx hb d_Mo_paths_33 (lv_at hl 3 rfl) ?_
      refine lv_iadd hx hb d_Mo_paths_35 ?_
      obtain ⟨hi, hf⟩ := gd_x hf
      refine ml_19 hx hb hK hP (inb_in hi) d_Mo_paths_36 ?_
      refine lv_ldc (v := 1073741824) hx hb hown (hts _ q_1036) d_Mo_paths_37 ?_
      refine lv_icmp_eq (tgt := 90) hx hb d_Mo_paths_39 rfl (fun hc => ?_) (fun hc => ?_)
      · replace hf := br_p hc hf
        exact w_Mo_paths_90 X hDA ih hP hS (lv_sub (l' := [(0, .ref (ad 0)), (1, .int x1), (2, .long x2), (4, .int x4)]) hl [0, 1, 2, 3] rfl) hf
      · replace hf := br_n hc hf
        refine lv_aload_n hx hb d_Mo_paths_42 rfl (lv_at hl 0 rfl) ?_
        refine mg_0_24 hx hb hts hown hK hP q_842 d_Mo_paths_43 ?_
        refine lv_bipush (v := 8) hx hb d_Mo_paths_46 (by decide) ?_
        refine lv_aload_n hx hb d_Mo_paths_48 rfl (lv_at hl 0 rfl) ?_
        refine mg_0_1 hx hb hts hown hK hP q_819 d_Mo_paths_49 ?_
        refine lv_imul hx hb d_Mo_paths_52 ?_
        refine lv_iload hx hb d_Mo_paths_53 (lv_at hl 3 rfl) ?_
        refine lv_iadd hx hb d_Mo_paths_55 ?_
        obtain ⟨hi, hf⟩ := gd_x hf
        refine ml_19 hx hb hK hP (inb_in hi) d_Mo_paths_56 ?_
        refine lv_aload_n hx hb d_Mo_paths_57 rfl (lv_at hl 0 rfl) ?_
        refine mg_0_12 hx hb hts hown hK hP q_830 d_Mo_paths_58 ?_
        refine lv_bipush (v := 8) hx hb d_Mo_paths_61 (by decide) ?_
        refine lv_iload hx hb d_Mo_paths_63 (lv_at hl 3 rfl) ?_
        refine lv_imul hx hb d_Mo_paths_65 ?_
        obtain ⟨hi, hf⟩ := gd_x hf
        refine ml_11 hx hb hK hP (inb_in hi) d_Mo_paths_66 ?_
        refine lv_iadd hx hb d_Mo_paths_67 ?_
        refine lv_iload_n hx hb d_Mo_paths_68 rfl (lv_at hl 1 rfl) ?_
        refine lv_icmp_ne (tgt := 90) hx hb d_Mo_paths_69 rfl (fun hc => ?_) (fun hc => ?_)
        · replace hf := br_n hc hf
          exact w_Mo_paths_90 X hDA ih hP hS (lv_sub (l' := [(0, .ref (ad 0)), (1, .int x1), (2, .long x2), (4, .int x4)]) hl [0, 1, 2, 3] rfl) hf
        · replace hf := br_p hc hf
          refine lv_lload_n hx hb d_Mo_paths_72 rfl (lv_at hl 2 rfl) ?_
          refine lv_aload_n hx hb d_Mo_paths_73 rfl (lv_at hl 0 rfl) ?_
          refine mg_0_25 hx hb hts hown hK hP q_843 d_Mo_paths_74 ?_
          refine lv_bipush (v := 8) hx hb d_Mo_paths_77 (by decide) ?_
          refine lv_aload_n hx hb d_Mo_paths_79 rfl (lv_at hl 0 rfl) ?_
          refine mg_0_1 hx hb hts hown hK hP q_819 d_Mo_paths_80 ?_
          refine lv_imul hx hb d_Mo_paths_83 ?_
          refine lv_iload hx hb d_Mo_paths_84 (lv_at hl 3 rfl) ?_
          refine lv_iadd hx hb d_Mo_paths_86 ?_
          obtain ⟨hi, hf⟩ := gd_x hf
          refine ml_20 hx hb hK hP (inb_in hi) d_Mo_paths_87 ?_
          refine lv_ladd hx hb d_Mo_paths_88 ?_
          obtain ⟨v1, hv1, hf⟩ := bd_x hf
          refine top_l hv1 ?_
          refine lv_lstore_n (lv' := [(2, .long v1), (0, .ref (ad 0)), (1, .int x1), (4, .int x4)]) hx hb d_Mo_paths_89 rfl hl (Nat.le_of_ble_eq_true rfl) rfl (fun ls hl => ?_)
          exact w_Mo_paths_90 X hDA ih hP hS (lv_sub (l' := [(0, .ref (ad 0)), (1, .int x1), (2, .long v1), (4, .int x4)]) hl [1, 2, 0, 3] rfl) hf
def f_Mo_paths (n : Nat) (μ : Mem) : Option (Int64 × Mem) := cl (f_Mo_work n μ (1 : Int32)) (fun μ2 => cl (f_Mo_total n μ2) (fun v3 => f_Mo_paths_15 n μ2 v3 (0 : Int64) (0 : Int32)))
set_option maxHeartbeats 4000000 in
set_option maxRecDepth 100000 in
theorem w_Mo_paths {p : Program} {l : Launch} {e : Env} {s : State} {m : MethodId} {args : Array Value} {below : List Frame} {meth : Method} {c : Code} {D : va_G} {g : Nat → ClassId} {ad : Nat → Nat} {r : Int64} {μ' : Mem} {A : Nat → Prop} {n : Nat} {μ : Mem} {ls : Array Slot} {H : Heap} {locs : List Loc} (X : Cx p s m args meth c b_Mo_paths 5 R_Mo (some .long) D CL (TY g)) (hDA : ∀ μ : Mem, va_D A (WM g ad μ)) (hP : va_P D CL (WM g ad μ) H) (hS : va_S A s.heap H locs) (hl : lv_has ls 5 [(0, .ref (ad 0))]) (hf : f_Mo_paths n μ = some (r, μ')) : WU p l e rm_Mo_paths s m args below meth c H locs D (WM g ad μ') A (some (.long r)) (F0 m 0 ls []) := by
  obtain ⟨S, hr, hlk, hK⟩ := id X
  obtain ⟨hx, hb, hml, hown, hts⟩ := id S
  rw [f_Mo_paths] at hf
  refine lv_aload_n hx hb d_Mo_paths_0 rfl (lv_at hl 0 rfl) ?_
  refine lv_iconst (v := 1) hx hb d_Mo_paths_1 (by decide) ?_
  obtain ⟨μ2, hv1, hf⟩ := cl_x hf
  refine wrV (As := [.int (1 : Int32)]) (rest := []) S K_Mo_work q_1016 (c_Mo_work hDA hv1) hK hP hS ⟨rfl, rfl⟩ ⟨Nat.le_of_ble_eq_true rfl, Nat.le_of_ble_eq_true rfl⟩ (mr_0 hK hP) rfl hl.1 rfl (Nat.le_of_ble_eq_true rfl) d_Mo_paths_2 ⟨Nat.le_refl _, Nat.le_refl _⟩ (fun H locs hP hS => ?_)
  refine lv_aload_n hx hb d_Mo_paths_5 rfl (lv_at hl 0 rfl) ?_
  obtain ⟨v3, hv3, hf⟩ := cl_x hf
  refine rdV (As := []) (rest := []) S K_Mo_total q_1049 (c_Mo_total hv3) hK hP ⟨rfl, rfl⟩ ⟨Nat.le_of_ble_eq_true rfl, Nat.le_of_ble_eq_true rfl⟩ (mr_0 hK hP) rfl hl.1 rfl (Nat.le_of_ble_eq_true rfl) d_Mo_paths_6 ⟨Nat.le_refl _, Nat.le_refl _⟩ ?_
  refine lv_istore_n (lv' := [(1, .int v3), (0, .ref (ad 0))]) hx hb d_Mo_paths_9 rfl hl (Nat.le_of_ble_eq_true rfl) rfl (fun ls hl => ?_)
  refine lv_lconst (v := 0) hx hb d_Mo_paths_10 (by decide) ?_
  refine lv_lstore_n (lv' := [(2, .long (0 : Int64)), (1, .int v3), (0, .ref (ad 0))]) hx hb d_Mo_paths_11 rfl hl (Nat.le_of_ble_eq_true rfl) rfl (fun ls hl => ?_)
  refine lv_iconst (v := 0) hx hb d_Mo_paths_12 (by decide) ?_
  refine lv_istore (lv' := [(4, .int (0 : Int32)), (2, .long (0 : Int64)), (1, .int v3), (0, .ref (ad 0))]) hx hb d_Mo_paths_13 hl (Nat.le_of_ble_eq_true rfl) rfl (fun ls hl => ?_)
  exact w_Mo_paths_15 X hDA _ _ _ _ _ _ _ _ hP hS (lv_sub (l' := [(0, .ref (ad 0)), (1, .int v3), (2, .long (0 : Int64)), (4, .int (0 : Int32))]) hl [3, 2, 1, 0] rfl) hf
theorem c_Mo_paths {l : Launch} {D : va_G} {g : Nat → ClassId} {ad : Nat → Nat} {μ : Mem} {r : Int64} {μ' : Mem} {A : Nat → Prop} {n : Nat} (hDA : ∀ μ : Mem, va_D A (WM g ad μ)) (hf : f_Mo_paths n μ = some (r, μ')) : Met l y_Mo_paths (Cond.code y_Mo_paths b_Mo_paths 5 (some .long) :: ww) rm_Mo_paths (RP D CL (TY g) (WM g ad μ) [.ref (ad 0)]) (QW D CL (WM g ad μ') A (some (.long r))) 0 0 A := by
  refine met_of (by decide) (Nat.le_of_ble_eq_true rfl) ?_
  intro p e s m below meth c ls X hP hl
  have hl : lv_has ls 5 [(0, .ref (ad 0))] := hl
  exact w_Mo_paths X hDA hP va_S.rf hl hf
theorem d_Mo_nodes_0 : decode b_Mo_nodes 0 = .ok (.aload_n 0, 1) := by decide +kernel
theorem d_Mo_nodes_1 : decode b_Mo_nodes 1 = .ok (.iconst 1, 1) := by decide +kernel
theorem d_Mo_nodes_2 : decode b_Mo_nodes 2 = .ok (.invokevirtual 202, 3) := by decide +kernel
theorem d_Mo_nodes_5 : decode b_Mo_nodes 5 = .ok (.aload_n 0, 1) := by decide +kernel
theorem d_Mo_nodes_6 : decode b_Mo_nodes 6 = .ok (.getfield 159, 3) := by decide +kernel
theorem d_Mo_nodes_9 : decode b_Mo_nodes 9 = .ok (.ireturn, 1) := by decide +kernel
abbrev rm_Mo_nodes : Room := { frames := 4, cells := 0, slots := 0, locals := 103 }
def f_Mo_nodes (n : Nat) (μ : Mem) : Option (Int32 × Mem) := cl (f_Mo_work n μ (1 : Int32)) (fun μ2 => some (μ2.1 0 23, μ2))
set_option maxHeartbeats 4000000 in
set_option maxRecDepth 100000 in
theorem w_Mo_nodes {p : Program} {l : Launch} {e : Env} {s : State} {m : MethodId} {args : Array Value} {below : List Frame} {meth : Method} {c : Code} {D : va_G} {g : Nat → ClassId} {ad : Nat → Nat} {r : Int32} {μ' : Mem} {A : Nat → Prop} {n : Nat} {μ : Mem} {ls : Array Slot} {H : Heap} {locs : List Loc} (X : Cx p s m args meth c b_Mo_nodes 1 R_Mo (some .int) D CL (TY g)) (hDA : ∀ μ : Mem, va_D A (WM g ad μ)) (hP : va_P D CL (WM g ad μ) H) (hS : va_S A s.heap H locs) (hl : lv_has ls 1 [(0, .ref (ad 0))]) (hf : f_Mo_nodes n μ = some (r, μ')) : WU p l e rm_Mo_nodes s m args below meth c H locs D (WM g ad μ') A (some (.int r)) (F0 m 0 ls []) := by
  obtain ⟨S, hr, hlk, hK⟩ := id X
  obtain ⟨hx, hb, hml, hown, hts⟩ := id S
  rw [f_Mo_nodes] at hf
  refine lv_aload_n hx hb d_Mo_nodes_0 rfl (lv_at hl 0 rfl) ?_
  refine lv_iconst (v := 1) hx hb d_Mo_nodes_1 (by decide) ?_
  obtain ⟨μ2, hv1, hf⟩ := cl_x hf
  refine wrV (As := [.int (1 : Int32)]) (rest := []) S K_Mo_work q_1016 (c_Mo_work hDA hv1) hK hP hS ⟨rfl, rfl⟩ ⟨Nat.le_of_ble_eq_true rfl, Nat.le_of_ble_eq_true rfl⟩ (mr_0 hK hP) rfl hl.1 rfl (Nat.le_of_ble_eq_true rfl) d_Mo_nodes_2 ⟨Nat.le_refl _, Nat.le_refl _⟩ (fun H locs hP hS => ?_)
  refine lv_aload_n hx hb d_Mo_nodes_5 rfl (lv_at hl 0 rfl) ?_
  refine mg_0_23 hx hb hts hown hK hP q_841 d_Mo_nodes_6 ?_
  obtain ⟨h1, h2⟩ := Prod.mk.inj (Option.some.inj hf)
  subst h1; subst h2
  exact W.iret hx hb hr (fun t ht _ => ⟨rfl, by rw [ht]; exact hP, hS.F ht⟩) hS.2.2 d_Mo_nodes_9
theorem c_Mo_nodes {l : Launch} {D : va_G} {g : Nat → ClassId} {ad : Nat → Nat} {μ : Mem} {r : Int32} {μ' : Mem} {A : Nat → Prop} {n : Nat} (hDA : ∀ μ : Mem, va_D A (WM g ad μ)) (hf : f_Mo_nodes n μ = some (r, μ')) : Met l y_Mo_nodes (Cond.code y_Mo_nodes b_Mo_nodes 1 (some .int) :: ww) rm_Mo_nodes (RP D CL (TY g) (WM g ad μ) [.ref (ad 0)]) (QW D CL (WM g ad μ') A (some (.int r))) 0 0 A := by
  refine met_of (by decide) (Nat.le_of_ble_eq_true rfl) ?_
  intro p e s m below meth c ls X hP hl
  have hl : lv_has ls 1 [(0, .ref (ad 0))] := hl
  exact w_Mo_nodes X hDA hP va_S.rf hl hf
theorem d_Mo_tokens_0 : decode b_Mo_tokens 0 = .ok (.aload_n 0, 1) := by decide +kernel
theorem d_Mo_tokens_1 : decode b_Mo_tokens 1 = .ok (.invokevirtual 230, 3) := by decide +kernel
theorem d_Mo_tokens_4 : decode b_Mo_tokens 4 = .ok (.aload_n 0, 1) := by decide +kernel
theorem d_Mo_tokens_5 : decode b_Mo_tokens 5 = .ok (.getfield 212, 3) := by decide +kernel
theorem d_Mo_tokens_8 : decode b_Mo_tokens 8 = .ok (.ireturn, 1) := by decide +kernel
abbrev rm_Mo_tokens : Room := { frames := 6, cells := 0, slots := 0, locals := 148 }
def f_Mo_tokens (n : Nat) (μ : Mem) : Option (Int32 × Mem) := cl (f_Mo_cut n μ) (fun μ2 => some (μ2.1 0 37, μ2))
set_option maxHeartbeats 4000000 in
set_option maxRecDepth 100000 in
theorem w_Mo_tokens {p : Program} {l : Launch} {e : Env} {s : State} {m : MethodId} {args : Array Value} {below : List Frame} {meth : Method} {c : Code} {D : va_G} {g : Nat → ClassId} {ad : Nat → Nat} {r : Int32} {μ' : Mem} {A : Nat → Prop} {n : Nat} {μ : Mem} {ls : Array Slot} {H : Heap} {locs : List Loc} (X : Cx p s m args meth c b_Mo_tokens 1 R_Mo (some .int) D CL (TY g)) (hDA : ∀ μ : Mem, va_D A (WM g ad μ)) (hP : va_P D CL (WM g ad μ) H) (hS : va_S A s.heap H locs) (hl : lv_has ls 1 [(0, .ref (ad 0))]) (hf : f_Mo_tokens n μ = some (r, μ')) : WU p l e rm_Mo_tokens s m args below meth c H locs D (WM g ad μ') A (some (.int r)) (F0 m 0 ls []) := by
  obtain ⟨S, hr, hlk, hK⟩ := id X
  obtain ⟨hx, hb, hml, hown, hts⟩ := id S
  rw [f_Mo_tokens] at hf
  refine lv_aload_n hx hb d_Mo_tokens_0 rfl (lv_at hl 0 rfl) ?_
  obtain ⟨μ2, hv1, hf⟩ := cl_x hf
  refine wrV (As := []) (rest := []) S K_Mo_cut q_1073 (c_Mo_cut hDA hv1) hK hP hS ⟨rfl, rfl⟩ ⟨Nat.le_of_ble_eq_true rfl, Nat.le_of_ble_eq_true rfl⟩ (mr_0 hK hP) rfl hl.1 rfl (Nat.le_of_ble_eq_true rfl) d_Mo_tokens_1 ⟨Nat.le_refl _, Nat.le_refl _⟩ (fun H locs hP hS => ?_)
  refine lv_aload_n hx hb d_Mo_tokens_4 rfl (lv_at hl 0 rfl) ?_
  refine mg_0_37 hx hb hts hown hK hP q_855 d_Mo_tokens_5 ?_
  obtain ⟨h1, h2⟩ := Prod.mk.inj (Option.some.inj hf)
  subst h1; subst h2
  exact W.iret hx hb hr (fun t ht _ => ⟨rfl, by rw [ht]; exact hP, hS.F ht⟩) hS.2.2 d_Mo_tokens_8
theorem c_Mo_tokens {l : Launch} {D : va_G} {g : Nat → ClassId} {ad : Nat → Nat} {μ : Mem} {r : Int32} {μ' : Mem} {A : Nat → Prop} {n : Nat} (hDA : ∀ μ : Mem, va_D A (WM g ad μ)) (hf : f_Mo_tokens n μ = some (r, μ')) : Met l y_Mo_tokens (Cond.code y_Mo_tokens b_Mo_tokens 1 (some .int) :: ww) rm_Mo_tokens (RP D CL (TY g) (WM g ad μ) [.ref (ad 0)]) (QW D CL (WM g ad μ') A (some (.int r))) 0 0 A := by
  refine met_of (by decide) (Nat.le_of_ble_eq_true rfl) ?_
  intro p e s m below meth c ls X hP hl
  have hl : lv_has ls 1 [(0, .ref (ad 0))] := hl
  exact w_Mo_tokens X hDA hP va_S.rf hl hf
theorem d_Mo_token_0 : decode b_Mo_token 0 = .ok (.aload_n 0, 1) := by decide +kernel
theorem d_Mo_token_1 : decode b_Mo_token 1 = .ok (.invokevirtual 230, 3) := by decide +kernel
theorem d_Mo_token_4 : decode b_Mo_token 4 = .ok (.iload_n 1, 1) := by decide +kernel
theorem d_Mo_token_5 : decode b_Mo_token 5 = .ok (.iconst 0, 1) := by decide +kernel
theorem d_Mo_token_6 : decode b_Mo_token 6 = .ok (.aload_n 0, 1) := by decide +kernel
theorem d_Mo_token_7 : decode b_Mo_token 7 = .ok (.getfield 212, 3) := by decide +kernel
theorem d_Mo_token_10 : decode b_Mo_token 10 = .ok (.iconst 1, 1) := by decide +kernel
theorem d_Mo_token_11 : decode b_Mo_token 11 = .ok (.isub, 1) := by decide +kernel
theorem d_Mo_token_12 : decode b_Mo_token 12 = .ok (.invokestatic 142, 3) := by decide +kernel
theorem d_Mo_token_15 : decode b_Mo_token 15 = .ok (.ifCond .ne 5, 3) := by decide +kernel
theorem d_Mo_token_18 : decode b_Mo_token 18 = .ok (.iconst (-1), 1) := by decide +kernel
theorem d_Mo_token_19 : decode b_Mo_token 19 = .ok (.ireturn, 1) := by decide +kernel
theorem d_Mo_token_20 : decode b_Mo_token 20 = .ok (.aload_n 0, 1) := by decide +kernel
theorem d_Mo_token_21 : decode b_Mo_token 21 = .ok (.iload_n 1, 1) := by decide +kernel
theorem d_Mo_token_22 : decode b_Mo_token 22 = .ok (.invokevirtual 233, 3) := by decide +kernel
theorem d_Mo_token_25 : decode b_Mo_token 25 = .ok (.istore_n 3, 1) := by decide +kernel
theorem d_Mo_token_26 : decode b_Mo_token 26 = .ok (.iload_n 2, 1) := by decide +kernel
theorem d_Mo_token_27 : decode b_Mo_token 27 = .ok (.tableswitch 107 0 4 #[33, 40, 47, 54, 92], 33) := by decide +kernel
theorem d_Mo_token_60 : decode b_Mo_token 60 = .ok (.aload_n 0, 1) := by decide +kernel
theorem d_Mo_token_61 : decode b_Mo_token 61 = .ok (.getfield 86, 3) := by decide +kernel
theorem d_Mo_token_64 : decode b_Mo_token 64 = .ok (.iload_n 1, 1) := by decide +kernel
theorem d_Mo_token_65 : decode b_Mo_token 65 = .ok (.iaload, 1) := by decide +kernel
theorem d_Mo_token_66 : decode b_Mo_token 66 = .ok (.ireturn, 1) := by decide +kernel
theorem d_Mo_token_67 : decode b_Mo_token 67 = .ok (.aload_n 0, 1) := by decide +kernel
theorem d_Mo_token_68 : decode b_Mo_token 68 = .ok (.getfield 89, 3) := by decide +kernel
theorem d_Mo_token_71 : decode b_Mo_token 71 = .ok (.iload_n 1, 1) := by decide +kernel
theorem d_Mo_token_72 : decode b_Mo_token 72 = .ok (.iaload, 1) := by decide +kernel
theorem d_Mo_token_73 : decode b_Mo_token 73 = .ok (.ireturn, 1) := by decide +kernel
theorem d_Mo_token_74 : decode b_Mo_token 74 = .ok (.aload_n 0, 1) := by decide +kernel
theorem d_Mo_token_75 : decode b_Mo_token 75 = .ok (.getfield 92, 3) := by decide +kernel
theorem d_Mo_token_78 : decode b_Mo_token 78 = .ok (.iload_n 1, 1) := by decide +kernel
theorem d_Mo_token_79 : decode b_Mo_token 79 = .ok (.iaload, 1) := by decide +kernel
theorem d_Mo_token_80 : decode b_Mo_token 80 = .ok (.ireturn, 1) := by decide +kernel
theorem d_Mo_token_81 : decode b_Mo_token 81 = .ok (.aload_n 0, 1) := by decide +kernel
theorem d_Mo_token_82 : decode b_Mo_token 82 = .ok (.getfield 95, 3) := by decide +kernel
theorem d_Mo_token_85 : decode b_Mo_token 85 = .ok (.iload_n 1, 1) := by decide +kernel
theorem d_Mo_token_86 : decode b_Mo_token 86 = .ok (.iaload, 1) := by decide +kernel
theorem d_Mo_token_87 : decode b_Mo_token 87 = .ok (.bipush 40, 2) := by decide +kernel
theorem d_Mo_token_89 : decode b_Mo_token 89 = .ok (.if_icmp .ne 23, 3) := by decide +kernel
theorem d_Mo_token_92 : decode b_Mo_token 92 = .ok (.bipush 100, 2) := by decide +kernel
theorem d_Mo_token_94 : decode b_Mo_token 94 = .ok (.aload_n 0, 1) := by decide +kernel
theorem d_Mo_token_95 : decode b_Mo_token 95 = .ok (.getfield 7, 3) := by decide +kernel
theorem d_Mo_token_98 : decode b_Mo_token 98 = .ok (.aload_n 0, 1) := by decide +kernel
theorem d_Mo_token_99 : decode b_Mo_token 99 = .ok (.getfield 86, 3) := by decide +kernel
theorem d_Mo_token_102 : decode b_Mo_token 102 = .ok (.iload_n 1, 1) := by decide +kernel
theorem d_Mo_token_103 : decode b_Mo_token 103 = .ok (.iaload, 1) := by decide +kernel
theorem d_Mo_token_104 : decode b_Mo_token 104 = .ok (.iaload, 1) := by decide +kernel
theorem d_Mo_token_105 : decode b_Mo_token 105 = .ok (.bipush 64, 2) := by decide +kernel
theorem d_Mo_token_107 : decode b_Mo_token 107 = .ok (.idiv, 1) := by decide +kernel
theorem d_Mo_token_108 : decode b_Mo_token 108 = .ok (.iadd, 1) := by decide +kernel
theorem d_Mo_token_109 : decode b_Mo_token 109 = .ok (.goto 9, 3) := by decide +kernel
theorem d_Mo_token_112 : decode b_Mo_token 112 = .ok (.aload_n 0, 1) := by decide +kernel
theorem d_Mo_token_113 : decode b_Mo_token 113 = .ok (.getfield 95, 3) := by decide +kernel
theorem d_Mo_token_116 : decode b_Mo_token 116 = .ok (.iload_n 1, 1) := by decide +kernel
theorem d_Mo_token_117 : decode b_Mo_token 117 = .ok (.iaload, 1) := by decide +kernel
theorem d_Mo_token_118 : decode b_Mo_token 118 = .ok (.ireturn, 1) := by decide +kernel
theorem d_Mo_token_119 : decode b_Mo_token 119 = .ok (.iload_n 3, 1) := by decide +kernel
theorem d_Mo_token_120 : decode b_Mo_token 120 = .ok (.ifCond .ge 7, 3) := by decide +kernel
theorem d_Mo_token_123 : decode b_Mo_token 123 = .ok (.iconst 0, 1) := by decide +kernel
theorem d_Mo_token_124 : decode b_Mo_token 124 = .ok (.goto 9, 3) := by decide +kernel
theorem d_Mo_token_127 : decode b_Mo_token 127 = .ok (.aload_n 0, 1) := by decide +kernel
theorem d_Mo_token_128 : decode b_Mo_token 128 = .ok (.getfield 77, 3) := by decide +kernel
theorem d_Mo_token_131 : decode b_Mo_token 131 = .ok (.iload_n 3, 1) := by decide +kernel
theorem d_Mo_token_132 : decode b_Mo_token 132 = .ok (.iaload, 1) := by decide +kernel
theorem d_Mo_token_133 : decode b_Mo_token 133 = .ok (.ireturn, 1) := by decide +kernel
theorem d_Mo_token_134 : decode b_Mo_token 134 = .ok (.iconst (-1), 1) := by decide +kernel
theorem d_Mo_token_135 : decode b_Mo_token 135 = .ok (.ireturn, 1) := by decide +kernel
abbrev rm_Mo_token : Room := { frames := 6, cells := 0, slots := 0, locals := 148 }
def f_Mo_token (n : Nat) (μ : Mem) (a1 : Int32) (a2 : Int32) : Option (Int32 × Mem) := cl (f_Mo_cut n μ) (fun μ2 => cl (f_Mo_in n a1 (0 : Int32) ((μ2.1 0 37) - (1 : Int32))) (fun v3 => (if (bz v3) = 0 then (some ((-1 : Int32), μ2)) else (cl (f_Mo_compound n μ2 a1) (fun v4 => (if a2 = 0 then (gd (inb a1 24) (some (μ2.1 26 a1.toNatClampNeg, μ2))) else (if a2 = 1 then (gd (inb a1 24) (some (μ2.1 27 a1.toNatClampNeg, μ2))) else (if a2 = 2 then (gd (inb a1 24) (some (μ2.1 28 a1.toNatClampNeg, μ2))) else (if a2 = 3 then (gd (inb a1 24) ((if (μ2.1 29 a1.toNatClampNeg) = (40 : Int32) then (gd (inb a1 24) (gd (inb (μ2.1 26 a1.toNatClampNeg) 24) (some ((100 : Int32) + ((μ2.1 1 (μ2.1 26 a1.toNatClampNeg).toNatClampNeg) / (64 : Int32)), μ2)))) else (gd (inb a1 24) (some (μ2.1 29 a1.toNatClampNeg, μ2)))))) else (if a2 = 4 then (if 0 ≤ v4 then (gd (inb v4 24) (some (μ2.1 23 v4.toNatClampNeg, μ2))) else (some ((0 : Int32), μ2))) else (some ((-1 : Int32), μ2))))))))))))
set_option maxHeartbeats 4000000 in
set_option maxRecDepth 100000 in
theorem w_Mo_token {p : Program} {l : Launch} {e : Env} {s : State} {m : MethodId} {args : Array Value} {below : List Frame} {meth : Method} {c : Code} {D : va_G} {g : Nat → ClassId} {ad : Nat → Nat} {r : Int32} {μ' : Mem} {A : Nat → Prop} {n : Nat} {μ : Mem} {a1 : Int32} {a2 : Int32} {ls : Array Slot} {H : Heap} {locs : List Loc} (X : Cx p s m args meth c b_Mo_token 4 R_Mo (some .int) D CL (TY g)) (hDA : ∀ μ : Mem, va_D A (WM g ad μ)) (hP : va_P D CL (WM g ad μ) H) (hS : va_S A s.heap H locs) (hl : lv_has ls 4 [(0, .ref (ad 0)), (1, .int a1), (2, .int a2)]) (hf : f_Mo_token n μ a1 a2 = some (r, μ')) : WU p l e rm_Mo_token s m args below meth c H locs D (WM g ad μ') A (some (.int r)) (F0 m 0 ls []) := by
  obtain ⟨S, hr, hlk, hK⟩ := id X
  obtain ⟨hx, hb, hml, hown, hts⟩ := id S
  rw [f_Mo_token] at hf
  refine lv_aload_n hx hb d_Mo_token_0 rfl (lv_at hl 0 rfl) ?_
  obtain ⟨μ2, hv1, hf⟩ := cl_x hf
  refine wrV (As := []) (rest := []) S K_Mo_cut q_1073 (c_Mo_cut hDA hv1) hK hP hS ⟨rfl, rfl⟩ ⟨Nat.le_of_ble_eq_true rfl, Nat.le_of_ble_eq_true rfl⟩ (mr_0 hK hP) rfl hl.1 rfl (Nat.le_of_ble_eq_true rfl) d_Mo_token_1 ⟨Nat.le_refl _, Nat.le_refl _⟩ (fun H locs hP hS => ?_)
  refine lv_iload_n hx hb d_Mo_token_4 rfl (lv_at hl 1 rfl) ?_
  refine lv_iconst (v := 0) hx hb d_Mo_token_5 (by decide) ?_
  refine lv_aload_n hx hb d_Mo_token_6 rfl (lv_at hl 0 rfl) ?_
  refine mg_0_37 hx hb hts hown hK hP q_855 d_Mo_token_7 ?_
  refine lv_iconst (v := 1) hx hb d_Mo_token_10 (by decide) ?_
  refine lv_isub hx hb d_Mo_token_11 ?_
  obtain ⟨v3, hv3, hf⟩ := cl_x hf
  refine rdS (As := [.int a1, .int (0 : Int32), .int ((μ2.1 0 37) - (1 : Int32))]) (rest := []) S K_Mo_in q_985 (c_Mo_in (w := (WM g ad μ2)) hv3) hK hP ⟨rfl, rfl⟩ ⟨Nat.le_of_ble_eq_true rfl, Nat.le_of_ble_eq_true rfl⟩ rfl hl.1 rfl (Nat.le_of_ble_eq_true rfl) d_Mo_token_12 ⟨Nat.le_refl _, Nat.le_refl _⟩ ?_
  refine lv_if_ne (tgt := 20) hx hb d_Mo_token_15 rfl (fun hc => ?_) (fun hc => ?_)
  · replace hf := br_n hc hf
    refine lv_aload_n hx hb d_Mo_token_20 rfl (lv_at hl 0 rfl) ?_
    refine lv_iload_n hx hb d_Mo_token_21 rfl (lv_at hl 1 rfl) ?_
    obtain ⟨v4, hv4, hf⟩ := cl_x hf
    refine rdV (As := [.int a1]) (rest := []) S K_Mo_compound q_1085 (c_Mo_compound hv4) hK hP ⟨rfl, rfl⟩ ⟨Nat.le_of_ble_eq_true rfl, Nat.le_of_ble_eq_true rfl⟩ (mr_0 hK hP) rfl hl.1 rfl (Nat.le_of_ble_eq_true rfl) d_Mo_token_22 ⟨Nat.le_refl _, Nat.le_refl _⟩ ?_
    refine lv_istore_n (lv' := [(3, .int v4), (0, .ref (ad 0)), (1, .int a1), (2, .int a2)]) hx hb d_Mo_token_25 rfl hl (Nat.le_of_ble_eq_true rfl) rfl (fun ls hl => ?_)
    refine lv_iload_n hx hb d_Mo_token_26 rfl (lv_at hl 3 rfl) ?_
    by_cases hc0 : a2 = 0
    · replace hf := br_p hc0 hf
      refine lv_tableIn (tgt := 60) hx hb d_Mo_token_27 (by rw [hc0]; decide) (by rw [hc0]; decide) (by rw [hc0]; rfl) rfl ?_
      refine lv_aload_n hx hb d_Mo_token_60 rfl (lv_at hl 1 rfl) ?_
      refine mg_0_33 hx hb hts hown hK hP q_851 d_Mo_token_61 ?_
      refine lv_iload_n hx hb d_Mo_token_64 rfl (lv_at hl 2 rfl) ?_
      obtain ⟨hi, hf⟩ := gd_x hf
      refine ml_26 hx hb hK hP (inb_in hi) d_Mo_token_65 ?_
      obtain ⟨h1, h2⟩ := Prod.mk.inj (Option.some.inj hf)
      subst h1; subst h2
      exact W.iret hx hb hr (fun t ht _ => ⟨rfl, by rw [ht]; exact hP, hS.F ht⟩) hS.2.2 d_Mo_token_66
    replace hf := br_n hc0 hf
    by_cases hc1 : a2 = 1
    · replace hf := br_p hc1 hf
      refine lv_tableIn (tgt := 67) hx hb d_Mo_token_27 (by rw [hc1]; decide) (by rw [hc1]; decide) (by rw [hc1]; rfl) rfl ?_
      refine lv_aload_n hx hb d_Mo_token_67 rfl (lv_at hl 1 rfl) ?_
      refine mg_0_34 hx hb hts hown hK hP q_852 d_Mo_token_68 ?_
      refine lv_iload_n hx hb d_Mo_token_71 rfl (lv_at hl 2 rfl) ?_
      obtain ⟨hi, hf⟩ := gd_x hf
      refine ml_27 hx hb hK hP (inb_in hi) d_Mo_token_72 ?_
      obtain ⟨h1, h2⟩ := Prod.mk.inj (Option.some.inj hf)
      subst h1; subst h2
      exact W.iret hx hb hr (fun t ht _ => ⟨rfl, by rw [ht]; exact hP, hS.F ht⟩) hS.2.2 d_Mo_token_73
    replace hf := br_n hc1 hf
    by_cases hc2 : a2 = 2
    · replace hf := br_p hc2 hf
      refine lv_tableIn (tgt := 74) hx hb d_Mo_token_27 (by rw [hc2]; decide) (by rw [hc2]; decide) (by rw [hc2]; rfl) rfl ?_
      refine lv_aload_n hx hb d_Mo_token_74 rfl (lv_at hl 1 rfl) ?_
      refine mg_0_35 hx hb hts hown hK hP q_853 d_Mo_token_75 ?_
      refine lv_iload_n hx hb d_Mo_token_78 rfl (lv_at hl 2 rfl) ?_
      obtain ⟨hi, hf⟩ := gd_x hf
      refine ml_28 hx hb hK hP (inb_in hi) d_Mo_token_79 ?_
      obtain ⟨h1, h2⟩ := Prod.mk.inj (Option.some.inj hf)
      subst h1; subst h2
      exact W.iret hx hb hr (fun t ht _ => ⟨rfl, by rw [ht]; exact hP, hS.F ht⟩) hS.2.2 d_Mo_token_80
    replace hf := br_n hc2 hf
    by_cases hc3 : a2 = 3
    · replace hf := br_p hc3 hf
      refine lv_tableIn (tgt := 81) hx hb d_Mo_token_27 (by rw [hc3]; decide) (by rw [hc3]; decide) (by rw [hc3]; rfl) rfl ?_
      refine lv_aload_n hx hb d_Mo_token_81 rfl (lv_at hl 1 rfl) ?_
      refine mg_0_36 hx hb hts hown hK hP q_854 d_Mo_token_82 ?_
      refine lv_iload_n hx hb d_Mo_token_85 rfl (lv_at hl 2 rfl) ?_
      obtain ⟨hi, hf⟩ := gd_x hf
      refine ml_29 hx hb hK hP (inb_in hi) d_Mo_token_86 ?_
      refine lv_bipush (v := 40) hx hb d_Mo_token_87 (by decide) ?_
      refine lv_icmp_ne (tgt := 112) hx hb d_Mo_token_89 rfl (fun hc => ?_) (fun hc => ?_)
      · replace hf := br_n hc hf
        refine lv_aload_n hx hb d_Mo_token_112 rfl (lv_at hl 1 rfl) ?_
        refine mg_0_36 hx hb hts hown hK hP q_854 d_Mo_token_113 ?_
        refine lv_iload_n hx hb d_Mo_token_116 rfl (lv_at hl 2 rfl) ?_
        obtain ⟨hi, hf⟩ := gd_x hf
        refine ml_29 hx hb hK hP (inb_in hi) d_Mo_token_117 ?_
        obtain ⟨h1, h2⟩ := Prod.mk.inj (Option.some.inj hf)
        subst h1; subst h2
        exact W.iret hx hb hr (fun t ht _ => ⟨rfl, by rw [ht]; exact hP, hS.F ht⟩) hS.2.2 d_Mo_token_118
      · replace hf := br_p hc hf
        refine lv_bipush (v := 100) hx hb d_Mo_token_92 (by decide) ?_
        refine lv_aload_n hx hb d_Mo_token_94 rfl (lv_at hl 1 rfl) ?_
        refine mg_0_0 hx hb hts hown hK hP q_818 d_Mo_token_95 ?_
        refine lv_aload_n hx hb d_Mo_token_98 rfl (lv_at hl 1 rfl) ?_
        refine mg_0_33 hx hb hts hown hK hP q_851 d_Mo_token_99 ?_
        refine lv_iload_n hx hb d_Mo_token_102 rfl (lv_at hl 2 rfl) ?_
        obtain ⟨hi, hf⟩ := gd_x hf
        refine ml_26 hx hb hK hP (inb_in hi) d_Mo_token_103 ?_
        obtain ⟨hi, hf⟩ := gd_x hf
        refine ml_1 hx hb hK hP (inb_in hi) d_Mo_token_104 ?_
        refine lv_bipush (v := 64) hx hb d_Mo_token_105 (by decide) ?_
        refine lv_idiv hx hb d_Mo_token_107 (by decide) ?_
        refine lv_iadd hx hb d_Mo_token_108 ?_
        refine lv_goto (tgt := 118) hx hb d_Mo_token_109 rfl ?_
        obtain ⟨h1, h2⟩ := Prod.mk.inj (Option.some.inj hf)
        subst h1; subst h2
        exact W.iret hx hb hr (fun t ht _ => ⟨rfl, by rw [ht]; exact hP, hS.F ht⟩) hS.2.2 d_Mo_token_118
    replace hf := br_n hc3 hf
    by_cases hc4 : a2 = 4
    · replace hf := br_p hc4 hf
      refine lv_tableIn (tgt := 119) hx hb d_Mo_token_27 (by rw [hc4]; decide) (by rw [hc4]; decide) (by rw [hc4]; rfl) rfl ?_
      refine lv_iload_n hx hb d_Mo_token_119 rfl (lv_at hl 0 rfl) ?_
      refine lv_if_ge (tgt := 127) hx hb d_Mo_token_120 rfl (fun hc => ?_) (fun hc => ?_)
      · replace hf := br_p hc hf
        refine lv_aload_n hx hb d_Mo_token_127 rfl (lv_at hl 1 rfl) ?_
        refine mg_0_29 hx hb hts hown hK hP q_847 d_Mo_token_128 ?_
        refine lv_iload_n hx hb d_Mo_token_131 rfl (lv_at hl 0 rfl) ?_
        obtain ⟨hi, hf⟩ := gd_x hf
        refine ml_23 hx hb hK hP (inb_in hi) d_Mo_token_132 ?_
        obtain ⟨h1, h2⟩ := Prod.mk.inj (Option.some.inj hf)
        subst h1; subst h2
        exact W.iret hx hb hr (fun t ht _ => ⟨rfl, by rw [ht]; exact hP, hS.F ht⟩) hS.2.2 d_Mo_token_133
      · replace hf := br_n hc hf
        refine lv_iconst (v := 0) hx hb d_Mo_token_123 (by decide) ?_
        refine lv_goto (tgt := 133) hx hb d_Mo_token_124 rfl ?_
        obtain ⟨h1, h2⟩ := Prod.mk.inj (Option.some.inj hf)
        subst h1; subst h2
        exact W.iret hx hb hr (fun t ht _ => ⟨rfl, by rw [ht]; exact hP, hS.F ht⟩) hS.2.2 d_Mo_token_133
    replace hf := br_n hc4 hf
    have hz0 : ¬ (a2).toInt = 0 := lv_neT hc0 (by decide)
    have hz1 : ¬ (a2).toInt = 1 := lv_neT hc1 (by decide)
    have hz2 : ¬ (a2).toInt = 2 := lv_neT hc2 (by decide)
    have hz3 : ¬ (a2).toInt = 3 := lv_neT hc3 (by decide)
    have hz4 : ¬ (a2).toInt = 4 := lv_neT hc4 (by decide)
    refine lv_tableOut (tgt := 134) hx hb d_Mo_token_27 (by omega) rfl ?_
    refine lv_iconst (v := -1) hx hb d_Mo_token_134 (by decide) ?_
    obtain ⟨h1, h2⟩ := Prod.mk.inj (Option.some.inj hf)
    subst h1; subst h2
    exact W.iret hx hb hr (fun t ht _ => ⟨rfl, by rw [ht]; exact hP, hS.F ht⟩) hS.2.2 d_Mo_token_135
  · replace hf := br_p hc hf
    refine lv_iconst (v := -1) hx hb d_Mo_token_18 (by decide) ?_
    obtain ⟨h1, h2⟩ := Prod.mk.inj (Option.some.inj hf)
    subst h1; subst h2
    exact W.iret hx hb hr (fun t ht _ => ⟨rfl, by rw [ht]; exact hP, hS.F ht⟩) hS.2.2 d_Mo_token_19
theorem c_Mo_token {l : Launch} {D : va_G} {g : Nat → ClassId} {ad : Nat → Nat} {μ : Mem} {r : Int32} {μ' : Mem} {A : Nat → Prop} {n : Nat} {a1 : Int32} {a2 : Int32} (hDA : ∀ μ : Mem, va_D A (WM g ad μ)) (hf : f_Mo_token n μ a1 a2 = some (r, μ')) : Met l y_Mo_token (Cond.code y_Mo_token b_Mo_token 4 (some .int) :: ww) rm_Mo_token (RP D CL (TY g) (WM g ad μ) [.ref (ad 0), .int a1, .int a2]) (QW D CL (WM g ad μ') A (some (.int r))) 0 0 A := by
  refine met_of (by decide) (Nat.le_of_ble_eq_true rfl) ?_
  intro p e s m below meth c ls X hP hl
  have hl : lv_has ls 4 [(0, .ref (ad 0)), (1, .int a1), (2, .int a2)] := hl
  exact w_Mo_token X hDA hP va_S.rf hl hf
theorem d_Mo_term_0 : decode b_Mo_term 0 = .ok (.aload_n 0, 1) := by decide +kernel
theorem d_Mo_term_1 : decode b_Mo_term 1 = .ok (.invokevirtual 230, 3) := by decide +kernel
theorem d_Mo_term_4 : decode b_Mo_term 4 = .ok (.iload_n 1, 1) := by decide +kernel
theorem d_Mo_term_5 : decode b_Mo_term 5 = .ok (.iconst 0, 1) := by decide +kernel
theorem d_Mo_term_6 : decode b_Mo_term 6 = .ok (.aload_n 0, 1) := by decide +kernel
theorem d_Mo_term_7 : decode b_Mo_term 7 = .ok (.getfield 212, 3) := by decide +kernel
theorem d_Mo_term_10 : decode b_Mo_term 10 = .ok (.iconst 1, 1) := by decide +kernel
theorem d_Mo_term_11 : decode b_Mo_term 11 = .ok (.isub, 1) := by decide +kernel
theorem d_Mo_term_12 : decode b_Mo_term 12 = .ok (.invokestatic 142, 3) := by decide +kernel
theorem d_Mo_term_15 : decode b_Mo_term 15 = .ok (.ifCond .eq 11, 3) := by decide +kernel
theorem d_Mo_term_18 : decode b_Mo_term 18 = .ok (.aload_n 0, 1) := by decide +kernel
theorem d_Mo_term_19 : decode b_Mo_term 19 = .ok (.iload_n 1, 1) := by decide +kernel
theorem d_Mo_term_20 : decode b_Mo_term 20 = .ok (.invokevirtual 236, 3) := by decide +kernel
theorem d_Mo_term_23 : decode b_Mo_term 23 = .ok (.goto 4, 3) := by decide +kernel
theorem d_Mo_term_26 : decode b_Mo_term 26 = .ok (.lconst 0, 1) := by decide +kernel
theorem d_Mo_term_27 : decode b_Mo_term 27 = .ok (.lreturn, 1) := by decide +kernel
abbrev rm_Mo_term : Room := { frames := 6, cells := 0, slots := 0, locals := 148 }
def f_Mo_term (n : Nat) (μ : Mem) (a1 : Int32) : Option (Int64 × Mem) := cl (f_Mo_cut n μ) (fun μ2 => cl (f_Mo_in n a1 (0 : Int32) ((μ2.1 0 37) - (1 : Int32))) (fun v3 => (if (bz v3) = 0 then (some ((0 : Int64), μ2)) else (cl2 (f_Mo_termOf n μ2 a1) (fun v4 μ5 => some (v4, μ5))))))
set_option maxHeartbeats 4000000 in
set_option maxRecDepth 100000 in
theorem w_Mo_term {p : Program} {l : Launch} {e : Env} {s : State} {m : MethodId} {args : Array Value} {below : List Frame} {meth : Method} {c : Code} {D : va_G} {g : Nat → ClassId} {ad : Nat → Nat} {r : Int64} {μ' : Mem} {A : Nat → Prop} {n : Nat} {μ : Mem} {a1 : Int32} {ls : Array Slot} {H : Heap} {locs : List Loc} (X : Cx p s m args meth c b_Mo_term 2 R_Mo (some .long) D CL (TY g)) (hDA : ∀ μ : Mem, va_D A (WM g ad μ)) (hP : va_P D CL (WM g ad μ) H) (hS : va_S A s.heap H locs) (hl : lv_has ls 2 [(0, .ref (ad 0)), (1, .int a1)]) (hf : f_Mo_term n μ a1 = some (r, μ')) : WU p l e rm_Mo_term s m args below meth c H locs D (WM g ad μ') A (some (.long r)) (F0 m 0 ls []) := by
  obtain ⟨S, hr, hlk, hK⟩ := id X
  obtain ⟨hx, hb, hml, hown, hts⟩ := id S
  rw [f_Mo_term] at hf
  refine lv_aload_n hx hb d_Mo_term_0 rfl (lv_at hl 0 rfl) ?_
  obtain ⟨μ2, hv1, hf⟩ := cl_x hf
  refine wrV (As := []) (rest := []) S K_Mo_cut q_1073 (c_Mo_cut hDA hv1) hK hP hS ⟨rfl, rfl⟩ ⟨Nat.le_of_ble_eq_true rfl, Nat.le_of_ble_eq_true rfl⟩ (mr_0 hK hP) rfl hl.1 rfl (Nat.le_of_ble_eq_true rfl) d_Mo_term_1 ⟨Nat.le_refl _, Nat.le_refl _⟩ (fun H locs hP hS => ?_)
  refine lv_iload_n hx hb d_Mo_term_4 rfl (lv_at hl 1 rfl) ?_
  refine lv_iconst (v := 0) hx hb d_Mo_term_5 (by decide) ?_
  refine lv_aload_n hx hb d_Mo_term_6 rfl (lv_at hl 0 rfl) ?_
  refine mg_0_37 hx hb hts hown hK hP q_855 d_Mo_term_7 ?_
  refine lv_iconst (v := 1) hx hb d_Mo_term_10 (by decide) ?_
  refine lv_isub hx hb d_Mo_term_11 ?_
  obtain ⟨v3, hv3, hf⟩ := cl_x hf
  refine rdS (As := [.int a1, .int (0 : Int32), .int ((μ2.1 0 37) - (1 : Int32))]) (rest := []) S K_Mo_in q_985 (c_Mo_in (w := (WM g ad μ2)) hv3) hK hP ⟨rfl, rfl⟩ ⟨Nat.le_of_ble_eq_true rfl, Nat.le_of_ble_eq_true rfl⟩ rfl hl.1 rfl (Nat.le_of_ble_eq_true rfl) d_Mo_term_12 ⟨Nat.le_refl _, Nat.le_refl _⟩ ?_
  refine lv_if_eq (tgt := 26) hx hb d_Mo_term_15 rfl (fun hc => ?_) (fun hc => ?_)
  · replace hf := br_p hc hf
    refine lv_lconst (v := 0) hx hb d_Mo_term_26 (by decide) ?_
    obtain ⟨h1, h2⟩ := Prod.mk.inj (Option.some.inj hf)
    subst h1; subst h2
    exact W.lret hx hb hr (fun t ht _ => ⟨rfl, by rw [ht]; exact hP, hS.F ht⟩) hS.2.2 d_Mo_term_27
  · replace hf := br_n hc hf
    refine lv_aload_n hx hb d_Mo_term_18 rfl (lv_at hl 0 rfl) ?_
    refine lv_iload_n hx hb d_Mo_term_19 rfl (lv_at hl 1 rfl) ?_
    obtain ⟨v4, μ5, hv4, hf⟩ := cl2_x hf
    refine wrV (As := [.int a1]) (rest := []) S K_Mo_termOf q_1093 (c_Mo_termOf hDA hv4) hK hP hS ⟨rfl, rfl⟩ ⟨Nat.le_of_ble_eq_true rfl, Nat.le_of_ble_eq_true rfl⟩ (mr_0 hK hP) rfl hl.1 rfl (Nat.le_of_ble_eq_true rfl) d_Mo_term_20 ⟨Nat.le_refl _, Nat.le_refl _⟩ (fun H locs hP hS => ?_)
    refine lv_goto (tgt := 27) hx hb d_Mo_term_23 rfl ?_
    obtain ⟨h1, h2⟩ := Prod.mk.inj (Option.some.inj hf)
    subst h1; subst h2
    exact W.lret hx hb hr (fun t ht _ => ⟨rfl, by rw [ht]; exact hP, hS.F ht⟩) hS.2.2 d_Mo_term_27
theorem c_Mo_term {l : Launch} {D : va_G} {g : Nat → ClassId} {ad : Nat → Nat} {μ : Mem} {r : Int64} {μ' : Mem} {A : Nat → Prop} {n : Nat} {a1 : Int32} (hDA : ∀ μ : Mem, va_D A (WM g ad μ)) (hf : f_Mo_term n μ a1 = some (r, μ')) : Met l y_Mo_term (Cond.code y_Mo_term b_Mo_term 2 (some .long) :: ww) rm_Mo_term (RP D CL (TY g) (WM g ad μ) [.ref (ad 0), .int a1]) (QW D CL (WM g ad μ') A (some (.long r))) 0 0 A := by
  refine met_of (by decide) (Nat.le_of_ble_eq_true rfl) ?_
  intro p e s m below meth c ls X hP hl
  have hl : lv_has ls 2 [(0, .ref (ad 0)), (1, .int a1)] := hl
  exact w_Mo_term X hDA hP va_S.rf hl hf
theorem d_Mo_posted_0 : decode b_Mo_posted 0 = .ok (.iconst 0, 1) := by decide +kernel
theorem d_Mo_posted_1 : decode b_Mo_posted 1 = .ok (.istore 5, 2) := by decide +kernel
theorem d_Mo_posted_3 : decode b_Mo_posted 3 = .ok (.iload 5, 2) := by decide +kernel
theorem d_Mo_posted_5 : decode b_Mo_posted 5 = .ok (.aload_n 0, 1) := by decide +kernel
theorem d_Mo_posted_6 : decode b_Mo_posted 6 = .ok (.getfield 113, 3) := by decide +kernel
theorem d_Mo_posted_9 : decode b_Mo_posted 9 = .ok (.iload_n 1, 1) := by decide +kernel
theorem d_Mo_posted_10 : decode b_Mo_posted 10 = .ok (.iaload, 1) := by decide +kernel
theorem d_Mo_posted_11 : decode b_Mo_posted 11 = .ok (.if_icmp .ge 45, 3) := by decide +kernel
theorem d_Mo_posted_14 : decode b_Mo_posted 14 = .ok (.aload_n 0, 1) := by decide +kernel
theorem d_Mo_posted_15 : decode b_Mo_posted 15 = .ok (.getfield 107, 3) := by decide +kernel
theorem d_Mo_posted_18 : decode b_Mo_posted 18 = .ok (.bipush 36, 2) := by decide +kernel
theorem d_Mo_posted_20 : decode b_Mo_posted 20 = .ok (.iload_n 1, 1) := by decide +kernel
theorem d_Mo_posted_21 : decode b_Mo_posted 21 = .ok (.imul, 1) := by decide +kernel
theorem d_Mo_posted_22 : decode b_Mo_posted 22 = .ok (.iload 5, 2) := by decide +kernel
theorem d_Mo_posted_24 : decode b_Mo_posted 24 = .ok (.iadd, 1) := by decide +kernel
theorem d_Mo_posted_25 : decode b_Mo_posted 25 = .ok (.laload, 1) := by decide +kernel
theorem d_Mo_posted_26 : decode b_Mo_posted 26 = .ok (.lload_n 2, 1) := by decide +kernel
theorem d_Mo_posted_27 : decode b_Mo_posted 27 = .ok (.lcmp, 1) := by decide +kernel
theorem d_Mo_posted_28 : decode b_Mo_posted 28 = .ok (.ifCond .ne 22, 3) := by decide +kernel
theorem d_Mo_posted_31 : decode b_Mo_posted 31 = .ok (.aload_n 0, 1) := by decide +kernel
theorem d_Mo_posted_32 : decode b_Mo_posted 32 = .ok (.getfield 110, 3) := by decide +kernel
theorem d_Mo_posted_35 : decode b_Mo_posted 35 = .ok (.bipush 36, 2) := by decide +kernel
theorem d_Mo_posted_37 : decode b_Mo_posted 37 = .ok (.iload_n 1, 1) := by decide +kernel
theorem d_Mo_posted_38 : decode b_Mo_posted 38 = .ok (.imul, 1) := by decide +kernel
theorem d_Mo_posted_39 : decode b_Mo_posted 39 = .ok (.iload 5, 2) := by decide +kernel
theorem d_Mo_posted_41 : decode b_Mo_posted 41 = .ok (.iadd, 1) := by decide +kernel
theorem d_Mo_posted_42 : decode b_Mo_posted 42 = .ok (.iaload, 1) := by decide +kernel
theorem d_Mo_posted_43 : decode b_Mo_posted 43 = .ok (.iload 4, 2) := by decide +kernel
theorem d_Mo_posted_45 : decode b_Mo_posted 45 = .ok (.if_icmp .ne 5, 3) := by decide +kernel
theorem d_Mo_posted_48 : decode b_Mo_posted 48 = .ok (.iconst 1, 1) := by decide +kernel
theorem d_Mo_posted_49 : decode b_Mo_posted 49 = .ok (.ireturn, 1) := by decide +kernel
theorem d_Mo_posted_50 : decode b_Mo_posted 50 = .ok (.iinc 5 1, 3) := by decide +kernel
theorem d_Mo_posted_53 : decode b_Mo_posted 53 = .ok (.goto (-50), 3) := by decide +kernel
theorem d_Mo_posted_56 : decode b_Mo_posted 56 = .ok (.iconst 0, 1) := by decide +kernel
theorem d_Mo_posted_57 : decode b_Mo_posted 57 = .ok (.ireturn, 1) := by decide +kernel
abbrev rm_Mo_posted : Room := { frames := 0, cells := 0, slots := 0, locals := 0 }
def f_Mo_posted_50 (κ3 : Int32 → Int64 → Int32 → Int32 → Option Bool) (μ : Mem) (n : Nat) (x1 : Int32) (x2 : Int64) (x4 : Int32) (x5 : Int32) : Option Bool := bd (x5 + 1) (fun v1 => κ3 x1 x2 x4 v1)
set_option maxHeartbeats 4000000 in
set_option maxRecDepth 100000 in
theorem w_Mo_posted_50 {p : Program} {l : Launch} {e : Env} {s : State} {m : MethodId} {args : Array Value} {below : List Frame} {meth : Method} {c : Code} {D : va_G} {g : Nat → ClassId} {ad : Nat → Nat} {μ : Mem} {r : Bool} {κ3 : Int32 → Int64 → Int32 → Int32 → Option Bool} {n : Nat} {x1 : Int32} {x2 : Int64} {x4 : Int32} {x5 : Int32} {ls : Array Slot} (X : Cx p s m args meth c b_Mo_posted 6 R_Mo (some .boolean) D CL (TY g)) (hP : va_P D CL (WM g ad μ) s.heap) (hκ3 : ∀ (x1 : Int32) (x2 : Int64) (x4 : Int32) (x5 : Int32) (ls : Array Slot), lv_has ls 6 [(0, .ref (ad 0)), (1, .int x1), (2, .long x2), (4, .int x4), (5, .int x5)] → κ3 x1 x2 x4 x5 = some r → WR p l e rm_Mo_posted s m args below meth c (.int (bz r)) (F0 m 3 ls [])) (hl : lv_has ls 6 [(0, .ref (ad 0)), (1, .int x1), (2, .long x2), (4, .int x4), (5, .int x5)]) (hf : f_Mo_posted_50 κ3 μ n x1 x2 x4 x5 = some r) : WR p l e rm_Mo_posted s m args below meth c (.int (bz r)) (F0 m 50 ls []) := by
  obtain ⟨S, hr, hlk, hK⟩ := id X
  obtain ⟨hx, hb, hml, hown, hts⟩ := id S
  rw [f_Mo_posted_50] at hf
  obtain ⟨v1, hv1, hf⟩ := bd_x hf
  refine lv_iinc (lv' := [(5, .int v1), (0, .ref (ad 0)), (1, .int x1), (2, .long x2), (4, .int x4)]) hx hb d_Mo_posted_50 hl (k := 4) rfl (show x5 + Int32.ofInt (1) = v1 from hv1) (Nat.le_of_ble_eq_true rfl) rfl (fun ls hl => ?_)
  refine lv_goto (tgt := 3) hx hb d_Mo_posted_53 rfl ?_
  exact hκ3 _ _ _ _ _ (lv_sub (l' := [(0, .ref (ad 0)), (1, .int x1), (2, .long x2), (4, .int x4), (5, .int v1)]) hl [1, 2, 3, 4, 0] rfl) hf
def f_Mo_posted_3 (μ : Mem) : Nat → Int32 → Int64 → Int32 → Int32 → Option Bool
  | 0, _, _, _, _ => none
  | n + 1, x1, x2, x4, x5 => gd (inb x1 40) ((if (μ.1 35 x1.toNatClampNeg) ≤ x5 then (some false) else (gd (inb (((36 : Int32) * x1) + x5) 1440) ((if (lg_cmp (μ.2 33 (((36 : Int32) * x1) + x5).toNatClampNeg) x2) = 0 then (gd (inb (((36 : Int32) * x1) + x5) 1440) ((if (μ.1 34 (((36 : Int32) * x1) + x5).toNatClampNeg) = x4 then (some true) else (f_Mo_posted_50 (f_Mo_posted_3 μ n) μ n x1 x2 x4 x5)))) else (f_Mo_posted_50 (f_Mo_posted_3 μ n) μ n x1 x2 x4 x5))))))
set_option maxHeartbeats 4000000 in
set_option maxRecDepth 100000 in
theorem w_Mo_posted_3 {p : Program} {l : Launch} {e : Env} {s : State} {m : MethodId} {args : Array Value} {below : List Frame} {meth : Method} {c : Code} {D : va_G} {g : Nat → ClassId} {ad : Nat → Nat} {μ : Mem} {r : Bool} (X : Cx p s m args meth c b_Mo_posted 6 R_Mo (some .boolean) D CL (TY g)) (hP : va_P D CL (WM g ad μ) s.heap) : ∀ (n : Nat) (x1 : Int32) (x2 : Int64) (x4 : Int32) (x5 : Int32) (ls : Array Slot), lv_has ls 6 [(0, .ref (ad 0)), (1, .int x1), (2, .long x2), (4, .int x4), (5, .int x5)] → f_Mo_posted_3 μ n x1 x2 x4 x5 = some r → WR p l e rm_Mo_posted s m args below meth c (.int (bz r)) (F0 m 3 ls []) := by
  intro n
  induction n with
  | zero => intro x1 x2 x4 x5 ls hl hf; rw [f_Mo_posted_3] at hf; cases hf
  | succ n ih =>
    intro x1 x2 x4 x5 ls hl hf
    obtain ⟨S, hr, hlk, hK⟩ := id X
    obtain ⟨hx, hb, hml, hown, hts⟩ := id S
    rw [f_Mo_posted_3] at hf
    refine lv_iload hx hb d_Mo_posted_3 (lv_at hl 4 rfl) ?_
    refine lv_aload_n hx hb d_Mo_posted_5 rfl (lv_at hl 0 rfl) ?_
    refine mg_0_45 hx hb hts hown hK hP q_863 d_Mo_posted_6 ?_
    refine lv_iload_n hx hb d_Mo_posted_9 rfl (lv_at hl 1 rfl) ?_
    obtain ⟨hi, hf⟩ := gd_x hf
    refine ml_35 hx hb hK hP (inb_in hi) d_Mo_posted_10 ?_
    refine lv_icmp_ge (tgt := 56) hx hb d_Mo_posted_11 rfl (fun hc => ?_) (fun hc => ?_)
    · replace hf := br_p hc hf
      refine lv_iconst (v := 0) hx hb d_Mo_posted_56 (by decide) ?_
      have h1 := Option.some.inj hf
      subst h1
      exact W.zret hx hb hr (by first | rfl | exact bz_nar _) (fun t ht _ => ⟨rfl, ht⟩) (fun _ h => by cases h) d_Mo_posted_57
    · replace hf := br_n hc hf
      refine lv_aload_n hx hb d_Mo_posted_14 rfl (lv_at hl 0 rfl) ?_
      refine mg_0_43 hx hb hts hown hK hP q_861 d_Mo_posted_15 ?_
      refine lv_bipush (v := 36) hx hb d_Mo_posted_18 (by decide) ?_
      refine lv_iload_n hx hb d_Mo_posted_20 rfl (lv_at hl 1 rfl) ?_
      refine lv_imul hx hb d_Mo_posted_21 ?_
      refine lv_iload hx hb d_Mo_posted_22 (lv_at hl 4 rfl) ?_
      refine lv_iadd hx hb d_Mo_posted_24 ?_
      obtain ⟨hi, hf⟩ := gd_x hf
      refine ml_33 hx hb hK hP (inb_in hi) d_Mo_posted_25 ?_
      refine lv_lload_n hx hb d_Mo_posted_26 rfl (lv_at hl 2 rfl) ?_
      refine W.lcmp hx hb d_Mo_posted_27 ?_
      refine lv_if_ne (tgt := 50) hx hb d_Mo_posted_28 rfl (fun hc => ?_) (fun hc => ?_)
      · replace hf := br_n hc hf
        exact w_Mo_posted_50 X hP ih (lv_sub (l' := [(0, .ref (ad 0)), (1, .int x1), (2, .long x2), (4, .int x4), (5, .int x5)]) hl [0, 1, 2, 3, 4] rfl) hf
      · replace hf := br_p hc hf
        refine lv_aload_n hx hb d_Mo_posted_31 rfl (lv_at hl 0 rfl) ?_
        refine mg_0_44 hx hb hts hown hK hP q_862 d_Mo_posted_32 ?_
        refine lv_bipush (v := 36) hx hb d_Mo_posted_35 (by decide) ?_
        refine lv_iload_n hx hb d_Mo_posted_37 rfl (lv_at hl 1 rfl) ?_
        refine lv_imul hx hb d_Mo_posted_38 ?_
        refine lv_iload hx hb d_Mo_posted_39 (lv_at hl 4 rfl) ?_
        refine lv_iadd hx hb d_Mo_posted_41 ?_
        obtain ⟨hi, hf⟩ := gd_x hf
        refine ml_34 hx hb hK hP (inb_in hi) d_Mo_posted_42 ?_
        refine lv_iload hx hb d_Mo_posted_43 (lv_at hl 3 rfl) ?_
        refine lv_icmp_ne (tgt := 50) hx hb d_Mo_posted_45 rfl (fun hc => ?_) (fun hc => ?_)
        · replace hf := br_n hc hf
          exact w_Mo_posted_50 X hP ih (lv_sub (l' := [(0, .ref (ad 0)), (1, .int x1), (2, .long x2), (4, .int x4), (5, .int x5)]) hl [0, 1, 2, 3, 4] rfl) hf
        · replace hf := br_p hc hf
          refine lv_iconst (v := 1) hx hb d_Mo_posted_48 (by decide) ?_
          have h1 := Option.some.inj hf
          subst h1
          exact W.zret hx hb hr (by first | rfl | exact bz_nar _) (fun t ht _ => ⟨rfl, ht⟩) (fun _ h => by cases h) d_Mo_posted_49
def f_Mo_posted (n : Nat) (μ : Mem) (a1 : Int32) (a2 : Int64) (a4 : Int32) : Option Bool := f_Mo_posted_3 μ n a1 a2 a4 (0 : Int32)
set_option maxHeartbeats 4000000 in
set_option maxRecDepth 100000 in
theorem w_Mo_posted {p : Program} {l : Launch} {e : Env} {s : State} {m : MethodId} {args : Array Value} {below : List Frame} {meth : Method} {c : Code} {D : va_G} {g : Nat → ClassId} {ad : Nat → Nat} {μ : Mem} {r : Bool} {n : Nat} {a1 : Int32} {a2 : Int64} {a4 : Int32} {ls : Array Slot} (X : Cx p s m args meth c b_Mo_posted 6 R_Mo (some .boolean) D CL (TY g)) (hP : va_P D CL (WM g ad μ) s.heap) (hl : lv_has ls 6 [(0, .ref (ad 0)), (1, .int a1), (2, .long a2), (4, .int a4)]) (hf : f_Mo_posted n μ a1 a2 a4 = some r) : WR p l e rm_Mo_posted s m args below meth c (.int (bz r)) (F0 m 0 ls []) := by
  obtain ⟨S, hr, hlk, hK⟩ := id X
  obtain ⟨hx, hb, hml, hown, hts⟩ := id S
  rw [f_Mo_posted] at hf
  refine lv_iconst (v := 0) hx hb d_Mo_posted_0 (by decide) ?_
  refine lv_istore (lv' := [(5, .int (0 : Int32)), (0, .ref (ad 0)), (1, .int a1), (2, .long a2), (4, .int a4)]) hx hb d_Mo_posted_1 hl (Nat.le_of_ble_eq_true rfl) rfl (fun ls hl => ?_)
  exact w_Mo_posted_3 X hP _ _ _ _ _ _ (lv_sub (l' := [(0, .ref (ad 0)), (1, .int a1), (2, .long a2), (4, .int a4), (5, .int (0 : Int32))]) hl [1, 2, 3, 4, 0] rfl) hf
theorem c_Mo_posted {l : Launch} {D : va_G} {g : Nat → ClassId} {ad : Nat → Nat} {μ : Mem} {r : Bool} {n : Nat} {a1 : Int32} {a2 : Int64} {a4 : Int32} (hf : f_Mo_posted n μ a1 a2 a4 = some r) : Met l y_Mo_posted (Cond.code y_Mo_posted b_Mo_posted 6 (some .boolean) :: ww) rm_Mo_posted (RP D CL (TY g) (WM g ad μ) [.ref (ad 0), .int a1, .long a2, .int a4]) (k2_QcV (.int (bz r))) 0 0 (fun _ => False) := by
  refine met_of (by decide) (Nat.le_of_ble_eq_true rfl) ?_
  intro p e s m below meth c ls X hP hl
  have hl : lv_has ls 6 [(0, .ref (ad 0)), (1, .int a1), (2, .long a2), (4, .int a4)] := hl
  exact w_Mo_posted X hP hl hf
theorem d_Mo_post_0 : decode b_Mo_post 0 = .ok (.lload_n 2, 1) := by decide +kernel
theorem d_Mo_post_1 : decode b_Mo_post 1 = .ok (.lconst 0, 1) := by decide +kernel
theorem d_Mo_post_2 : decode b_Mo_post 2 = .ok (.lcmp, 1) := by decide +kernel
theorem d_Mo_post_3 : decode b_Mo_post 3 = .ok (.ifCond .eq 59, 3) := by decide +kernel
theorem d_Mo_post_6 : decode b_Mo_post 6 = .ok (.aload_n 0, 1) := by decide +kernel
theorem d_Mo_post_7 : decode b_Mo_post 7 = .ok (.iload_n 1, 1) := by decide +kernel
theorem d_Mo_post_8 : decode b_Mo_post 8 = .ok (.lload_n 2, 1) := by decide +kernel
theorem d_Mo_post_9 : decode b_Mo_post 9 = .ok (.iload 4, 2) := by decide +kernel
theorem d_Mo_post_11 : decode b_Mo_post 11 = .ok (.invokevirtual 240, 3) := by decide +kernel
theorem d_Mo_post_14 : decode b_Mo_post 14 = .ok (.ifCond .ne 48, 3) := by decide +kernel
theorem d_Mo_post_17 : decode b_Mo_post 17 = .ok (.aload_n 0, 1) := by decide +kernel
theorem d_Mo_post_18 : decode b_Mo_post 18 = .ok (.getfield 107, 3) := by decide +kernel
theorem d_Mo_post_21 : decode b_Mo_post 21 = .ok (.bipush 36, 2) := by decide +kernel
theorem d_Mo_post_23 : decode b_Mo_post 23 = .ok (.iload_n 1, 1) := by decide +kernel
theorem d_Mo_post_24 : decode b_Mo_post 24 = .ok (.imul, 1) := by decide +kernel
theorem d_Mo_post_25 : decode b_Mo_post 25 = .ok (.aload_n 0, 1) := by decide +kernel
theorem d_Mo_post_26 : decode b_Mo_post 26 = .ok (.getfield 113, 3) := by decide +kernel
theorem d_Mo_post_29 : decode b_Mo_post 29 = .ok (.iload_n 1, 1) := by decide +kernel
theorem d_Mo_post_30 : decode b_Mo_post 30 = .ok (.iaload, 1) := by decide +kernel
theorem d_Mo_post_31 : decode b_Mo_post 31 = .ok (.iadd, 1) := by decide +kernel
theorem d_Mo_post_32 : decode b_Mo_post 32 = .ok (.lload_n 2, 1) := by decide +kernel
theorem d_Mo_post_33 : decode b_Mo_post 33 = .ok (.lastore, 1) := by decide +kernel
theorem d_Mo_post_34 : decode b_Mo_post 34 = .ok (.aload_n 0, 1) := by decide +kernel
theorem d_Mo_post_35 : decode b_Mo_post 35 = .ok (.getfield 110, 3) := by decide +kernel
theorem d_Mo_post_38 : decode b_Mo_post 38 = .ok (.bipush 36, 2) := by decide +kernel
theorem d_Mo_post_40 : decode b_Mo_post 40 = .ok (.iload_n 1, 1) := by decide +kernel
theorem d_Mo_post_41 : decode b_Mo_post 41 = .ok (.imul, 1) := by decide +kernel
theorem d_Mo_post_42 : decode b_Mo_post 42 = .ok (.aload_n 0, 1) := by decide +kernel
theorem d_Mo_post_43 : decode b_Mo_post 43 = .ok (.getfield 113, 3) := by decide +kernel
theorem d_Mo_post_46 : decode b_Mo_post 46 = .ok (.iload_n 1, 1) := by decide +kernel
theorem d_Mo_post_47 : decode b_Mo_post 47 = .ok (.iaload, 1) := by decide +kernel
theorem d_Mo_post_48 : decode b_Mo_post 48 = .ok (.iadd, 1) := by decide +kernel
theorem d_Mo_post_49 : decode b_Mo_post 49 = .ok (.iload 4, 2) := by decide +kernel
theorem d_Mo_post_51 : decode b_Mo_post 51 = .ok (.iastore, 1) := by decide +kernel
theorem d_Mo_post_52 : decode b_Mo_post 52 = .ok (.aload_n 0, 1) := by decide +kernel
theorem d_Mo_post_53 : decode b_Mo_post 53 = .ok (.getfield 113, 3) := by decide +kernel
theorem d_Mo_post_56 : decode b_Mo_post 56 = .ok (.iload_n 1, 1) := by decide +kernel
theorem d_Mo_post_57 : decode b_Mo_post 57 = .ok (.dup2, 1) := by decide +kernel
theorem d_Mo_post_58 : decode b_Mo_post 58 = .ok (.iaload, 1) := by decide +kernel
theorem d_Mo_post_59 : decode b_Mo_post 59 = .ok (.iconst 1, 1) := by decide +kernel
theorem d_Mo_post_60 : decode b_Mo_post 60 = .ok (.iadd, 1) := by decide +kernel
theorem d_Mo_post_61 : decode b_Mo_post 61 = .ok (.iastore, 1) := by decide +kernel
theorem d_Mo_post_62 : decode b_Mo_post 62 = .ok (.return_, 1) := by decide +kernel
abbrev rm_Mo_post : Room := { frames := 1, cells := 0, slots := 0, locals := 25 }
def f_Mo_post (n : Nat) (μ : Mem) (a1 : Int32) (a2 : Int64) (a4 : Int32) : Option Mem := (if (lg_cmp a2 (0 : Int64)) = 0 then (some μ) else (cl (f_Mo_posted n μ a1 a2 a4) (fun v1 => (if (bz v1) = 0 then (gd (inb a1 40) (gd (inb (((36 : Int32) * a1) + (μ.1 35 a1.toNatClampNeg)) 1440) (bd (wl μ 33 (((36 : Int32) * a1) + (μ.1 35 a1.toNatClampNeg)).toNatClampNeg a2) (fun μ2 => gd (inb a1 40) (gd (inb (((36 : Int32) * a1) + (μ2.1 35 a1.toNatClampNeg)) 1440) (bd (wi μ2 34 (((36 : Int32) * a1) + (μ2.1 35 a1.toNatClampNeg)).toNatClampNeg a4) (fun μ3 => gd (inb a1 40) (gd (inb a1 40) (bd (wi μ3 35 a1.toNatClampNeg ((μ3.1 35 a1.toNatClampNeg) + (1 : Int32))) (fun μ4 => some μ4)))))))))) else (some μ)))))
set_option maxHeartbeats 4000000 in
set_option maxRecDepth 100000 in
theorem w_Mo_post {p : Program} {l : Launch} {e : Env} {s : State} {m : MethodId} {args : Array Value} {below : List Frame} {meth : Method} {c : Code} {D : va_G} {g : Nat → ClassId} {ad : Nat → Nat} {μ' : Mem} {A : Nat → Prop} {n : Nat} {μ : Mem} {a1 : Int32} {a2 : Int64} {a4 : Int32} {ls : Array Slot} {H : Heap} {locs : List Loc} (X : Cx p s m args meth c b_Mo_post 5 R_Mo none D CL (TY g)) (hDA : ∀ μ : Mem, va_D A (WM g ad μ)) (hP : va_P D CL (WM g ad μ) H) (hS : va_S A s.heap H locs) (hl : lv_has ls 5 [(0, .ref (ad 0)), (1, .int a1), (2, .long a2), (4, .int a4)]) (hf : f_Mo_post n μ a1 a2 a4 = some μ') : WU p l e rm_Mo_post s m args below meth c H locs D (WM g ad μ') A none (F0 m 0 ls []) := by
  obtain ⟨S, hr, hlk, hK⟩ := id X
  obtain ⟨hx, hb, hml, hown, hts⟩ := id S
  rw [f_Mo_post] at hf
  refine lv_lload_n hx hb d_Mo_post_0 rfl (lv_at hl 2 rfl) ?_
  refine lv_lconst (v := 0) hx hb d_Mo_post_1 (by decide) ?_
  refine W.lcmp hx hb d_Mo_post_2 ?_
  refine lv_if_eq (tgt := 62) hx hb d_Mo_post_3 rfl (fun hc => ?_) (fun hc => ?_)
  · replace hf := br_p hc hf
    obtain rfl := Option.some.inj hf
    exact W.vret hx hb hr (fun t ht _ => ⟨rfl, by rw [ht]; exact hP, hS.F ht⟩) hS.2.2 d_Mo_post_62
  · replace hf := br_n hc hf
    refine lv_aload_n hx hb d_Mo_post_6 rfl (lv_at hl 0 rfl) ?_
    refine lv_iload_n hx hb d_Mo_post_7 rfl (lv_at hl 1 rfl) ?_
    refine lv_lload_n hx hb d_Mo_post_8 rfl (lv_at hl 2 rfl) ?_
    refine lv_iload hx hb d_Mo_post_9 (lv_at hl 3 rfl) ?_
    obtain ⟨v1, hv1, hf⟩ := cl_x hf
    refine rdV (As := [.int a1, .long a2, .int a4]) (rest := []) S K_Mo_posted q_1117 (c_Mo_posted hv1) hK hP ⟨rfl, rfl⟩ ⟨Nat.le_of_ble_eq_true rfl, Nat.le_of_ble_eq_true rfl⟩ (mr_0 hK hP) rfl hl.1 rfl (Nat.le_of_ble_eq_true rfl) d_Mo_post_11 ⟨Nat.le_refl _, Nat.le_refl _⟩ ?_
    refine lv_if_ne (tgt := 62) hx hb d_Mo_post_14 rfl (fun hc => ?_) (fun hc => ?_)
    · replace hf := br_n hc hf
      obtain rfl := Option.some.inj hf
      exact W.vret hx hb hr (fun t ht _ => ⟨rfl, by rw [ht]; exact hP, hS.F ht⟩) hS.2.2 d_Mo_post_62
    · replace hf := br_p hc hf
      refine lv_aload_n hx hb d_Mo_post_17 rfl (lv_at hl 0 rfl) ?_
      refine mg_0_43 hx hb hts hown hK hP q_861 d_Mo_post_18 ?_
      refine lv_bipush (v := 36) hx hb d_Mo_post_21 (by decide) ?_
      refine lv_iload_n hx hb d_Mo_post_23 rfl (lv_at hl 1 rfl) ?_
      refine lv_imul hx hb d_Mo_post_24 ?_
      refine lv_aload_n hx hb d_Mo_post_25 rfl (lv_at hl 0 rfl) ?_
      refine mg_0_45 hx hb hts hown hK hP q_863 d_Mo_post_26 ?_
      refine lv_iload_n hx hb d_Mo_post_29 rfl (lv_at hl 1 rfl) ?_
      obtain ⟨hi, hf⟩ := gd_x hf
      refine ml_35 hx hb hK hP (inb_in hi) d_Mo_post_30 ?_
      refine lv_iadd hx hb d_Mo_post_31 ?_
      refine lv_lload_n hx hb d_Mo_post_32 rfl (lv_at hl 2 rfl) ?_
      obtain ⟨hi, hf⟩ := gd_x hf
      obtain ⟨μ2, hμ2, hf⟩ := bd_x hf
      refine ms_33 hx hb hK (hDA _) hP hS (inb_in hi) d_Mo_post_33 hμ2 (fun H locs hP hS => ?_)
      refine lv_aload_n hx hb d_Mo_post_34 rfl (lv_at hl 0 rfl) ?_
      refine mg_0_44 hx hb hts hown hK hP q_862 d_Mo_post_35 ?_
      refine lv_bipush (v := 36) hx hb d_Mo_post_38 (by decide) ?_
      refine lv_iload_n hx hb d_Mo_post_40 rfl (lv_at hl 1 rfl) ?_
      refine lv_imul hx hb d_Mo_post_41 ?_
      refine lv_aload_n hx hb d_Mo_post_42 rfl (lv_at hl 0 rfl) ?_
      refine mg_0_45 hx hb hts hown hK hP q_863 d_Mo_post_43 ?_
      refine lv_iload_n hx hb d_Mo_post_46 rfl (lv_at hl 1 rfl) ?_
      obtain ⟨hi, hf⟩ := gd_x hf
      refine ml_35 hx hb hK hP (inb_in hi) d_Mo_post_47 ?_
      refine lv_iadd hx hb d_Mo_post_48 ?_
      refine lv_iload hx hb d_Mo_post_49 (lv_at hl 3 rfl) ?_
      obtain ⟨hi, hf⟩ := gd_x hf
      obtain ⟨μ3, hμ3, hf⟩ := bd_x hf
      refine ms_34 hx hb hK (hDA _) hP hS (inb_in hi) d_Mo_post_51 hμ3 (fun H locs hP hS => ?_)
      refine lv_aload_n hx hb d_Mo_post_52 rfl (lv_at hl 0 rfl) ?_
      refine mg_0_45 hx hb hts hown hK hP q_863 d_Mo_post_53 ?_
      refine lv_iload_n hx hb d_Mo_post_56 rfl (lv_at hl 1 rfl) ?_
      refine lv_dup2_11 hx hb d_Mo_post_57 rfl rfl ?_
      obtain ⟨hi, hf⟩ := gd_x hf
      refine ml_35 hx hb hK hP (inb_in hi) d_Mo_post_58 ?_
      refine lv_iconst (v := 1) hx hb d_Mo_post_59 (by decide) ?_
      refine lv_iadd hx hb d_Mo_post_60 ?_
      obtain ⟨hi, hf⟩ := gd_x hf
      obtain ⟨μ4, hμ4, hf⟩ := bd_x hf
      refine ms_35 hx hb hK (hDA _) hP hS (inb_in hi) d_Mo_post_61 hμ4 (fun H locs hP hS => ?_)
      obtain rfl := Option.some.inj hf
      exact W.vret hx hb hr (fun t ht _ => ⟨rfl, by rw [ht]; exact hP, hS.F ht⟩) hS.2.2 d_Mo_post_62
theorem c_Mo_post {l : Launch} {D : va_G} {g : Nat → ClassId} {ad : Nat → Nat} {μ : Mem} {μ' : Mem} {A : Nat → Prop} {n : Nat} {a1 : Int32} {a2 : Int64} {a4 : Int32} (hDA : ∀ μ : Mem, va_D A (WM g ad μ)) (hf : f_Mo_post n μ a1 a2 a4 = some μ') : Met l y_Mo_post (Cond.code y_Mo_post b_Mo_post 5 none :: ww) rm_Mo_post (RP D CL (TY g) (WM g ad μ) [.ref (ad 0), .int a1, .long a2, .int a4]) (QW D CL (WM g ad μ') A none) 0 0 A := by
  refine met_of (by decide) (Nat.le_of_ble_eq_true rfl) ?_
  intro p e s m below meth c ls X hP hl
  have hl : lv_has ls 5 [(0, .ref (ad 0)), (1, .int a1), (2, .long a2), (4, .int a4)] := hl
  exact w_Mo_post X hDA hP va_S.rf hl hf
theorem d_Mo_add_0 : decode b_Mo_add 0 = .ok (.iconst 0, 1) := by decide +kernel
theorem d_Mo_add_1 : decode b_Mo_add 1 = .ok (.istore_n 1, 1) := by decide +kernel
theorem d_Mo_add_2 : decode b_Mo_add 2 = .ok (.iconst 0, 1) := by decide +kernel
theorem d_Mo_add_3 : decode b_Mo_add 3 = .ok (.istore_n 2, 1) := by decide +kernel
theorem d_Mo_add_4 : decode b_Mo_add 4 = .ok (.iload_n 2, 1) := by decide +kernel
theorem d_Mo_add_5 : decode b_Mo_add 5 = .ok (.aload_n 0, 1) := by decide +kernel
theorem d_Mo_add_6 : decode b_Mo_add 6 = .ok (.getfield 244, 3) := by decide +kernel
theorem d_Mo_add_9 : decode b_Mo_add 9 = .ok (.if_icmp .ge 26, 3) := by decide +kernel
theorem d_Mo_add_12 : decode b_Mo_add 12 = .ok (.iload_n 1, 1) := by decide +kernel
theorem d_Mo_add_13 : decode b_Mo_add 13 = .ok (.aload_n 0, 1) := by decide +kernel
theorem d_Mo_add_14 : decode b_Mo_add 14 = .ok (.getfield 116, 3) := by decide +kernel
theorem d_Mo_add_17 : decode b_Mo_add 17 = .ok (.iload_n 2, 1) := by decide +kernel
theorem d_Mo_add_18 : decode b_Mo_add 18 = .ok (.baload, 1) := by decide +kernel
theorem d_Mo_add_19 : decode b_Mo_add 19 = .ok (.ifCond .eq 7, 3) := by decide +kernel
theorem d_Mo_add_22 : decode b_Mo_add 22 = .ok (.iconst 1, 1) := by decide +kernel
theorem d_Mo_add_23 : decode b_Mo_add 23 = .ok (.goto 4, 3) := by decide +kernel
theorem d_Mo_add_26 : decode b_Mo_add 26 = .ok (.iconst 0, 1) := by decide +kernel
theorem d_Mo_add_27 : decode b_Mo_add 27 = .ok (.iadd, 1) := by decide +kernel
theorem d_Mo_add_28 : decode b_Mo_add 28 = .ok (.istore_n 1, 1) := by decide +kernel
theorem d_Mo_add_29 : decode b_Mo_add 29 = .ok (.iinc 2 1, 3) := by decide +kernel
theorem d_Mo_add_32 : decode b_Mo_add 32 = .ok (.goto (-28), 3) := by decide +kernel
theorem d_Mo_add_35 : decode b_Mo_add 35 = .ok (.aload_n 0, 1) := by decide +kernel
theorem d_Mo_add_36 : decode b_Mo_add 36 = .ok (.getfield 129, 3) := by decide +kernel
theorem d_Mo_add_39 : decode b_Mo_add 39 = .ok (.ifCond .eq 17, 3) := by decide +kernel
theorem d_Mo_add_42 : decode b_Mo_add 42 = .ok (.aload_n 0, 1) := by decide +kernel
theorem d_Mo_add_43 : decode b_Mo_add 43 = .ok (.getfield 244, 3) := by decide +kernel
theorem d_Mo_add_46 : decode b_Mo_add 46 = .ok (.bipush 40, 2) := by decide +kernel
theorem d_Mo_add_48 : decode b_Mo_add 48 = .ok (.if_icmp .ge 8, 3) := by decide +kernel
theorem d_Mo_add_51 : decode b_Mo_add 51 = .ok (.iload_n 1, 1) := by decide +kernel
theorem d_Mo_add_52 : decode b_Mo_add 52 = .ok (.iconst 4, 1) := by decide +kernel
theorem d_Mo_add_53 : decode b_Mo_add 53 = .ok (.if_icmp .lt 5, 3) := by decide +kernel
theorem d_Mo_add_56 : decode b_Mo_add 56 = .ok (.iconst (-1), 1) := by decide +kernel
theorem d_Mo_add_57 : decode b_Mo_add 57 = .ok (.ireturn, 1) := by decide +kernel
theorem d_Mo_add_58 : decode b_Mo_add 58 = .ok (.aload_n 0, 1) := by decide +kernel
theorem d_Mo_add_59 : decode b_Mo_add 59 = .ok (.invokevirtual 230, 3) := by decide +kernel
theorem d_Mo_add_62 : decode b_Mo_add 62 = .ok (.iconst 0, 1) := by decide +kernel
theorem d_Mo_add_63 : decode b_Mo_add 63 = .ok (.istore_n 2, 1) := by decide +kernel
theorem d_Mo_add_64 : decode b_Mo_add 64 = .ok (.iload_n 2, 1) := by decide +kernel
theorem d_Mo_add_65 : decode b_Mo_add 65 = .ok (.aload_n 0, 1) := by decide +kernel
theorem d_Mo_add_66 : decode b_Mo_add 66 = .ok (.getfield 212, 3) := by decide +kernel
theorem d_Mo_add_69 : decode b_Mo_add 69 = .ok (.if_icmp .ge 82, 3) := by decide +kernel
theorem d_Mo_add_72 : decode b_Mo_add 72 = .ok (.aload_n 0, 1) := by decide +kernel
theorem d_Mo_add_73 : decode b_Mo_add 73 = .ok (.iload_n 2, 1) := by decide +kernel
theorem d_Mo_add_74 : decode b_Mo_add 74 = .ok (.invokevirtual 236, 3) := by decide +kernel
theorem d_Mo_add_77 : decode b_Mo_add 77 = .ok (.lstore_n 3, 1) := by decide +kernel
theorem d_Mo_add_78 : decode b_Mo_add 78 = .ok (.aload_n 0, 1) := by decide +kernel
theorem d_Mo_add_79 : decode b_Mo_add 79 = .ok (.aload_n 0, 1) := by decide +kernel
theorem d_Mo_add_80 : decode b_Mo_add 80 = .ok (.getfield 244, 3) := by decide +kernel
theorem d_Mo_add_83 : decode b_Mo_add 83 = .ok (.lload_n 3, 1) := by decide +kernel
theorem d_Mo_add_84 : decode b_Mo_add 84 = .ok (.iload_n 2, 1) := by decide +kernel
theorem d_Mo_add_85 : decode b_Mo_add 85 = .ok (.invokevirtual 247, 3) := by decide +kernel
theorem d_Mo_add_88 : decode b_Mo_add 88 = .ok (.aload_n 0, 1) := by decide +kernel
theorem d_Mo_add_89 : decode b_Mo_add 89 = .ok (.iload_n 2, 1) := by decide +kernel
theorem d_Mo_add_90 : decode b_Mo_add 90 = .ok (.invokevirtual 233, 3) := by decide +kernel
theorem d_Mo_add_93 : decode b_Mo_add 93 = .ok (.istore 5, 2) := by decide +kernel
theorem d_Mo_add_95 : decode b_Mo_add 95 = .ok (.iload 5, 2) := by decide +kernel
theorem d_Mo_add_97 : decode b_Mo_add 97 = .ok (.ifCond .lt 48, 3) := by decide +kernel
theorem d_Mo_add_100 : decode b_Mo_add 100 = .ok (.aload_n 0, 1) := by decide +kernel
theorem d_Mo_add_101 : decode b_Mo_add 101 = .ok (.aload_n 0, 1) := by decide +kernel
theorem d_Mo_add_102 : decode b_Mo_add 102 = .ok (.getfield 74, 3) := by decide +kernel
theorem d_Mo_add_105 : decode b_Mo_add 105 = .ok (.iload 5, 2) := by decide +kernel
theorem d_Mo_add_107 : decode b_Mo_add 107 = .ok (.iaload, 1) := by decide +kernel
theorem d_Mo_add_108 : decode b_Mo_add 108 = .ok (.aload_n 0, 1) := by decide +kernel
theorem d_Mo_add_109 : decode b_Mo_add 109 = .ok (.getfield 77, 3) := by decide +kernel
theorem d_Mo_add_112 : decode b_Mo_add 112 = .ok (.iload 5, 2) := by decide +kernel
theorem d_Mo_add_114 : decode b_Mo_add 114 = .ok (.iaload, 1) := by decide +kernel
theorem d_Mo_add_115 : decode b_Mo_add 115 = .ok (.aload_n 0, 1) := by decide +kernel
theorem d_Mo_add_116 : decode b_Mo_add 116 = .ok (.getfield 80, 3) := by decide +kernel
theorem d_Mo_add_119 : decode b_Mo_add 119 = .ok (.iload 5, 2) := by decide +kernel
theorem d_Mo_add_121 : decode b_Mo_add 121 = .ok (.iaload, 1) := by decide +kernel
theorem d_Mo_add_122 : decode b_Mo_add 122 = .ok (.aload_n 0, 1) := by decide +kernel
theorem d_Mo_add_123 : decode b_Mo_add 123 = .ok (.getfield 83, 3) := by decide +kernel
theorem d_Mo_add_126 : decode b_Mo_add 126 = .ok (.iload 5, 2) := by decide +kernel
theorem d_Mo_add_128 : decode b_Mo_add 128 = .ok (.iaload, 1) := by decide +kernel
theorem d_Mo_add_129 : decode b_Mo_add 129 = .ok (.invokevirtual 226, 3) := by decide +kernel
theorem d_Mo_add_132 : decode b_Mo_add 132 = .ok (.lstore 6, 2) := by decide +kernel
theorem d_Mo_add_134 : decode b_Mo_add 134 = .ok (.aload_n 0, 1) := by decide +kernel
theorem d_Mo_add_135 : decode b_Mo_add 135 = .ok (.aload_n 0, 1) := by decide +kernel
theorem d_Mo_add_136 : decode b_Mo_add 136 = .ok (.getfield 244, 3) := by decide +kernel
theorem d_Mo_add_139 : decode b_Mo_add 139 = .ok (.lload 6, 2) := by decide +kernel
theorem d_Mo_add_141 : decode b_Mo_add 141 = .ok (.iload_n 2, 1) := by decide +kernel
theorem d_Mo_add_142 : decode b_Mo_add 142 = .ok (.invokevirtual 247, 3) := by decide +kernel
theorem d_Mo_add_145 : decode b_Mo_add 145 = .ok (.iinc 2 1, 3) := by decide +kernel
theorem d_Mo_add_148 : decode b_Mo_add 148 = .ok (.goto (-84), 3) := by decide +kernel
theorem d_Mo_add_151 : decode b_Mo_add 151 = .ok (.aload_n 0, 1) := by decide +kernel
theorem d_Mo_add_152 : decode b_Mo_add 152 = .ok (.getfield 116, 3) := by decide +kernel
theorem d_Mo_add_155 : decode b_Mo_add 155 = .ok (.aload_n 0, 1) := by decide +kernel
theorem d_Mo_add_156 : decode b_Mo_add 156 = .ok (.getfield 244, 3) := by decide +kernel
theorem d_Mo_add_159 : decode b_Mo_add 159 = .ok (.iconst 1, 1) := by decide +kernel
theorem d_Mo_add_160 : decode b_Mo_add 160 = .ok (.bastore, 1) := by decide +kernel
theorem d_Mo_add_161 : decode b_Mo_add 161 = .ok (.aload_n 0, 1) := by decide +kernel
theorem d_Mo_add_162 : decode b_Mo_add 162 = .ok (.getfield 123, 3) := by decide +kernel
theorem d_Mo_add_165 : decode b_Mo_add 165 = .ok (.aload_n 0, 1) := by decide +kernel
theorem d_Mo_add_166 : decode b_Mo_add 166 = .ok (.getfield 244, 3) := by decide +kernel
theorem d_Mo_add_169 : decode b_Mo_add 169 = .ok (.iconst (-1), 1) := by decide +kernel
theorem d_Mo_add_170 : decode b_Mo_add 170 = .ok (.iastore, 1) := by decide +kernel
theorem d_Mo_add_171 : decode b_Mo_add 171 = .ok (.aload_n 0, 1) := by decide +kernel
theorem d_Mo_add_172 : decode b_Mo_add 172 = .ok (.dup, 1) := by decide +kernel
theorem d_Mo_add_173 : decode b_Mo_add 173 = .ok (.getfield 244, 3) := by decide +kernel
theorem d_Mo_add_176 : decode b_Mo_add 176 = .ok (.iconst 1, 1) := by decide +kernel
theorem d_Mo_add_177 : decode b_Mo_add 177 = .ok (.iadd, 1) := by decide +kernel
theorem d_Mo_add_178 : decode b_Mo_add 178 = .ok (.putfield 244, 3) := by decide +kernel
theorem d_Mo_add_181 : decode b_Mo_add 181 = .ok (.aload_n 0, 1) := by decide +kernel
theorem d_Mo_add_182 : decode b_Mo_add 182 = .ok (.getfield 244, 3) := by decide +kernel
theorem d_Mo_add_185 : decode b_Mo_add 185 = .ok (.iconst 1, 1) := by decide +kernel
theorem d_Mo_add_186 : decode b_Mo_add 186 = .ok (.isub, 1) := by decide +kernel
theorem d_Mo_add_187 : decode b_Mo_add 187 = .ok (.ireturn, 1) := by decide +kernel
abbrev rm_Mo_add : Room := { frames := 6, cells := 0, slots := 0, locals := 148 }
def f_Mo_add_145 (κ64 : Mem → Int32 → Option (Int32 × Mem)) (n : Nat) (μ : Mem) (x2 : Int32) : Option (Int32 × Mem) := bd (x2 + 1) (fun v1 => κ64 μ v1)
set_option maxHeartbeats 4000000 in
set_option maxRecDepth 100000 in
theorem w_Mo_add_145 {p : Program} {l : Launch} {e : Env} {s : State} {m : MethodId} {args : Array Value} {below : List Frame} {meth : Method} {c : Code} {D : va_G} {g : Nat → ClassId} {ad : Nat → Nat} {r : Int32} {μ' : Mem} {A : Nat → Prop} {κ64 : Mem → Int32 → Option (Int32 × Mem)} {n : Nat} {μ : Mem} {x2 : Int32} {ls : Array Slot} {H : Heap} {locs : List Loc} (X : Cx p s m args meth c b_Mo_add 8 R_Mo (some .int) D CL (TY g)) (hDA : ∀ μ : Mem, va_D A (WM g ad μ)) (hκ64 : ∀ (μ : Mem) (x2 : Int32) (ls : Array Slot) (H : Heap) (locs : List Loc), va_P D CL (WM g ad μ) H → va_S A s.heap H locs → lv_has ls 8 [(0, .ref (ad 0)), (2, .int x2)] → κ64 μ x2 = some (r, μ') → WU p l e rm_Mo_add s m args below meth c H locs D (WM g ad μ') A (some (.int r)) (F0 m 64 ls [])) (hP : va_P D CL (WM g ad μ) H) (hS : va_S A s.heap H locs) (hl : lv_has ls 8 [(0, .ref (ad 0)), (2, .int x2)]) (hf : f_Mo_add_145 κ64 n μ x2 = some (r, μ')) : WU p l e rm_Mo_add s m args below meth c H locs D (WM g ad μ') A (some (.int r)) (F0 m 145 ls []) := by
  obtain ⟨S, hr, hlk, hK⟩ := id X
  obtain ⟨hx, hb, hml, hown, hts⟩ := id S
  rw [f_Mo_add_145] at hf
  obtain ⟨v1, hv1, hf⟩ := bd_x hf
  refine lv_iinc (lv' := [(2, .int v1), (0, .ref (ad 0))]) hx hb d_Mo_add_145 hl (k := 1) rfl (show x2 + Int32.ofInt (1) = v1 from hv1) (Nat.le_of_ble_eq_true rfl) rfl (fun ls hl => ?_)
  refine lv_goto (tgt := 64) hx hb d_Mo_add_148 rfl ?_
  exact hκ64 _ _ _ _ _ hP hS (lv_sub (l' := [(0, .ref (ad 0)), (2, .int v1)]) hl [1, 0] rfl) hf
def f_Mo_add_64 : Nat → Mem → Int32 → Option (Int32 × Mem)
  | 0, _, _ => none
  | n + 1, μ, x2 => (if (μ.1 0 37) ≤ x2 then (gd (inb (μ.1 0 50) 40) (bd (wi μ 36 (μ.1 0 50).toNatClampNeg (1 : Int32)) (fun μ1 => gd (inb (μ1.1 0 50) 40) (bd (wi μ1 38 (μ1.1 0 50).toNatClampNeg (-1 : Int32)) (fun μ2 => bd (wi μ2 0 50 ((μ2.1 0 50) + (1 : Int32))) (fun μ3 => some ((μ3.1 0 50) - (1 : Int32), μ3))))))) else (cl2 (f_Mo_termOf n μ x2) (fun v4 μ5 => cl (f_Mo_post n μ5 (μ5.1 0 50) v4 x2) (fun μ7 => cl (f_Mo_compound n μ7 x2) (fun v8 => (if v8 < 0 then (f_Mo_add_145 (f_Mo_add_64 n) n μ7 x2) else (gd (inb v8 24) (gd (inb v8 24) (gd (inb v8 24) (gd (inb v8 24) (cl2 (f_Mo_filtered n μ7 (μ7.1 22 v8.toNatClampNeg) (μ7.1 23 v8.toNatClampNeg) (μ7.1 24 v8.toNatClampNeg) (μ7.1 25 v8.toNatClampNeg)) (fun v9 μ10 => cl (f_Mo_post n μ10 (μ10.1 0 50) v9 x2) (fun μ12 => f_Mo_add_145 (f_Mo_add_64 n) n μ12 x2)))))))))))))
set_option maxHeartbeats 4000000 in
set_option maxRecDepth 100000 in
theorem w_Mo_add_64 {p : Program} {l : Launch} {e : Env} {s : State} {m : MethodId} {args : Array Value} {below : List Frame} {meth : Method} {c : Code} {D : va_G} {g : Nat → ClassId} {ad : Nat → Nat} {r : Int32} {μ' : Mem} {A : Nat → Prop} (X : Cx p s m args meth c b_Mo_add 8 R_Mo (some .int) D CL (TY g)) (hDA : ∀ μ : Mem, va_D A (WM g ad μ)) : ∀ (n : Nat) (μ : Mem) (x2 : Int32) (ls : Array Slot) (H : Heap) (locs : List Loc), va_P D CL (WM g ad μ) H → va_S A s.heap H locs → lv_has ls 8 [(0, .ref (ad 0)), (2, .int x2)] → f_Mo_add_64 n μ x2 = some (r, μ') → WU p l e rm_Mo_add s m args below meth c H locs D (WM g ad μ') A (some (.int r)) (F0 m 64 ls []) := by
  intro n
  induction n with
  | zero => intro μ x2 ls H locs hP hS hl hf; rw [f_Mo_add_64] at hf; cases hf
  | succ n ih =>
    intro μ x2 ls H locs hP hS hl hf
    obtain ⟨S, hr, hlk, hK⟩ := id X
    obtain ⟨hx, hb, hml, hown, hts⟩ := id S
    rw [f_Mo_add_64] at hf
    refine lv_iload_n hx hb d_Mo_add_64 rfl (lv_at hl 1 rfl) ?_
    refine lv_aload_n hx hb d_Mo_add_65 rfl (lv_at hl 0 rfl) ?_
    refine mg_0_37 hx hb hts hown hK hP q_855 d_Mo_add_66 ?_
    refine lv_icmp_ge (tgt := 151) hx hb d_Mo_add_69 rfl (fun hc => ?_) (fun hc => ?_)
    · replace hf := br_p hc hf
      refine lv_aload_n hx hb d_Mo_add_151 rfl (lv_at hl 0 rfl) ?_
      refine mg_0_46 hx hb hts hown hK hP q_864 d_Mo_add_152 ?_
      refine lv_aload_n hx hb d_Mo_add_155 rfl (lv_at hl 0 rfl) ?_
      refine mg_0_50 hx hb hts hown hK hP q_868 d_Mo_add_156 ?_
      refine lv_iconst (v := 1) hx hb d_Mo_add_159 (by decide) ?_
      obtain ⟨hi, hf⟩ := gd_x hf
      obtain ⟨μ1, hμ1, hf⟩ := bd_x hf
      refine ms_36 hx hb hK (hDA _) hP hS (inb_in hi) rfl d_Mo_add_160 hμ1 (fun H locs hP hS => ?_)
      refine lv_aload_n hx hb d_Mo_add_161 rfl (lv_at hl 0 rfl) ?_
      refine mg_0_48 hx hb hts hown hK hP q_866 d_Mo_add_162 ?_
      refine lv_aload_n hx hb d_Mo_add_165 rfl (lv_at hl 0 rfl) ?_
      refine mg_0_50 hx hb hts hown hK hP q_868 d_Mo_add_166 ?_
      refine lv_iconst (v := -1) hx hb d_Mo_add_169 (by decide) ?_
      obtain ⟨hi, hf⟩ := gd_x hf
      obtain ⟨μ2, hμ2, hf⟩ := bd_x hf
      refine ms_38 hx hb hK (hDA _) hP hS (inb_in hi) d_Mo_add_170 hμ2 (fun H locs hP hS => ?_)
      refine lv_aload_n hx hb d_Mo_add_171 rfl (lv_at hl 0 rfl) ?_
      refine lv_dup hx hb d_Mo_add_172 rfl ?_
      refine mg_0_50 hx hb hts hown hK hP q_868 d_Mo_add_173 ?_
      refine lv_iconst (v := 1) hx hb d_Mo_add_176 (by decide) ?_
      refine lv_iadd hx hb d_Mo_add_177 ?_
      obtain ⟨μ3, hμ3, hf⟩ := bd_x hf
      refine mp_0_50 hx hb hts hown hK (hDA _) hP hS q_868 d_Mo_add_178 hμ3 (fun H locs hP hS => ?_)
      refine lv_aload_n hx hb d_Mo_add_181 rfl (lv_at hl 0 rfl) ?_
      refine mg_0_50 hx hb hts hown hK hP q_868 d_Mo_add_182 ?_
      refine lv_iconst (v := 1) hx hb d_Mo_add_185 (by decide) ?_
      refine lv_isub hx hb d_Mo_add_186 ?_
      obtain ⟨h1, h2⟩ := Prod.mk.inj (Option.some.inj hf)
      subst h1; subst h2
      exact W.iret hx hb hr (fun t ht _ => ⟨rfl, by rw [ht]; exact hP, hS.F ht⟩) hS.2.2 d_Mo_add_187
    · replace hf := br_n hc hf
      refine lv_aload_n hx hb d_Mo_add_72 rfl (lv_at hl 0 rfl) ?_
      refine lv_iload_n hx hb d_Mo_add_73 rfl (lv_at hl 1 rfl) ?_
      obtain ⟨v4, μ5, hv4, hf⟩ := cl2_x hf
      refine wrV (As := [.int x2]) (rest := []) S K_Mo_termOf q_1093 (c_Mo_termOf hDA hv4) hK hP hS ⟨rfl, rfl⟩ ⟨Nat.le_of_ble_eq_true rfl, Nat.le_of_ble_eq_true rfl⟩ (mr_0 hK hP) rfl hl.1 rfl (Nat.le_of_ble_eq_true rfl) d_Mo_add_74 ⟨Nat.le_refl _, Nat.le_refl _⟩ (fun H locs hP hS => ?_)
      refine lv_lstore_n (lv' := [(3, .long v4), (0, .ref (ad 0)), (2, .int x2)]) hx hb d_Mo_add_77 rfl hl (Nat.le_of_ble_eq_true rfl) rfl (fun ls hl => ?_)
      refine lv_aload_n hx hb d_Mo_add_78 rfl (lv_at hl 1 rfl) ?_
      refine lv_aload_n hx hb d_Mo_add_79 rfl (lv_at hl 1 rfl) ?_
      refine mg_0_50 hx hb hts hown hK hP q_868 d_Mo_add_80 ?_
      refine lv_lload_n hx hb d_Mo_add_83 rfl (lv_at hl 0 rfl) ?_
      refine lv_iload_n hx hb d_Mo_add_84 rfl (lv_at hl 2 rfl) ?_
      obtain ⟨μ7, hv6, hf⟩ := cl_x hf
      refine wrV (As := [.int (μ5.1 0 50), .long v4, .int x2]) (rest := []) S K_Mo_post q_1113 (c_Mo_post hDA hv6) hK hP hS ⟨rfl, rfl⟩ ⟨Nat.le_of_ble_eq_true rfl, Nat.le_of_ble_eq_true rfl⟩ (mr_0 hK hP) rfl hl.1 rfl (Nat.le_of_ble_eq_true rfl) d_Mo_add_85 ⟨Nat.le_refl _, Nat.le_refl _⟩ (fun H locs hP hS => ?_)
      refine lv_aload_n hx hb d_Mo_add_88 rfl (lv_at hl 1 rfl) ?_
      refine lv_iload_n hx hb d_Mo_add_89 rfl (lv_at hl 2 rfl) ?_
      obtain ⟨v8, hv8, hf⟩ := cl_x hf
      refine rdV (As := [.int x2]) (rest := []) S K_Mo_compound q_1085 (c_Mo_compound hv8) hK hP ⟨rfl, rfl⟩ ⟨Nat.le_of_ble_eq_true rfl, Nat.le_of_ble_eq_true rfl⟩ (mr_0 hK hP) rfl hl.1 rfl (Nat.le_of_ble_eq_true rfl) d_Mo_add_90 ⟨Nat.le_refl _, Nat.le_refl _⟩ ?_
      refine lv_istore (lv' := [(5, .int v8), (3, .long v4), (0, .ref (ad 0)), (2, .int x2)]) hx hb d_Mo_add_93 hl (Nat.le_of_ble_eq_true rfl) rfl (fun ls hl => ?_)
      refine lv_iload hx hb d_Mo_add_95 (lv_at hl 0 rfl) ?_
      refine lv_if_lt (tgt := 145) hx hb d_Mo_add_97 rfl (fun hc => ?_) (fun hc => ?_)
      · replace hf := br_p hc hf
        exact w_Mo_add_145 X hDA ih hP hS (lv_sub (l' := [(0, .ref (ad 0)), (2, .int x2)]) hl [2, 3] rfl) hf
      · replace hf := br_n hc hf
        refine lv_aload_n hx hb d_Mo_add_100 rfl (lv_at hl 2 rfl) ?_
        refine lv_aload_n hx hb d_Mo_add_101 rfl (lv_at hl 2 rfl) ?_
        refine mg_0_28 hx hb hts hown hK hP q_846 d_Mo_add_102 ?_
        refine lv_iload hx hb d_Mo_add_105 (lv_at hl 0 rfl) ?_
        obtain ⟨hi, hf⟩ := gd_x hf
        refine ml_22 hx hb hK hP (inb_in hi) d_Mo_add_107 ?_
        refine lv_aload_n hx hb d_Mo_add_108 rfl (lv_at hl 2 rfl) ?_
        refine mg_0_29 hx hb hts hown hK hP q_847 d_Mo_add_109 ?_
        refine lv_iload hx hb d_Mo_add_112 (lv_at hl 0 rfl) ?_
        obtain ⟨hi, hf⟩ := gd_x hf
        refine ml_23 hx hb hK hP (inb_in hi) d_Mo_add_114 ?_
        refine lv_aload_n hx hb d_Mo_add_115 rfl (lv_at hl 2 rfl) ?_
        refine mg_0_30 hx hb hts hown hK hP q_848 d_Mo_add_116 ?_
        refine lv_iload hx hb d_Mo_add_119 (lv_at hl 0 rfl) ?_
        obtain ⟨hi, hf⟩ := gd_x hf
        refine ml_24 hx hb hK hP (inb_in hi) d_Mo_add_121 ?_
        refine lv_aload_n hx hb d_Mo_add_122 rfl (lv_at hl 2 rfl) ?_
        refine mg_0_31 hx hb hts hown hK hP q_849 d_Mo_add_123 ?_
        refine lv_iload hx hb d_Mo_add_126 (lv_at hl 0 rfl) ?_
        obtain ⟨hi, hf⟩ := gd_x hf
        refine ml_25 hx hb hK hP (inb_in hi) d_Mo_add_128 ?_
        obtain ⟨v9, μ10, hv9, hf⟩ := cl2_x hf
        refine wrV (As := [.int (μ7.1 22 v8.toNatClampNeg), .int (μ7.1 23 v8.toNatClampNeg), .int (μ7.1 24 v8.toNatClampNeg), .int (μ7.1 25 v8.toNatClampNeg)]) (rest := []) S K_Mo_filtered q_1097 (c_Mo_filtered hDA hv9) hK hP hS ⟨rfl, rfl⟩ ⟨Nat.le_of_ble_eq_true rfl, Nat.le_of_ble_eq_true rfl⟩ (mr_0 hK hP) rfl hl.1 rfl (Nat.le_of_ble_eq_true rfl) d_Mo_add_129 ⟨Nat.le_refl _, Nat.le_refl _⟩ (fun H locs hP hS => ?_)
        refine lv_lstore (lv' := [(6, .long v9), (5, .int v8), (3, .long v4), (0, .ref (ad 0)), (2, .int x2)]) hx hb d_Mo_add_132 hl (Nat.le_of_ble_eq_true rfl) rfl (fun ls hl => ?_)
        refine lv_aload_n hx hb d_Mo_add_134 rfl (lv_at hl 3 rfl) ?_
        refine lv_aload_n hx hb d_Mo_add_135 rfl (lv_at hl 3 rfl) ?_
        refine mg_0_50 hx hb hts hown hK hP q_868 d_Mo_add_136 ?_
        refine lv_lload hx hb d_Mo_add_139 (lv_at hl 0 rfl) ?_
        refine lv_iload_n hx hb d_Mo_add_141 rfl (lv_at hl 4 rfl) ?_
        obtain ⟨μ12, hv11, hf⟩ := cl_x hf
        refine wrV (As := [.int (μ10.1 0 50), .long v9, .int x2]) (rest := []) S K_Mo_post q_1113 (c_Mo_post hDA hv11) hK hP hS ⟨rfl, rfl⟩ ⟨Nat.le_of_ble_eq_true rfl, Nat.le_of_ble_eq_true rfl⟩ (mr_0 hK hP) rfl hl.1 rfl (Nat.le_of_ble_eq_true rfl) d_Mo_add_142 ⟨Nat.le_refl _, Nat.le_refl _⟩ (fun H locs hP hS => ?_)
        exact w_Mo_add_145 X hDA ih hP hS (lv_sub (l' := [(0, .ref (ad 0)), (2, .int x2)]) hl [3, 4] rfl) hf
def f_Mo_add_27 (κ4 : Mem → Int32 → Int32 → Option (Int32 × Mem)) (n : Nat) (μ : Mem) (x2 : Int32) (s0 : Int32) (s1 : Bool) : Option (Int32 × Mem) := bd (s0 + (bz s1)) (fun v1 => bd (x2 + 1) (fun v2 => κ4 μ v1 v2))
set_option maxHeartbeats 4000000 in
set_option maxRecDepth 100000 in
theorem w_Mo_add_27 {p : Program} {l : Launch} {e : Env} {s : State} {m : MethodId} {args : Array Value} {below : List Frame} {meth : Method} {c : Code} {D : va_G} {g : Nat → ClassId} {ad : Nat → Nat} {r : Int32} {μ' : Mem} {A : Nat → Prop} {κ4 : Mem → Int32 → Int32 → Option (Int32 × Mem)} {n : Nat} {μ : Mem} {x2 : Int32} {s0 : Int32} {s1 : Bool} {ls : Array Slot} {H : Heap} {locs : List Loc} (X : Cx p s m args meth c b_Mo_add 8 R_Mo (some .int) D CL (TY g)) (hDA : ∀ μ : Mem, va_D A (WM g ad μ)) (hκ4 : ∀ (μ : Mem) (x1 : Int32) (x2 : Int32) (ls : Array Slot) (H : Heap) (locs : List Loc), va_P D CL (WM g ad μ) H → va_S A s.heap H locs → lv_has ls 8 [(0, .ref (ad 0)), (1, .int x1), (2, .int x2)] → κ4 μ x1 x2 = some (r, μ') → WU p l e rm_Mo_add s m args below meth c H locs D (WM g ad μ') A (some (.int r)) (F0 m 4 ls [])) (hP : va_P D CL (WM g ad μ) H) (hS : va_S A s.heap H locs) (hl : lv_has ls 8 [(0, .ref (ad 0)), (2, .int x2)]) (hf : f_Mo_add_27 κ4 n μ x2 s0 s1 = some (r, μ')) : WU p l e rm_Mo_add s m args below meth c H locs D (WM g ad μ') A (some (.int r)) (F0 m 27 ls [.int (bz s1), .int s0]) := by
  obtain ⟨S, hr, hlk, hK⟩ := id X
  obtain ⟨hx, hb, hml, hown, hts⟩ := id S
  rw [f_Mo_add_27] at hf
  refine lv_iadd hx hb d_Mo_add_27 ?_
  obtain ⟨v1, hv1, hf⟩ := bd_x hf
  refine top_i hv1 ?_
  refine lv_istore_n (lv' := [(1, .int v1), (0, .ref (ad 0)), (2, .int x2)]) hx hb d_Mo_add_28 rfl hl (Nat.le_of_ble_eq_true rfl) rfl (fun ls hl => ?_)
  obtain ⟨v2, hv2, hf⟩ := bd_x hf
  refine lv_iinc (lv' := [(2, .int v2), (1, .int v1), (0, .ref (ad 0))]) hx hb d_Mo_add_29 hl (k := 2) rfl (show x2 + Int32.ofInt (1) = v2 from hv2) (Nat.le_of_ble_eq_true rfl) rfl (fun ls hl => ?_)
  refine lv_goto (tgt := 4) hx hb d_Mo_add_32 rfl ?_
  exact hκ4 _ _ _ _ _ _ hP hS (lv_sub (l' := [(0, .ref (ad 0)), (1, .int v1), (2, .int v2)]) hl [2, 1, 0] rfl) hf
def f_Mo_add_4 : Nat → Mem → Int32 → Int32 → Option (Int32 × Mem)
  | 0, _, _, _ => none
  | n + 1, μ, x1, x2 => (if (μ.1 0 50) ≤ x2 then (if (μ.1 0 1) = 0 then (some ((-1 : Int32), μ)) else (if (40 : Int32) ≤ (μ.1 0 50) then (some ((-1 : Int32), μ)) else (if x1 < (4 : Int32) then (cl (f_Mo_cut n μ) (fun μ2 => f_Mo_add_64 n μ2 (0 : Int32))) else (some ((-1 : Int32), μ))))) else (gd (inb x2 40) ((if (μ.1 36 x2.toNatClampNeg) = 0 then (f_Mo_add_27 (f_Mo_add_4 n) n μ x2 x1 false) else (f_Mo_add_27 (f_Mo_add_4 n) n μ x2 x1 true)))))
set_option maxHeartbeats 4000000 in
set_option maxRecDepth 100000 in
theorem w_Mo_add_4 {p : Program} {l : Launch} {e : Env} {s : State} {m : MethodId} {args : Array Value} {below : List Frame} {meth : Method} {c : Code} {D : va_G} {g : Nat → ClassId} {ad : Nat → Nat} {r : Int32} {μ' : Mem} {A : Nat → Prop} (X : Cx p s m args meth c b_Mo_add 8 R_Mo (some .int) D CL (TY g)) (hDA : ∀ μ : Mem, va_D A (WM g ad μ)) : ∀ (n : Nat) (μ : Mem) (x1 : Int32) (x2 : Int32) (ls : Array Slot) (H : Heap) (locs : List Loc), va_P D CL (WM g ad μ) H → va_S A s.heap H locs → lv_has ls 8 [(0, .ref (ad 0)), (1, .int x1), (2, .int x2)] → f_Mo_add_4 n μ x1 x2 = some (r, μ') → WU p l e rm_Mo_add s m args below meth c H locs D (WM g ad μ') A (some (.int r)) (F0 m 4 ls []) := by
  intro n
  induction n with
  | zero => intro μ x1 x2 ls H locs hP hS hl hf; rw [f_Mo_add_4] at hf; cases hf
  | succ n ih =>
    intro μ x1 x2 ls H locs hP hS hl hf
    obtain ⟨S, hr, hlk, hK⟩ := id X
    obtain ⟨hx, hb, hml, hown, hts⟩ := id S
    rw [f_Mo_add_4] at hf
    refine lv_iload_n hx hb d_Mo_add_4 rfl (lv_at hl 2 rfl) ?_
    refine lv_aload_n hx hb d_Mo_add_5 rfl (lv_at hl 0 rfl) ?_
    refine mg_0_50 hx hb hts hown hK hP q_868 d_Mo_add_6 ?_
    refine lv_icmp_ge (tgt := 35) hx hb d_Mo_add_9 rfl (fun hc => ?_) (fun hc => ?_)
    · replace hf := br_p hc hf
      refine lv_aload_n hx hb d_Mo_add_35 rfl (lv_at hl 0 rfl) ?_
      refine mg_0_1 hx hb hts hown hK hP q_819 d_Mo_add_36 ?_
      refine lv_if_eq (tgt := 56) hx hb d_Mo_add_39 rfl (fun hc => ?_) (fun hc => ?_)
      · replace hf := br_p hc hf
        refine lv_iconst (v := -1) hx hb d_Mo_add_56 (by decide) ?_
        obtain ⟨h1, h2⟩ := Prod.mk.inj (Option.some.inj hf)
        subst h1; subst h2
        exact W.iret hx hb hr (fun t ht _ => ⟨rfl, by rw [ht]; exact hP, hS.F ht⟩) hS.2.2 d_Mo_add_57
      · replace hf := br_n hc hf
        refine lv_aload_n hx hb d_Mo_add_42 rfl (lv_at hl 0 rfl) ?_
        refine mg_0_50 hx hb hts hown hK hP q_868 d_Mo_add_43 ?_
        refine lv_bipush (v := 40) hx hb d_Mo_add_46 (by decide) ?_
        refine lv_icmp_ge (tgt := 56) hx hb d_Mo_add_48 rfl (fun hc => ?_) (fun hc => ?_)
        · replace hf := br_p hc hf
          refine lv_iconst (v := -1) hx hb d_Mo_add_56 (by decide) ?_
          obtain ⟨h1, h2⟩ := Prod.mk.inj (Option.some.inj hf)
          subst h1; subst h2
          exact W.iret hx hb hr (fun t ht _ => ⟨rfl, by rw [ht]; exact hP, hS.F ht⟩) hS.2.2 d_Mo_add_57
        · replace hf := br_n hc hf
          refine lv_iload_n hx hb d_Mo_add_51 rfl (lv_at hl 1 rfl) ?_
          refine lv_iconst (v := 4) hx hb d_Mo_add_52 (by decide) ?_
          refine lv_icmp_lt (tgt := 58) hx hb d_Mo_add_53 rfl (fun hc => ?_) (fun hc => ?_)
          · replace hf := br_p hc hf
            refine lv_aload_n hx hb d_Mo_add_58 rfl (lv_at hl 0 rfl) ?_
            obtain ⟨μ2, hv1, hf⟩ := cl_x hf
            refine wrV (As := []) (rest := []) S K_Mo_cut q_1073 (c_Mo_cut hDA hv1) hK hP hS ⟨rfl, rfl⟩ ⟨Nat.le_of_ble_eq_true rfl, Nat.le_of_ble_eq_true rfl⟩ (mr_0 hK hP) rfl hl.1 rfl (Nat.le_of_ble_eq_true rfl) d_Mo_add_59 ⟨Nat.le_refl _, Nat.le_refl _⟩ (fun H locs hP hS => ?_)
            refine lv_iconst (v := 0) hx hb d_Mo_add_62 (by decide) ?_
            refine lv_istore_n (lv' := [(2, .int (0 : Int32)), (0, .ref (ad 0)), (1, .int x1)]) hx hb d_Mo_add_63 rfl hl (Nat.le_of_ble_eq_true rfl) rfl (fun ls hl => ?_)
            exact w_Mo_add_64 X hDA _ _ _ _ _ _ hP hS (lv_sub (l' := [(0, .ref (ad 0)), (2, .int (0 : Int32))]) hl [1, 0] rfl) hf
          · replace hf := br_n hc hf
            refine lv_iconst (v := -1) hx hb d_Mo_add_56 (by decide) ?_
            obtain ⟨h1, h2⟩ := Prod.mk.inj (Option.some.inj hf)
            subst h1; subst h2
            exact W.iret hx hb hr (fun t ht _ => ⟨rfl, by rw [ht]; exact hP, hS.F ht⟩) hS.2.2 d_Mo_add_57
    · replace hf := br_n hc hf
      refine lv_iload_n hx hb d_Mo_add_12 rfl (lv_at hl 1 rfl) ?_
      refine lv_aload_n hx hb d_Mo_add_13 rfl (lv_at hl 0 rfl) ?_
      refine mg_0_46 hx hb hts hown hK hP q_864 d_Mo_add_14 ?_
      refine lv_iload_n hx hb d_Mo_add_17 rfl (lv_at hl 2 rfl) ?_
      obtain ⟨hi, hf⟩ := gd_x hf
      refine ml_36 hx hb hK hP (inb_in hi) d_Mo_add_18 ?_
      refine lv_if_eq (tgt := 26) hx hb d_Mo_add_19 rfl (fun hc => ?_) (fun hc => ?_)
      · replace hf := br_p hc hf
        refine lv_iconst (v := 0) hx hb d_Mo_add_26 (by decide) ?_
        refine top_i (z := bz false) (by decide) ?_
        exact w_Mo_add_27 X hDA ih hP hS (lv_sub (l' := [(0, .ref (ad 0)), (2, .int x2)]) hl [0, 2] rfl) hf
      · replace hf := br_n hc hf
        refine lv_iconst (v := 1) hx hb d_Mo_add_22 (by decide) ?_
        refine lv_goto (tgt := 27) hx hb d_Mo_add_23 rfl ?_
        refine top_i (z := bz true) (by decide) ?_
        exact w_Mo_add_27 X hDA ih hP hS (lv_sub (l' := [(0, .ref (ad 0)), (2, .int x2)]) hl [0, 2] rfl) hf
def f_Mo_add (n : Nat) (μ : Mem) : Option (Int32 × Mem) := f_Mo_add_4 n μ (0 : Int32) (0 : Int32)
set_option maxHeartbeats 4000000 in
set_option maxRecDepth 100000 in
theorem w_Mo_add {p : Program} {l : Launch} {e : Env} {s : State} {m : MethodId} {args : Array Value} {below : List Frame} {meth : Method} {c : Code} {D : va_G} {g : Nat → ClassId} {ad : Nat → Nat} {r : Int32} {μ' : Mem} {A : Nat → Prop} {n : Nat} {μ : Mem} {ls : Array Slot} {H : Heap} {locs : List Loc} (X : Cx p s m args meth c b_Mo_add 8 R_Mo (some .int) D CL (TY g)) (hDA : ∀ μ : Mem, va_D A (WM g ad μ)) (hP : va_P D CL (WM g ad μ) H) (hS : va_S A s.heap H locs) (hl : lv_has ls 8 [(0, .ref (ad 0))]) (hf : f_Mo_add n μ = some (r, μ')) : WU p l e rm_Mo_add s m args below meth c H locs D (WM g ad μ') A (some (.int r)) (F0 m 0 ls []) := by
  obtain ⟨S, hr, hlk, hK⟩ := id X
  obtain ⟨hx, hb, hml, hown, hts⟩ := id S
  rw [f_Mo_add] at hf
  refine lv_iconst (v := 0) hx hb d_Mo_add_0 (by decide) ?_
  refine lv_istore_n (lv' := [(1, .int (0 : Int32)), (0, .ref (ad 0))]) hx hb d_Mo_add_1 rfl hl (Nat.le_of_ble_eq_true rfl) rfl (fun ls hl => ?_)
  refine lv_iconst (v := 0) hx hb d_Mo_add_2 (by decide) ?_
  refine lv_istore_n (lv' := [(2, .int (0 : Int32)), (1, .int (0 : Int32)), (0, .ref (ad 0))]) hx hb d_Mo_add_3 rfl hl (Nat.le_of_ble_eq_true rfl) rfl (fun ls hl => ?_)
  exact w_Mo_add_4 X hDA _ _ _ _ _ _ _ hP hS (lv_sub (l' := [(0, .ref (ad 0)), (1, .int (0 : Int32)), (2, .int (0 : Int32))]) hl [2, 1, 0] rfl) hf
theorem c_Mo_add {l : Launch} {D : va_G} {g : Nat → ClassId} {ad : Nat → Nat} {μ : Mem} {r : Int32} {μ' : Mem} {A : Nat → Prop} {n : Nat} (hDA : ∀ μ : Mem, va_D A (WM g ad μ)) (hf : f_Mo_add n μ = some (r, μ')) : Met l y_Mo_add (Cond.code y_Mo_add b_Mo_add 8 (some .int) :: ww) rm_Mo_add (RP D CL (TY g) (WM g ad μ) [.ref (ad 0)]) (QW D CL (WM g ad μ') A (some (.int r))) 0 0 A := by
  refine met_of (by decide) (Nat.le_of_ble_eq_true rfl) ?_
  intro p e s m below meth c ls X hP hl
  have hl : lv_has ls 8 [(0, .ref (ad 0))] := hl
  exact w_Mo_add X hDA hP va_S.rf hl hf
theorem d_Mo_drop_0 : decode b_Mo_drop 0 = .ok (.iload_n 1, 1) := by decide +kernel
theorem d_Mo_drop_1 : decode b_Mo_drop 1 = .ok (.iconst 0, 1) := by decide +kernel
theorem d_Mo_drop_2 : decode b_Mo_drop 2 = .ok (.aload_n 0, 1) := by decide +kernel
theorem d_Mo_drop_3 : decode b_Mo_drop 3 = .ok (.getfield 244, 3) := by decide +kernel
theorem d_Mo_drop_6 : decode b_Mo_drop 6 = .ok (.iconst 1, 1) := by decide +kernel
theorem d_Mo_drop_7 : decode b_Mo_drop 7 = .ok (.isub, 1) := by decide +kernel
theorem d_Mo_drop_8 : decode b_Mo_drop 8 = .ok (.invokestatic 142, 3) := by decide +kernel
theorem d_Mo_drop_11 : decode b_Mo_drop 11 = .ok (.ifCond .eq 12, 3) := by decide +kernel
theorem d_Mo_drop_14 : decode b_Mo_drop 14 = .ok (.aload_n 0, 1) := by decide +kernel
theorem d_Mo_drop_15 : decode b_Mo_drop 15 = .ok (.getfield 120, 3) := by decide +kernel
theorem d_Mo_drop_18 : decode b_Mo_drop 18 = .ok (.iload_n 1, 1) := by decide +kernel
theorem d_Mo_drop_19 : decode b_Mo_drop 19 = .ok (.baload, 1) := by decide +kernel
theorem d_Mo_drop_20 : decode b_Mo_drop 20 = .ok (.ifCond .eq 5, 3) := by decide +kernel
theorem d_Mo_drop_23 : decode b_Mo_drop 23 = .ok (.iconst 0, 1) := by decide +kernel
theorem d_Mo_drop_24 : decode b_Mo_drop 24 = .ok (.ireturn, 1) := by decide +kernel
theorem d_Mo_drop_25 : decode b_Mo_drop 25 = .ok (.aload_n 0, 1) := by decide +kernel
theorem d_Mo_drop_26 : decode b_Mo_drop 26 = .ok (.getfield 120, 3) := by decide +kernel
theorem d_Mo_drop_29 : decode b_Mo_drop 29 = .ok (.iload_n 1, 1) := by decide +kernel
theorem d_Mo_drop_30 : decode b_Mo_drop 30 = .ok (.iconst 1, 1) := by decide +kernel
theorem d_Mo_drop_31 : decode b_Mo_drop 31 = .ok (.bastore, 1) := by decide +kernel
theorem d_Mo_drop_32 : decode b_Mo_drop 32 = .ok (.aload_n 0, 1) := by decide +kernel
theorem d_Mo_drop_33 : decode b_Mo_drop 33 = .ok (.getfield 116, 3) := by decide +kernel
theorem d_Mo_drop_36 : decode b_Mo_drop 36 = .ok (.iload_n 1, 1) := by decide +kernel
theorem d_Mo_drop_37 : decode b_Mo_drop 37 = .ok (.iconst 0, 1) := by decide +kernel
theorem d_Mo_drop_38 : decode b_Mo_drop 38 = .ok (.bastore, 1) := by decide +kernel
theorem d_Mo_drop_39 : decode b_Mo_drop 39 = .ok (.iconst 1, 1) := by decide +kernel
theorem d_Mo_drop_40 : decode b_Mo_drop 40 = .ok (.ireturn, 1) := by decide +kernel
abbrev rm_Mo_drop : Room := { frames := 1, cells := 0, slots := 0, locals := 22 }
def f_Mo_drop (n : Nat) (μ : Mem) (a1 : Int32) : Option (Bool × Mem) := cl (f_Mo_in n a1 (0 : Int32) ((μ.1 0 50) - (1 : Int32))) (fun v1 => (if (bz v1) = 0 then (some (false, μ)) else (gd (inb a1 40) ((if (μ.1 37 a1.toNatClampNeg) = 0 then (gd (inb a1 40) (bd (wi μ 37 a1.toNatClampNeg (1 : Int32)) (fun μ2 => gd (inb a1 40) (bd (wi μ2 36 a1.toNatClampNeg (0 : Int32)) (fun μ3 => some (true, μ3)))))) else (some (false, μ)))))))
set_option maxHeartbeats 4000000 in
set_option maxRecDepth 100000 in
theorem w_Mo_drop {p : Program} {l : Launch} {e : Env} {s : State} {m : MethodId} {args : Array Value} {below : List Frame} {meth : Method} {c : Code} {D : va_G} {g : Nat → ClassId} {ad : Nat → Nat} {r : Bool} {μ' : Mem} {A : Nat → Prop} {n : Nat} {μ : Mem} {a1 : Int32} {ls : Array Slot} {H : Heap} {locs : List Loc} (X : Cx p s m args meth c b_Mo_drop 2 R_Mo (some .boolean) D CL (TY g)) (hDA : ∀ μ : Mem, va_D A (WM g ad μ)) (hP : va_P D CL (WM g ad μ) H) (hS : va_S A s.heap H locs) (hl : lv_has ls 2 [(0, .ref (ad 0)), (1, .int a1)]) (hf : f_Mo_drop n μ a1 = some (r, μ')) : WU p l e rm_Mo_drop s m args below meth c H locs D (WM g ad μ') A (some (.int (bz r))) (F0 m 0 ls []) := by
  obtain ⟨S, hr, hlk, hK⟩ := id X
  obtain ⟨hx, hb, hml, hown, hts⟩ := id S
  rw [f_Mo_drop] at hf
  refine lv_iload_n hx hb d_Mo_drop_0 rfl (lv_at hl 1 rfl) ?_
  refine lv_iconst (v := 0) hx hb d_Mo_drop_1 (by decide) ?_
  refine lv_aload_n hx hb d_Mo_drop_2 rfl (lv_at hl 0 rfl) ?_
  refine mg_0_50 hx hb hts hown hK hP q_868 d_Mo_drop_3 ?_
  refine lv_iconst (v := 1) hx hb d_Mo_drop_6 (by decide) ?_
  refine lv_isub hx hb d_Mo_drop_7 ?_
  obtain ⟨v1, hv1, hf⟩ := cl_x hf
  refine rdS (As := [.int a1, .int (0 : Int32), .int ((μ.1 0 50) - (1 : Int32))]) (rest := []) S K_Mo_in q_985 (c_Mo_in (w := (WM g ad μ)) hv1) hK hP ⟨rfl, rfl⟩ ⟨Nat.le_of_ble_eq_true rfl, Nat.le_of_ble_eq_true rfl⟩ rfl hl.1 rfl (Nat.le_of_ble_eq_true rfl) d_Mo_drop_8 ⟨Nat.le_refl _, Nat.le_refl _⟩ ?_
  refine lv_if_eq (tgt := 23) hx hb d_Mo_drop_11 rfl (fun hc => ?_) (fun hc => ?_)
  · replace hf := br_p hc hf
    refine lv_iconst (v := 0) hx hb d_Mo_drop_23 (by decide) ?_
    obtain ⟨h1, h2⟩ := Prod.mk.inj (Option.some.inj hf)
    subst h1; subst h2
    exact W.zret hx hb hr (by first | rfl | exact bz_nar _) (fun t ht _ => ⟨rfl, by rw [ht]; exact hP, hS.F ht⟩) hS.2.2 d_Mo_drop_24
  · replace hf := br_n hc hf
    refine lv_aload_n hx hb d_Mo_drop_14 rfl (lv_at hl 0 rfl) ?_
    refine mg_0_47 hx hb hts hown hK hP q_865 d_Mo_drop_15 ?_
    refine lv_iload_n hx hb d_Mo_drop_18 rfl (lv_at hl 1 rfl) ?_
    obtain ⟨hi, hf⟩ := gd_x hf
    refine ml_37 hx hb hK hP (inb_in hi) d_Mo_drop_19 ?_
    refine lv_if_eq (tgt := 25) hx hb d_Mo_drop_20 rfl (fun hc => ?_) (fun hc => ?_)
    · replace hf := br_p hc hf
      refine lv_aload_n hx hb d_Mo_drop_25 rfl (lv_at hl 0 rfl) ?_
      refine mg_0_47 hx hb hts hown hK hP q_865 d_Mo_drop_26 ?_
      refine lv_iload_n hx hb d_Mo_drop_29 rfl (lv_at hl 1 rfl) ?_
      refine lv_iconst (v := 1) hx hb d_Mo_drop_30 (by decide) ?_
      obtain ⟨hi, hf⟩ := gd_x hf
      obtain ⟨μ2, hμ2, hf⟩ := bd_x hf
      refine ms_37 hx hb hK (hDA _) hP hS (inb_in hi) rfl d_Mo_drop_31 hμ2 (fun H locs hP hS => ?_)
      refine lv_aload_n hx hb d_Mo_drop_32 rfl (lv_at hl 0 rfl) ?_
      refine mg_0_46 hx hb hts hown hK hP q_864 d_Mo_drop_33 ?_
      refine lv_iload_n hx hb d_Mo_drop_36 rfl (lv_at hl 1 rfl) ?_
      refine lv_iconst (v := 0) hx hb d_Mo_drop_37 (by decide) ?_
      obtain ⟨hi, hf⟩ := gd_x hf
      obtain ⟨μ3, hμ3, hf⟩ := bd_x hf
      refine ms_36 hx hb hK (hDA _) hP hS (inb_in hi) rfl d_Mo_drop_38 hμ3 (fun H locs hP hS => ?_)
      refine lv_iconst (v := 1) hx hb d_Mo_drop_39 (by decide) ?_
      obtain ⟨h1, h2⟩ := Prod.mk.inj (Option.some.inj hf)
      subst h1; subst h2
      exact W.zret hx hb hr (by first | rfl | exact bz_nar _) (fun t ht _ => ⟨rfl, by rw [ht]; exact hP, hS.F ht⟩) hS.2.2 d_Mo_drop_40
    · replace hf := br_n hc hf
      refine lv_iconst (v := 0) hx hb d_Mo_drop_23 (by decide) ?_
      obtain ⟨h1, h2⟩ := Prod.mk.inj (Option.some.inj hf)
      subst h1; subst h2
      exact W.zret hx hb hr (by first | rfl | exact bz_nar _) (fun t ht _ => ⟨rfl, by rw [ht]; exact hP, hS.F ht⟩) hS.2.2 d_Mo_drop_24
theorem c_Mo_drop {l : Launch} {D : va_G} {g : Nat → ClassId} {ad : Nat → Nat} {μ : Mem} {r : Bool} {μ' : Mem} {A : Nat → Prop} {n : Nat} {a1 : Int32} (hDA : ∀ μ : Mem, va_D A (WM g ad μ)) (hf : f_Mo_drop n μ a1 = some (r, μ')) : Met l y_Mo_drop (Cond.code y_Mo_drop b_Mo_drop 2 (some .boolean) :: ww) rm_Mo_drop (RP D CL (TY g) (WM g ad μ) [.ref (ad 0), .int a1]) (QW D CL (WM g ad μ') A (some (.int (bz r)))) 0 0 A := by
  refine met_of (by decide) (Nat.le_of_ble_eq_true rfl) ?_
  intro p e s m below meth c ls X hP hl
  have hl : lv_has ls 2 [(0, .ref (ad 0)), (1, .int a1)] := hl
  exact w_Mo_drop X hDA hP va_S.rf hl hf
theorem d_Mo_lying_0 : decode b_Mo_lying 0 = .ok (.iconst 0, 1) := by decide +kernel
theorem d_Mo_lying_1 : decode b_Mo_lying 1 = .ok (.istore_n 2, 1) := by decide +kernel
theorem d_Mo_lying_2 : decode b_Mo_lying 2 = .ok (.iconst 0, 1) := by decide +kernel
theorem d_Mo_lying_3 : decode b_Mo_lying 3 = .ok (.istore_n 3, 1) := by decide +kernel
theorem d_Mo_lying_4 : decode b_Mo_lying 4 = .ok (.iload_n 3, 1) := by decide +kernel
theorem d_Mo_lying_5 : decode b_Mo_lying 5 = .ok (.aload_n 0, 1) := by decide +kernel
theorem d_Mo_lying_6 : decode b_Mo_lying 6 = .ok (.getfield 244, 3) := by decide +kernel
theorem d_Mo_lying_9 : decode b_Mo_lying 9 = .ok (.if_icmp .ge 27, 3) := by decide +kernel
theorem d_Mo_lying_12 : decode b_Mo_lying 12 = .ok (.iload_n 2, 1) := by decide +kernel
theorem d_Mo_lying_13 : decode b_Mo_lying 13 = .ok (.aload_n 0, 1) := by decide +kernel
theorem d_Mo_lying_14 : decode b_Mo_lying 14 = .ok (.getfield 123, 3) := by decide +kernel
theorem d_Mo_lying_17 : decode b_Mo_lying 17 = .ok (.iload_n 3, 1) := by decide +kernel
theorem d_Mo_lying_18 : decode b_Mo_lying 18 = .ok (.iaload, 1) := by decide +kernel
theorem d_Mo_lying_19 : decode b_Mo_lying 19 = .ok (.iload_n 1, 1) := by decide +kernel
theorem d_Mo_lying_20 : decode b_Mo_lying 20 = .ok (.if_icmp .ne 7, 3) := by decide +kernel
theorem d_Mo_lying_23 : decode b_Mo_lying 23 = .ok (.iconst 1, 1) := by decide +kernel
theorem d_Mo_lying_24 : decode b_Mo_lying 24 = .ok (.goto 4, 3) := by decide +kernel
theorem d_Mo_lying_27 : decode b_Mo_lying 27 = .ok (.iconst 0, 1) := by decide +kernel
theorem d_Mo_lying_28 : decode b_Mo_lying 28 = .ok (.iadd, 1) := by decide +kernel
theorem d_Mo_lying_29 : decode b_Mo_lying 29 = .ok (.istore_n 2, 1) := by decide +kernel
theorem d_Mo_lying_30 : decode b_Mo_lying 30 = .ok (.iinc 3 1, 3) := by decide +kernel
theorem d_Mo_lying_33 : decode b_Mo_lying 33 = .ok (.goto (-29), 3) := by decide +kernel
theorem d_Mo_lying_36 : decode b_Mo_lying 36 = .ok (.iload_n 2, 1) := by decide +kernel
theorem d_Mo_lying_37 : decode b_Mo_lying 37 = .ok (.ireturn, 1) := by decide +kernel
abbrev rm_Mo_lying : Room := { frames := 0, cells := 0, slots := 0, locals := 0 }
def f_Mo_lying_28 (κ4 : Int32 → Int32 → Int32 → Option Int32) (μ : Mem) (n : Nat) (x1 : Int32) (x3 : Int32) (s0 : Int32) (s1 : Bool) : Option Int32 := bd (s0 + (bz s1)) (fun v1 => bd (x3 + 1) (fun v2 => κ4 x1 v1 v2))
set_option maxHeartbeats 4000000 in
set_option maxRecDepth 100000 in
theorem w_Mo_lying_28 {p : Program} {l : Launch} {e : Env} {s : State} {m : MethodId} {args : Array Value} {below : List Frame} {meth : Method} {c : Code} {D : va_G} {g : Nat → ClassId} {ad : Nat → Nat} {μ : Mem} {r : Int32} {κ4 : Int32 → Int32 → Int32 → Option Int32} {n : Nat} {x1 : Int32} {x3 : Int32} {s0 : Int32} {s1 : Bool} {ls : Array Slot} (X : Cx p s m args meth c b_Mo_lying 4 R_Mo (some .int) D CL (TY g)) (hP : va_P D CL (WM g ad μ) s.heap) (hκ4 : ∀ (x1 : Int32) (x2 : Int32) (x3 : Int32) (ls : Array Slot), lv_has ls 4 [(0, .ref (ad 0)), (1, .int x1), (2, .int x2), (3, .int x3)] → κ4 x1 x2 x3 = some r → WR p l e rm_Mo_lying s m args below meth c (.int r) (F0 m 4 ls [])) (hl : lv_has ls 4 [(0, .ref (ad 0)), (1, .int x1), (3, .int x3)]) (hf : f_Mo_lying_28 κ4 μ n x1 x3 s0 s1 = some r) : WR p l e rm_Mo_lying s m args below meth c (.int r) (F0 m 28 ls [.int (bz s1), .int s0]) := by
  obtain ⟨S, hr, hlk, hK⟩ := id X
  obtain ⟨hx, hb, hml, hown, hts⟩ := id S
  rw [f_Mo_lying_28] at hf
  refine lv_iadd hx hb d_Mo_lying_28 ?_
  obtain ⟨v1, hv1, hf⟩ := bd_x hf
  refine top_i hv1 ?_
  refine lv_istore_n (lv' := [(2, .int v1), (0, .ref (ad 0)), (1, .int x1), (3, .int x3)]) hx hb d_Mo_lying_29 rfl hl (Nat.le_of_ble_eq_true rfl) rfl (fun ls hl => ?_)
  obtain ⟨v2, hv2, hf⟩ := bd_x hf
  refine lv_iinc (lv' := [(3, .int v2), (2, .int v1), (0, .ref (ad 0)), (1, .int x1)]) hx hb d_Mo_lying_30 hl (k := 3) rfl (show x3 + Int32.ofInt (1) = v2 from hv2) (Nat.le_of_ble_eq_true rfl) rfl (fun ls hl => ?_)
  refine lv_goto (tgt := 4) hx hb d_Mo_lying_33 rfl ?_
  exact hκ4 _ _ _ _ (lv_sub (l' := [(0, .ref (ad 0)), (1, .int x1), (2, .int v1), (3, .int v2)]) hl [2, 3, 1, 0] rfl) hf
def f_Mo_lying_4 (μ : Mem) : Nat → Int32 → Int32 → Int32 → Option Int32
  | 0, _, _, _ => none
  | n + 1, x1, x2, x3 => (if (μ.1 0 50) ≤ x3 then (some x2) else (gd (inb x3 40) ((if (μ.1 38 x3.toNatClampNeg) = x1 then (f_Mo_lying_28 (f_Mo_lying_4 μ n) μ n x1 x3 x2 true) else (f_Mo_lying_28 (f_Mo_lying_4 μ n) μ n x1 x3 x2 false)))))
set_option maxHeartbeats 4000000 in
set_option maxRecDepth 100000 in
theorem w_Mo_lying_4 {p : Program} {l : Launch} {e : Env} {s : State} {m : MethodId} {args : Array Value} {below : List Frame} {meth : Method} {c : Code} {D : va_G} {g : Nat → ClassId} {ad : Nat → Nat} {μ : Mem} {r : Int32} (X : Cx p s m args meth c b_Mo_lying 4 R_Mo (some .int) D CL (TY g)) (hP : va_P D CL (WM g ad μ) s.heap) : ∀ (n : Nat) (x1 : Int32) (x2 : Int32) (x3 : Int32) (ls : Array Slot), lv_has ls 4 [(0, .ref (ad 0)), (1, .int x1), (2, .int x2), (3, .int x3)] → f_Mo_lying_4 μ n x1 x2 x3 = some r → WR p l e rm_Mo_lying s m args below meth c (.int r) (F0 m 4 ls []) := by
  intro n
  induction n with
  | zero => intro x1 x2 x3 ls hl hf; rw [f_Mo_lying_4] at hf; cases hf
  | succ n ih =>
    intro x1 x2 x3 ls hl hf
    obtain ⟨S, hr, hlk, hK⟩ := id X
    obtain ⟨hx, hb, hml, hown, hts⟩ := id S
    rw [f_Mo_lying_4] at hf
    refine lv_iload_n hx hb d_Mo_lying_4 rfl (lv_at hl 3 rfl) ?_
    refine lv_aload_n hx hb d_Mo_lying_5 rfl (lv_at hl 0 rfl) ?_
    refine mg_0_50 hx hb hts hown hK hP q_868 d_Mo_lying_6 ?_
    refine lv_icmp_ge (tgt := 36) hx hb d_Mo_lying_9 rfl (fun hc => ?_) (fun hc => ?_)
    · replace hf := br_p hc hf
      refine lv_iload_n hx hb d_Mo_lying_36 rfl (lv_at hl 2 rfl) ?_
      have h1 := Option.some.inj hf
      subst h1
      exact W.iret hx hb hr (fun t ht _ => ⟨rfl, ht⟩) (fun _ h => by cases h) d_Mo_lying_37
    · replace hf := br_n hc hf
      refine lv_iload_n hx hb d_Mo_lying_12 rfl (lv_at hl 2 rfl) ?_
      refine lv_aload_n hx hb d_Mo_lying_13 rfl (lv_at hl 0 rfl) ?_
      refine mg_0_48 hx hb hts hown hK hP q_866 d_Mo_lying_14 ?_
      refine lv_iload_n hx hb d_Mo_lying_17 rfl (lv_at hl 3 rfl) ?_
      obtain ⟨hi, hf⟩ := gd_x hf
      refine ml_38 hx hb hK hP (inb_in hi) d_Mo_lying_18 ?_
      refine lv_iload_n hx hb d_Mo_lying_19 rfl (lv_at hl 1 rfl) ?_
      refine lv_icmp_ne (tgt := 27) hx hb d_Mo_lying_20 rfl (fun hc => ?_) (fun hc => ?_)
      · replace hf := br_n hc hf
        refine lv_iconst (v := 0) hx hb d_Mo_lying_27 (by decide) ?_
        refine top_i (z := bz false) (by decide) ?_
        exact w_Mo_lying_28 X hP ih (lv_sub (l' := [(0, .ref (ad 0)), (1, .int x1), (3, .int x3)]) hl [0, 1, 3] rfl) hf
      · replace hf := br_p hc hf
        refine lv_iconst (v := 1) hx hb d_Mo_lying_23 (by decide) ?_
        refine lv_goto (tgt := 28) hx hb d_Mo_lying_24 rfl ?_
        refine top_i (z := bz true) (by decide) ?_
        exact w_Mo_lying_28 X hP ih (lv_sub (l' := [(0, .ref (ad 0)), (1, .int x1), (3, .int x3)]) hl [0, 1, 3] rfl) hf
def f_Mo_lying (n : Nat) (μ : Mem) (a1 : Int32) : Option Int32 := f_Mo_lying_4 μ n a1 (0 : Int32) (0 : Int32)
set_option maxHeartbeats 4000000 in
set_option maxRecDepth 100000 in
theorem w_Mo_lying {p : Program} {l : Launch} {e : Env} {s : State} {m : MethodId} {args : Array Value} {below : List Frame} {meth : Method} {c : Code} {D : va_G} {g : Nat → ClassId} {ad : Nat → Nat} {μ : Mem} {r : Int32} {n : Nat} {a1 : Int32} {ls : Array Slot} (X : Cx p s m args meth c b_Mo_lying 4 R_Mo (some .int) D CL (TY g)) (hP : va_P D CL (WM g ad μ) s.heap) (hl : lv_has ls 4 [(0, .ref (ad 0)), (1, .int a1)]) (hf : f_Mo_lying n μ a1 = some r) : WR p l e rm_Mo_lying s m args below meth c (.int r) (F0 m 0 ls []) := by
  obtain ⟨S, hr, hlk, hK⟩ := id X
  obtain ⟨hx, hb, hml, hown, hts⟩ := id S
  rw [f_Mo_lying] at hf
  refine lv_iconst (v := 0) hx hb d_Mo_lying_0 (by decide) ?_
  refine lv_istore_n (lv' := [(2, .int (0 : Int32)), (0, .ref (ad 0)), (1, .int a1)]) hx hb d_Mo_lying_1 rfl hl (Nat.le_of_ble_eq_true rfl) rfl (fun ls hl => ?_)
  refine lv_iconst (v := 0) hx hb d_Mo_lying_2 (by decide) ?_
  refine lv_istore_n (lv' := [(3, .int (0 : Int32)), (2, .int (0 : Int32)), (0, .ref (ad 0)), (1, .int a1)]) hx hb d_Mo_lying_3 rfl hl (Nat.le_of_ble_eq_true rfl) rfl (fun ls hl => ?_)
  exact w_Mo_lying_4 X hP _ _ _ _ _ (lv_sub (l' := [(0, .ref (ad 0)), (1, .int a1), (2, .int (0 : Int32)), (3, .int (0 : Int32))]) hl [2, 3, 1, 0] rfl) hf
theorem c_Mo_lying {l : Launch} {D : va_G} {g : Nat → ClassId} {ad : Nat → Nat} {μ : Mem} {r : Int32} {n : Nat} {a1 : Int32} (hf : f_Mo_lying n μ a1 = some r) : Met l y_Mo_lying (Cond.code y_Mo_lying b_Mo_lying 4 (some .int) :: ww) rm_Mo_lying (RP D CL (TY g) (WM g ad μ) [.ref (ad 0), .int a1]) (k2_QcV (.int r)) 0 0 (fun _ => False) := by
  refine met_of (by decide) (Nat.le_of_ble_eq_true rfl) ?_
  intro p e s m below meth c ls X hP hl
  have hl : lv_has ls 4 [(0, .ref (ad 0)), (1, .int a1)] := hl
  exact w_Mo_lying X hP hl hf
theorem d_Mo_merge_0 : decode b_Mo_merge 0 = .ok (.iconst 0, 1) := by decide +kernel
theorem d_Mo_merge_1 : decode b_Mo_merge 1 = .ok (.istore_n 2, 1) := by decide +kernel
theorem d_Mo_merge_2 : decode b_Mo_merge 2 = .ok (.iconst 0, 1) := by decide +kernel
theorem d_Mo_merge_3 : decode b_Mo_merge 3 = .ok (.istore_n 3, 1) := by decide +kernel
theorem d_Mo_merge_4 : decode b_Mo_merge 4 = .ok (.iconst 0, 1) := by decide +kernel
theorem d_Mo_merge_5 : decode b_Mo_merge 5 = .ok (.istore 4, 2) := by decide +kernel
theorem d_Mo_merge_7 : decode b_Mo_merge 7 = .ok (.iload 4, 2) := by decide +kernel
theorem d_Mo_merge_9 : decode b_Mo_merge 9 = .ok (.aload_n 0, 1) := by decide +kernel
theorem d_Mo_merge_10 : decode b_Mo_merge 10 = .ok (.getfield 244, 3) := by decide +kernel
theorem d_Mo_merge_13 : decode b_Mo_merge 13 = .ok (.if_icmp .ge 124, 3) := by decide +kernel
theorem d_Mo_merge_16 : decode b_Mo_merge 16 = .ok (.aload_n 0, 1) := by decide +kernel
theorem d_Mo_merge_17 : decode b_Mo_merge 17 = .ok (.getfield 123, 3) := by decide +kernel
theorem d_Mo_merge_20 : decode b_Mo_merge 20 = .ok (.iload 4, 2) := by decide +kernel
theorem d_Mo_merge_22 : decode b_Mo_merge 22 = .ok (.iaload, 1) := by decide +kernel
theorem d_Mo_merge_23 : decode b_Mo_merge 23 = .ok (.iload_n 1, 1) := by decide +kernel
theorem d_Mo_merge_24 : decode b_Mo_merge 24 = .ok (.if_icmp .eq 16, 3) := by decide +kernel
theorem d_Mo_merge_27 : decode b_Mo_merge 27 = .ok (.aload_n 0, 1) := by decide +kernel
theorem d_Mo_merge_28 : decode b_Mo_merge 28 = .ok (.getfield 123, 3) := by decide +kernel
theorem d_Mo_merge_31 : decode b_Mo_merge 31 = .ok (.iload 4, 2) := by decide +kernel
theorem d_Mo_merge_33 : decode b_Mo_merge 33 = .ok (.iaload, 1) := by decide +kernel
theorem d_Mo_merge_34 : decode b_Mo_merge 34 = .ok (.iload_n 1, 1) := by decide +kernel
theorem d_Mo_merge_35 : decode b_Mo_merge 35 = .ok (.iconst 1, 1) := by decide +kernel
theorem d_Mo_merge_36 : decode b_Mo_merge 36 = .ok (.iadd, 1) := by decide +kernel
theorem d_Mo_merge_37 : decode b_Mo_merge 37 = .ok (.if_icmp .ne 70, 3) := by decide +kernel
theorem d_Mo_merge_40 : decode b_Mo_merge 40 = .ok (.aload_n 0, 1) := by decide +kernel
theorem d_Mo_merge_41 : decode b_Mo_merge 41 = .ok (.getfield 123, 3) := by decide +kernel
theorem d_Mo_merge_44 : decode b_Mo_merge 44 = .ok (.iload 4, 2) := by decide +kernel
theorem d_Mo_merge_46 : decode b_Mo_merge 46 = .ok (.aload_n 0, 1) := by decide +kernel
theorem d_Mo_merge_47 : decode b_Mo_merge 47 = .ok (.getfield 120, 3) := by decide +kernel
theorem d_Mo_merge_50 : decode b_Mo_merge 50 = .ok (.iload 4, 2) := by decide +kernel
theorem d_Mo_merge_52 : decode b_Mo_merge 52 = .ok (.baload, 1) := by decide +kernel
theorem d_Mo_merge_53 : decode b_Mo_merge 53 = .ok (.ifCond .eq 7, 3) := by decide +kernel
theorem d_Mo_merge_56 : decode b_Mo_merge 56 = .ok (.iconst (-1), 1) := by decide +kernel
theorem d_Mo_merge_57 : decode b_Mo_merge 57 = .ok (.goto 4, 3) := by decide +kernel
theorem d_Mo_merge_60 : decode b_Mo_merge 60 = .ok (.iload_n 1, 1) := by decide +kernel
theorem d_Mo_merge_61 : decode b_Mo_merge 61 = .ok (.iastore, 1) := by decide +kernel
theorem d_Mo_merge_62 : decode b_Mo_merge 62 = .ok (.iload_n 3, 1) := by decide +kernel
theorem d_Mo_merge_63 : decode b_Mo_merge 63 = .ok (.aload_n 0, 1) := by decide +kernel
theorem d_Mo_merge_64 : decode b_Mo_merge 64 = .ok (.getfield 120, 3) := by decide +kernel
theorem d_Mo_merge_67 : decode b_Mo_merge 67 = .ok (.iload 4, 2) := by decide +kernel
theorem d_Mo_merge_69 : decode b_Mo_merge 69 = .ok (.baload, 1) := by decide +kernel
theorem d_Mo_merge_70 : decode b_Mo_merge 70 = .ok (.ifCond .eq 7, 3) := by decide +kernel
theorem d_Mo_merge_73 : decode b_Mo_merge 73 = .ok (.iconst 0, 1) := by decide +kernel
theorem d_Mo_merge_74 : decode b_Mo_merge 74 = .ok (.goto 4, 3) := by decide +kernel
theorem d_Mo_merge_77 : decode b_Mo_merge 77 = .ok (.iconst 1, 1) := by decide +kernel
theorem d_Mo_merge_78 : decode b_Mo_merge 78 = .ok (.iadd, 1) := by decide +kernel
theorem d_Mo_merge_79 : decode b_Mo_merge 79 = .ok (.istore_n 3, 1) := by decide +kernel
theorem d_Mo_merge_80 : decode b_Mo_merge 80 = .ok (.iload_n 2, 1) := by decide +kernel
theorem d_Mo_merge_81 : decode b_Mo_merge 81 = .ok (.aload_n 0, 1) := by decide +kernel
theorem d_Mo_merge_82 : decode b_Mo_merge 82 = .ok (.getfield 120, 3) := by decide +kernel
theorem d_Mo_merge_85 : decode b_Mo_merge 85 = .ok (.iload 4, 2) := by decide +kernel
theorem d_Mo_merge_87 : decode b_Mo_merge 87 = .ok (.baload, 1) := by decide +kernel
theorem d_Mo_merge_88 : decode b_Mo_merge 88 = .ok (.ifCond .eq 7, 3) := by decide +kernel
theorem d_Mo_merge_91 : decode b_Mo_merge 91 = .ok (.iconst 0, 1) := by decide +kernel
theorem d_Mo_merge_92 : decode b_Mo_merge 92 = .ok (.goto 10, 3) := by decide +kernel
theorem d_Mo_merge_95 : decode b_Mo_merge 95 = .ok (.aload_n 0, 1) := by decide +kernel
theorem d_Mo_merge_96 : decode b_Mo_merge 96 = .ok (.getfield 113, 3) := by decide +kernel
theorem d_Mo_merge_99 : decode b_Mo_merge 99 = .ok (.iload 4, 2) := by decide +kernel
theorem d_Mo_merge_101 : decode b_Mo_merge 101 = .ok (.iaload, 1) := by decide +kernel
theorem d_Mo_merge_102 : decode b_Mo_merge 102 = .ok (.iadd, 1) := by decide +kernel
theorem d_Mo_merge_103 : decode b_Mo_merge 103 = .ok (.istore_n 2, 1) := by decide +kernel
theorem d_Mo_merge_104 : decode b_Mo_merge 104 = .ok (.goto 27, 3) := by decide +kernel
theorem d_Mo_merge_107 : decode b_Mo_merge 107 = .ok (.aload_n 0, 1) := by decide +kernel
theorem d_Mo_merge_108 : decode b_Mo_merge 108 = .ok (.getfield 123, 3) := by decide +kernel
theorem d_Mo_merge_111 : decode b_Mo_merge 111 = .ok (.iload 4, 2) := by decide +kernel
theorem d_Mo_merge_113 : decode b_Mo_merge 113 = .ok (.iaload, 1) := by decide +kernel
theorem d_Mo_merge_114 : decode b_Mo_merge 114 = .ok (.iload_n 1, 1) := by decide +kernel
theorem d_Mo_merge_115 : decode b_Mo_merge 115 = .ok (.iconst 1, 1) := by decide +kernel
theorem d_Mo_merge_116 : decode b_Mo_merge 116 = .ok (.iadd, 1) := by decide +kernel
theorem d_Mo_merge_117 : decode b_Mo_merge 117 = .ok (.if_icmp .le 14, 3) := by decide +kernel
theorem d_Mo_merge_120 : decode b_Mo_merge 120 = .ok (.aload_n 0, 1) := by decide +kernel
theorem d_Mo_merge_121 : decode b_Mo_merge 121 = .ok (.getfield 123, 3) := by decide +kernel
theorem d_Mo_merge_124 : decode b_Mo_merge 124 = .ok (.iload 4, 2) := by decide +kernel
theorem d_Mo_merge_126 : decode b_Mo_merge 126 = .ok (.dup2, 1) := by decide +kernel
theorem d_Mo_merge_127 : decode b_Mo_merge 127 = .ok (.iaload, 1) := by decide +kernel
theorem d_Mo_merge_128 : decode b_Mo_merge 128 = .ok (.iconst 1, 1) := by decide +kernel
theorem d_Mo_merge_129 : decode b_Mo_merge 129 = .ok (.isub, 1) := by decide +kernel
theorem d_Mo_merge_130 : decode b_Mo_merge 130 = .ok (.iastore, 1) := by decide +kernel
theorem d_Mo_merge_131 : decode b_Mo_merge 131 = .ok (.iinc 4 1, 3) := by decide +kernel
theorem d_Mo_merge_134 : decode b_Mo_merge 134 = .ok (.goto (-127), 3) := by decide +kernel
theorem d_Mo_merge_137 : decode b_Mo_merge 137 = .ok (.aload_n 0, 1) := by decide +kernel
theorem d_Mo_merge_138 : decode b_Mo_merge 138 = .ok (.dup, 1) := by decide +kernel
theorem d_Mo_merge_139 : decode b_Mo_merge 139 = .ok (.getfield 251, 3) := by decide +kernel
theorem d_Mo_merge_142 : decode b_Mo_merge 142 = .ok (.iconst 1, 1) := by decide +kernel
theorem d_Mo_merge_143 : decode b_Mo_merge 143 = .ok (.isub, 1) := by decide +kernel
theorem d_Mo_merge_144 : decode b_Mo_merge 144 = .ok (.putfield 251, 3) := by decide +kernel
theorem d_Mo_merge_147 : decode b_Mo_merge 147 = .ok (.iload_n 3, 1) := by decide +kernel
theorem d_Mo_merge_148 : decode b_Mo_merge 148 = .ok (.ifCond .ne 57, 3) := by decide +kernel
theorem d_Mo_merge_151 : decode b_Mo_merge 151 = .ok (.iconst 0, 1) := by decide +kernel
theorem d_Mo_merge_152 : decode b_Mo_merge 152 = .ok (.istore 4, 2) := by decide +kernel
theorem d_Mo_merge_154 : decode b_Mo_merge 154 = .ok (.iload 4, 2) := by decide +kernel
theorem d_Mo_merge_156 : decode b_Mo_merge 156 = .ok (.aload_n 0, 1) := by decide +kernel
theorem d_Mo_merge_157 : decode b_Mo_merge 157 = .ok (.getfield 244, 3) := by decide +kernel
theorem d_Mo_merge_160 : decode b_Mo_merge 160 = .ok (.if_icmp .ge 35, 3) := by decide +kernel
theorem d_Mo_merge_163 : decode b_Mo_merge 163 = .ok (.aload_n 0, 1) := by decide +kernel
theorem d_Mo_merge_164 : decode b_Mo_merge 164 = .ok (.getfield 123, 3) := by decide +kernel
theorem d_Mo_merge_167 : decode b_Mo_merge 167 = .ok (.iload 4, 2) := by decide +kernel
theorem d_Mo_merge_169 : decode b_Mo_merge 169 = .ok (.dup2, 1) := by decide +kernel
theorem d_Mo_merge_170 : decode b_Mo_merge 170 = .ok (.iaload, 1) := by decide +kernel
theorem d_Mo_merge_171 : decode b_Mo_merge 171 = .ok (.aload_n 0, 1) := by decide +kernel
theorem d_Mo_merge_172 : decode b_Mo_merge 172 = .ok (.getfield 123, 3) := by decide +kernel
theorem d_Mo_merge_175 : decode b_Mo_merge 175 = .ok (.iload 4, 2) := by decide +kernel
theorem d_Mo_merge_177 : decode b_Mo_merge 177 = .ok (.iaload, 1) := by decide +kernel
theorem d_Mo_merge_178 : decode b_Mo_merge 178 = .ok (.iload_n 1, 1) := by decide +kernel
theorem d_Mo_merge_179 : decode b_Mo_merge 179 = .ok (.if_icmp .le 7, 3) := by decide +kernel
theorem d_Mo_merge_182 : decode b_Mo_merge 182 = .ok (.iconst 1, 1) := by decide +kernel
theorem d_Mo_merge_183 : decode b_Mo_merge 183 = .ok (.goto 4, 3) := by decide +kernel
theorem d_Mo_merge_186 : decode b_Mo_merge 186 = .ok (.iconst 0, 1) := by decide +kernel
theorem d_Mo_merge_187 : decode b_Mo_merge 187 = .ok (.isub, 1) := by decide +kernel
theorem d_Mo_merge_188 : decode b_Mo_merge 188 = .ok (.iastore, 1) := by decide +kernel
theorem d_Mo_merge_189 : decode b_Mo_merge 189 = .ok (.iinc 4 1, 3) := by decide +kernel
theorem d_Mo_merge_192 : decode b_Mo_merge 192 = .ok (.goto (-38), 3) := by decide +kernel
theorem d_Mo_merge_195 : decode b_Mo_merge 195 = .ok (.aload_n 0, 1) := by decide +kernel
theorem d_Mo_merge_196 : decode b_Mo_merge 196 = .ok (.dup, 1) := by decide +kernel
theorem d_Mo_merge_197 : decode b_Mo_merge 197 = .ok (.getfield 251, 3) := by decide +kernel
theorem d_Mo_merge_200 : decode b_Mo_merge 200 = .ok (.iconst 1, 1) := by decide +kernel
theorem d_Mo_merge_201 : decode b_Mo_merge 201 = .ok (.isub, 1) := by decide +kernel
theorem d_Mo_merge_202 : decode b_Mo_merge 202 = .ok (.putfield 251, 3) := by decide +kernel
theorem d_Mo_merge_205 : decode b_Mo_merge 205 = .ok (.iload_n 2, 1) := by decide +kernel
theorem d_Mo_merge_206 : decode b_Mo_merge 206 = .ok (.ireturn, 1) := by decide +kernel
abbrev rm_Mo_merge : Room := { frames := 0, cells := 0, slots := 0, locals := 0 }
def f_Mo_merge_187 (κ154 : Mem → Int32 → Int32 → Int32 → Option (Int32 × Mem)) (n : Nat) (μ : Mem) (x1 : Int32) (x2 : Int32) (x4 : Int32) (s1 : Int32) (s2 : Int32) (s3 : Bool) : Option (Int32 × Mem) := gd (inb s1 40) (bd (wi μ 38 s1.toNatClampNeg (s2 - (bz s3))) (fun μ1 => bd (x4 + 1) (fun v2 => κ154 μ1 x1 x2 v2)))
set_option maxHeartbeats 4000000 in
set_option maxRecDepth 100000 in
theorem w_Mo_merge_187 {p : Program} {l : Launch} {e : Env} {s : State} {m : MethodId} {args : Array Value} {below : List Frame} {meth : Method} {c : Code} {D : va_G} {g : Nat → ClassId} {ad : Nat → Nat} {r : Int32} {μ' : Mem} {A : Nat → Prop} {κ154 : Mem → Int32 → Int32 → Int32 → Option (Int32 × Mem)} {n : Nat} {μ : Mem} {x1 : Int32} {x2 : Int32} {x4 : Int32} {s1 : Int32} {s2 : Int32} {s3 : Bool} {ls : Array Slot} {H : Heap} {locs : List Loc} (X : Cx p s m args meth c b_Mo_merge 5 R_Mo (some .int) D CL (TY g)) (hDA : ∀ μ : Mem, va_D A (WM g ad μ)) (hκ154 : ∀ (μ : Mem) (x1 : Int32) (x2 : Int32) (x4 : Int32) (ls : Array Slot) (H : Heap) (locs : List Loc), va_P D CL (WM g ad μ) H → va_S A s.heap H locs → lv_has ls 5 [(0, .ref (ad 0)), (1, .int x1), (2, .int x2), (4, .int x4)] → κ154 μ x1 x2 x4 = some (r, μ') → WU p l e rm_Mo_merge s m args below meth c H locs D (WM g ad μ') A (some (.int r)) (F0 m 154 ls [])) (hP : va_P D CL (WM g ad μ) H) (hS : va_S A s.heap H locs) (hl : lv_has ls 5 [(0, .ref (ad 0)), (1, .int x1), (2, .int x2), (4, .int x4)]) (hf : f_Mo_merge_187 κ154 n μ x1 x2 x4 s1 s2 s3 = some (r, μ')) : WU p l e rm_Mo_merge s m args below meth c H locs D (WM g ad μ') A (some (.int r)) (F0 m 187 ls [.int (bz s3), .int s2, .int s1, .ref (ad 38)]) := by
  obtain ⟨S, hr, hlk, hK⟩ := id X
  obtain ⟨hx, hb, hml, hown, hts⟩ := id S
  rw [f_Mo_merge_187] at hf
  refine lv_isub hx hb d_Mo_merge_187 ?_
  obtain ⟨hi, hf⟩ := gd_x hf
  obtain ⟨μ1, hμ1, hf⟩ := bd_x hf
  refine ms_38 hx hb hK (hDA _) hP hS (inb_in hi) d_Mo_merge_188 hμ1 (fun H locs hP hS => ?_)
  obtain ⟨v2, hv2, hf⟩ := bd_x hf
  refine lv_iinc (lv' := [(4, .int v2), (0, .ref (ad 0)), (1, .int x1), (2, .int x2)]) hx hb d_Mo_merge_189 hl (k := 3) rfl (show x4 + Int32.ofInt (1) = v2 from hv2) (Nat.le_of_ble_eq_true rfl) rfl (fun ls hl => ?_)
  refine lv_goto (tgt := 154) hx hb d_Mo_merge_192 rfl ?_
  exact hκ154 _ _ _ _ _ _ _ hP hS (lv_sub (l' := [(0, .ref (ad 0)), (1, .int x1), (2, .int x2), (4, .int v2)]) hl [1, 2, 3, 0] rfl) hf
def f_Mo_merge_154 : Nat → Mem → Int32 → Int32 → Int32 → Option (Int32 × Mem)
  | 0, _, _, _, _ => none
  | n + 1, μ, x1, x2, x4 => (if (μ.1 0 50) ≤ x4 then (bd (wi μ 0 51 ((μ.1 0 51) - (1 : Int32))) (fun μ1 => some (x2, μ1))) else (gd (inb x4 40) (gd (inb x4 40) ((if (μ.1 38 x4.toNatClampNeg) ≤ x1 then (f_Mo_merge_187 (f_Mo_merge_154 n) n μ x1 x2 x4 x4 (μ.1 38 x4.toNatClampNeg) false) else (f_Mo_merge_187 (f_Mo_merge_154 n) n μ x1 x2 x4 x4 (μ.1 38 x4.toNatClampNeg) true))))))
set_option maxHeartbeats 4000000 in
set_option maxRecDepth 100000 in
theorem w_Mo_merge_154 {p : Program} {l : Launch} {e : Env} {s : State} {m : MethodId} {args : Array Value} {below : List Frame} {meth : Method} {c : Code} {D : va_G} {g : Nat → ClassId} {ad : Nat → Nat} {r : Int32} {μ' : Mem} {A : Nat → Prop} (X : Cx p s m args meth c b_Mo_merge 5 R_Mo (some .int) D CL (TY g)) (hDA : ∀ μ : Mem, va_D A (WM g ad μ)) : ∀ (n : Nat) (μ : Mem) (x1 : Int32) (x2 : Int32) (x4 : Int32) (ls : Array Slot) (H : Heap) (locs : List Loc), va_P D CL (WM g ad μ) H → va_S A s.heap H locs → lv_has ls 5 [(0, .ref (ad 0)), (1, .int x1), (2, .int x2), (4, .int x4)] → f_Mo_merge_154 n μ x1 x2 x4 = some (r, μ') → WU p l e rm_Mo_merge s m args below meth c H locs D (WM g ad μ') A (some (.int r)) (F0 m 154 ls []) := by
  intro n
  induction n with
  | zero => intro μ x1 x2 x4 ls H locs hP hS hl hf; rw [f_Mo_merge_154] at hf; cases hf
  | succ n ih =>
    intro μ x1 x2 x4 ls H locs hP hS hl hf
    obtain ⟨S, hr, hlk, hK⟩ := id X
    obtain ⟨hx, hb, hml, hown, hts⟩ := id S
    rw [f_Mo_merge_154] at hf
    refine lv_iload hx hb d_Mo_merge_154 (lv_at hl 3 rfl) ?_
    refine lv_aload_n hx hb d_Mo_merge_156 rfl (lv_at hl 0 rfl) ?_
    refine mg_0_50 hx hb hts hown hK hP q_868 d_Mo_merge_157 ?_
    refine lv_icmp_ge (tgt := 195) hx hb d_Mo_merge_160 rfl (fun hc => ?_) (fun hc => ?_)
    · replace hf := br_p hc hf
      refine lv_aload_n hx hb d_Mo_merge_195 rfl (lv_at hl 0 rfl) ?_
      refine lv_dup hx hb d_Mo_merge_196 rfl ?_
      refine mg_0_51 hx hb hts hown hK hP q_869 d_Mo_merge_197 ?_
      refine lv_iconst (v := 1) hx hb d_Mo_merge_200 (by decide) ?_
      refine lv_isub hx hb d_Mo_merge_201 ?_
      obtain ⟨μ1, hμ1, hf⟩ := bd_x hf
      refine mp_0_51 hx hb hts hown hK (hDA _) hP hS q_869 d_Mo_merge_202 hμ1 (fun H locs hP hS => ?_)
      refine lv_iload_n hx hb d_Mo_merge_205 rfl (lv_at hl 2 rfl) ?_
      obtain ⟨h1, h2⟩ := Prod.mk.inj (Option.some.inj hf)
      subst h1; subst h2
      exact W.iret hx hb hr (fun t ht _ => ⟨rfl, by rw [ht]; exact hP, hS.F ht⟩) hS.2.2 d_Mo_merge_206
    · replace hf := br_n hc hf
      refine lv_aload_n hx hb d_Mo_merge_163 rfl (lv_at hl 0 rfl) ?_
      refine mg_0_48 hx hb hts hown hK hP q_866 d_Mo_merge_164 ?_
      refine lv_iload hx hb d_Mo_merge_167 (lv_at hl 3 rfl) ?_
      refine lv_dup2_11 hx hb d_Mo_merge_169 rfl rfl ?_
      obtain ⟨hi, hf⟩ := gd_x hf
      refine ml_38 hx hb hK hP (inb_in hi) d_Mo_merge_170 ?_
      refine lv_aload_n hx hb d_Mo_merge_171 rfl (lv_at hl 0 rfl) ?_
      refine mg_0_48 hx hb hts hown hK hP q_866 d_Mo_merge_172 ?_
      refine lv_iload hx hb d_Mo_merge_175 (lv_at hl 3 rfl) ?_
      obtain ⟨hi, hf⟩ := gd_x hf
      refine ml_38 hx hb hK hP (inb_in hi) d_Mo_merge_177 ?_
      refine lv_iload_n hx hb d_Mo_merge_178 rfl (lv_at hl 1 rfl) ?_
      refine lv_icmp_le (tgt := 186) hx hb d_Mo_merge_179 rfl (fun hc => ?_) (fun hc => ?_)
      · replace hf := br_p hc hf
        refine lv_iconst (v := 0) hx hb d_Mo_merge_186 (by decide) ?_
        refine top_i (z := bz false) (by decide) ?_
        exact w_Mo_merge_187 X hDA ih hP hS (lv_sub (l' := [(0, .ref (ad 0)), (1, .int x1), (2, .int x2), (4, .int x4)]) hl [0, 1, 2, 3] rfl) hf
      · replace hf := br_n hc hf
        refine lv_iconst (v := 1) hx hb d_Mo_merge_182 (by decide) ?_
        refine lv_goto (tgt := 187) hx hb d_Mo_merge_183 rfl ?_
        refine top_i (z := bz true) (by decide) ?_
        exact w_Mo_merge_187 X hDA ih hP hS (lv_sub (l' := [(0, .ref (ad 0)), (1, .int x1), (2, .int x2), (4, .int x4)]) hl [0, 1, 2, 3] rfl) hf
def f_Mo_merge_131 (κ7 : Mem → Int32 → Int32 → Int32 → Int32 → Option (Int32 × Mem)) (n : Nat) (μ : Mem) (x1 : Int32) (x2 : Int32) (x3 : Int32) (x4 : Int32) : Option (Int32 × Mem) := bd (x4 + 1) (fun v1 => κ7 μ x1 x2 x3 v1)
set_option maxHeartbeats 4000000 in
set_option maxRecDepth 100000 in
theorem w_Mo_merge_131 {p : Program} {l : Launch} {e : Env} {s : State} {m : MethodId} {args : Array Value} {below : List Frame} {meth : Method} {c : Code} {D : va_G} {g : Nat → ClassId} {ad : Nat → Nat} {r : Int32} {μ' : Mem} {A : Nat → Prop} {κ7 : Mem → Int32 → Int32 → Int32 → Int32 → Option (Int32 × Mem)} {n : Nat} {μ : Mem} {x1 : Int32} {x2 : Int32} {x3 : Int32} {x4 : Int32} {ls : Array Slot} {H : Heap} {locs : List Loc} (X : Cx p s m args meth c b_Mo_merge 5 R_Mo (some .int) D CL (TY g)) (hDA : ∀ μ : Mem, va_D A (WM g ad μ)) (hκ7 : ∀ (μ : Mem) (x1 : Int32) (x2 : Int32) (x3 : Int32) (x4 : Int32) (ls : Array Slot) (H : Heap) (locs : List Loc), va_P D CL (WM g ad μ) H → va_S A s.heap H locs → lv_has ls 5 [(0, .ref (ad 0)), (1, .int x1), (2, .int x2), (3, .int x3), (4, .int x4)] → κ7 μ x1 x2 x3 x4 = some (r, μ') → WU p l e rm_Mo_merge s m args below meth c H locs D (WM g ad μ') A (some (.int r)) (F0 m 7 ls [])) (hP : va_P D CL (WM g ad μ) H) (hS : va_S A s.heap H locs) (hl : lv_has ls 5 [(0, .ref (ad 0)), (1, .int x1), (2, .int x2), (3, .int x3), (4, .int x4)]) (hf : f_Mo_merge_131 κ7 n μ x1 x2 x3 x4 = some (r, μ')) : WU p l e rm_Mo_merge s m args below meth c H locs D (WM g ad μ') A (some (.int r)) (F0 m 131 ls []) := by
  obtain ⟨S, hr, hlk, hK⟩ := id X
  obtain ⟨hx, hb, hml, hown, hts⟩ := id S
  rw [f_Mo_merge_131] at hf
  obtain ⟨v1, hv1, hf⟩ := bd_x hf
  refine lv_iinc (lv' := [(4, .int v1), (0, .ref (ad 0)), (1, .int x1), (2, .int x2), (3, .int x3)]) hx hb d_Mo_merge_131 hl (k := 4) rfl (show x4 + Int32.ofInt (1) = v1 from hv1) (Nat.le_of_ble_eq_true rfl) rfl (fun ls hl => ?_)
  refine lv_goto (tgt := 7) hx hb d_Mo_merge_134 rfl ?_
  exact hκ7 _ _ _ _ _ _ _ _ hP hS (lv_sub (l' := [(0, .ref (ad 0)), (1, .int x1), (2, .int x2), (3, .int x3), (4, .int v1)]) hl [1, 2, 3, 4, 0] rfl) hf
def f_Mo_merge_102 (κ7 : Mem → Int32 → Int32 → Int32 → Int32 → Option (Int32 × Mem)) (n : Nat) (μ : Mem) (x1 : Int32) (x3 : Int32) (x4 : Int32) (s0 : Int32) (s1 : Int32) : Option (Int32 × Mem) := bd (s0 + s1) (fun v1 => f_Mo_merge_131 κ7 n μ x1 v1 x3 x4)
set_option maxHeartbeats 4000000 in
set_option maxRecDepth 100000 in
theorem w_Mo_merge_102 {p : Program} {l : Launch} {e : Env} {s : State} {m : MethodId} {args : Array Value} {below : List Frame} {meth : Method} {c : Code} {D : va_G} {g : Nat → ClassId} {ad : Nat → Nat} {r : Int32} {μ' : Mem} {A : Nat → Prop} {κ7 : Mem → Int32 → Int32 → Int32 → Int32 → Option (Int32 × Mem)} {n : Nat} {μ : Mem} {x1 : Int32} {x3 : Int32} {x4 : Int32} {s0 : Int32} {s1 : Int32} {ls : Array Slot} {H : Heap} {locs : List Loc} (X : Cx p s m args meth c b_Mo_merge 5 R_Mo (some .int) D CL (TY g)) (hDA : ∀ μ : Mem, va_D A (WM g ad μ)) (hκ7 : ∀ (μ : Mem) (x1 : Int32) (x2 : Int32) (x3 : Int32) (x4 : Int32) (ls : Array Slot) (H : Heap) (locs : List Loc), va_P D CL (WM g ad μ) H → va_S A s.heap H locs → lv_has ls 5 [(0, .ref (ad 0)), (1, .int x1), (2, .int x2), (3, .int x3), (4, .int x4)] → κ7 μ x1 x2 x3 x4 = some (r, μ') → WU p l e rm_Mo_merge s m args below meth c H locs D (WM g ad μ') A (some (.int r)) (F0 m 7 ls [])) (hP : va_P D CL (WM g ad μ) H) (hS : va_S A s.heap H locs) (hl : lv_has ls 5 [(0, .ref (ad 0)), (1, .int x1), (3, .int x3), (4, .int x4)]) (hf : f_Mo_merge_102 κ7 n μ x1 x3 x4 s0 s1 = some (r, μ')) : WU p l e rm_Mo_merge s m args below meth c H locs D (WM g ad μ') A (some (.int r)) (F0 m 102 ls [.int s1, .int s0]) := by
  obtain ⟨S, hr, hlk, hK⟩ := id X
  obtain ⟨hx, hb, hml, hown, hts⟩ := id S
  rw [f_Mo_merge_102] at hf
  refine lv_iadd hx hb d_Mo_merge_102 ?_
  obtain ⟨v1, hv1, hf⟩ := bd_x hf
  refine top_i hv1 ?_
  refine lv_istore_n (lv' := [(2, .int v1), (0, .ref (ad 0)), (1, .int x1), (3, .int x3), (4, .int x4)]) hx hb d_Mo_merge_103 rfl hl (Nat.le_of_ble_eq_true rfl) rfl (fun ls hl => ?_)
  refine lv_goto (tgt := 131) hx hb d_Mo_merge_104 rfl ?_
  exact w_Mo_merge_131 X hDA hκ7 hP hS (lv_sub (l' := [(0, .ref (ad 0)), (1, .int x1), (2, .int v1), (3, .int x3), (4, .int x4)]) hl [1, 2, 0, 3, 4] rfl) hf
def f_Mo_merge_78 (κ7 : Mem → Int32 → Int32 → Int32 → Int32 → Option (Int32 × Mem)) (n : Nat) (μ : Mem) (x1 : Int32) (x2 : Int32) (x4 : Int32) (s0 : Int32) (s1 : Bool) : Option (Int32 × Mem) := bd (s0 + (bz s1)) (fun v1 => gd (inb x4 40) ((if (μ.1 37 x4.toNatClampNeg) = 0 then (gd (inb x4 40) (f_Mo_merge_102 κ7 n μ x1 v1 x4 x2 (μ.1 35 x4.toNatClampNeg))) else (f_Mo_merge_102 κ7 n μ x1 v1 x4 x2 (0 : Int32)))))
set_option maxHeartbeats 4000000 in
set_option maxRecDepth 100000 in
theorem w_Mo_merge_78 {p : Program} {l : Launch} {e : Env} {s : State} {m : MethodId} {args : Array Value} {below : List Frame} {meth : Method} {c : Code} {D : va_G} {g : Nat → ClassId} {ad : Nat → Nat} {r : Int32} {μ' : Mem} {A : Nat → Prop} {κ7 : Mem → Int32 → Int32 → Int32 → Int32 → Option (Int32 × Mem)} {n : Nat} {μ : Mem} {x1 : Int32} {x2 : Int32} {x4 : Int32} {s0 : Int32} {s1 : Bool} {ls : Array Slot} {H : Heap} {locs : List Loc} (X : Cx p s m args meth c b_Mo_merge 5 R_Mo (some .int) D CL (TY g)) (hDA : ∀ μ : Mem, va_D A (WM g ad μ)) (hκ7 : ∀ (μ : Mem) (x1 : Int32) (x2 : Int32) (x3 : Int32) (x4 : Int32) (ls : Array Slot) (H : Heap) (locs : List Loc), va_P D CL (WM g ad μ) H → va_S A s.heap H locs → lv_has ls 5 [(0, .ref (ad 0)), (1, .int x1), (2, .int x2), (3, .int x3), (4, .int x4)] → κ7 μ x1 x2 x3 x4 = some (r, μ') → WU p l e rm_Mo_merge s m args below meth c H locs D (WM g ad μ') A (some (.int r)) (F0 m 7 ls [])) (hP : va_P D CL (WM g ad μ) H) (hS : va_S A s.heap H locs) (hl : lv_has ls 5 [(0, .ref (ad 0)), (1, .int x1), (2, .int x2), (4, .int x4)]) (hf : f_Mo_merge_78 κ7 n μ x1 x2 x4 s0 s1 = some (r, μ')) : WU p l e rm_Mo_merge s m args below meth c H locs D (WM g ad μ') A (some (.int r)) (F0 m 78 ls [.int (bz s1), .int s0]) := by
  obtain ⟨S, hr, hlk, hK⟩ := id X
  obtain ⟨hx, hb, hml, hown, hts⟩ := id S
  rw [f_Mo_merge_78] at hf
  refine lv_iadd hx hb d_Mo_merge_78 ?_
  obtain ⟨v1, hv1, hf⟩ := bd_x hf
  refine top_i hv1 ?_
  refine lv_istore_n (lv' := [(3, .int v1), (0, .ref (ad 0)), (1, .int x1), (2, .int x2), (4, .int x4)]) hx hb d_Mo_merge_79 rfl hl (Nat.le_of_ble_eq_true rfl) rfl (fun ls hl => ?_)
  refine lv_iload_n hx hb d_Mo_merge_80 rfl (lv_at hl 3 rfl) ?_
  refine lv_aload_n hx hb d_Mo_merge_81 rfl (lv_at hl 1 rfl) ?_
  refine mg_0_47 hx hb hts hown hK hP q_865 d_Mo_merge_82 ?_
  refine lv_iload hx hb d_Mo_merge_85 (lv_at hl 4 rfl) ?_
  obtain ⟨hi, hf⟩ := gd_x hf
  refine ml_37 hx hb hK hP (inb_in hi) d_Mo_merge_87 ?_
  refine lv_if_eq (tgt := 95) hx hb d_Mo_merge_88 rfl (fun hc => ?_) (fun hc => ?_)
  · replace hf := br_p hc hf
    refine lv_aload_n hx hb d_Mo_merge_95 rfl (lv_at hl 1 rfl) ?_
    refine mg_0_45 hx hb hts hown hK hP q_863 d_Mo_merge_96 ?_
    refine lv_iload hx hb d_Mo_merge_99 (lv_at hl 4 rfl) ?_
    obtain ⟨hi, hf⟩ := gd_x hf
    refine ml_35 hx hb hK hP (inb_in hi) d_Mo_merge_101 ?_
    exact w_Mo_merge_102 X hDA hκ7 hP hS (lv_sub (l' := [(0, .ref (ad 0)), (1, .int x1), (3, .int v1), (4, .int x4)]) hl [1, 2, 0, 4] rfl) hf
  · replace hf := br_n hc hf
    refine lv_iconst (v := 0) hx hb d_Mo_merge_91 (by decide) ?_
    refine lv_goto (tgt := 102) hx hb d_Mo_merge_92 rfl ?_
    exact w_Mo_merge_102 X hDA hκ7 hP hS (lv_sub (l' := [(0, .ref (ad 0)), (1, .int x1), (3, .int v1), (4, .int x4)]) hl [1, 2, 0, 4] rfl) hf
def f_Mo_merge_61 (κ7 : Mem → Int32 → Int32 → Int32 → Int32 → Option (Int32 × Mem)) (n : Nat) (μ : Mem) (x1 : Int32) (x2 : Int32) (x3 : Int32) (x4 : Int32) (s1 : Int32) (s2 : Int32) : Option (Int32 × Mem) := gd (inb s1 40) (bd (wi μ 38 s1.toNatClampNeg s2) (fun μ1 => gd (inb x4 40) ((if (μ1.1 37 x4.toNatClampNeg) = 0 then (f_Mo_merge_78 κ7 n μ1 x1 x2 x4 x3 true) else (f_Mo_merge_78 κ7 n μ1 x1 x2 x4 x3 false)))))
set_option maxHeartbeats 4000000 in
set_option maxRecDepth 100000 in
theorem w_Mo_merge_61 {p : Program} {l : Launch} {e : Env} {s : State} {m : MethodId} {args : Array Value} {below : List Frame} {meth : Method} {c : Code} {D : va_G} {g : Nat → ClassId} {ad : Nat → Nat} {r : Int32} {μ' : Mem} {A : Nat → Prop} {κ7 : Mem → Int32 → Int32 → Int32 → Int32 → Option (Int32 × Mem)} {n : Nat} {μ : Mem} {x1 : Int32} {x2 : Int32} {x3 : Int32} {x4 : Int32} {s1 : Int32} {s2 : Int32} {ls : Array Slot} {H : Heap} {locs : List Loc} (X : Cx p s m args meth c b_Mo_merge 5 R_Mo (some .int) D CL (TY g)) (hDA : ∀ μ : Mem, va_D A (WM g ad μ)) (hκ7 : ∀ (μ : Mem) (x1 : Int32) (x2 : Int32) (x3 : Int32) (x4 : Int32) (ls : Array Slot) (H : Heap) (locs : List Loc), va_P D CL (WM g ad μ) H → va_S A s.heap H locs → lv_has ls 5 [(0, .ref (ad 0)), (1, .int x1), (2, .int x2), (3, .int x3), (4, .int x4)] → κ7 μ x1 x2 x3 x4 = some (r, μ') → WU p l e rm_Mo_merge s m args below meth c H locs D (WM g ad μ') A (some (.int r)) (F0 m 7 ls [])) (hP : va_P D CL (WM g ad μ) H) (hS : va_S A s.heap H locs) (hl : lv_has ls 5 [(0, .ref (ad 0)), (1, .int x1), (2, .int x2), (3, .int x3), (4, .int x4)]) (hf : f_Mo_merge_61 κ7 n μ x1 x2 x3 x4 s1 s2 = some (r, μ')) : WU p l e rm_Mo_merge s m args below meth c H locs D (WM g ad μ') A (some (.int r)) (F0 m 61 ls [.int s2, .int s1, .ref (ad 38)]) := by
  obtain ⟨S, hr, hlk, hK⟩ := id X
  obtain ⟨hx, hb, hml, hown, hts⟩ := id S
  rw [f_Mo_merge_61] at hf
  obtain ⟨hi, hf⟩ := gd_x hf
  obtain ⟨μ1, hμ1, hf⟩ := bd_x hf
  refine ms_38 hx hb hK (hDA _) hP hS (inb_in hi) d_Mo_merge_61 hμ1 (fun H locs hP hS => ?_)
  refine lv_iload_n hx hb d_Mo_merge_62 rfl (lv_at hl 3 rfl) ?_
  refine lv_aload_n hx hb d_Mo_merge_63 rfl (lv_at hl 0 rfl) ?_
  refine mg_0_47 hx hb hts hown hK hP q_865 d_Mo_merge_64 ?_
  refine lv_iload hx hb d_Mo_merge_67 (lv_at hl 4 rfl) ?_
  obtain ⟨hi, hf⟩ := gd_x hf
  refine ml_37 hx hb hK hP (inb_in hi) d_Mo_merge_69 ?_
  refine lv_if_eq (tgt := 77) hx hb d_Mo_merge_70 rfl (fun hc => ?_) (fun hc => ?_)
  · replace hf := br_p hc hf
    refine lv_iconst (v := 1) hx hb d_Mo_merge_77 (by decide) ?_
    refine top_i (z := bz true) (by decide) ?_
    exact w_Mo_merge_78 X hDA hκ7 hP hS (lv_sub (l' := [(0, .ref (ad 0)), (1, .int x1), (2, .int x2), (4, .int x4)]) hl [0, 1, 2, 4] rfl) hf
  · replace hf := br_n hc hf
    refine lv_iconst (v := 0) hx hb d_Mo_merge_73 (by decide) ?_
    refine lv_goto (tgt := 78) hx hb d_Mo_merge_74 rfl ?_
    refine top_i (z := bz false) (by decide) ?_
    exact w_Mo_merge_78 X hDA hκ7 hP hS (lv_sub (l' := [(0, .ref (ad 0)), (1, .int x1), (2, .int x2), (4, .int x4)]) hl [0, 1, 2, 4] rfl) hf
def f_Mo_merge_40 (κ7 : Mem → Int32 → Int32 → Int32 → Int32 → Option (Int32 × Mem)) (n : Nat) (μ : Mem) (x1 : Int32) (x2 : Int32) (x3 : Int32) (x4 : Int32) : Option (Int32 × Mem) := gd (inb x4 40) ((if (μ.1 37 x4.toNatClampNeg) = 0 then (f_Mo_merge_61 κ7 n μ x1 x2 x3 x4 x4 x1) else (f_Mo_merge_61 κ7 n μ x1 x2 x3 x4 x4 (-1 : Int32))))
set_option maxHeartbeats 4000000 in
set_option maxRecDepth 100000 in
theorem w_Mo_merge_40 {p : Program} {l : Launch} {e : Env} {s : State} {m : MethodId} {args : Array Value} {below : List Frame} {meth : Method} {c : Code} {D : va_G} {g : Nat → ClassId} {ad : Nat → Nat} {r : Int32} {μ' : Mem} {A : Nat → Prop} {κ7 : Mem → Int32 → Int32 → Int32 → Int32 → Option (Int32 × Mem)} {n : Nat} {μ : Mem} {x1 : Int32} {x2 : Int32} {x3 : Int32} {x4 : Int32} {ls : Array Slot} {H : Heap} {locs : List Loc} (X : Cx p s m args meth c b_Mo_merge 5 R_Mo (some .int) D CL (TY g)) (hDA : ∀ μ : Mem, va_D A (WM g ad μ)) (hκ7 : ∀ (μ : Mem) (x1 : Int32) (x2 : Int32) (x3 : Int32) (x4 : Int32) (ls : Array Slot) (H : Heap) (locs : List Loc), va_P D CL (WM g ad μ) H → va_S A s.heap H locs → lv_has ls 5 [(0, .ref (ad 0)), (1, .int x1), (2, .int x2), (3, .int x3), (4, .int x4)] → κ7 μ x1 x2 x3 x4 = some (r, μ') → WU p l e rm_Mo_merge s m args below meth c H locs D (WM g ad μ') A (some (.int r)) (F0 m 7 ls [])) (hP : va_P D CL (WM g ad μ) H) (hS : va_S A s.heap H locs) (hl : lv_has ls 5 [(0, .ref (ad 0)), (1, .int x1), (2, .int x2), (3, .int x3), (4, .int x4)]) (hf : f_Mo_merge_40 κ7 n μ x1 x2 x3 x4 = some (r, μ')) : WU p l e rm_Mo_merge s m args below meth c H locs D (WM g ad μ') A (some (.int r)) (F0 m 40 ls []) := by
  obtain ⟨S, hr, hlk, hK⟩ := id X
  obtain ⟨hx, hb, hml, hown, hts⟩ := id S
  rw [f_Mo_merge_40] at hf
  refine lv_aload_n hx hb d_Mo_merge_40 rfl (lv_at hl 0 rfl) ?_
  refine mg_0_48 hx hb hts hown hK hP q_866 d_Mo_merge_41 ?_
  refine lv_iload hx hb d_Mo_merge_44 (lv_at hl 4 rfl) ?_
  refine lv_aload_n hx hb d_Mo_merge_46 rfl (lv_at hl 0 rfl) ?_
  refine mg_0_47 hx hb hts hown hK hP q_865 d_Mo_merge_47 ?_
  refine lv_iload hx hb d_Mo_merge_50 (lv_at hl 4 rfl) ?_
  obtain ⟨hi, hf⟩ := gd_x hf
  refine ml_37 hx hb hK hP (inb_in hi) d_Mo_merge_52 ?_
  refine lv_if_eq (tgt := 60) hx hb d_Mo_merge_53 rfl (fun hc => ?_) (fun hc => ?_)
  · replace hf := br_p hc hf
    refine lv_iload_n hx hb d_Mo_merge_60 rfl (lv_at hl 1 rfl) ?_
    exact w_Mo_merge_61 X hDA hκ7 hP hS (lv_sub (l' := [(0, .ref (ad 0)), (1, .int x1), (2, .int x2), (3, .int x3), (4, .int x4)]) hl [0, 1, 2, 3, 4] rfl) hf
  · replace hf := br_n hc hf
    refine lv_iconst (v := -1) hx hb d_Mo_merge_56 (by decide) ?_
    refine lv_goto (tgt := 61) hx hb d_Mo_merge_57 rfl ?_
    exact w_Mo_merge_61 X hDA hκ7 hP hS (lv_sub (l' := [(0, .ref (ad 0)), (1, .int x1), (2, .int x2), (3, .int x3), (4, .int x4)]) hl [0, 1, 2, 3, 4] rfl) hf
def f_Mo_merge_7 : Nat → Mem → Int32 → Int32 → Int32 → Int32 → Option (Int32 × Mem)
  | 0, _, _, _, _, _ => none
  | n + 1, μ, x1, x2, x3, x4 => (if (μ.1 0 50) ≤ x4 then (bd (wi μ 0 51 ((μ.1 0 51) - (1 : Int32))) (fun μ1 => (if x3 = 0 then (f_Mo_merge_154 n μ1 x1 x2 (0 : Int32)) else (some (x2, μ1))))) else (gd (inb x4 40) ((if (μ.1 38 x4.toNatClampNeg) = x1 then (f_Mo_merge_40 (f_Mo_merge_7 n) n μ x1 x2 x3 x4) else (gd (inb x4 40) ((if (μ.1 38 x4.toNatClampNeg) = (x1 + (1 : Int32)) then (f_Mo_merge_40 (f_Mo_merge_7 n) n μ x1 x2 x3 x4) else (gd (inb x4 40) ((if (μ.1 38 x4.toNatClampNeg) ≤ (x1 + (1 : Int32)) then (f_Mo_merge_131 (f_Mo_merge_7 n) n μ x1 x2 x3 x4) else (gd (inb x4 40) (gd (inb x4 40) (bd (wi μ 38 x4.toNatClampNeg ((μ.1 38 x4.toNatClampNeg) - (1 : Int32))) (fun μ2 => f_Mo_merge_131 (f_Mo_merge_7 n) n μ2 x1 x2 x3 x4))))))))))))))
set_option maxHeartbeats 4000000 in
set_option maxRecDepth 100000 in
theorem w_Mo_merge_7 {p : Program} {l : Launch} {e : Env} {s : State} {m : MethodId} {args : Array Value} {below : List Frame} {meth : Method} {c : Code} {D : va_G} {g : Nat → ClassId} {ad : Nat → Nat} {r : Int32} {μ' : Mem} {A : Nat → Prop} (X : Cx p s m args meth c b_Mo_merge 5 R_Mo (some .int) D CL (TY g)) (hDA : ∀ μ : Mem, va_D A (WM g ad μ)) : ∀ (n : Nat) (μ : Mem) (x1 : Int32) (x2 : Int32) (x3 : Int32) (x4 : Int32) (ls : Array Slot) (H : Heap) (locs : List Loc), va_P D CL (WM g ad μ) H → va_S A s.heap H locs → lv_has ls 5 [(0, .ref (ad 0)), (1, .int x1), (2, .int x2), (3, .int x3), (4, .int x4)] → f_Mo_merge_7 n μ x1 x2 x3 x4 = some (r, μ') → WU p l e rm_Mo_merge s m args below meth c H locs D (WM g ad μ') A (some (.int r)) (F0 m 7 ls []) := by
  intro n
  induction n with
  | zero => intro μ x1 x2 x3 x4 ls H locs hP hS hl hf; rw [f_Mo_merge_7] at hf; cases hf
  | succ n ih =>
    intro μ x1 x2 x3 x4 ls H locs hP hS hl hf
    obtain ⟨S, hr, hlk, hK⟩ := id X
    obtain ⟨hx, hb, hml, hown, hts⟩ := id S
    rw [f_Mo_merge_7] at hf
    refine lv_iload hx hb d_Mo_merge_7 (lv_at hl 4 rfl) ?_
    refine lv_aload_n hx hb d_Mo_merge_9 rfl (lv_at hl 0 rfl) ?_
    refine mg_0_50 hx hb hts hown hK hP q_868 d_Mo_merge_10 ?_
    refine lv_icmp_ge (tgt := 137) hx hb d_Mo_merge_13 rfl (fun hc => ?_) (fun hc => ?_)
    · replace hf := br_p hc hf
      refine lv_aload_n hx hb d_Mo_merge_137 rfl (lv_at hl 0 rfl) ?_
      refine lv_dup hx hb d_Mo_merge_138 rfl ?_
      refine mg_0_51 hx hb hts hown hK hP q_869 d_Mo_merge_139 ?_
      refine lv_iconst (v := 1) hx hb d_Mo_merge_142 (by decide) ?_
      refine lv_isub hx hb d_Mo_merge_143 ?_
      obtain ⟨μ1, hμ1, hf⟩ := bd_x hf
      refine mp_0_51 hx hb hts hown hK (hDA _) hP hS q_869 d_Mo_merge_144 hμ1 (fun H locs hP hS => ?_)
      refine lv_iload_n hx hb d_Mo_merge_147 rfl (lv_at hl 3 rfl) ?_
      refine lv_if_ne (tgt := 205) hx hb d_Mo_merge_148 rfl (fun hc => ?_) (fun hc => ?_)
      · replace hf := br_n hc hf
        refine lv_iload_n hx hb d_Mo_merge_205 rfl (lv_at hl 2 rfl) ?_
        obtain ⟨h1, h2⟩ := Prod.mk.inj (Option.some.inj hf)
        subst h1; subst h2
        exact W.iret hx hb hr (fun t ht _ => ⟨rfl, by rw [ht]; exact hP, hS.F ht⟩) hS.2.2 d_Mo_merge_206
      · replace hf := br_p hc hf
        refine lv_iconst (v := 0) hx hb d_Mo_merge_151 (by decide) ?_
        refine lv_istore (lv' := [(4, .int (0 : Int32)), (0, .ref (ad 0)), (1, .int x1), (2, .int x2), (3, .int x3)]) hx hb d_Mo_merge_152 hl (Nat.le_of_ble_eq_true rfl) rfl (fun ls hl => ?_)
        exact w_Mo_merge_154 X hDA _ _ _ _ _ _ _ _ hP hS (lv_sub (l' := [(0, .ref (ad 0)), (1, .int x1), (2, .int x2), (4, .int (0 : Int32))]) hl [1, 2, 3, 0] rfl) hf
    · replace hf := br_n hc hf
      refine lv_aload_n hx hb d_Mo_merge_16 rfl (lv_at hl 0 rfl) ?_
      refine mg_0_48 hx hb hts hown hK hP q_866 d_Mo_merge_17 ?_
      refine lv_iload hx hb d_Mo_merge_20 (lv_at hl 4 rfl) ?_
      obtain ⟨hi, hf⟩ := gd_x hf
      refine ml_38 hx hb hK hP (inb_in hi) d_Mo_merge_22 ?_
      refine lv_iload_n hx hb d_Mo_merge_23 rfl (lv_at hl 1 rfl) ?_
      refine lv_icmp_eq (tgt := 40) hx hb d_Mo_merge_24 rfl (fun hc => ?_) (fun hc => ?_)
      · replace hf := br_p hc hf
        exact w_Mo_merge_40 X hDA ih hP hS (lv_sub (l' := [(0, .ref (ad 0)), (1, .int x1), (2, .int x2), (3, .int x3), (4, .int x4)]) hl [0, 1, 2, 3, 4] rfl) hf
      · replace hf := br_n hc hf
        refine lv_aload_n hx hb d_Mo_merge_27 rfl (lv_at hl 0 rfl) ?_
        refine mg_0_48 hx hb hts hown hK hP q_866 d_Mo_merge_28 ?_
        refine lv_iload hx hb d_Mo_merge_31 (lv_at hl 4 rfl) ?_
        obtain ⟨hi, hf⟩ := gd_x hf
        refine ml_38 hx hb hK hP (inb_in hi) d_Mo_merge_33 ?_
        refine lv_iload_n hx hb d_Mo_merge_34 rfl (lv_at hl 1 rfl) ?_
        refine lv_iconst (v := 1) hx hb d_Mo_merge_35 (by decide) ?_
        refine lv_iadd hx hb d_Mo_merge_36 ?_
        refine lv_icmp_ne (tgt := 107) hx hb d_Mo_merge_37 rfl (fun hc => ?_) (fun hc => ?_)
        · replace hf := br_n hc hf
          refine lv_aload_n hx hb d_Mo_merge_107 rfl (lv_at hl 0 rfl) ?_
          refine mg_0_48 hx hb hts hown hK hP q_866 d_Mo_merge_108 ?_
          refine lv_iload hx hb d_Mo_merge_111 (lv_at hl 4 rfl) ?_
          obtain ⟨hi, hf⟩ := gd_x hf
          refine ml_38 hx hb hK hP (inb_in hi) d_Mo_merge_113 ?_
          refine lv_iload_n hx hb d_Mo_merge_114 rfl (lv_at hl 1 rfl) ?_
          refine lv_iconst (v := 1) hx hb d_Mo_merge_115 (by decide) ?_
          refine lv_iadd hx hb d_Mo_merge_116 ?_
          refine lv_icmp_le (tgt := 131) hx hb d_Mo_merge_117 rfl (fun hc => ?_) (fun hc => ?_)
          · replace hf := br_p hc hf
            exact w_Mo_merge_131 X hDA ih hP hS (lv_sub (l' := [(0, .ref (ad 0)), (1, .int x1), (2, .int x2), (3, .int x3), (4, .int x4)]) hl [0, 1, 2, 3, 4] rfl) hf
          · replace hf := br_n hc hf
            refine lv_aload_n hx hb d_Mo_merge_120 rfl (lv_at hl 0 rfl) ?_
            refine mg_0_48 hx hb hts hown hK hP q_866 d_Mo_merge_121 ?_
            refine lv_iload hx hb d_Mo_merge_124 (lv_at hl 4 rfl) ?_
            refine lv_dup2_11 hx hb d_Mo_merge_126 rfl rfl ?_
            obtain ⟨hi, hf⟩ := gd_x hf
            refine ml_38 hx hb hK hP (inb_in hi) d_Mo_merge_127 ?_
            refine lv_iconst (v := 1) hx hb d_Mo_merge_128 (by decide) ?_
            refine lv_isub hx hb d_Mo_merge_129 ?_
            obtain ⟨hi, hf⟩ := gd_x hf
            obtain ⟨μ2, hμ2, hf⟩ := bd_x hf
            refine ms_38 hx hb hK (hDA _) hP hS (inb_in hi) d_Mo_merge_130 hμ2 (fun H locs hP hS => ?_)
            exact w_Mo_merge_131 X hDA ih hP hS (lv_sub (l' := [(0, .ref (ad 0)), (1, .int x1), (2, .int x2), (3, .int x3), (4, .int x4)]) hl [0, 1, 2, 3, 4] rfl) hf
        · replace hf := br_p hc hf
          exact w_Mo_merge_40 X hDA ih hP hS (lv_sub (l' := [(0, .ref (ad 0)), (1, .int x1), (2, .int x2), (3, .int x3), (4, .int x4)]) hl [0, 1, 2, 3, 4] rfl) hf
def f_Mo_merge (n : Nat) (μ : Mem) (a1 : Int32) : Option (Int32 × Mem) := f_Mo_merge_7 n μ a1 (0 : Int32) (0 : Int32) (0 : Int32)
set_option maxHeartbeats 4000000 in
set_option maxRecDepth 100000 in
theorem w_Mo_merge {p : Program} {l : Launch} {e : Env} {s : State} {m : MethodId} {args : Array Value} {below : List Frame} {meth : Method} {c : Code} {D : va_G} {g : Nat → ClassId} {ad : Nat → Nat} {r : Int32} {μ' : Mem} {A : Nat → Prop} {n : Nat} {μ : Mem} {a1 : Int32} {ls : Array Slot} {H : Heap} {locs : List Loc} (X : Cx p s m args meth c b_Mo_merge 5 R_Mo (some .int) D CL (TY g)) (hDA : ∀ μ : Mem, va_D A (WM g ad μ)) (hP : va_P D CL (WM g ad μ) H) (hS : va_S A s.heap H locs) (hl : lv_has ls 5 [(0, .ref (ad 0)), (1, .int a1)]) (hf : f_Mo_merge n μ a1 = some (r, μ')) : WU p l e rm_Mo_merge s m args below meth c H locs D (WM g ad μ') A (some (.int r)) (F0 m 0 ls []) := by
  obtain ⟨S, hr, hlk, hK⟩ := id X
  obtain ⟨hx, hb, hml, hown, hts⟩ := id S
  rw [f_Mo_merge] at hf
  refine lv_iconst (v := 0) hx hb d_Mo_merge_0 (by decide) ?_
  refine lv_istore_n (lv' := [(2, .int (0 : Int32)), (0, .ref (ad 0)), (1, .int a1)]) hx hb d_Mo_merge_1 rfl hl (Nat.le_of_ble_eq_true rfl) rfl (fun ls hl => ?_)
  refine lv_iconst (v := 0) hx hb d_Mo_merge_2 (by decide) ?_
  refine lv_istore_n (lv' := [(3, .int (0 : Int32)), (2, .int (0 : Int32)), (0, .ref (ad 0)), (1, .int a1)]) hx hb d_Mo_merge_3 rfl hl (Nat.le_of_ble_eq_true rfl) rfl (fun ls hl => ?_)
  refine lv_iconst (v := 0) hx hb d_Mo_merge_4 (by decide) ?_
  refine lv_istore (lv' := [(4, .int (0 : Int32)), (3, .int (0 : Int32)), (2, .int (0 : Int32)), (0, .ref (ad 0)), (1, .int a1)]) hx hb d_Mo_merge_5 hl (Nat.le_of_ble_eq_true rfl) rfl (fun ls hl => ?_)
  exact w_Mo_merge_7 X hDA _ _ _ _ _ _ _ _ _ hP hS (lv_sub (l' := [(0, .ref (ad 0)), (1, .int a1), (2, .int (0 : Int32)), (3, .int (0 : Int32)), (4, .int (0 : Int32))]) hl [3, 4, 2, 1, 0] rfl) hf
theorem c_Mo_merge {l : Launch} {D : va_G} {g : Nat → ClassId} {ad : Nat → Nat} {μ : Mem} {r : Int32} {μ' : Mem} {A : Nat → Prop} {n : Nat} {a1 : Int32} (hDA : ∀ μ : Mem, va_D A (WM g ad μ)) (hf : f_Mo_merge n μ a1 = some (r, μ')) : Met l y_Mo_merge (Cond.code y_Mo_merge b_Mo_merge 5 (some .int) :: ww) rm_Mo_merge (RP D CL (TY g) (WM g ad μ) [.ref (ad 0), .int a1]) (QW D CL (WM g ad μ') A (some (.int r))) 0 0 A := by
  refine met_of (by decide) (Nat.le_of_ble_eq_true rfl) ?_
  intro p e s m below meth c ls X hP hl
  have hl : lv_has ls 5 [(0, .ref (ad 0)), (1, .int a1)] := hl
  exact w_Mo_merge X hDA hP va_S.rf hl hf
theorem d_Mo_flush_0 : decode b_Mo_flush 0 = .ok (.iconst 0, 1) := by decide +kernel
theorem d_Mo_flush_1 : decode b_Mo_flush 1 = .ok (.istore_n 1, 1) := by decide +kernel
theorem d_Mo_flush_2 : decode b_Mo_flush 2 = .ok (.iconst 0, 1) := by decide +kernel
theorem d_Mo_flush_3 : decode b_Mo_flush 3 = .ok (.istore_n 2, 1) := by decide +kernel
theorem d_Mo_flush_4 : decode b_Mo_flush 4 = .ok (.iconst 0, 1) := by decide +kernel
theorem d_Mo_flush_5 : decode b_Mo_flush 5 = .ok (.istore_n 3, 1) := by decide +kernel
theorem d_Mo_flush_6 : decode b_Mo_flush 6 = .ok (.iload_n 3, 1) := by decide +kernel
theorem d_Mo_flush_7 : decode b_Mo_flush 7 = .ok (.aload_n 0, 1) := by decide +kernel
theorem d_Mo_flush_8 : decode b_Mo_flush 8 = .ok (.getfield 244, 3) := by decide +kernel
theorem d_Mo_flush_11 : decode b_Mo_flush 11 = .ok (.if_icmp .ge 47, 3) := by decide +kernel
theorem d_Mo_flush_14 : decode b_Mo_flush 14 = .ok (.aload_n 0, 1) := by decide +kernel
theorem d_Mo_flush_15 : decode b_Mo_flush 15 = .ok (.getfield 116, 3) := by decide +kernel
theorem d_Mo_flush_18 : decode b_Mo_flush 18 = .ok (.iload_n 3, 1) := by decide +kernel
theorem d_Mo_flush_19 : decode b_Mo_flush 19 = .ok (.baload, 1) := by decide +kernel
theorem d_Mo_flush_20 : decode b_Mo_flush 20 = .ok (.ifCond .eq 32, 3) := by decide +kernel
theorem d_Mo_flush_23 : decode b_Mo_flush 23 = .ok (.aload_n 0, 1) := by decide +kernel
theorem d_Mo_flush_24 : decode b_Mo_flush 24 = .ok (.getfield 116, 3) := by decide +kernel
theorem d_Mo_flush_27 : decode b_Mo_flush 27 = .ok (.iload_n 3, 1) := by decide +kernel
theorem d_Mo_flush_28 : decode b_Mo_flush 28 = .ok (.iconst 0, 1) := by decide +kernel
theorem d_Mo_flush_29 : decode b_Mo_flush 29 = .ok (.bastore, 1) := by decide +kernel
theorem d_Mo_flush_30 : decode b_Mo_flush 30 = .ok (.aload_n 0, 1) := by decide +kernel
theorem d_Mo_flush_31 : decode b_Mo_flush 31 = .ok (.getfield 123, 3) := by decide +kernel
theorem d_Mo_flush_34 : decode b_Mo_flush 34 = .ok (.iload_n 3, 1) := by decide +kernel
theorem d_Mo_flush_35 : decode b_Mo_flush 35 = .ok (.aload_n 0, 1) := by decide +kernel
theorem d_Mo_flush_36 : decode b_Mo_flush 36 = .ok (.getfield 251, 3) := by decide +kernel
theorem d_Mo_flush_39 : decode b_Mo_flush 39 = .ok (.iastore, 1) := by decide +kernel
theorem d_Mo_flush_40 : decode b_Mo_flush 40 = .ok (.iload_n 1, 1) := by decide +kernel
theorem d_Mo_flush_41 : decode b_Mo_flush 41 = .ok (.aload_n 0, 1) := by decide +kernel
theorem d_Mo_flush_42 : decode b_Mo_flush 42 = .ok (.getfield 113, 3) := by decide +kernel
theorem d_Mo_flush_45 : decode b_Mo_flush 45 = .ok (.iload_n 3, 1) := by decide +kernel
theorem d_Mo_flush_46 : decode b_Mo_flush 46 = .ok (.iaload, 1) := by decide +kernel
theorem d_Mo_flush_47 : decode b_Mo_flush 47 = .ok (.iadd, 1) := by decide +kernel
theorem d_Mo_flush_48 : decode b_Mo_flush 48 = .ok (.istore_n 1, 1) := by decide +kernel
theorem d_Mo_flush_49 : decode b_Mo_flush 49 = .ok (.iinc 2 1, 3) := by decide +kernel
theorem d_Mo_flush_52 : decode b_Mo_flush 52 = .ok (.iinc 3 1, 3) := by decide +kernel
theorem d_Mo_flush_55 : decode b_Mo_flush 55 = .ok (.goto (-49), 3) := by decide +kernel
theorem d_Mo_flush_58 : decode b_Mo_flush 58 = .ok (.iload_n 2, 1) := by decide +kernel
theorem d_Mo_flush_59 : decode b_Mo_flush 59 = .ok (.ifCond .ne 5, 3) := by decide +kernel
theorem d_Mo_flush_62 : decode b_Mo_flush 62 = .ok (.iconst (-1), 1) := by decide +kernel
theorem d_Mo_flush_63 : decode b_Mo_flush 63 = .ok (.ireturn, 1) := by decide +kernel
theorem d_Mo_flush_64 : decode b_Mo_flush 64 = .ok (.aload_n 0, 1) := by decide +kernel
theorem d_Mo_flush_65 : decode b_Mo_flush 65 = .ok (.dup, 1) := by decide +kernel
theorem d_Mo_flush_66 : decode b_Mo_flush 66 = .ok (.getfield 251, 3) := by decide +kernel
theorem d_Mo_flush_69 : decode b_Mo_flush 69 = .ok (.iconst 1, 1) := by decide +kernel
theorem d_Mo_flush_70 : decode b_Mo_flush 70 = .ok (.iadd, 1) := by decide +kernel
theorem d_Mo_flush_71 : decode b_Mo_flush 71 = .ok (.putfield 251, 3) := by decide +kernel
theorem d_Mo_flush_74 : decode b_Mo_flush 74 = .ok (.aload_n 0, 1) := by decide +kernel
theorem d_Mo_flush_75 : decode b_Mo_flush 75 = .ok (.getfield 251, 3) := by decide +kernel
theorem d_Mo_flush_78 : decode b_Mo_flush 78 = .ok (.iconst 4, 1) := by decide +kernel
theorem d_Mo_flush_79 : decode b_Mo_flush 79 = .ok (.if_icmp .ge 5, 3) := by decide +kernel
theorem d_Mo_flush_82 : decode b_Mo_flush 82 = .ok (.iload_n 1, 1) := by decide +kernel
theorem d_Mo_flush_83 : decode b_Mo_flush 83 = .ok (.ireturn, 1) := by decide +kernel
theorem d_Mo_flush_84 : decode b_Mo_flush 84 = .ok (.iconst 0, 1) := by decide +kernel
theorem d_Mo_flush_85 : decode b_Mo_flush 85 = .ok (.istore_n 3, 1) := by decide +kernel
theorem d_Mo_flush_86 : decode b_Mo_flush 86 = .ok (.iconst 1, 1) := by decide +kernel
theorem d_Mo_flush_87 : decode b_Mo_flush 87 = .ok (.istore 4, 2) := by decide +kernel
theorem d_Mo_flush_89 : decode b_Mo_flush 89 = .ok (.iload 4, 2) := by decide +kernel
theorem d_Mo_flush_91 : decode b_Mo_flush 91 = .ok (.iconst 3, 1) := by decide +kernel
theorem d_Mo_flush_92 : decode b_Mo_flush 92 = .ok (.if_icmp .ge 55, 3) := by decide +kernel
theorem d_Mo_flush_95 : decode b_Mo_flush 95 = .ok (.aload_n 0, 1) := by decide +kernel
theorem d_Mo_flush_96 : decode b_Mo_flush 96 = .ok (.iload 4, 2) := by decide +kernel
theorem d_Mo_flush_98 : decode b_Mo_flush 98 = .ok (.invokevirtual 254, 3) := by decide +kernel
theorem d_Mo_flush_101 : decode b_Mo_flush 101 = .ok (.aload_n 0, 1) := by decide +kernel
theorem d_Mo_flush_102 : decode b_Mo_flush 102 = .ok (.iload 4, 2) := by decide +kernel
theorem d_Mo_flush_104 : decode b_Mo_flush 104 = .ok (.iconst 1, 1) := by decide +kernel
theorem d_Mo_flush_105 : decode b_Mo_flush 105 = .ok (.iadd, 1) := by decide +kernel
theorem d_Mo_flush_106 : decode b_Mo_flush 106 = .ok (.invokevirtual 254, 3) := by decide +kernel
theorem d_Mo_flush_109 : decode b_Mo_flush 109 = .ok (.iadd, 1) := by decide +kernel
theorem d_Mo_flush_110 : decode b_Mo_flush 110 = .ok (.istore 5, 2) := by decide +kernel
theorem d_Mo_flush_112 : decode b_Mo_flush 112 = .ok (.aload_n 0, 1) := by decide +kernel
theorem d_Mo_flush_113 : decode b_Mo_flush 113 = .ok (.iload_n 3, 1) := by decide +kernel
theorem d_Mo_flush_114 : decode b_Mo_flush 114 = .ok (.invokevirtual 254, 3) := by decide +kernel
theorem d_Mo_flush_117 : decode b_Mo_flush 117 = .ok (.aload_n 0, 1) := by decide +kernel
theorem d_Mo_flush_118 : decode b_Mo_flush 118 = .ok (.iload_n 3, 1) := by decide +kernel
theorem d_Mo_flush_119 : decode b_Mo_flush 119 = .ok (.iconst 1, 1) := by decide +kernel
theorem d_Mo_flush_120 : decode b_Mo_flush 120 = .ok (.iadd, 1) := by decide +kernel
theorem d_Mo_flush_121 : decode b_Mo_flush 121 = .ok (.invokevirtual 254, 3) := by decide +kernel
theorem d_Mo_flush_124 : decode b_Mo_flush 124 = .ok (.iadd, 1) := by decide +kernel
theorem d_Mo_flush_125 : decode b_Mo_flush 125 = .ok (.istore 6, 2) := by decide +kernel
theorem d_Mo_flush_127 : decode b_Mo_flush 127 = .ok (.iload 5, 2) := by decide +kernel
theorem d_Mo_flush_129 : decode b_Mo_flush 129 = .ok (.iload 6, 2) := by decide +kernel
theorem d_Mo_flush_131 : decode b_Mo_flush 131 = .ok (.if_icmp .ge 8, 3) := by decide +kernel
theorem d_Mo_flush_134 : decode b_Mo_flush 134 = .ok (.iload 4, 2) := by decide +kernel
theorem d_Mo_flush_136 : decode b_Mo_flush 136 = .ok (.goto 4, 3) := by decide +kernel
theorem d_Mo_flush_139 : decode b_Mo_flush 139 = .ok (.iload_n 3, 1) := by decide +kernel
theorem d_Mo_flush_140 : decode b_Mo_flush 140 = .ok (.istore_n 3, 1) := by decide +kernel
theorem d_Mo_flush_141 : decode b_Mo_flush 141 = .ok (.iinc 4 1, 3) := by decide +kernel
theorem d_Mo_flush_144 : decode b_Mo_flush 144 = .ok (.goto (-55), 3) := by decide +kernel
theorem d_Mo_flush_147 : decode b_Mo_flush 147 = .ok (.iload_n 1, 1) := by decide +kernel
theorem d_Mo_flush_148 : decode b_Mo_flush 148 = .ok (.aload_n 0, 1) := by decide +kernel
theorem d_Mo_flush_149 : decode b_Mo_flush 149 = .ok (.iload_n 3, 1) := by decide +kernel
theorem d_Mo_flush_150 : decode b_Mo_flush 150 = .ok (.invokevirtual 257, 3) := by decide +kernel
theorem d_Mo_flush_153 : decode b_Mo_flush 153 = .ok (.iadd, 1) := by decide +kernel
theorem d_Mo_flush_154 : decode b_Mo_flush 154 = .ok (.ireturn, 1) := by decide +kernel
abbrev rm_Mo_flush : Room := { frames := 1, cells := 0, slots := 0, locals := 24 }
def f_Mo_flush_140 (κ89 : Mem → Int32 → Int32 → Int32 → Option (Int32 × Mem)) (n : Nat) (μ : Mem) (x1 : Int32) (x4 : Int32) (s0 : Int32) : Option (Int32 × Mem) := bd (x4 + 1) (fun v1 => κ89 μ x1 s0 v1)
set_option maxHeartbeats 4000000 in
set_option maxRecDepth 100000 in
theorem w_Mo_flush_140 {p : Program} {l : Launch} {e : Env} {s : State} {m : MethodId} {args : Array Value} {below : List Frame} {meth : Method} {c : Code} {D : va_G} {g : Nat → ClassId} {ad : Nat → Nat} {r : Int32} {μ' : Mem} {A : Nat → Prop} {κ89 : Mem → Int32 → Int32 → Int32 → Option (Int32 × Mem)} {n : Nat} {μ : Mem} {x1 : Int32} {x4 : Int32} {s0 : Int32} {ls : Array Slot} {H : Heap} {locs : List Loc} (X : Cx p s m args meth c b_Mo_flush 7 R_Mo (some .int) D CL (TY g)) (hDA : ∀ μ : Mem, va_D A (WM g ad μ)) (hκ89 : ∀ (μ : Mem) (x1 : Int32) (x3 : Int32) (x4 : Int32) (ls : Array Slot) (H : Heap) (locs : List Loc), va_P D CL (WM g ad μ) H → va_S A s.heap H locs → lv_has ls 7 [(0, .ref (ad 0)), (1, .int x1), (3, .int x3), (4, .int x4)] → κ89 μ x1 x3 x4 = some (r, μ') → WU p l e rm_Mo_flush s m args below meth c H locs D (WM g ad μ') A (some (.int r)) (F0 m 89 ls [])) (hP : va_P D CL (WM g ad μ) H) (hS : va_S A s.heap H locs) (hl : lv_has ls 7 [(0, .ref (ad 0)), (1, .int x1), (4, .int x4)]) (hf : f_Mo_flush_140 κ89 n μ x1 x4 s0 = some (r, μ')) : WU p l e rm_Mo_flush s m args below meth c H locs D (WM g ad μ') A (some (.int r)) (F0 m 140 ls [.int s0]) := by
  obtain ⟨S, hr, hlk, hK⟩ := id X
  obtain ⟨hx, hb, hml, hown, hts⟩ := id S
  rw [f_Mo_flush_140] at hf
  refine lv_istore_n (lv' := [(3, .int s0), (0, .ref (ad 0)), (1, .int x1), (4, .int x4)]) hx hb d_Mo_flush_140 rfl hl (Nat.le_of_ble_eq_true rfl) rfl (fun ls hl => ?_)
  obtain ⟨v1, hv1, hf⟩ := bd_x hf
  refine lv_iinc (lv' := [(4, .int v1), (3, .int s0), (0, .ref (ad 0)), (1, .int x1)]) hx hb d_Mo_flush_141 hl (k := 3) rfl (show x4 + Int32.ofInt (1) = v1 from hv1) (Nat.le_of_ble_eq_true rfl) rfl (fun ls hl => ?_)
  refine lv_goto (tgt := 89) hx hb d_Mo_flush_144 rfl ?_
  exact hκ89 _ _ _ _ _ _ _ hP hS (lv_sub (l' := [(0, .ref (ad 0)), (1, .int x1), (3, .int s0), (4, .int v1)]) hl [2, 3, 1, 0] rfl) hf
def f_Mo_flush_89 : Nat → Mem → Int32 → Int32 → Int32 → Option (Int32 × Mem)
  | 0, _, _, _, _ => none
  | n + 1, μ, x1, x3, x4 => (if (3 : Int32) ≤ x4 then (cl2 (f_Mo_merge n μ x3) (fun v1 μ2 => some (x1 + v1, μ2))) else (cl (f_Mo_lying n μ x4) (fun v3 => cl (f_Mo_lying n μ (x4 + (1 : Int32))) (fun v4 => bd (v3 + v4) (fun v5 => cl (f_Mo_lying n μ x3) (fun v6 => cl (f_Mo_lying n μ (x3 + (1 : Int32))) (fun v7 => bd (v6 + v7) (fun v8 => (if v8 ≤ v5 then (f_Mo_flush_140 (f_Mo_flush_89 n) n μ x1 x4 x3) else (f_Mo_flush_140 (f_Mo_flush_89 n) n μ x1 x4 x4))))))))))
set_option maxHeartbeats 4000000 in
set_option maxRecDepth 100000 in
theorem w_Mo_flush_89 {p : Program} {l : Launch} {e : Env} {s : State} {m : MethodId} {args : Array Value} {below : List Frame} {meth : Method} {c : Code} {D : va_G} {g : Nat → ClassId} {ad : Nat → Nat} {r : Int32} {μ' : Mem} {A : Nat → Prop} (X : Cx p s m args meth c b_Mo_flush 7 R_Mo (some .int) D CL (TY g)) (hDA : ∀ μ : Mem, va_D A (WM g ad μ)) : ∀ (n : Nat) (μ : Mem) (x1 : Int32) (x3 : Int32) (x4 : Int32) (ls : Array Slot) (H : Heap) (locs : List Loc), va_P D CL (WM g ad μ) H → va_S A s.heap H locs → lv_has ls 7 [(0, .ref (ad 0)), (1, .int x1), (3, .int x3), (4, .int x4)] → f_Mo_flush_89 n μ x1 x3 x4 = some (r, μ') → WU p l e rm_Mo_flush s m args below meth c H locs D (WM g ad μ') A (some (.int r)) (F0 m 89 ls []) := by
  intro n
  induction n with
  | zero => intro μ x1 x3 x4 ls H locs hP hS hl hf; rw [f_Mo_flush_89] at hf; cases hf
  | succ n ih =>
    intro μ x1 x3 x4 ls H locs hP hS hl hf
    obtain ⟨S, hr, hlk, hK⟩ := id X
    obtain ⟨hx, hb, hml, hown, hts⟩ := id S
    rw [f_Mo_flush_89] at hf
    refine lv_iload hx hb d_Mo_flush_89 (lv_at hl 3 rfl) ?_
    refine lv_iconst (v := 3) hx hb d_Mo_flush_91 (by decide) ?_
    refine lv_icmp_ge (tgt := 147) hx hb d_Mo_flush_92 rfl (fun hc => ?_) (fun hc => ?_)
    · replace hf := br_p hc hf
      refine lv_iload_n hx hb d_Mo_flush_147 rfl (lv_at hl 1 rfl) ?_
      refine lv_aload_n hx hb d_Mo_flush_148 rfl (lv_at hl 0 rfl) ?_
      refine lv_iload_n hx hb d_Mo_flush_149 rfl (lv_at hl 2 rfl) ?_
      obtain ⟨v1, μ2, hv1, hf⟩ := cl2_x hf
      refine wrV (As := [.int x3]) (rest := [.int x1]) S K_Mo_merge q_1133 (c_Mo_merge hDA hv1) hK hP hS ⟨rfl, rfl⟩ ⟨Nat.le_of_ble_eq_true rfl, Nat.le_of_ble_eq_true rfl⟩ (mr_0 hK hP) rfl hl.1 rfl (Nat.le_of_ble_eq_true rfl) d_Mo_flush_150 ⟨Nat.le_refl _, Nat.le_refl _⟩ (fun H locs hP hS => ?_)
      refine lv_iadd hx hb d_Mo_flush_153 ?_
      obtain ⟨h1, h2⟩ := Prod.mk.inj (Option.some.inj hf)
      subst h1; subst h2
      exact W.iret hx hb hr (fun t ht _ => ⟨rfl, by rw [ht]; exact hP, hS.F ht⟩) hS.2.2 d_Mo_flush_154
    · replace hf := br_n hc hf
      refine lv_aload_n hx hb d_Mo_flush_95 rfl (lv_at hl 0 rfl) ?_
      refine lv_iload hx hb d_Mo_flush_96 (lv_at hl 3 rfl) ?_
      obtain ⟨v3, hv3, hf⟩ := cl_x hf
      refine rdV (As := [.int x4]) (rest := []) S K_Mo_lying q_1129 (c_Mo_lying hv3) hK hP ⟨rfl, rfl⟩ ⟨Nat.le_of_ble_eq_true rfl, Nat.le_of_ble_eq_true rfl⟩ (mr_0 hK hP) rfl hl.1 rfl (Nat.le_of_ble_eq_true rfl) d_Mo_flush_98 ⟨Nat.le_refl _, Nat.le_refl _⟩ ?_
      refine lv_aload_n hx hb d_Mo_flush_101 rfl (lv_at hl 0 rfl) ?_
      refine lv_iload hx hb d_Mo_flush_102 (lv_at hl 3 rfl) ?_
      refine lv_iconst (v := 1) hx hb d_Mo_flush_104 (by decide) ?_
      refine lv_iadd hx hb d_Mo_flush_105 ?_
      obtain ⟨v4, hv4, hf⟩ := cl_x hf
      refine rdV (As := [.int (x4 + (1 : Int32))]) (rest := [.int v3]) S K_Mo_lying q_1129 (c_Mo_lying hv4) hK hP ⟨rfl, rfl⟩ ⟨Nat.le_of_ble_eq_true rfl, Nat.le_of_ble_eq_true rfl⟩ (mr_0 hK hP) rfl hl.1 rfl (Nat.le_of_ble_eq_true rfl) d_Mo_flush_106 ⟨Nat.le_refl _, Nat.le_refl _⟩ ?_
      refine lv_iadd hx hb d_Mo_flush_109 ?_
      obtain ⟨v5, hv5, hf⟩ := bd_x hf
      refine top_i hv5 ?_
      refine lv_istore (lv' := [(5, .int v5), (0, .ref (ad 0)), (1, .int x1), (3, .int x3), (4, .int x4)]) hx hb d_Mo_flush_110 hl (Nat.le_of_ble_eq_true rfl) rfl (fun ls hl => ?_)
      refine lv_aload_n hx hb d_Mo_flush_112 rfl (lv_at hl 1 rfl) ?_
      refine lv_iload_n hx hb d_Mo_flush_113 rfl (lv_at hl 3 rfl) ?_
      obtain ⟨v6, hv6, hf⟩ := cl_x hf
      refine rdV (As := [.int x3]) (rest := []) S K_Mo_lying q_1129 (c_Mo_lying hv6) hK hP ⟨rfl, rfl⟩ ⟨Nat.le_of_ble_eq_true rfl, Nat.le_of_ble_eq_true rfl⟩ (mr_0 hK hP) rfl hl.1 rfl (Nat.le_of_ble_eq_true rfl) d_Mo_flush_114 ⟨Nat.le_refl _, Nat.le_refl _⟩ ?_
      refine lv_aload_n hx hb d_Mo_flush_117 rfl (lv_at hl 1 rfl) ?_
      refine lv_iload_n hx hb d_Mo_flush_118 rfl (lv_at hl 3 rfl) ?_
      refine lv_iconst (v := 1) hx hb d_Mo_flush_119 (by decide) ?_
      refine lv_iadd hx hb d_Mo_flush_120 ?_
      obtain ⟨v7, hv7, hf⟩ := cl_x hf
      refine rdV (As := [.int (x3 + (1 : Int32))]) (rest := [.int v6]) S K_Mo_lying q_1129 (c_Mo_lying hv7) hK hP ⟨rfl, rfl⟩ ⟨Nat.le_of_ble_eq_true rfl, Nat.le_of_ble_eq_true rfl⟩ (mr_0 hK hP) rfl hl.1 rfl (Nat.le_of_ble_eq_true rfl) d_Mo_flush_121 ⟨Nat.le_refl _, Nat.le_refl _⟩ ?_
      refine lv_iadd hx hb d_Mo_flush_124 ?_
      obtain ⟨v8, hv8, hf⟩ := bd_x hf
      refine top_i hv8 ?_
      refine lv_istore (lv' := [(6, .int v8), (5, .int v5), (0, .ref (ad 0)), (1, .int x1), (3, .int x3), (4, .int x4)]) hx hb d_Mo_flush_125 hl (Nat.le_of_ble_eq_true rfl) rfl (fun ls hl => ?_)
      refine lv_iload hx hb d_Mo_flush_127 (lv_at hl 1 rfl) ?_
      refine lv_iload hx hb d_Mo_flush_129 (lv_at hl 0 rfl) ?_
      refine lv_icmp_ge (tgt := 139) hx hb d_Mo_flush_131 rfl (fun hc => ?_) (fun hc => ?_)
      · replace hf := br_p hc hf
        refine lv_iload_n hx hb d_Mo_flush_139 rfl (lv_at hl 4 rfl) ?_
        exact w_Mo_flush_140 X hDA ih hP hS (lv_sub (l' := [(0, .ref (ad 0)), (1, .int x1), (4, .int x4)]) hl [2, 3, 5] rfl) hf
      · replace hf := br_n hc hf
        refine lv_iload hx hb d_Mo_flush_134 (lv_at hl 5 rfl) ?_
        refine lv_goto (tgt := 140) hx hb d_Mo_flush_136 rfl ?_
        exact w_Mo_flush_140 X hDA ih hP hS (lv_sub (l' := [(0, .ref (ad 0)), (1, .int x1), (4, .int x4)]) hl [2, 3, 5] rfl) hf
def f_Mo_flush_52 (κ6 : Mem → Int32 → Int32 → Int32 → Option (Int32 × Mem)) (n : Nat) (μ : Mem) (x1 : Int32) (x2 : Int32) (x3 : Int32) : Option (Int32 × Mem) := bd (x3 + 1) (fun v1 => κ6 μ x1 x2 v1)
set_option maxHeartbeats 4000000 in
set_option maxRecDepth 100000 in
theorem w_Mo_flush_52 {p : Program} {l : Launch} {e : Env} {s : State} {m : MethodId} {args : Array Value} {below : List Frame} {meth : Method} {c : Code} {D : va_G} {g : Nat → ClassId} {ad : Nat → Nat} {r : Int32} {μ' : Mem} {A : Nat → Prop} {κ6 : Mem → Int32 → Int32 → Int32 → Option (Int32 × Mem)} {n : Nat} {μ : Mem} {x1 : Int32} {x2 : Int32} {x3 : Int32} {ls : Array Slot} {H : Heap} {locs : List Loc} (X : Cx p s m args meth c b_Mo_flush 7 R_Mo (some .int) D CL (TY g)) (hDA : ∀ μ : Mem, va_D A (WM g ad μ)) (hκ6 : ∀ (μ : Mem) (x1 : Int32) (x2 : Int32) (x3 : Int32) (ls : Array Slot) (H : Heap) (locs : List Loc), va_P D CL (WM g ad μ) H → va_S A s.heap H locs → lv_has ls 7 [(0, .ref (ad 0)), (1, .int x1), (2, .int x2), (3, .int x3)] → κ6 μ x1 x2 x3 = some (r, μ') → WU p l e rm_Mo_flush s m args below meth c H locs D (WM g ad μ') A (some (.int r)) (F0 m 6 ls [])) (hP : va_P D CL (WM g ad μ) H) (hS : va_S A s.heap H locs) (hl : lv_has ls 7 [(0, .ref (ad 0)), (1, .int x1), (2, .int x2), (3, .int x3)]) (hf : f_Mo_flush_52 κ6 n μ x1 x2 x3 = some (r, μ')) : WU p l e rm_Mo_flush s m args below meth c H locs D (WM g ad μ') A (some (.int r)) (F0 m 52 ls []) := by
  obtain ⟨S, hr, hlk, hK⟩ := id X
  obtain ⟨hx, hb, hml, hown, hts⟩ := id S
  rw [f_Mo_flush_52] at hf
  obtain ⟨v1, hv1, hf⟩ := bd_x hf
  refine lv_iinc (lv' := [(3, .int v1), (0, .ref (ad 0)), (1, .int x1), (2, .int x2)]) hx hb d_Mo_flush_52 hl (k := 3) rfl (show x3 + Int32.ofInt (1) = v1 from hv1) (Nat.le_of_ble_eq_true rfl) rfl (fun ls hl => ?_)
  refine lv_goto (tgt := 6) hx hb d_Mo_flush_55 rfl ?_
  exact hκ6 _ _ _ _ _ _ _ hP hS (lv_sub (l' := [(0, .ref (ad 0)), (1, .int x1), (2, .int x2), (3, .int v1)]) hl [1, 2, 3, 0] rfl) hf
def f_Mo_flush_6 : Nat → Mem → Int32 → Int32 → Int32 → Option (Int32 × Mem)
  | 0, _, _, _, _ => none
  | n + 1, μ, x1, x2, x3 => (if (μ.1 0 50) ≤ x3 then (if x2 = 0 then (some ((-1 : Int32), μ)) else (bd (wi μ 0 51 ((μ.1 0 51) + (1 : Int32))) (fun μ1 => (if (4 : Int32) ≤ (μ1.1 0 51) then (f_Mo_flush_89 n μ1 x1 (0 : Int32) (1 : Int32)) else (some (x1, μ1)))))) else (gd (inb x3 40) ((if (μ.1 36 x3.toNatClampNeg) = 0 then (f_Mo_flush_52 (f_Mo_flush_6 n) n μ x1 x2 x3) else (gd (inb x3 40) (bd (wi μ 36 x3.toNatClampNeg (0 : Int32)) (fun μ2 => gd (inb x3 40) (bd (wi μ2 38 x3.toNatClampNeg (μ2.1 0 51)) (fun μ3 => gd (inb x3 40) (bd (x1 + (μ3.1 35 x3.toNatClampNeg)) (fun v4 => bd (x2 + 1) (fun v5 => f_Mo_flush_52 (f_Mo_flush_6 n) n μ3 v4 v5 x3))))))))))))
set_option maxHeartbeats 4000000 in
set_option maxRecDepth 100000 in
theorem w_Mo_flush_6 {p : Program} {l : Launch} {e : Env} {s : State} {m : MethodId} {args : Array Value} {below : List Frame} {meth : Method} {c : Code} {D : va_G} {g : Nat → ClassId} {ad : Nat → Nat} {r : Int32} {μ' : Mem} {A : Nat → Prop} (X : Cx p s m args meth c b_Mo_flush 7 R_Mo (some .int) D CL (TY g)) (hDA : ∀ μ : Mem, va_D A (WM g ad μ)) : ∀ (n : Nat) (μ : Mem) (x1 : Int32) (x2 : Int32) (x3 : Int32) (ls : Array Slot) (H : Heap) (locs : List Loc), va_P D CL (WM g ad μ) H → va_S A s.heap H locs → lv_has ls 7 [(0, .ref (ad 0)), (1, .int x1), (2, .int x2), (3, .int x3)] → f_Mo_flush_6 n μ x1 x2 x3 = some (r, μ') → WU p l e rm_Mo_flush s m args below meth c H locs D (WM g ad μ') A (some (.int r)) (F0 m 6 ls []) := by
  intro n
  induction n with
  | zero => intro μ x1 x2 x3 ls H locs hP hS hl hf; rw [f_Mo_flush_6] at hf; cases hf
  | succ n ih =>
    intro μ x1 x2 x3 ls H locs hP hS hl hf
    obtain ⟨S, hr, hlk, hK⟩ := id X
    obtain ⟨hx, hb, hml, hown, hts⟩ := id S
    rw [f_Mo_flush_6] at hf
    refine lv_iload_n hx hb d_Mo_flush_6 rfl (lv_at hl 3 rfl) ?_
    refine lv_aload_n hx hb d_Mo_flush_7 rfl (lv_at hl 0 rfl) ?_
    refine mg_0_50 hx hb hts hown hK hP q_868 d_Mo_flush_8 ?_
    refine lv_icmp_ge (tgt := 58) hx hb d_Mo_flush_11 rfl (fun hc => ?_) (fun hc => ?_)
    · replace hf := br_p hc hf
      refine lv_iload_n hx hb d_Mo_flush_58 rfl (lv_at hl 2 rfl) ?_
      refine lv_if_ne (tgt := 64) hx hb d_Mo_flush_59 rfl (fun hc => ?_) (fun hc => ?_)
      · replace hf := br_n hc hf
        refine lv_aload_n hx hb d_Mo_flush_64 rfl (lv_at hl 0 rfl) ?_
        refine lv_dup hx hb d_Mo_flush_65 rfl ?_
        refine mg_0_51 hx hb hts hown hK hP q_869 d_Mo_flush_66 ?_
        refine lv_iconst (v := 1) hx hb d_Mo_flush_69 (by decide) ?_
        refine lv_iadd hx hb d_Mo_flush_70 ?_
        obtain ⟨μ1, hμ1, hf⟩ := bd_x hf
        refine mp_0_51 hx hb hts hown hK (hDA _) hP hS q_869 d_Mo_flush_71 hμ1 (fun H locs hP hS => ?_)
        refine lv_aload_n hx hb d_Mo_flush_74 rfl (lv_at hl 0 rfl) ?_
        refine mg_0_51 hx hb hts hown hK hP q_869 d_Mo_flush_75 ?_
        refine lv_iconst (v := 4) hx hb d_Mo_flush_78 (by decide) ?_
        refine lv_icmp_ge (tgt := 84) hx hb d_Mo_flush_79 rfl (fun hc => ?_) (fun hc => ?_)
        · replace hf := br_p hc hf
          refine lv_iconst (v := 0) hx hb d_Mo_flush_84 (by decide) ?_
          refine lv_istore_n (lv' := [(3, .int (0 : Int32)), (0, .ref (ad 0)), (1, .int x1), (2, .int x2)]) hx hb d_Mo_flush_85 rfl hl (Nat.le_of_ble_eq_true rfl) rfl (fun ls hl => ?_)
          refine lv_iconst (v := 1) hx hb d_Mo_flush_86 (by decide) ?_
          refine lv_istore (lv' := [(4, .int (1 : Int32)), (3, .int (0 : Int32)), (0, .ref (ad 0)), (1, .int x1), (2, .int x2)]) hx hb d_Mo_flush_87 hl (Nat.le_of_ble_eq_true rfl) rfl (fun ls hl => ?_)
          exact w_Mo_flush_89 X hDA _ _ _ _ _ _ _ _ hP hS (lv_sub (l' := [(0, .ref (ad 0)), (1, .int x1), (3, .int (0 : Int32)), (4, .int (1 : Int32))]) hl [2, 3, 1, 0] rfl) hf
        · replace hf := br_n hc hf
          refine lv_iload_n hx hb d_Mo_flush_82 rfl (lv_at hl 1 rfl) ?_
          obtain ⟨h1, h2⟩ := Prod.mk.inj (Option.some.inj hf)
          subst h1; subst h2
          exact W.iret hx hb hr (fun t ht _ => ⟨rfl, by rw [ht]; exact hP, hS.F ht⟩) hS.2.2 d_Mo_flush_83
      · replace hf := br_p hc hf
        refine lv_iconst (v := -1) hx hb d_Mo_flush_62 (by decide) ?_
        obtain ⟨h1, h2⟩ := Prod.mk.inj (Option.some.inj hf)
        subst h1; subst h2
        exact W.iret hx hb hr (fun t ht _ => ⟨rfl, by rw [ht]; exact hP, hS.F ht⟩) hS.2.2 d_Mo_flush_63
    · replace hf := br_n hc hf
      refine lv_aload_n hx hb d_Mo_flush_14 rfl (lv_at hl 0 rfl) ?_
      refine mg_0_46 hx hb hts hown hK hP q_864 d_Mo_flush_15 ?_
      refine lv_iload_n hx hb d_Mo_flush_18 rfl (lv_at hl 3 rfl) ?_
      obtain ⟨hi, hf⟩ := gd_x hf
      refine ml_36 hx hb hK hP (inb_in hi) d_Mo_flush_19 ?_
      refine lv_if_eq (tgt := 52) hx hb d_Mo_flush_20 rfl (fun hc => ?_) (fun hc => ?_)
      · replace hf := br_p hc hf
        exact w_Mo_flush_52 X hDA ih hP hS (lv_sub (l' := [(0, .ref (ad 0)), (1, .int x1), (2, .int x2), (3, .int x3)]) hl [0, 1, 2, 3] rfl) hf
      · replace hf := br_n hc hf
        refine lv_aload_n hx hb d_Mo_flush_23 rfl (lv_at hl 0 rfl) ?_
        refine mg_0_46 hx hb hts hown hK hP q_864 d_Mo_flush_24 ?_
        refine lv_iload_n hx hb d_Mo_flush_27 rfl (lv_at hl 3 rfl) ?_
        refine lv_iconst (v := 0) hx hb d_Mo_flush_28 (by decide) ?_
        obtain ⟨hi, hf⟩ := gd_x hf
        obtain ⟨μ2, hμ2, hf⟩ := bd_x hf
        refine ms_36 hx hb hK (hDA _) hP hS (inb_in hi) rfl d_Mo_flush_29 hμ2 (fun H locs hP hS => ?_)
        refine lv_aload_n hx hb d_Mo_flush_30 rfl (lv_at hl 0 rfl) ?_
        refine mg_0_48 hx hb hts hown hK hP q_866 d_Mo_flush_31 ?_
        refine lv_iload_n hx hb d_Mo_flush_34 rfl (lv_at hl 3 rfl) ?_
        refine lv_aload_n hx hb d_Mo_flush_35 rfl (lv_at hl 0 rfl) ?_
        refine mg_0_51 hx hb hts hown hK hP q_869 d_Mo_flush_36 ?_
        obtain ⟨hi, hf⟩ := gd_x hf
        obtain ⟨μ3, hμ3, hf⟩ := bd_x hf
        refine ms_38 hx hb hK (hDA _) hP hS (inb_in hi) d_Mo_flush_39 hμ3 (fun H locs hP hS => ?_)
        refine lv_iload_n hx hb d_Mo_flush_40 rfl (lv_at hl 1 rfl) ?_
        refine lv_aload_n hx hb d_Mo_flush_41 rfl (lv_at hl 0 rfl) ?_
        refine mg_0_45 hx hb hts hown hK hP q_863 d_Mo_flush_42 ?_
        refine lv_iload_n hx hb d_Mo_flush_45 rfl (lv_at hl 3 rfl) ?_
        obtain ⟨hi, hf⟩ := gd_x hf
        refine ml_35 hx hb hK hP (inb_in hi) d_Mo_flush_46 ?_
        refine lv_iadd hx hb d_Mo_flush_47 ?_
        obtain ⟨v4, hv4, hf⟩ := bd_x hf
        refine top_i hv4 ?_
        refine lv_istore_n (lv' := [(1, .int v4), (0, .ref (ad 0)), (2, .int x2), (3, .int x3)]) hx hb d_Mo_flush_48 rfl hl (Nat.le_of_ble_eq_true rfl) rfl (fun ls hl => ?_)
        obtain ⟨v5, hv5, hf⟩ := bd_x hf
        refine lv_iinc (lv' := [(2, .int v5), (1, .int v4), (0, .ref (ad 0)), (3, .int x3)]) hx hb d_Mo_flush_49 hl (k := 2) rfl (show x2 + Int32.ofInt (1) = v5 from hv5) (Nat.le_of_ble_eq_true rfl) rfl (fun ls hl => ?_)
        exact w_Mo_flush_52 X hDA ih hP hS (lv_sub (l' := [(0, .ref (ad 0)), (1, .int v4), (2, .int v5), (3, .int x3)]) hl [2, 1, 0, 3] rfl) hf
def f_Mo_flush (n : Nat) (μ : Mem) : Option (Int32 × Mem) := f_Mo_flush_6 n μ (0 : Int32) (0 : Int32) (0 : Int32)
set_option maxHeartbeats 4000000 in
set_option maxRecDepth 100000 in
theorem w_Mo_flush {p : Program} {l : Launch} {e : Env} {s : State} {m : MethodId} {args : Array Value} {below : List Frame} {meth : Method} {c : Code} {D : va_G} {g : Nat → ClassId} {ad : Nat → Nat} {r : Int32} {μ' : Mem} {A : Nat → Prop} {n : Nat} {μ : Mem} {ls : Array Slot} {H : Heap} {locs : List Loc} (X : Cx p s m args meth c b_Mo_flush 7 R_Mo (some .int) D CL (TY g)) (hDA : ∀ μ : Mem, va_D A (WM g ad μ)) (hP : va_P D CL (WM g ad μ) H) (hS : va_S A s.heap H locs) (hl : lv_has ls 7 [(0, .ref (ad 0))]) (hf : f_Mo_flush n μ = some (r, μ')) : WU p l e rm_Mo_flush s m args below meth c H locs D (WM g ad μ') A (some (.int r)) (F0 m 0 ls []) := by
  obtain ⟨S, hr, hlk, hK⟩ := id X
  obtain ⟨hx, hb, hml, hown, hts⟩ := id S
  rw [f_Mo_flush] at hf
  refine lv_iconst (v := 0) hx hb d_Mo_flush_0 (by decide) ?_
  refine lv_istore_n (lv' := [(1, .int (0 : Int32)), (0, .ref (ad 0))]) hx hb d_Mo_flush_1 rfl hl (Nat.le_of_ble_eq_true rfl) rfl (fun ls hl => ?_)
  refine lv_iconst (v := 0) hx hb d_Mo_flush_2 (by decide) ?_
  refine lv_istore_n (lv' := [(2, .int (0 : Int32)), (1, .int (0 : Int32)), (0, .ref (ad 0))]) hx hb d_Mo_flush_3 rfl hl (Nat.le_of_ble_eq_true rfl) rfl (fun ls hl => ?_)
  refine lv_iconst (v := 0) hx hb d_Mo_flush_4 (by decide) ?_
  refine lv_istore_n (lv' := [(3, .int (0 : Int32)), (2, .int (0 : Int32)), (1, .int (0 : Int32)), (0, .ref (ad 0))]) hx hb d_Mo_flush_5 rfl hl (Nat.le_of_ble_eq_true rfl) rfl (fun ls hl => ?_)
  exact w_Mo_flush_6 X hDA _ _ _ _ _ _ _ _ hP hS (lv_sub (l' := [(0, .ref (ad 0)), (1, .int (0 : Int32)), (2, .int (0 : Int32)), (3, .int (0 : Int32))]) hl [3, 2, 1, 0] rfl) hf
theorem c_Mo_flush {l : Launch} {D : va_G} {g : Nat → ClassId} {ad : Nat → Nat} {μ : Mem} {r : Int32} {μ' : Mem} {A : Nat → Prop} {n : Nat} (hDA : ∀ μ : Mem, va_D A (WM g ad μ)) (hf : f_Mo_flush n μ = some (r, μ')) : Met l y_Mo_flush (Cond.code y_Mo_flush b_Mo_flush 7 (some .int) :: ww) rm_Mo_flush (RP D CL (TY g) (WM g ad μ) [.ref (ad 0)]) (QW D CL (WM g ad μ') A (some (.int r))) 0 0 A := by
  refine met_of (by decide) (Nat.le_of_ble_eq_true rfl) ?_
  intro p e s m below meth c ls X hP hl
  have hl : lv_has ls 7 [(0, .ref (ad 0))] := hl
  exact w_Mo_flush X hDA hP va_S.rf hl hf
theorem d_Mo_segment_0 : decode b_Mo_segment 0 = .ok (.iload_n 1, 1) := by decide +kernel
theorem d_Mo_segment_1 : decode b_Mo_segment 1 = .ok (.iconst (-1), 1) := by decide +kernel
theorem d_Mo_segment_2 : decode b_Mo_segment 2 = .ok (.if_icmp .ne 10, 3) := by decide +kernel
theorem d_Mo_segment_5 : decode b_Mo_segment 5 = .ok (.aload_n 0, 1) := by decide +kernel
theorem d_Mo_segment_6 : decode b_Mo_segment 6 = .ok (.getfield 251, 3) := by decide +kernel
theorem d_Mo_segment_9 : decode b_Mo_segment 9 = .ok (.goto 26, 3) := by decide +kernel
theorem d_Mo_segment_12 : decode b_Mo_segment 12 = .ok (.iload_n 1, 1) := by decide +kernel
theorem d_Mo_segment_13 : decode b_Mo_segment 13 = .ok (.iconst 0, 1) := by decide +kernel
theorem d_Mo_segment_14 : decode b_Mo_segment 14 = .ok (.aload_n 0, 1) := by decide +kernel
theorem d_Mo_segment_15 : decode b_Mo_segment 15 = .ok (.getfield 251, 3) := by decide +kernel
theorem d_Mo_segment_18 : decode b_Mo_segment 18 = .ok (.iconst 1, 1) := by decide +kernel
theorem d_Mo_segment_19 : decode b_Mo_segment 19 = .ok (.isub, 1) := by decide +kernel
theorem d_Mo_segment_20 : decode b_Mo_segment 20 = .ok (.invokestatic 142, 3) := by decide +kernel
theorem d_Mo_segment_23 : decode b_Mo_segment 23 = .ok (.ifCond .eq 11, 3) := by decide +kernel
theorem d_Mo_segment_26 : decode b_Mo_segment 26 = .ok (.aload_n 0, 1) := by decide +kernel
theorem d_Mo_segment_27 : decode b_Mo_segment 27 = .ok (.iload_n 1, 1) := by decide +kernel
theorem d_Mo_segment_28 : decode b_Mo_segment 28 = .ok (.invokevirtual 254, 3) := by decide +kernel
theorem d_Mo_segment_31 : decode b_Mo_segment 31 = .ok (.goto 4, 3) := by decide +kernel
theorem d_Mo_segment_34 : decode b_Mo_segment 34 = .ok (.iconst (-1), 1) := by decide +kernel
theorem d_Mo_segment_35 : decode b_Mo_segment 35 = .ok (.ireturn, 1) := by decide +kernel
abbrev rm_Mo_segment : Room := { frames := 1, cells := 0, slots := 0, locals := 23 }
def f_Mo_segment (n : Nat) (μ : Mem) (a1 : Int32) : Option Int32 := (if a1 = (-1 : Int32) then (some (μ.1 0 51)) else (cl (f_Mo_in n a1 (0 : Int32) ((μ.1 0 51) - (1 : Int32))) (fun v1 => (if (bz v1) = 0 then (some (-1 : Int32)) else (cl (f_Mo_lying n μ a1) (fun v2 => some v2))))))
set_option maxHeartbeats 4000000 in
set_option maxRecDepth 100000 in
theorem w_Mo_segment {p : Program} {l : Launch} {e : Env} {s : State} {m : MethodId} {args : Array Value} {below : List Frame} {meth : Method} {c : Code} {D : va_G} {g : Nat → ClassId} {ad : Nat → Nat} {μ : Mem} {r : Int32} {n : Nat} {a1 : Int32} {ls : Array Slot} (X : Cx p s m args meth c b_Mo_segment 2 R_Mo (some .int) D CL (TY g)) (hP : va_P D CL (WM g ad μ) s.heap) (hl : lv_has ls 2 [(0, .ref (ad 0)), (1, .int a1)]) (hf : f_Mo_segment n μ a1 = some r) : WR p l e rm_Mo_segment s m args below meth c (.int r) (F0 m 0 ls []) := by
  obtain ⟨S, hr, hlk, hK⟩ := id X
  obtain ⟨hx, hb, hml, hown, hts⟩ := id S
  rw [f_Mo_segment] at hf
  refine lv_iload_n hx hb d_Mo_segment_0 rfl (lv_at hl 1 rfl) ?_
  refine lv_iconst (v := -1) hx hb d_Mo_segment_1 (by decide) ?_
  refine lv_icmp_ne (tgt := 12) hx hb d_Mo_segment_2 rfl (fun hc => ?_) (fun hc => ?_)
  · replace hf := br_n hc hf
    refine lv_iload_n hx hb d_Mo_segment_12 rfl (lv_at hl 1 rfl) ?_
    refine lv_iconst (v := 0) hx hb d_Mo_segment_13 (by decide) ?_
    refine lv_aload_n hx hb d_Mo_segment_14 rfl (lv_at hl 0 rfl) ?_
    refine mg_0_51 hx hb hts hown hK hP q_869 d_Mo_segment_15 ?_
    refine lv_iconst (v := 1) hx hb d_Mo_segment_18 (by decide) ?_
    refine lv_isub hx hb d_Mo_segment_19 ?_
    obtain ⟨v1, hv1, hf⟩ := cl_x hf
    refine rdS (As := [.int a1, .int (0 : Int32), .int ((μ.1 0 51) - (1 : Int32))]) (rest := []) S K_Mo_in q_985 (c_Mo_in (w := (WM g ad μ)) hv1) hK hP ⟨rfl, rfl⟩ ⟨Nat.le_of_ble_eq_true rfl, Nat.le_of_ble_eq_true rfl⟩ rfl hl.1 rfl (Nat.le_of_ble_eq_true rfl) d_Mo_segment_20 ⟨Nat.le_refl _, Nat.le_refl _⟩ ?_
    refine lv_if_eq (tgt := 34) hx hb d_Mo_segment_23 rfl (fun hc => ?_) (fun hc => ?_)
    · replace hf := br_p hc hf
      refine lv_iconst (v := -1) hx hb d_Mo_segment_34 (by decide) ?_
      have h1 := Option.some.inj hf
      subst h1
      exact W.iret hx hb hr (fun t ht _ => ⟨rfl, ht⟩) (fun _ h => by cases h) d_Mo_segment_35
    · replace hf := br_n hc hf
      refine lv_aload_n hx hb d_Mo_segment_26 rfl (lv_at hl 0 rfl) ?_
      refine lv_iload_n hx hb d_Mo_segment_27 rfl (lv_at hl 1 rfl) ?_
      obtain ⟨v2, hv2, hf⟩ := cl_x hf
      refine rdV (As := [.int a1]) (rest := []) S K_Mo_lying q_1129 (c_Mo_lying hv2) hK hP ⟨rfl, rfl⟩ ⟨Nat.le_of_ble_eq_true rfl, Nat.le_of_ble_eq_true rfl⟩ (mr_0 hK hP) rfl hl.1 rfl (Nat.le_of_ble_eq_true rfl) d_Mo_segment_28 ⟨Nat.le_refl _, Nat.le_refl _⟩ ?_
      refine lv_goto (tgt := 35) hx hb d_Mo_segment_31 rfl ?_
      have h1 := Option.some.inj hf
      subst h1
      exact W.iret hx hb hr (fun t ht _ => ⟨rfl, ht⟩) (fun _ h => by cases h) d_Mo_segment_35
  · replace hf := br_p hc hf
    refine lv_aload_n hx hb d_Mo_segment_5 rfl (lv_at hl 0 rfl) ?_
    refine mg_0_51 hx hb hts hown hK hP q_869 d_Mo_segment_6 ?_
    refine lv_goto (tgt := 35) hx hb d_Mo_segment_9 rfl ?_
    have h1 := Option.some.inj hf
    subst h1
    exact W.iret hx hb hr (fun t ht _ => ⟨rfl, ht⟩) (fun _ h => by cases h) d_Mo_segment_35
theorem c_Mo_segment {l : Launch} {D : va_G} {g : Nat → ClassId} {ad : Nat → Nat} {μ : Mem} {r : Int32} {n : Nat} {a1 : Int32} (hf : f_Mo_segment n μ a1 = some r) : Met l y_Mo_segment (Cond.code y_Mo_segment b_Mo_segment 2 (some .int) :: ww) rm_Mo_segment (RP D CL (TY g) (WM g ad μ) [.ref (ad 0), .int a1]) (k2_QcV (.int r)) 0 0 (fun _ => False) := by
  refine met_of (by decide) (Nat.le_of_ble_eq_true rfl) ?_
  intro p e s m below meth c ls X hP hl
  have hl : lv_has ls 2 [(0, .ref (ad 0)), (1, .int a1)] := hl
  exact w_Mo_segment X hP hl hf
theorem d_Mo_open_0 : decode b_Mo_open 0 = .ok (.iconst 0, 1) := by decide +kernel
theorem d_Mo_open_1 : decode b_Mo_open 1 = .ok (.istore_n 1, 1) := by decide +kernel
theorem d_Mo_open_2 : decode b_Mo_open 2 = .ok (.iconst 0, 1) := by decide +kernel
theorem d_Mo_open_3 : decode b_Mo_open 3 = .ok (.istore_n 2, 1) := by decide +kernel
theorem d_Mo_open_4 : decode b_Mo_open 4 = .ok (.iload_n 2, 1) := by decide +kernel
theorem d_Mo_open_5 : decode b_Mo_open 5 = .ok (.aload_n 0, 1) := by decide +kernel
theorem d_Mo_open_6 : decode b_Mo_open 6 = .ok (.getfield 244, 3) := by decide +kernel
theorem d_Mo_open_9 : decode b_Mo_open 9 = .ok (.if_icmp .ge 55, 3) := by decide +kernel
theorem d_Mo_open_12 : decode b_Mo_open 12 = .ok (.aload_n 0, 1) := by decide +kernel
theorem d_Mo_open_13 : decode b_Mo_open 13 = .ok (.getfield 126, 3) := by decide +kernel
theorem d_Mo_open_16 : decode b_Mo_open 16 = .ok (.iload_n 2, 1) := by decide +kernel
theorem d_Mo_open_17 : decode b_Mo_open 17 = .ok (.aload_n 0, 1) := by decide +kernel
theorem d_Mo_open_18 : decode b_Mo_open 18 = .ok (.getfield 123, 3) := by decide +kernel
theorem d_Mo_open_21 : decode b_Mo_open 21 = .ok (.iload_n 2, 1) := by decide +kernel
theorem d_Mo_open_22 : decode b_Mo_open 22 = .ok (.iaload, 1) := by decide +kernel
theorem d_Mo_open_23 : decode b_Mo_open 23 = .ok (.ifCond .lt 16, 3) := by decide +kernel
theorem d_Mo_open_26 : decode b_Mo_open 26 = .ok (.aload_n 0, 1) := by decide +kernel
theorem d_Mo_open_27 : decode b_Mo_open 27 = .ok (.getfield 120, 3) := by decide +kernel
theorem d_Mo_open_30 : decode b_Mo_open 30 = .ok (.iload_n 2, 1) := by decide +kernel
theorem d_Mo_open_31 : decode b_Mo_open 31 = .ok (.baload, 1) := by decide +kernel
theorem d_Mo_open_32 : decode b_Mo_open 32 = .ok (.ifCond .ne 7, 3) := by decide +kernel
theorem d_Mo_open_35 : decode b_Mo_open 35 = .ok (.iconst 1, 1) := by decide +kernel
theorem d_Mo_open_36 : decode b_Mo_open 36 = .ok (.goto 4, 3) := by decide +kernel
theorem d_Mo_open_39 : decode b_Mo_open 39 = .ok (.iconst 0, 1) := by decide +kernel
theorem d_Mo_open_40 : decode b_Mo_open 40 = .ok (.bastore, 1) := by decide +kernel
theorem d_Mo_open_41 : decode b_Mo_open 41 = .ok (.iload_n 1, 1) := by decide +kernel
theorem d_Mo_open_42 : decode b_Mo_open 42 = .ok (.aload_n 0, 1) := by decide +kernel
theorem d_Mo_open_43 : decode b_Mo_open 43 = .ok (.getfield 126, 3) := by decide +kernel
theorem d_Mo_open_46 : decode b_Mo_open 46 = .ok (.iload_n 2, 1) := by decide +kernel
theorem d_Mo_open_47 : decode b_Mo_open 47 = .ok (.baload, 1) := by decide +kernel
theorem d_Mo_open_48 : decode b_Mo_open 48 = .ok (.ifCond .eq 7, 3) := by decide +kernel
theorem d_Mo_open_51 : decode b_Mo_open 51 = .ok (.iconst 1, 1) := by decide +kernel
theorem d_Mo_open_52 : decode b_Mo_open 52 = .ok (.goto 4, 3) := by decide +kernel
theorem d_Mo_open_55 : decode b_Mo_open 55 = .ok (.iconst 0, 1) := by decide +kernel
theorem d_Mo_open_56 : decode b_Mo_open 56 = .ok (.iadd, 1) := by decide +kernel
theorem d_Mo_open_57 : decode b_Mo_open 57 = .ok (.istore_n 1, 1) := by decide +kernel
theorem d_Mo_open_58 : decode b_Mo_open 58 = .ok (.iinc 2 1, 3) := by decide +kernel
theorem d_Mo_open_61 : decode b_Mo_open 61 = .ok (.goto (-57), 3) := by decide +kernel
theorem d_Mo_open_64 : decode b_Mo_open 64 = .ok (.iload_n 1, 1) := by decide +kernel
theorem d_Mo_open_65 : decode b_Mo_open 65 = .ok (.ireturn, 1) := by decide +kernel
abbrev rm_Mo_open : Room := { frames := 0, cells := 0, slots := 0, locals := 0 }
def f_Mo_open_56 (κ4 : Mem → Int32 → Int32 → Option (Int32 × Mem)) (n : Nat) (μ : Mem) (x2 : Int32) (s0 : Int32) (s1 : Bool) : Option (Int32 × Mem) := bd (s0 + (bz s1)) (fun v1 => bd (x2 + 1) (fun v2 => κ4 μ v1 v2))
set_option maxHeartbeats 4000000 in
set_option maxRecDepth 100000 in
theorem w_Mo_open_56 {p : Program} {l : Launch} {e : Env} {s : State} {m : MethodId} {args : Array Value} {below : List Frame} {meth : Method} {c : Code} {D : va_G} {g : Nat → ClassId} {ad : Nat → Nat} {r : Int32} {μ' : Mem} {A : Nat → Prop} {κ4 : Mem → Int32 → Int32 → Option (Int32 × Mem)} {n : Nat} {μ : Mem} {x2 : Int32} {s0 : Int32} {s1 : Bool} {ls : Array Slot} {H : Heap} {locs : List Loc} (X : Cx p s m args meth c b_Mo_open 3 R_Mo (some .int) D CL (TY g)) (hDA : ∀ μ : Mem, va_D A (WM g ad μ)) (hκ4 : ∀ (μ : Mem) (x1 : Int32) (x2 : Int32) (ls : Array Slot) (H : Heap) (locs : List Loc), va_P D CL (WM g ad μ) H → va_S A s.heap H locs → lv_has ls 3 [(0, .ref (ad 0)), (1, .int x1), (2, .int x2)] → κ4 μ x1 x2 = some (r, μ') → WU p l e rm_Mo_open s m args below meth c H locs D (WM g ad μ') A (some (.int r)) (F0 m 4 ls [])) (hP : va_P D CL (WM g ad μ) H) (hS : va_S A s.heap H locs) (hl : lv_has ls 3 [(0, .ref (ad 0)), (2, .int x2)]) (hf : f_Mo_open_56 κ4 n μ x2 s0 s1 = some (r, μ')) : WU p l e rm_Mo_open s m args below meth c H locs D (WM g ad μ') A (some (.int r)) (F0 m 56 ls [.int (bz s1), .int s0]) := by
  obtain ⟨S, hr, hlk, hK⟩ := id X
  obtain ⟨hx, hb, hml, hown, hts⟩ := id S
  rw [f_Mo_open_56] at hf
  refine lv_iadd hx hb d_Mo_open_56 ?_
  obtain ⟨v1, hv1, hf⟩ := bd_x hf
  refine top_i hv1 ?_
  refine lv_istore_n (lv' := [(1, .int v1), (0, .ref (ad 0)), (2, .int x2)]) hx hb d_Mo_open_57 rfl hl (Nat.le_of_ble_eq_true rfl) rfl (fun ls hl => ?_)
  obtain ⟨v2, hv2, hf⟩ := bd_x hf
  refine lv_iinc (lv' := [(2, .int v2), (1, .int v1), (0, .ref (ad 0))]) hx hb d_Mo_open_58 hl (k := 2) rfl (show x2 + Int32.ofInt (1) = v2 from hv2) (Nat.le_of_ble_eq_true rfl) rfl (fun ls hl => ?_)
  refine lv_goto (tgt := 4) hx hb d_Mo_open_61 rfl ?_
  exact hκ4 _ _ _ _ _ _ hP hS (lv_sub (l' := [(0, .ref (ad 0)), (1, .int v1), (2, .int v2)]) hl [2, 1, 0] rfl) hf
def f_Mo_open_40 (κ4 : Mem → Int32 → Int32 → Option (Int32 × Mem)) (n : Nat) (μ : Mem) (x1 : Int32) (x2 : Int32) (s1 : Int32) (s2 : Bool) : Option (Int32 × Mem) := gd (inb s1 40) (bd (wi μ 39 s1.toNatClampNeg (bz s2)) (fun μ1 => gd (inb x2 40) ((if (μ1.1 39 x2.toNatClampNeg) = 0 then (f_Mo_open_56 κ4 n μ1 x2 x1 false) else (f_Mo_open_56 κ4 n μ1 x2 x1 true)))))
set_option maxHeartbeats 4000000 in
set_option maxRecDepth 100000 in
theorem w_Mo_open_40 {p : Program} {l : Launch} {e : Env} {s : State} {m : MethodId} {args : Array Value} {below : List Frame} {meth : Method} {c : Code} {D : va_G} {g : Nat → ClassId} {ad : Nat → Nat} {r : Int32} {μ' : Mem} {A : Nat → Prop} {κ4 : Mem → Int32 → Int32 → Option (Int32 × Mem)} {n : Nat} {μ : Mem} {x1 : Int32} {x2 : Int32} {s1 : Int32} {s2 : Bool} {ls : Array Slot} {H : Heap} {locs : List Loc} (X : Cx p s m args meth c b_Mo_open 3 R_Mo (some .int) D CL (TY g)) (hDA : ∀ μ : Mem, va_D A (WM g ad μ)) (hκ4 : ∀ (μ : Mem) (x1 : Int32) (x2 : Int32) (ls : Array Slot) (H : Heap) (locs : List Loc), va_P D CL (WM g ad μ) H → va_S A s.heap H locs → lv_has ls 3 [(0, .ref (ad 0)), (1, .int x1), (2, .int x2)] → κ4 μ x1 x2 = some (r, μ') → WU p l e rm_Mo_open s m args below meth c H locs D (WM g ad μ') A (some (.int r)) (F0 m 4 ls [])) (hP : va_P D CL (WM g ad μ) H) (hS : va_S A s.heap H locs) (hl : lv_has ls 3 [(0, .ref (ad 0)), (1, .int x1), (2, .int x2)]) (hf : f_Mo_open_40 κ4 n μ x1 x2 s1 s2 = some (r, μ')) : WU p l e rm_Mo_open s m args below meth c H locs D (WM g ad μ') A (some (.int r)) (F0 m 40 ls [.int (bz s2), .int s1, .ref (ad 39)]) := by
  obtain ⟨S, hr, hlk, hK⟩ := id X
  obtain ⟨hx, hb, hml, hown, hts⟩ := id S
  rw [f_Mo_open_40] at hf
  obtain ⟨hi, hf⟩ := gd_x hf
  obtain ⟨μ1, hμ1, hf⟩ := bd_x hf
  refine ms_39 hx hb hK (hDA _) hP hS (inb_in hi) (bz_na2 _) d_Mo_open_40 hμ1 (fun H locs hP hS => ?_)
  refine lv_iload_n hx hb d_Mo_open_41 rfl (lv_at hl 1 rfl) ?_
  refine lv_aload_n hx hb d_Mo_open_42 rfl (lv_at hl 0 rfl) ?_
  refine mg_0_49 hx hb hts hown hK hP q_867 d_Mo_open_43 ?_
  refine lv_iload_n hx hb d_Mo_open_46 rfl (lv_at hl 2 rfl) ?_
  obtain ⟨hi, hf⟩ := gd_x hf
  refine ml_39 hx hb hK hP (inb_in hi) d_Mo_open_47 ?_
  refine lv_if_eq (tgt := 55) hx hb d_Mo_open_48 rfl (fun hc => ?_) (fun hc => ?_)
  · replace hf := br_p hc hf
    refine lv_iconst (v := 0) hx hb d_Mo_open_55 (by decide) ?_
    refine top_i (z := bz false) (by decide) ?_
    exact w_Mo_open_56 X hDA hκ4 hP hS (lv_sub (l' := [(0, .ref (ad 0)), (2, .int x2)]) hl [0, 2] rfl) hf
  · replace hf := br_n hc hf
    refine lv_iconst (v := 1) hx hb d_Mo_open_51 (by decide) ?_
    refine lv_goto (tgt := 56) hx hb d_Mo_open_52 rfl ?_
    refine top_i (z := bz true) (by decide) ?_
    exact w_Mo_open_56 X hDA hκ4 hP hS (lv_sub (l' := [(0, .ref (ad 0)), (2, .int x2)]) hl [0, 2] rfl) hf
def f_Mo_open_39 (κ4 : Mem → Int32 → Int32 → Option (Int32 × Mem)) (n : Nat) (μ : Mem) (x1 : Int32) (x2 : Int32) (s1 : Int32) : Option (Int32 × Mem) := f_Mo_open_40 κ4 n μ x1 x2 s1 false
set_option maxHeartbeats 4000000 in
set_option maxRecDepth 100000 in
theorem w_Mo_open_39 {p : Program} {l : Launch} {e : Env} {s : State} {m : MethodId} {args : Array Value} {below : List Frame} {meth : Method} {c : Code} {D : va_G} {g : Nat → ClassId} {ad : Nat → Nat} {r : Int32} {μ' : Mem} {A : Nat → Prop} {κ4 : Mem → Int32 → Int32 → Option (Int32 × Mem)} {n : Nat} {μ : Mem} {x1 : Int32} {x2 : Int32} {s1 : Int32} {ls : Array Slot} {H : Heap} {locs : List Loc} (X : Cx p s m args meth c b_Mo_open 3 R_Mo (some .int) D CL (TY g)) (hDA : ∀ μ : Mem, va_D A (WM g ad μ)) (hκ4 : ∀ (μ : Mem) (x1 : Int32) (x2 : Int32) (ls : Array Slot) (H : Heap) (locs : List Loc), va_P D CL (WM g ad μ) H → va_S A s.heap H locs → lv_has ls 3 [(0, .ref (ad 0)), (1, .int x1), (2, .int x2)] → κ4 μ x1 x2 = some (r, μ') → WU p l e rm_Mo_open s m args below meth c H locs D (WM g ad μ') A (some (.int r)) (F0 m 4 ls [])) (hP : va_P D CL (WM g ad μ) H) (hS : va_S A s.heap H locs) (hl : lv_has ls 3 [(0, .ref (ad 0)), (1, .int x1), (2, .int x2)]) (hf : f_Mo_open_39 κ4 n μ x1 x2 s1 = some (r, μ')) : WU p l e rm_Mo_open s m args below meth c H locs D (WM g ad μ') A (some (.int r)) (F0 m 39 ls [.int s1, .ref (ad 39)]) := by
  obtain ⟨S, hr, hlk, hK⟩ := id X
  obtain ⟨hx, hb, hml, hown, hts⟩ := id S
  rw [f_Mo_open_39] at hf
  refine lv_iconst (v := 0) hx hb d_Mo_open_39 (by decide) ?_
  refine top_i (z := bz false) (by decide) ?_
  exact w_Mo_open_40 X hDA hκ4 hP hS (lv_sub (l' := [(0, .ref (ad 0)), (1, .int x1), (2, .int x2)]) hl [0, 1, 2] rfl) hf
def f_Mo_open_4 : Nat → Mem → Int32 → Int32 → Option (Int32 × Mem)
  | 0, _, _, _ => none
  | n + 1, μ, x1, x2 => (if (μ.1 0 50) ≤ x2 then (some (x1, μ)) else (gd (inb x2 40) ((if (μ.1 38 x2.toNatClampNeg) < 0 then (f_Mo_open_39 (f_Mo_open_4 n) n μ x1 x2 x2) else (gd (inb x2 40) ((if (μ.1 37 x2.toNatClampNeg) = 0 then (f_Mo_open_40 (f_Mo_open_4 n) n μ x1 x2 x2 true) else (f_Mo_open_39 (f_Mo_open_4 n) n μ x1 x2 x2))))))))
set_option maxHeartbeats 4000000 in
set_option maxRecDepth 100000 in
theorem w_Mo_open_4 {p : Program} {l : Launch} {e : Env} {s : State} {m : MethodId} {args : Array Value} {below : List Frame} {meth : Method} {c : Code} {D : va_G} {g : Nat → ClassId} {ad : Nat → Nat} {r : Int32} {μ' : Mem} {A : Nat → Prop} (X : Cx p s m args meth c b_Mo_open 3 R_Mo (some .int) D CL (TY g)) (hDA : ∀ μ : Mem, va_D A (WM g ad μ)) : ∀ (n : Nat) (μ : Mem) (x1 : Int32) (x2 : Int32) (ls : Array Slot) (H : Heap) (locs : List Loc), va_P D CL (WM g ad μ) H → va_S A s.heap H locs → lv_has ls 3 [(0, .ref (ad 0)), (1, .int x1), (2, .int x2)] → f_Mo_open_4 n μ x1 x2 = some (r, μ') → WU p l e rm_Mo_open s m args below meth c H locs D (WM g ad μ') A (some (.int r)) (F0 m 4 ls []) := by
  intro n
  induction n with
  | zero => intro μ x1 x2 ls H locs hP hS hl hf; rw [f_Mo_open_4] at hf; cases hf
  | succ n ih =>
    intro μ x1 x2 ls H locs hP hS hl hf
    obtain ⟨S, hr, hlk, hK⟩ := id X
    obtain ⟨hx, hb, hml, hown, hts⟩ := id S
    rw [f_Mo_open_4] at hf
    refine lv_iload_n hx hb d_Mo_open_4 rfl (lv_at hl 2 rfl) ?_
    refine lv_aload_n hx hb d_Mo_open_5 rfl (lv_at hl 0 rfl) ?_
    refine mg_0_50 hx hb hts hown hK hP q_868 d_Mo_open_6 ?_
    refine lv_icmp_ge (tgt := 64) hx hb d_Mo_open_9 rfl (fun hc => ?_) (fun hc => ?_)
    · replace hf := br_p hc hf
      refine lv_iload_n hx hb d_Mo_open_64 rfl (lv_at hl 1 rfl) ?_
      obtain ⟨h1, h2⟩ := Prod.mk.inj (Option.some.inj hf)
      subst h1; subst h2
      exact W.iret hx hb hr (fun t ht _ => ⟨rfl, by rw [ht]; exact hP, hS.F ht⟩) hS.2.2 d_Mo_open_65
    · replace hf := br_n hc hf
      refine lv_aload_n hx hb d_Mo_open_12 rfl (lv_at hl 0 rfl) ?_
      refine mg_0_49 hx hb hts hown hK hP q_867 d_Mo_open_13 ?_
      refine lv_iload_n hx hb d_Mo_open_16 rfl (lv_at hl 2 rfl) ?_
      refine lv_aload_n hx hb d_Mo_open_17 rfl (lv_at hl 0 rfl) ?_
      refine mg_0_48 hx hb hts hown hK hP q_866 d_Mo_open_18 ?_
      refine lv_iload_n hx hb d_Mo_open_21 rfl (lv_at hl 2 rfl) ?_
      obtain ⟨hi, hf⟩ := gd_x hf
      refine ml_38 hx hb hK hP (inb_in hi) d_Mo_open_22 ?_
      refine lv_if_lt (tgt := 39) hx hb d_Mo_open_23 rfl (fun hc => ?_) (fun hc => ?_)
      · replace hf := br_p hc hf
        exact w_Mo_open_39 X hDA ih hP hS (lv_sub (l' := [(0, .ref (ad 0)), (1, .int x1), (2, .int x2)]) hl [0, 1, 2] rfl) hf
      · replace hf := br_n hc hf
        refine lv_aload_n hx hb d_Mo_open_26 rfl (lv_at hl 0 rfl) ?_
        refine mg_0_47 hx hb hts hown hK hP q_865 d_Mo_open_27 ?_
        refine lv_iload_n hx hb d_Mo_open_30 rfl (lv_at hl 2 rfl) ?_
        obtain ⟨hi, hf⟩ := gd_x hf
        refine ml_37 hx hb hK hP (inb_in hi) d_Mo_open_31 ?_
        refine lv_if_ne (tgt := 39) hx hb d_Mo_open_32 rfl (fun hc => ?_) (fun hc => ?_)
        · replace hf := br_n hc hf
          exact w_Mo_open_39 X hDA ih hP hS (lv_sub (l' := [(0, .ref (ad 0)), (1, .int x1), (2, .int x2)]) hl [0, 1, 2] rfl) hf
        · replace hf := br_p hc hf
          refine lv_iconst (v := 1) hx hb d_Mo_open_35 (by decide) ?_
          refine lv_goto (tgt := 40) hx hb d_Mo_open_36 rfl ?_
          refine top_i (z := bz true) (by decide) ?_
          exact w_Mo_open_40 X hDA ih hP hS (lv_sub (l' := [(0, .ref (ad 0)), (1, .int x1), (2, .int x2)]) hl [0, 1, 2] rfl) hf
def f_Mo_open (n : Nat) (μ : Mem) : Option (Int32 × Mem) := f_Mo_open_4 n μ (0 : Int32) (0 : Int32)
set_option maxHeartbeats 4000000 in
set_option maxRecDepth 100000 in
theorem w_Mo_open {p : Program} {l : Launch} {e : Env} {s : State} {m : MethodId} {args : Array Value} {below : List Frame} {meth : Method} {c : Code} {D : va_G} {g : Nat → ClassId} {ad : Nat → Nat} {r : Int32} {μ' : Mem} {A : Nat → Prop} {n : Nat} {μ : Mem} {ls : Array Slot} {H : Heap} {locs : List Loc} (X : Cx p s m args meth c b_Mo_open 3 R_Mo (some .int) D CL (TY g)) (hDA : ∀ μ : Mem, va_D A (WM g ad μ)) (hP : va_P D CL (WM g ad μ) H) (hS : va_S A s.heap H locs) (hl : lv_has ls 3 [(0, .ref (ad 0))]) (hf : f_Mo_open n μ = some (r, μ')) : WU p l e rm_Mo_open s m args below meth c H locs D (WM g ad μ') A (some (.int r)) (F0 m 0 ls []) := by
  obtain ⟨S, hr, hlk, hK⟩ := id X
  obtain ⟨hx, hb, hml, hown, hts⟩ := id S
  rw [f_Mo_open] at hf
  refine lv_iconst (v := 0) hx hb d_Mo_open_0 (by decide) ?_
  refine lv_istore_n (lv' := [(1, .int (0 : Int32)), (0, .ref (ad 0))]) hx hb d_Mo_open_1 rfl hl (Nat.le_of_ble_eq_true rfl) rfl (fun ls hl => ?_)
  refine lv_iconst (v := 0) hx hb d_Mo_open_2 (by decide) ?_
  refine lv_istore_n (lv' := [(2, .int (0 : Int32)), (1, .int (0 : Int32)), (0, .ref (ad 0))]) hx hb d_Mo_open_3 rfl hl (Nat.le_of_ble_eq_true rfl) rfl (fun ls hl => ?_)
  exact w_Mo_open_4 X hDA _ _ _ _ _ _ _ hP hS (lv_sub (l' := [(0, .ref (ad 0)), (1, .int (0 : Int32)), (2, .int (0 : Int32))]) hl [2, 1, 0] rfl) hf
theorem c_Mo_open {l : Launch} {D : va_G} {g : Nat → ClassId} {ad : Nat → Nat} {μ : Mem} {r : Int32} {μ' : Mem} {A : Nat → Prop} {n : Nat} (hDA : ∀ μ : Mem, va_D A (WM g ad μ)) (hf : f_Mo_open n μ = some (r, μ')) : Met l y_Mo_open (Cond.code y_Mo_open b_Mo_open 3 (some .int) :: ww) rm_Mo_open (RP D CL (TY g) (WM g ad μ) [.ref (ad 0)]) (QW D CL (WM g ad μ') A (some (.int r))) 0 0 A := by
  refine met_of (by decide) (Nat.le_of_ble_eq_true rfl) ?_
  intro p e s m below meth c ls X hP hl
  have hl : lv_has ls 3 [(0, .ref (ad 0))] := hl
  exact w_Mo_open X hDA hP va_S.rf hl hf
theorem d_Mo_ask_0 : decode b_Mo_ask 0 = .ok (.aload_n 0, 1) := by decide +kernel
theorem d_Mo_ask_1 : decode b_Mo_ask 1 = .ok (.invokevirtual 230, 3) := by decide +kernel
theorem d_Mo_ask_4 : decode b_Mo_ask 4 = .ok (.aload_n 0, 1) := by decide +kernel
theorem d_Mo_ask_5 : decode b_Mo_ask 5 = .ok (.iconst 0, 1) := by decide +kernel
theorem d_Mo_ask_6 : decode b_Mo_ask 6 = .ok (.putfield 260, 3) := by decide +kernel
theorem d_Mo_ask_9 : decode b_Mo_ask 9 = .ok (.iconst 0, 1) := by decide +kernel
theorem d_Mo_ask_10 : decode b_Mo_ask 10 = .ok (.istore_n 1, 1) := by decide +kernel
theorem d_Mo_ask_11 : decode b_Mo_ask 11 = .ok (.iload_n 1, 1) := by decide +kernel
theorem d_Mo_ask_12 : decode b_Mo_ask 12 = .ok (.aload_n 0, 1) := by decide +kernel
theorem d_Mo_ask_13 : decode b_Mo_ask 13 = .ok (.getfield 212, 3) := by decide +kernel
theorem d_Mo_ask_16 : decode b_Mo_ask 16 = .ok (.if_icmp .ge 51, 3) := by decide +kernel
theorem d_Mo_ask_19 : decode b_Mo_ask 19 = .ok (.aload_n 0, 1) := by decide +kernel
theorem d_Mo_ask_20 : decode b_Mo_ask 20 = .ok (.iload_n 1, 1) := by decide +kernel
theorem d_Mo_ask_21 : decode b_Mo_ask 21 = .ok (.invokevirtual 236, 3) := by decide +kernel
theorem d_Mo_ask_24 : decode b_Mo_ask 24 = .ok (.lstore_n 2, 1) := by decide +kernel
theorem d_Mo_ask_25 : decode b_Mo_ask 25 = .ok (.lload_n 2, 1) := by decide +kernel
theorem d_Mo_ask_26 : decode b_Mo_ask 26 = .ok (.lconst 0, 1) := by decide +kernel
theorem d_Mo_ask_27 : decode b_Mo_ask 27 = .ok (.lcmp, 1) := by decide +kernel
theorem d_Mo_ask_28 : decode b_Mo_ask 28 = .ok (.ifCond .eq 33, 3) := by decide +kernel
theorem d_Mo_ask_31 : decode b_Mo_ask 31 = .ok (.aload_n 0, 1) := by decide +kernel
theorem d_Mo_ask_32 : decode b_Mo_ask 32 = .ok (.getfield 101, 3) := by decide +kernel
theorem d_Mo_ask_35 : decode b_Mo_ask 35 = .ok (.aload_n 0, 1) := by decide +kernel
theorem d_Mo_ask_36 : decode b_Mo_ask 36 = .ok (.getfield 260, 3) := by decide +kernel
theorem d_Mo_ask_39 : decode b_Mo_ask 39 = .ok (.lload_n 2, 1) := by decide +kernel
theorem d_Mo_ask_40 : decode b_Mo_ask 40 = .ok (.lastore, 1) := by decide +kernel
theorem d_Mo_ask_41 : decode b_Mo_ask 41 = .ok (.aload_n 0, 1) := by decide +kernel
theorem d_Mo_ask_42 : decode b_Mo_ask 42 = .ok (.getfield 104, 3) := by decide +kernel
theorem d_Mo_ask_45 : decode b_Mo_ask 45 = .ok (.aload_n 0, 1) := by decide +kernel
theorem d_Mo_ask_46 : decode b_Mo_ask 46 = .ok (.getfield 260, 3) := by decide +kernel
theorem d_Mo_ask_49 : decode b_Mo_ask 49 = .ok (.iload_n 1, 1) := by decide +kernel
theorem d_Mo_ask_50 : decode b_Mo_ask 50 = .ok (.iastore, 1) := by decide +kernel
theorem d_Mo_ask_51 : decode b_Mo_ask 51 = .ok (.aload_n 0, 1) := by decide +kernel
theorem d_Mo_ask_52 : decode b_Mo_ask 52 = .ok (.dup, 1) := by decide +kernel
theorem d_Mo_ask_53 : decode b_Mo_ask 53 = .ok (.getfield 260, 3) := by decide +kernel
theorem d_Mo_ask_56 : decode b_Mo_ask 56 = .ok (.iconst 1, 1) := by decide +kernel
theorem d_Mo_ask_57 : decode b_Mo_ask 57 = .ok (.iadd, 1) := by decide +kernel
theorem d_Mo_ask_58 : decode b_Mo_ask 58 = .ok (.putfield 260, 3) := by decide +kernel
theorem d_Mo_ask_61 : decode b_Mo_ask 61 = .ok (.iinc 1 1, 3) := by decide +kernel
theorem d_Mo_ask_64 : decode b_Mo_ask 64 = .ok (.goto (-53), 3) := by decide +kernel
theorem d_Mo_ask_67 : decode b_Mo_ask 67 = .ok (.return_, 1) := by decide +kernel
abbrev rm_Mo_ask : Room := { frames := 6, cells := 0, slots := 0, locals := 148 }
def f_Mo_ask_61 (κ11 : Mem → Int32 → Option Mem) (n : Nat) (μ : Mem) (x1 : Int32) : Option Mem := bd (x1 + 1) (fun v1 => κ11 μ v1)
set_option maxHeartbeats 4000000 in
set_option maxRecDepth 100000 in
theorem w_Mo_ask_61 {p : Program} {l : Launch} {e : Env} {s : State} {m : MethodId} {args : Array Value} {below : List Frame} {meth : Method} {c : Code} {D : va_G} {g : Nat → ClassId} {ad : Nat → Nat} {μ' : Mem} {A : Nat → Prop} {κ11 : Mem → Int32 → Option Mem} {n : Nat} {μ : Mem} {x1 : Int32} {ls : Array Slot} {H : Heap} {locs : List Loc} (X : Cx p s m args meth c b_Mo_ask 4 R_Mo none D CL (TY g)) (hDA : ∀ μ : Mem, va_D A (WM g ad μ)) (hκ11 : ∀ (μ : Mem) (x1 : Int32) (ls : Array Slot) (H : Heap) (locs : List Loc), va_P D CL (WM g ad μ) H → va_S A s.heap H locs → lv_has ls 4 [(0, .ref (ad 0)), (1, .int x1)] → κ11 μ x1 = some μ' → WU p l e rm_Mo_ask s m args below meth c H locs D (WM g ad μ') A none (F0 m 11 ls [])) (hP : va_P D CL (WM g ad μ) H) (hS : va_S A s.heap H locs) (hl : lv_has ls 4 [(0, .ref (ad 0)), (1, .int x1)]) (hf : f_Mo_ask_61 κ11 n μ x1 = some μ') : WU p l e rm_Mo_ask s m args below meth c H locs D (WM g ad μ') A none (F0 m 61 ls []) := by
  obtain ⟨S, hr, hlk, hK⟩ := id X
  obtain ⟨hx, hb, hml, hown, hts⟩ := id S
  rw [f_Mo_ask_61] at hf
  obtain ⟨v1, hv1, hf⟩ := bd_x hf
  refine lv_iinc (lv' := [(1, .int v1), (0, .ref (ad 0))]) hx hb d_Mo_ask_61 hl (k := 1) rfl (show x1 + Int32.ofInt (1) = v1 from hv1) (Nat.le_of_ble_eq_true rfl) rfl (fun ls hl => ?_)
  refine lv_goto (tgt := 11) hx hb d_Mo_ask_64 rfl ?_
  exact hκ11 _ _ _ _ _ hP hS (lv_sub (l' := [(0, .ref (ad 0)), (1, .int v1)]) hl [1, 0] rfl) hf
def f_Mo_ask_11 : Nat → Mem → Int32 → Option Mem
  | 0, _, _ => none
  | n + 1, μ, x1 => (if (μ.1 0 37) ≤ x1 then (some μ) else (cl2 (f_Mo_termOf n μ x1) (fun v1 μ2 => (if (lg_cmp v1 (0 : Int64)) = 0 then (f_Mo_ask_61 (f_Mo_ask_11 n) n μ2 x1) else (gd (inb (μ2.1 0 42) 24) (bd (wl μ2 31 (μ2.1 0 42).toNatClampNeg v1) (fun μ3 => gd (inb (μ3.1 0 42) 24) (bd (wi μ3 32 (μ3.1 0 42).toNatClampNeg x1) (fun μ4 => bd (wi μ4 0 42 ((μ4.1 0 42) + (1 : Int32))) (fun μ5 => f_Mo_ask_61 (f_Mo_ask_11 n) n μ5 x1))))))))))
set_option maxHeartbeats 4000000 in
set_option maxRecDepth 100000 in
theorem w_Mo_ask_11 {p : Program} {l : Launch} {e : Env} {s : State} {m : MethodId} {args : Array Value} {below : List Frame} {meth : Method} {c : Code} {D : va_G} {g : Nat → ClassId} {ad : Nat → Nat} {μ' : Mem} {A : Nat → Prop} (X : Cx p s m args meth c b_Mo_ask 4 R_Mo none D CL (TY g)) (hDA : ∀ μ : Mem, va_D A (WM g ad μ)) : ∀ (n : Nat) (μ : Mem) (x1 : Int32) (ls : Array Slot) (H : Heap) (locs : List Loc), va_P D CL (WM g ad μ) H → va_S A s.heap H locs → lv_has ls 4 [(0, .ref (ad 0)), (1, .int x1)] → f_Mo_ask_11 n μ x1 = some μ' → WU p l e rm_Mo_ask s m args below meth c H locs D (WM g ad μ') A none (F0 m 11 ls []) := by
  intro n
  induction n with
  | zero => intro μ x1 ls H locs hP hS hl hf; rw [f_Mo_ask_11] at hf; cases hf
  | succ n ih =>
    intro μ x1 ls H locs hP hS hl hf
    obtain ⟨S, hr, hlk, hK⟩ := id X
    obtain ⟨hx, hb, hml, hown, hts⟩ := id S
    rw [f_Mo_ask_11] at hf
    refine lv_iload_n hx hb d_Mo_ask_11 rfl (lv_at hl 1 rfl) ?_
    refine lv_aload_n hx hb d_Mo_ask_12 rfl (lv_at hl 0 rfl) ?_
    refine mg_0_37 hx hb hts hown hK hP q_855 d_Mo_ask_13 ?_
    refine lv_icmp_ge (tgt := 67) hx hb d_Mo_ask_16 rfl (fun hc => ?_) (fun hc => ?_)
    · replace hf := br_p hc hf
      obtain rfl := Option.some.inj hf
      exact W.vret hx hb hr (fun t ht _ => ⟨rfl, by rw [ht]; exact hP, hS.F ht⟩) hS.2.2 d_Mo_ask_67
    · replace hf := br_n hc hf
      refine lv_aload_n hx hb d_Mo_ask_19 rfl (lv_at hl 0 rfl) ?_
      refine lv_iload_n hx hb d_Mo_ask_20 rfl (lv_at hl 1 rfl) ?_
      obtain ⟨v1, μ2, hv1, hf⟩ := cl2_x hf
      refine wrV (As := [.int x1]) (rest := []) S K_Mo_termOf q_1093 (c_Mo_termOf hDA hv1) hK hP hS ⟨rfl, rfl⟩ ⟨Nat.le_of_ble_eq_true rfl, Nat.le_of_ble_eq_true rfl⟩ (mr_0 hK hP) rfl hl.1 rfl (Nat.le_of_ble_eq_true rfl) d_Mo_ask_21 ⟨Nat.le_refl _, Nat.le_refl _⟩ (fun H locs hP hS => ?_)
      refine lv_lstore_n (lv' := [(2, .long v1), (0, .ref (ad 0)), (1, .int x1)]) hx hb d_Mo_ask_24 rfl hl (Nat.le_of_ble_eq_true rfl) rfl (fun ls hl => ?_)
      refine lv_lload_n hx hb d_Mo_ask_25 rfl (lv_at hl 0 rfl) ?_
      refine lv_lconst (v := 0) hx hb d_Mo_ask_26 (by decide) ?_
      refine W.lcmp hx hb d_Mo_ask_27 ?_
      refine lv_if_eq (tgt := 61) hx hb d_Mo_ask_28 rfl (fun hc => ?_) (fun hc => ?_)
      · replace hf := br_p hc hf
        exact w_Mo_ask_61 X hDA ih hP hS (lv_sub (l' := [(0, .ref (ad 0)), (1, .int x1)]) hl [1, 2] rfl) hf
      · replace hf := br_n hc hf
        refine lv_aload_n hx hb d_Mo_ask_31 rfl (lv_at hl 1 rfl) ?_
        refine mg_0_40 hx hb hts hown hK hP q_858 d_Mo_ask_32 ?_
        refine lv_aload_n hx hb d_Mo_ask_35 rfl (lv_at hl 1 rfl) ?_
        refine mg_0_42 hx hb hts hown hK hP q_860 d_Mo_ask_36 ?_
        refine lv_lload_n hx hb d_Mo_ask_39 rfl (lv_at hl 0 rfl) ?_
        obtain ⟨hi, hf⟩ := gd_x hf
        obtain ⟨μ3, hμ3, hf⟩ := bd_x hf
        refine ms_31 hx hb hK (hDA _) hP hS (inb_in hi) d_Mo_ask_40 hμ3 (fun H locs hP hS => ?_)
        refine lv_aload_n hx hb d_Mo_ask_41 rfl (lv_at hl 1 rfl) ?_
        refine mg_0_41 hx hb hts hown hK hP q_859 d_Mo_ask_42 ?_
        refine lv_aload_n hx hb d_Mo_ask_45 rfl (lv_at hl 1 rfl) ?_
        refine mg_0_42 hx hb hts hown hK hP q_860 d_Mo_ask_46 ?_
        refine lv_iload_n hx hb d_Mo_ask_49 rfl (lv_at hl 2 rfl) ?_
        obtain ⟨hi, hf⟩ := gd_x hf
        obtain ⟨μ4, hμ4, hf⟩ := bd_x hf
        refine ms_32 hx hb hK (hDA _) hP hS (inb_in hi) d_Mo_ask_50 hμ4 (fun H locs hP hS => ?_)
        refine lv_aload_n hx hb d_Mo_ask_51 rfl (lv_at hl 1 rfl) ?_
        refine lv_dup hx hb d_Mo_ask_52 rfl ?_
        refine mg_0_42 hx hb hts hown hK hP q_860 d_Mo_ask_53 ?_
        refine lv_iconst (v := 1) hx hb d_Mo_ask_56 (by decide) ?_
        refine lv_iadd hx hb d_Mo_ask_57 ?_
        obtain ⟨μ5, hμ5, hf⟩ := bd_x hf
        refine mp_0_42 hx hb hts hown hK (hDA _) hP hS q_860 d_Mo_ask_58 hμ5 (fun H locs hP hS => ?_)
        exact w_Mo_ask_61 X hDA ih hP hS (lv_sub (l' := [(0, .ref (ad 0)), (1, .int x1)]) hl [1, 2] rfl) hf
def f_Mo_ask (n : Nat) (μ : Mem) : Option Mem := cl (f_Mo_cut n μ) (fun μ2 => bd (wi μ2 0 42 (0 : Int32)) (fun μ3 => f_Mo_ask_11 n μ3 (0 : Int32)))
set_option maxHeartbeats 4000000 in
set_option maxRecDepth 100000 in
theorem w_Mo_ask {p : Program} {l : Launch} {e : Env} {s : State} {m : MethodId} {args : Array Value} {below : List Frame} {meth : Method} {c : Code} {D : va_G} {g : Nat → ClassId} {ad : Nat → Nat} {μ' : Mem} {A : Nat → Prop} {n : Nat} {μ : Mem} {ls : Array Slot} {H : Heap} {locs : List Loc} (X : Cx p s m args meth c b_Mo_ask 4 R_Mo none D CL (TY g)) (hDA : ∀ μ : Mem, va_D A (WM g ad μ)) (hP : va_P D CL (WM g ad μ) H) (hS : va_S A s.heap H locs) (hl : lv_has ls 4 [(0, .ref (ad 0))]) (hf : f_Mo_ask n μ = some μ') : WU p l e rm_Mo_ask s m args below meth c H locs D (WM g ad μ') A none (F0 m 0 ls []) := by
  obtain ⟨S, hr, hlk, hK⟩ := id X
  obtain ⟨hx, hb, hml, hown, hts⟩ := id S
  rw [f_Mo_ask] at hf
  refine lv_aload_n hx hb d_Mo_ask_0 rfl (lv_at hl 0 rfl) ?_
  obtain ⟨μ2, hv1, hf⟩ := cl_x hf
  refine wrV (As := []) (rest := []) S K_Mo_cut q_1073 (c_Mo_cut hDA hv1) hK hP hS ⟨rfl, rfl⟩ ⟨Nat.le_of_ble_eq_true rfl, Nat.le_of_ble_eq_true rfl⟩ (mr_0 hK hP) rfl hl.1 rfl (Nat.le_of_ble_eq_true rfl) d_Mo_ask_1 ⟨Nat.le_refl _, Nat.le_refl _⟩ (fun H locs hP hS => ?_)
  refine lv_aload_n hx hb d_Mo_ask_4 rfl (lv_at hl 0 rfl) ?_
  refine lv_iconst (v := 0) hx hb d_Mo_ask_5 (by decide) ?_
  obtain ⟨μ3, hμ3, hf⟩ := bd_x hf
  refine mp_0_42 hx hb hts hown hK (hDA _) hP hS q_860 d_Mo_ask_6 hμ3 (fun H locs hP hS => ?_)
  refine lv_iconst (v := 0) hx hb d_Mo_ask_9 (by decide) ?_
  refine lv_istore_n (lv' := [(1, .int (0 : Int32)), (0, .ref (ad 0))]) hx hb d_Mo_ask_10 rfl hl (Nat.le_of_ble_eq_true rfl) rfl (fun ls hl => ?_)
  exact w_Mo_ask_11 X hDA _ _ _ _ _ _ hP hS (lv_sub (l' := [(0, .ref (ad 0)), (1, .int (0 : Int32))]) hl [1, 0] rfl) hf
theorem c_Mo_ask {l : Launch} {D : va_G} {g : Nat → ClassId} {ad : Nat → Nat} {μ : Mem} {μ' : Mem} {A : Nat → Prop} {n : Nat} (hDA : ∀ μ : Mem, va_D A (WM g ad μ)) (hf : f_Mo_ask n μ = some μ') : Met l y_Mo_ask (Cond.code y_Mo_ask b_Mo_ask 4 none :: ww) rm_Mo_ask (RP D CL (TY g) (WM g ad μ) [.ref (ad 0)]) (QW D CL (WM g ad μ') A none) 0 0 A := by
  refine met_of (by decide) (Nat.le_of_ble_eq_true rfl) ?_
  intro p e s m below meth c ls X hP hl
  have hl : lv_has ls 4 [(0, .ref (ad 0))] := hl
  exact w_Mo_ask X hDA hP va_S.rf hl hf
theorem d_Mo_occurs_0 : decode b_Mo_occurs 0 = .ok (.iconst 0, 1) := by decide +kernel
theorem d_Mo_occurs_1 : decode b_Mo_occurs 1 = .ok (.istore_n 3, 1) := by decide +kernel
theorem d_Mo_occurs_2 : decode b_Mo_occurs 2 = .ok (.iload_n 3, 1) := by decide +kernel
theorem d_Mo_occurs_3 : decode b_Mo_occurs 3 = .ok (.aload_n 0, 1) := by decide +kernel
theorem d_Mo_occurs_4 : decode b_Mo_occurs 4 = .ok (.getfield 260, 3) := by decide +kernel
theorem d_Mo_occurs_7 : decode b_Mo_occurs 7 = .ok (.if_icmp .ge 44, 3) := by decide +kernel
theorem d_Mo_occurs_10 : decode b_Mo_occurs 10 = .ok (.iload_n 2, 1) := by decide +kernel
theorem d_Mo_occurs_11 : decode b_Mo_occurs 11 = .ok (.aload_n 0, 1) := by decide +kernel
theorem d_Mo_occurs_12 : decode b_Mo_occurs 12 = .ok (.getfield 104, 3) := by decide +kernel
theorem d_Mo_occurs_15 : decode b_Mo_occurs 15 = .ok (.iload_n 3, 1) := by decide +kernel
theorem d_Mo_occurs_16 : decode b_Mo_occurs 16 = .ok (.iaload, 1) := by decide +kernel
theorem d_Mo_occurs_17 : decode b_Mo_occurs 17 = .ok (.iadd, 1) := by decide +kernel
theorem d_Mo_occurs_18 : decode b_Mo_occurs 18 = .ok (.aload_n 0, 1) := by decide +kernel
theorem d_Mo_occurs_19 : decode b_Mo_occurs 19 = .ok (.getfield 104, 3) := by decide +kernel
theorem d_Mo_occurs_22 : decode b_Mo_occurs 22 = .ok (.iconst 0, 1) := by decide +kernel
theorem d_Mo_occurs_23 : decode b_Mo_occurs 23 = .ok (.iaload, 1) := by decide +kernel
theorem d_Mo_occurs_24 : decode b_Mo_occurs 24 = .ok (.isub, 1) := by decide +kernel
theorem d_Mo_occurs_25 : decode b_Mo_occurs 25 = .ok (.istore 4, 2) := by decide +kernel
theorem d_Mo_occurs_27 : decode b_Mo_occurs 27 = .ok (.aload_n 0, 1) := by decide +kernel
theorem d_Mo_occurs_28 : decode b_Mo_occurs 28 = .ok (.iload_n 1, 1) := by decide +kernel
theorem d_Mo_occurs_29 : decode b_Mo_occurs 29 = .ok (.aload_n 0, 1) := by decide +kernel
theorem d_Mo_occurs_30 : decode b_Mo_occurs 30 = .ok (.getfield 101, 3) := by decide +kernel
theorem d_Mo_occurs_33 : decode b_Mo_occurs 33 = .ok (.iload_n 3, 1) := by decide +kernel
theorem d_Mo_occurs_34 : decode b_Mo_occurs 34 = .ok (.laload, 1) := by decide +kernel
theorem d_Mo_occurs_35 : decode b_Mo_occurs 35 = .ok (.iload 4, 2) := by decide +kernel
theorem d_Mo_occurs_37 : decode b_Mo_occurs 37 = .ok (.invokevirtual 240, 3) := by decide +kernel
theorem d_Mo_occurs_40 : decode b_Mo_occurs 40 = .ok (.ifCond .ne 5, 3) := by decide +kernel
theorem d_Mo_occurs_43 : decode b_Mo_occurs 43 = .ok (.iconst 0, 1) := by decide +kernel
theorem d_Mo_occurs_44 : decode b_Mo_occurs 44 = .ok (.ireturn, 1) := by decide +kernel
theorem d_Mo_occurs_45 : decode b_Mo_occurs 45 = .ok (.iinc 3 1, 3) := by decide +kernel
theorem d_Mo_occurs_48 : decode b_Mo_occurs 48 = .ok (.goto (-46), 3) := by decide +kernel
theorem d_Mo_occurs_51 : decode b_Mo_occurs 51 = .ok (.aload_n 0, 1) := by decide +kernel
theorem d_Mo_occurs_52 : decode b_Mo_occurs 52 = .ok (.getfield 260, 3) := by decide +kernel
theorem d_Mo_occurs_55 : decode b_Mo_occurs 55 = .ok (.ifCond .le 7, 3) := by decide +kernel
theorem d_Mo_occurs_58 : decode b_Mo_occurs 58 = .ok (.iconst 1, 1) := by decide +kernel
theorem d_Mo_occurs_59 : decode b_Mo_occurs 59 = .ok (.goto 4, 3) := by decide +kernel
theorem d_Mo_occurs_62 : decode b_Mo_occurs 62 = .ok (.iconst 0, 1) := by decide +kernel
theorem d_Mo_occurs_63 : decode b_Mo_occurs 63 = .ok (.ireturn, 1) := by decide +kernel
abbrev rm_Mo_occurs : Room := { frames := 1, cells := 0, slots := 0, locals := 25 }
def f_Mo_occurs_2 (μ : Mem) : Nat → Int32 → Int32 → Int32 → Option Bool
  | 0, _, _, _ => none
  | n + 1, x1, x2, x3 => (if (μ.1 0 42) ≤ x3 then (if (μ.1 0 42) ≤ 0 then (some false) else (some true)) else (gd (inb x3 24) (gd (inb (0 : Int32) 24) (bd ((x2 + (μ.1 32 x3.toNatClampNeg)) - (μ.1 32 (0 : Int32).toNatClampNeg)) (fun v1 => gd (inb x3 24) (cl (f_Mo_posted n μ x1 (μ.2 31 x3.toNatClampNeg) v1) (fun v2 => (if (bz v2) = 0 then (some false) else (bd (x3 + 1) (fun v3 => (f_Mo_occurs_2 μ n) x1 x2 v3))))))))))
set_option maxHeartbeats 4000000 in
set_option maxRecDepth 100000 in
theorem w_Mo_occurs_2 {p : Program} {l : Launch} {e : Env} {s : State} {m : MethodId} {args : Array Value} {below : List Frame} {meth : Method} {c : Code} {D : va_G} {g : Nat → ClassId} {ad : Nat → Nat} {μ : Mem} {r : Bool} (X : Cx p s m args meth c b_Mo_occurs 5 R_Mo (some .boolean) D CL (TY g)) (hP : va_P D CL (WM g ad μ) s.heap) : ∀ (n : Nat) (x1 : Int32) (x2 : Int32) (x3 : Int32) (ls : Array Slot), lv_has ls 5 [(0, .ref (ad 0)), (1, .int x1), (2, .int x2), (3, .int x3)] → f_Mo_occurs_2 μ n x1 x2 x3 = some r → WR p l e rm_Mo_occurs s m args below meth c (.int (bz r)) (F0 m 2 ls []) := by
  intro n
  induction n with
  | zero => intro x1 x2 x3 ls hl hf; rw [f_Mo_occurs_2] at hf; cases hf
  | succ n ih =>
    intro x1 x2 x3 ls hl hf
    obtain ⟨S, hr, hlk, hK⟩ := id X
    obtain ⟨hx, hb, hml, hown, hts⟩ := id S
    rw [f_Mo_occurs_2] at hf
    refine lv_iload_n hx hb d_Mo_occurs_2 rfl (lv_at hl 3 rfl) ?_
    refine lv_aload_n hx hb d_Mo_occurs_3 rfl (lv_at hl 0 rfl) ?_
    refine mg_0_42 hx hb hts hown hK hP q_860 d_Mo_occurs_4 ?_
    refine lv_icmp_ge (tgt := 51) hx hb d_Mo_occurs_7 rfl (fun hc => ?_) (fun hc => ?_)
    · replace hf := br_p hc hf
      refine lv_aload_n hx hb d_Mo_occurs_51 rfl (lv_at hl 0 rfl) ?_
      refine mg_0_42 hx hb hts hown hK hP q_860 d_Mo_occurs_52 ?_
      refine lv_if_le (tgt := 62) hx hb d_Mo_occurs_55 rfl (fun hc => ?_) (fun hc => ?_)
      · replace hf := br_p hc hf
        refine lv_iconst (v := 0) hx hb d_Mo_occurs_62 (by decide) ?_
        have h1 := Option.some.inj hf
        subst h1
        exact W.zret hx hb hr (by first | rfl | exact bz_nar _) (fun t ht _ => ⟨rfl, ht⟩) (fun _ h => by cases h) d_Mo_occurs_63
      · replace hf := br_n hc hf
        refine lv_iconst (v := 1) hx hb d_Mo_occurs_58 (by decide) ?_
        refine lv_goto (tgt := 63) hx hb d_Mo_occurs_59 rfl ?_
        have h1 := Option.some.inj hf
        subst h1
        exact W.zret hx hb hr (by first | rfl | exact bz_nar _) (fun t ht _ => ⟨rfl, ht⟩) (fun _ h => by cases h) d_Mo_occurs_63
    · replace hf := br_n hc hf
      refine lv_iload_n hx hb d_Mo_occurs_10 rfl (lv_at hl 2 rfl) ?_
      refine lv_aload_n hx hb d_Mo_occurs_11 rfl (lv_at hl 0 rfl) ?_
      refine mg_0_41 hx hb hts hown hK hP q_859 d_Mo_occurs_12 ?_
      refine lv_iload_n hx hb d_Mo_occurs_15 rfl (lv_at hl 3 rfl) ?_
      obtain ⟨hi, hf⟩ := gd_x hf
      refine ml_32 hx hb hK hP (inb_in hi) d_Mo_occurs_16 ?_
      refine lv_iadd hx hb d_Mo_occurs_17 ?_
      refine lv_aload_n hx hb d_Mo_occurs_18 rfl (lv_at hl 0 rfl) ?_
      refine mg_0_41 hx hb hts hown hK hP q_859 d_Mo_occurs_19 ?_
      refine lv_iconst (v := 0) hx hb d_Mo_occurs_22 (by decide) ?_
      obtain ⟨hi, hf⟩ := gd_x hf
      refine ml_32 hx hb hK hP (inb_in hi) d_Mo_occurs_23 ?_
      refine lv_isub hx hb d_Mo_occurs_24 ?_
      obtain ⟨v1, hv1, hf⟩ := bd_x hf
      refine top_i hv1 ?_
      refine lv_istore (lv' := [(4, .int v1), (0, .ref (ad 0)), (1, .int x1), (2, .int x2), (3, .int x3)]) hx hb d_Mo_occurs_25 hl (Nat.le_of_ble_eq_true rfl) rfl (fun ls hl => ?_)
      refine lv_aload_n hx hb d_Mo_occurs_27 rfl (lv_at hl 1 rfl) ?_
      refine lv_iload_n hx hb d_Mo_occurs_28 rfl (lv_at hl 2 rfl) ?_
      refine lv_aload_n hx hb d_Mo_occurs_29 rfl (lv_at hl 1 rfl) ?_
      refine mg_0_40 hx hb hts hown hK hP q_858 d_Mo_occurs_30 ?_
      refine lv_iload_n hx hb d_Mo_occurs_33 rfl (lv_at hl 4 rfl) ?_
      obtain ⟨hi, hf⟩ := gd_x hf
      refine ml_31 hx hb hK hP (inb_in hi) d_Mo_occurs_34 ?_
      refine lv_iload hx hb d_Mo_occurs_35 (lv_at hl 0 rfl) ?_
      obtain ⟨v2, hv2, hf⟩ := cl_x hf
      refine rdV (As := [.int x1, .long (μ.2 31 x3.toNatClampNeg), .int v1]) (rest := []) S K_Mo_posted q_1117 (c_Mo_posted hv2) hK hP ⟨rfl, rfl⟩ ⟨Nat.le_of_ble_eq_true rfl, Nat.le_of_ble_eq_true rfl⟩ (mr_0 hK hP) rfl hl.1 rfl (Nat.le_of_ble_eq_true rfl) d_Mo_occurs_37 ⟨Nat.le_refl _, Nat.le_refl _⟩ ?_
      refine lv_if_ne (tgt := 45) hx hb d_Mo_occurs_40 rfl (fun hc => ?_) (fun hc => ?_)
      · replace hf := br_n hc hf
        obtain ⟨v3, hv3, hf⟩ := bd_x hf
        refine lv_iinc (lv' := [(3, .int v3), (4, .int v1), (0, .ref (ad 0)), (1, .int x1), (2, .int x2)]) hx hb d_Mo_occurs_45 hl (k := 4) rfl (show x3 + Int32.ofInt (1) = v3 from hv3) (Nat.le_of_ble_eq_true rfl) rfl (fun ls hl => ?_)
        refine lv_goto (tgt := 2) hx hb d_Mo_occurs_48 rfl ?_
        exact ih _ _ _ _ (lv_sub (l' := [(0, .ref (ad 0)), (1, .int x1), (2, .int x2), (3, .int v3)]) hl [2, 3, 4, 0] rfl) hf
      · replace hf := br_p hc hf
        refine lv_iconst (v := 0) hx hb d_Mo_occurs_43 (by decide) ?_
        have h1 := Option.some.inj hf
        subst h1
        exact W.zret hx hb hr (by first | rfl | exact bz_nar _) (fun t ht _ => ⟨rfl, ht⟩) (fun _ h => by cases h) d_Mo_occurs_44
def f_Mo_occurs (n : Nat) (μ : Mem) (a1 : Int32) (a2 : Int32) : Option Bool := f_Mo_occurs_2 μ n a1 a2 (0 : Int32)
set_option maxHeartbeats 4000000 in
set_option maxRecDepth 100000 in
theorem w_Mo_occurs {p : Program} {l : Launch} {e : Env} {s : State} {m : MethodId} {args : Array Value} {below : List Frame} {meth : Method} {c : Code} {D : va_G} {g : Nat → ClassId} {ad : Nat → Nat} {μ : Mem} {r : Bool} {n : Nat} {a1 : Int32} {a2 : Int32} {ls : Array Slot} (X : Cx p s m args meth c b_Mo_occurs 5 R_Mo (some .boolean) D CL (TY g)) (hP : va_P D CL (WM g ad μ) s.heap) (hl : lv_has ls 5 [(0, .ref (ad 0)), (1, .int a1), (2, .int a2)]) (hf : f_Mo_occurs n μ a1 a2 = some r) : WR p l e rm_Mo_occurs s m args below meth c (.int (bz r)) (F0 m 0 ls []) := by
  obtain ⟨S, hr, hlk, hK⟩ := id X
  obtain ⟨hx, hb, hml, hown, hts⟩ := id S
  rw [f_Mo_occurs] at hf
  refine lv_iconst (v := 0) hx hb d_Mo_occurs_0 (by decide) ?_
  refine lv_istore_n (lv' := [(3, .int (0 : Int32)), (0, .ref (ad 0)), (1, .int a1), (2, .int a2)]) hx hb d_Mo_occurs_1 rfl hl (Nat.le_of_ble_eq_true rfl) rfl (fun ls hl => ?_)
  exact w_Mo_occurs_2 X hP _ _ _ _ _ (lv_sub (l' := [(0, .ref (ad 0)), (1, .int a1), (2, .int a2), (3, .int (0 : Int32))]) hl [1, 2, 3, 0] rfl) hf
theorem c_Mo_occurs {l : Launch} {D : va_G} {g : Nat → ClassId} {ad : Nat → Nat} {μ : Mem} {r : Bool} {n : Nat} {a1 : Int32} {a2 : Int32} (hf : f_Mo_occurs n μ a1 a2 = some r) : Met l y_Mo_occurs (Cond.code y_Mo_occurs b_Mo_occurs 5 (some .boolean) :: ww) rm_Mo_occurs (RP D CL (TY g) (WM g ad μ) [.ref (ad 0), .int a1, .int a2]) (k2_QcV (.int (bz r))) 0 0 (fun _ => False) := by
  refine met_of (by decide) (Nat.le_of_ble_eq_true rfl) ?_
  intro p e s m below meth c ls X hP hl
  have hl : lv_has ls 5 [(0, .ref (ad 0)), (1, .int a1), (2, .int a2)] := hl
  exact w_Mo_occurs X hP hl hf
theorem d_Mo_count_0 : decode b_Mo_count 0 = .ok (.iconst 0, 1) := by decide +kernel
theorem d_Mo_count_1 : decode b_Mo_count 1 = .ok (.istore_n 2, 1) := by decide +kernel
theorem d_Mo_count_2 : decode b_Mo_count 2 = .ok (.iconst 0, 1) := by decide +kernel
theorem d_Mo_count_3 : decode b_Mo_count 3 = .ok (.istore_n 3, 1) := by decide +kernel
theorem d_Mo_count_4 : decode b_Mo_count 4 = .ok (.iload_n 3, 1) := by decide +kernel
theorem d_Mo_count_5 : decode b_Mo_count 5 = .ok (.bipush 24, 2) := by decide +kernel
theorem d_Mo_count_7 : decode b_Mo_count 7 = .ok (.if_icmp .ge 26, 3) := by decide +kernel
theorem d_Mo_count_10 : decode b_Mo_count 10 = .ok (.iload_n 2, 1) := by decide +kernel
theorem d_Mo_count_11 : decode b_Mo_count 11 = .ok (.aload_n 0, 1) := by decide +kernel
theorem d_Mo_count_12 : decode b_Mo_count 12 = .ok (.iload_n 1, 1) := by decide +kernel
theorem d_Mo_count_13 : decode b_Mo_count 13 = .ok (.iload_n 3, 1) := by decide +kernel
theorem d_Mo_count_14 : decode b_Mo_count 14 = .ok (.invokevirtual 263, 3) := by decide +kernel
theorem d_Mo_count_17 : decode b_Mo_count 17 = .ok (.ifCond .eq 7, 3) := by decide +kernel
theorem d_Mo_count_20 : decode b_Mo_count 20 = .ok (.iconst 1, 1) := by decide +kernel
theorem d_Mo_count_21 : decode b_Mo_count 21 = .ok (.goto 4, 3) := by decide +kernel
theorem d_Mo_count_24 : decode b_Mo_count 24 = .ok (.iconst 0, 1) := by decide +kernel
theorem d_Mo_count_25 : decode b_Mo_count 25 = .ok (.iadd, 1) := by decide +kernel
theorem d_Mo_count_26 : decode b_Mo_count 26 = .ok (.istore_n 2, 1) := by decide +kernel
theorem d_Mo_count_27 : decode b_Mo_count 27 = .ok (.iinc 3 1, 3) := by decide +kernel
theorem d_Mo_count_30 : decode b_Mo_count 30 = .ok (.goto (-26), 3) := by decide +kernel
theorem d_Mo_count_33 : decode b_Mo_count 33 = .ok (.iload_n 2, 1) := by decide +kernel
theorem d_Mo_count_34 : decode b_Mo_count 34 = .ok (.ireturn, 1) := by decide +kernel
abbrev rm_Mo_count : Room := { frames := 2, cells := 0, slots := 0, locals := 49 }
def f_Mo_count_25 (κ4 : Int32 → Int32 → Int32 → Option Int32) (μ : Mem) (n : Nat) (x1 : Int32) (x3 : Int32) (s0 : Int32) (s1 : Bool) : Option Int32 := bd (s0 + (bz s1)) (fun v1 => bd (x3 + 1) (fun v2 => κ4 x1 v1 v2))
set_option maxHeartbeats 4000000 in
set_option maxRecDepth 100000 in
theorem w_Mo_count_25 {p : Program} {l : Launch} {e : Env} {s : State} {m : MethodId} {args : Array Value} {below : List Frame} {meth : Method} {c : Code} {D : va_G} {g : Nat → ClassId} {ad : Nat → Nat} {μ : Mem} {r : Int32} {κ4 : Int32 → Int32 → Int32 → Option Int32} {n : Nat} {x1 : Int32} {x3 : Int32} {s0 : Int32} {s1 : Bool} {ls : Array Slot} (X : Cx p s m args meth c b_Mo_count 4 R_Mo (some .int) D CL (TY g)) (hP : va_P D CL (WM g ad μ) s.heap) (hκ4 : ∀ (x1 : Int32) (x2 : Int32) (x3 : Int32) (ls : Array Slot), lv_has ls 4 [(0, .ref (ad 0)), (1, .int x1), (2, .int x2), (3, .int x3)] → κ4 x1 x2 x3 = some r → WR p l e rm_Mo_count s m args below meth c (.int r) (F0 m 4 ls [])) (hl : lv_has ls 4 [(0, .ref (ad 0)), (1, .int x1), (3, .int x3)]) (hf : f_Mo_count_25 κ4 μ n x1 x3 s0 s1 = some r) : WR p l e rm_Mo_count s m args below meth c (.int r) (F0 m 25 ls [.int (bz s1), .int s0]) := by
  obtain ⟨S, hr, hlk, hK⟩ := id X
  obtain ⟨hx, hb, hml, hown, hts⟩ := id S
  rw [f_Mo_count_25] at hf
  refine lv_iadd hx hb d_Mo_count_25 ?_
  obtain ⟨v1, hv1, hf⟩ := bd_x hf
  refine top_i hv1 ?_
  refine lv_istore_n (lv' := [(2, .int v1), (0, .ref (ad 0)), (1, .int x1), (3, .int x3)]) hx hb d_Mo_count_26 rfl hl (Nat.le_of_ble_eq_true rfl) rfl (fun ls hl => ?_)
  obtain ⟨v2, hv2, hf⟩ := bd_x hf
  refine lv_iinc (lv' := [(3, .int v2), (2, .int v1), (0, .ref (ad 0)), (1, .int x1)]) hx hb d_Mo_count_27 hl (k := 3) rfl (show x3 + Int32.ofInt (1) = v2 from hv2) (Nat.le_of_ble_eq_true rfl) rfl (fun ls hl => ?_)
  refine lv_goto (tgt := 4) hx hb d_Mo_count_30 rfl ?_
  exact hκ4 _ _ _ _ (lv_sub (l' := [(0, .ref (ad 0)), (1, .int x1), (2, .int v1), (3, .int v2)]) hl [2, 3, 1, 0] rfl) hf
def f_Mo_count_4 (μ : Mem) : Nat → Int32 → Int32 → Int32 → Option Int32
  | 0, _, _, _ => none
  | n + 1, x1, x2, x3 => (if (24 : Int32) ≤ x3 then (some x2) else (cl (f_Mo_occurs n μ x1 x3) (fun v1 => (if (bz v1) = 0 then (f_Mo_count_25 (f_Mo_count_4 μ n) μ n x1 x3 x2 false) else (f_Mo_count_25 (f_Mo_count_4 μ n) μ n x1 x3 x2 true)))))
set_option maxHeartbeats 4000000 in
set_option maxRecDepth 100000 in
theorem w_Mo_count_4 {p : Program} {l : Launch} {e : Env} {s : State} {m : MethodId} {args : Array Value} {below : List Frame} {meth : Method} {c : Code} {D : va_G} {g : Nat → ClassId} {ad : Nat → Nat} {μ : Mem} {r : Int32} (X : Cx p s m args meth c b_Mo_count 4 R_Mo (some .int) D CL (TY g)) (hP : va_P D CL (WM g ad μ) s.heap) : ∀ (n : Nat) (x1 : Int32) (x2 : Int32) (x3 : Int32) (ls : Array Slot), lv_has ls 4 [(0, .ref (ad 0)), (1, .int x1), (2, .int x2), (3, .int x3)] → f_Mo_count_4 μ n x1 x2 x3 = some r → WR p l e rm_Mo_count s m args below meth c (.int r) (F0 m 4 ls []) := by
  intro n
  induction n with
  | zero => intro x1 x2 x3 ls hl hf; rw [f_Mo_count_4] at hf; cases hf
  | succ n ih =>
    intro x1 x2 x3 ls hl hf
    obtain ⟨S, hr, hlk, hK⟩ := id X
    obtain ⟨hx, hb, hml, hown, hts⟩ := id S
    rw [f_Mo_count_4] at hf
    refine lv_iload_n hx hb d_Mo_count_4 rfl (lv_at hl 3 rfl) ?_
    refine lv_bipush (v := 24) hx hb d_Mo_count_5 (by decide) ?_
    refine lv_icmp_ge (tgt := 33) hx hb d_Mo_count_7 rfl (fun hc => ?_) (fun hc => ?_)
    · replace hf := br_p hc hf
      refine lv_iload_n hx hb d_Mo_count_33 rfl (lv_at hl 2 rfl) ?_
      have h1 := Option.some.inj hf
      subst h1
      exact W.iret hx hb hr (fun t ht _ => ⟨rfl, ht⟩) (fun _ h => by cases h) d_Mo_count_34
    · replace hf := br_n hc hf
      refine lv_iload_n hx hb d_Mo_count_10 rfl (lv_at hl 2 rfl) ?_
      refine lv_aload_n hx hb d_Mo_count_11 rfl (lv_at hl 0 rfl) ?_
      refine lv_iload_n hx hb d_Mo_count_12 rfl (lv_at hl 1 rfl) ?_
      refine lv_iload_n hx hb d_Mo_count_13 rfl (lv_at hl 3 rfl) ?_
      obtain ⟨v1, hv1, hf⟩ := cl_x hf
      refine rdV (As := [.int x1, .int x3]) (rest := [.int x2]) S K_Mo_occurs q_1157 (c_Mo_occurs hv1) hK hP ⟨rfl, rfl⟩ ⟨Nat.le_of_ble_eq_true rfl, Nat.le_of_ble_eq_true rfl⟩ (mr_0 hK hP) rfl hl.1 rfl (Nat.le_of_ble_eq_true rfl) d_Mo_count_14 ⟨Nat.le_refl _, Nat.le_refl _⟩ ?_
      refine lv_if_eq (tgt := 24) hx hb d_Mo_count_17 rfl (fun hc => ?_) (fun hc => ?_)
      · replace hf := br_p hc hf
        refine lv_iconst (v := 0) hx hb d_Mo_count_24 (by decide) ?_
        refine top_i (z := bz false) (by decide) ?_
        exact w_Mo_count_25 X hP ih (lv_sub (l' := [(0, .ref (ad 0)), (1, .int x1), (3, .int x3)]) hl [0, 1, 3] rfl) hf
      · replace hf := br_n hc hf
        refine lv_iconst (v := 1) hx hb d_Mo_count_20 (by decide) ?_
        refine lv_goto (tgt := 25) hx hb d_Mo_count_21 rfl ?_
        refine top_i (z := bz true) (by decide) ?_
        exact w_Mo_count_25 X hP ih (lv_sub (l' := [(0, .ref (ad 0)), (1, .int x1), (3, .int x3)]) hl [0, 1, 3] rfl) hf
def f_Mo_count (n : Nat) (μ : Mem) (a1 : Int32) : Option Int32 := f_Mo_count_4 μ n a1 (0 : Int32) (0 : Int32)
set_option maxHeartbeats 4000000 in
set_option maxRecDepth 100000 in
theorem w_Mo_count {p : Program} {l : Launch} {e : Env} {s : State} {m : MethodId} {args : Array Value} {below : List Frame} {meth : Method} {c : Code} {D : va_G} {g : Nat → ClassId} {ad : Nat → Nat} {μ : Mem} {r : Int32} {n : Nat} {a1 : Int32} {ls : Array Slot} (X : Cx p s m args meth c b_Mo_count 4 R_Mo (some .int) D CL (TY g)) (hP : va_P D CL (WM g ad μ) s.heap) (hl : lv_has ls 4 [(0, .ref (ad 0)), (1, .int a1)]) (hf : f_Mo_count n μ a1 = some r) : WR p l e rm_Mo_count s m args below meth c (.int r) (F0 m 0 ls []) := by
  obtain ⟨S, hr, hlk, hK⟩ := id X
  obtain ⟨hx, hb, hml, hown, hts⟩ := id S
  rw [f_Mo_count] at hf
  refine lv_iconst (v := 0) hx hb d_Mo_count_0 (by decide) ?_
  refine lv_istore_n (lv' := [(2, .int (0 : Int32)), (0, .ref (ad 0)), (1, .int a1)]) hx hb d_Mo_count_1 rfl hl (Nat.le_of_ble_eq_true rfl) rfl (fun ls hl => ?_)
  refine lv_iconst (v := 0) hx hb d_Mo_count_2 (by decide) ?_
  refine lv_istore_n (lv' := [(3, .int (0 : Int32)), (2, .int (0 : Int32)), (0, .ref (ad 0)), (1, .int a1)]) hx hb d_Mo_count_3 rfl hl (Nat.le_of_ble_eq_true rfl) rfl (fun ls hl => ?_)
  exact w_Mo_count_4 X hP _ _ _ _ _ (lv_sub (l' := [(0, .ref (ad 0)), (1, .int a1), (2, .int (0 : Int32)), (3, .int (0 : Int32))]) hl [2, 3, 1, 0] rfl) hf
theorem c_Mo_count {l : Launch} {D : va_G} {g : Nat → ClassId} {ad : Nat → Nat} {μ : Mem} {r : Int32} {n : Nat} {a1 : Int32} (hf : f_Mo_count n μ a1 = some r) : Met l y_Mo_count (Cond.code y_Mo_count b_Mo_count 4 (some .int) :: ww) rm_Mo_count (RP D CL (TY g) (WM g ad μ) [.ref (ad 0), .int a1]) (k2_QcV (.int r)) 0 0 (fun _ => False) := by
  refine met_of (by decide) (Nat.le_of_ble_eq_true rfl) ?_
  intro p e s m below meth c ls X hP hl
  have hl : lv_has ls 4 [(0, .ref (ad 0)), (1, .int a1)] := hl
  exact w_Mo_count X hP hl hf
theorem d_Mo_match_0 : decode b_Mo_match 0 = .ok (.aload_n 0, 1) := by decide +kernel
theorem d_Mo_match_1 : decode b_Mo_match 1 = .ok (.invokevirtual 266, 3) := by decide +kernel
theorem d_Mo_match_4 : decode b_Mo_match 4 = .ok (.iload_n 1, 1) := by decide +kernel
theorem d_Mo_match_5 : decode b_Mo_match 5 = .ok (.ifCond .ge 7, 3) := by decide +kernel
theorem d_Mo_match_8 : decode b_Mo_match 8 = .ok (.iconst 0, 1) := by decide +kernel
theorem d_Mo_match_9 : decode b_Mo_match 9 = .ok (.goto 4, 3) := by decide +kernel
theorem d_Mo_match_12 : decode b_Mo_match 12 = .ok (.iload_n 1, 1) := by decide +kernel
theorem d_Mo_match_13 : decode b_Mo_match 13 = .ok (.istore_n 2, 1) := by decide +kernel
theorem d_Mo_match_14 : decode b_Mo_match 14 = .ok (.iload_n 2, 1) := by decide +kernel
theorem d_Mo_match_15 : decode b_Mo_match 15 = .ok (.aload_n 0, 1) := by decide +kernel
theorem d_Mo_match_16 : decode b_Mo_match 16 = .ok (.getfield 244, 3) := by decide +kernel
theorem d_Mo_match_19 : decode b_Mo_match 19 = .ok (.if_icmp .ge 28, 3) := by decide +kernel
theorem d_Mo_match_22 : decode b_Mo_match 22 = .ok (.aload_n 0, 1) := by decide +kernel
theorem d_Mo_match_23 : decode b_Mo_match 23 = .ok (.getfield 126, 3) := by decide +kernel
theorem d_Mo_match_26 : decode b_Mo_match 26 = .ok (.iload_n 2, 1) := by decide +kernel
theorem d_Mo_match_27 : decode b_Mo_match 27 = .ok (.baload, 1) := by decide +kernel
theorem d_Mo_match_28 : decode b_Mo_match 28 = .ok (.ifCond .eq 13, 3) := by decide +kernel
theorem d_Mo_match_31 : decode b_Mo_match 31 = .ok (.aload_n 0, 1) := by decide +kernel
theorem d_Mo_match_32 : decode b_Mo_match 32 = .ok (.iload_n 2, 1) := by decide +kernel
theorem d_Mo_match_33 : decode b_Mo_match 33 = .ok (.invokevirtual 269, 3) := by decide +kernel
theorem d_Mo_match_36 : decode b_Mo_match 36 = .ok (.ifCond .le 5, 3) := by decide +kernel
theorem d_Mo_match_39 : decode b_Mo_match 39 = .ok (.iload_n 2, 1) := by decide +kernel
theorem d_Mo_match_40 : decode b_Mo_match 40 = .ok (.ireturn, 1) := by decide +kernel
theorem d_Mo_match_41 : decode b_Mo_match 41 = .ok (.iinc 2 1, 3) := by decide +kernel
theorem d_Mo_match_44 : decode b_Mo_match 44 = .ok (.goto (-30), 3) := by decide +kernel
theorem d_Mo_match_47 : decode b_Mo_match 47 = .ok (.iconst (-1), 1) := by decide +kernel
theorem d_Mo_match_48 : decode b_Mo_match 48 = .ok (.ireturn, 1) := by decide +kernel
abbrev rm_Mo_match : Room := { frames := 7, cells := 0, slots := 0, locals := 171 }
def f_Mo_match_41 (κ14 : Mem → Int32 → Option (Int32 × Mem)) (n : Nat) (μ : Mem) (x2 : Int32) : Option (Int32 × Mem) := bd (x2 + 1) (fun v1 => κ14 μ v1)
set_option maxHeartbeats 4000000 in
set_option maxRecDepth 100000 in
theorem w_Mo_match_41 {p : Program} {l : Launch} {e : Env} {s : State} {m : MethodId} {args : Array Value} {below : List Frame} {meth : Method} {c : Code} {D : va_G} {g : Nat → ClassId} {ad : Nat → Nat} {r : Int32} {μ' : Mem} {A : Nat → Prop} {κ14 : Mem → Int32 → Option (Int32 × Mem)} {n : Nat} {μ : Mem} {x2 : Int32} {ls : Array Slot} {H : Heap} {locs : List Loc} (X : Cx p s m args meth c b_Mo_match 3 R_Mo (some .int) D CL (TY g)) (hDA : ∀ μ : Mem, va_D A (WM g ad μ)) (hκ14 : ∀ (μ : Mem) (x2 : Int32) (ls : Array Slot) (H : Heap) (locs : List Loc), va_P D CL (WM g ad μ) H → va_S A s.heap H locs → lv_has ls 3 [(0, .ref (ad 0)), (2, .int x2)] → κ14 μ x2 = some (r, μ') → WU p l e rm_Mo_match s m args below meth c H locs D (WM g ad μ') A (some (.int r)) (F0 m 14 ls [])) (hP : va_P D CL (WM g ad μ) H) (hS : va_S A s.heap H locs) (hl : lv_has ls 3 [(0, .ref (ad 0)), (2, .int x2)]) (hf : f_Mo_match_41 κ14 n μ x2 = some (r, μ')) : WU p l e rm_Mo_match s m args below meth c H locs D (WM g ad μ') A (some (.int r)) (F0 m 41 ls []) := by
  obtain ⟨S, hr, hlk, hK⟩ := id X
  obtain ⟨hx, hb, hml, hown, hts⟩ := id S
  rw [f_Mo_match_41] at hf
  obtain ⟨v1, hv1, hf⟩ := bd_x hf
  refine lv_iinc (lv' := [(2, .int v1), (0, .ref (ad 0))]) hx hb d_Mo_match_41 hl (k := 1) rfl (show x2 + Int32.ofInt (1) = v1 from hv1) (Nat.le_of_ble_eq_true rfl) rfl (fun ls hl => ?_)
  refine lv_goto (tgt := 14) hx hb d_Mo_match_44 rfl ?_
  exact hκ14 _ _ _ _ _ hP hS (lv_sub (l' := [(0, .ref (ad 0)), (2, .int v1)]) hl [1, 0] rfl) hf
def f_Mo_match_14 : Nat → Mem → Int32 → Option (Int32 × Mem)
  | 0, _, _ => none
  | n + 1, μ, x2 => (if (μ.1 0 50) ≤ x2 then (some ((-1 : Int32), μ)) else (gd (inb x2 40) ((if (μ.1 39 x2.toNatClampNeg) = 0 then (f_Mo_match_41 (f_Mo_match_14 n) n μ x2) else (cl (f_Mo_count n μ x2) (fun v1 => (if v1 ≤ 0 then (f_Mo_match_41 (f_Mo_match_14 n) n μ x2) else (some (x2, μ)))))))))
set_option maxHeartbeats 4000000 in
set_option maxRecDepth 100000 in
theorem w_Mo_match_14 {p : Program} {l : Launch} {e : Env} {s : State} {m : MethodId} {args : Array Value} {below : List Frame} {meth : Method} {c : Code} {D : va_G} {g : Nat → ClassId} {ad : Nat → Nat} {r : Int32} {μ' : Mem} {A : Nat → Prop} (X : Cx p s m args meth c b_Mo_match 3 R_Mo (some .int) D CL (TY g)) (hDA : ∀ μ : Mem, va_D A (WM g ad μ)) : ∀ (n : Nat) (μ : Mem) (x2 : Int32) (ls : Array Slot) (H : Heap) (locs : List Loc), va_P D CL (WM g ad μ) H → va_S A s.heap H locs → lv_has ls 3 [(0, .ref (ad 0)), (2, .int x2)] → f_Mo_match_14 n μ x2 = some (r, μ') → WU p l e rm_Mo_match s m args below meth c H locs D (WM g ad μ') A (some (.int r)) (F0 m 14 ls []) := by
  intro n
  induction n with
  | zero => intro μ x2 ls H locs hP hS hl hf; rw [f_Mo_match_14] at hf; cases hf
  | succ n ih =>
    intro μ x2 ls H locs hP hS hl hf
    obtain ⟨S, hr, hlk, hK⟩ := id X
    obtain ⟨hx, hb, hml, hown, hts⟩ := id S
    rw [f_Mo_match_14] at hf
    refine lv_iload_n hx hb d_Mo_match_14 rfl (lv_at hl 1 rfl) ?_
    refine lv_aload_n hx hb d_Mo_match_15 rfl (lv_at hl 0 rfl) ?_
    refine mg_0_50 hx hb hts hown hK hP q_868 d_Mo_match_16 ?_
    refine lv_icmp_ge (tgt := 47) hx hb d_Mo_match_19 rfl (fun hc => ?_) (fun hc => ?_)
    · replace hf := br_p hc hf
      refine lv_iconst (v := -1) hx hb d_Mo_match_47 (by decide) ?_
      obtain ⟨h1, h2⟩ := Prod.mk.inj (Option.some.inj hf)
      subst h1; subst h2
      exact W.iret hx hb hr (fun t ht _ => ⟨rfl, by rw [ht]; exact hP, hS.F ht⟩) hS.2.2 d_Mo_match_48
    · replace hf := br_n hc hf
      refine lv_aload_n hx hb d_Mo_match_22 rfl (lv_at hl 0 rfl) ?_
      refine mg_0_49 hx hb hts hown hK hP q_867 d_Mo_match_23 ?_
      refine lv_iload_n hx hb d_Mo_match_26 rfl (lv_at hl 1 rfl) ?_
      obtain ⟨hi, hf⟩ := gd_x hf
      refine ml_39 hx hb hK hP (inb_in hi) d_Mo_match_27 ?_
      refine lv_if_eq (tgt := 41) hx hb d_Mo_match_28 rfl (fun hc => ?_) (fun hc => ?_)
      · replace hf := br_p hc hf
        exact w_Mo_match_41 X hDA ih hP hS (lv_sub (l' := [(0, .ref (ad 0)), (2, .int x2)]) hl [0, 1] rfl) hf
      · replace hf := br_n hc hf
        refine lv_aload_n hx hb d_Mo_match_31 rfl (lv_at hl 0 rfl) ?_
        refine lv_iload_n hx hb d_Mo_match_32 rfl (lv_at hl 1 rfl) ?_
        obtain ⟨v1, hv1, hf⟩ := cl_x hf
        refine rdV (As := [.int x2]) (rest := []) S K_Mo_count q_1153 (c_Mo_count hv1) hK hP ⟨rfl, rfl⟩ ⟨Nat.le_of_ble_eq_true rfl, Nat.le_of_ble_eq_true rfl⟩ (mr_0 hK hP) rfl hl.1 rfl (Nat.le_of_ble_eq_true rfl) d_Mo_match_33 ⟨Nat.le_refl _, Nat.le_refl _⟩ ?_
        refine lv_if_le (tgt := 41) hx hb d_Mo_match_36 rfl (fun hc => ?_) (fun hc => ?_)
        · replace hf := br_p hc hf
          exact w_Mo_match_41 X hDA ih hP hS (lv_sub (l' := [(0, .ref (ad 0)), (2, .int x2)]) hl [0, 1] rfl) hf
        · replace hf := br_n hc hf
          refine lv_iload_n hx hb d_Mo_match_39 rfl (lv_at hl 1 rfl) ?_
          obtain ⟨h1, h2⟩ := Prod.mk.inj (Option.some.inj hf)
          subst h1; subst h2
          exact W.iret hx hb hr (fun t ht _ => ⟨rfl, by rw [ht]; exact hP, hS.F ht⟩) hS.2.2 d_Mo_match_40
def f_Mo_match_13 (n : Nat) (μ : Mem) (s0 : Int32) : Option (Int32 × Mem) := f_Mo_match_14 n μ s0
set_option maxHeartbeats 4000000 in
set_option maxRecDepth 100000 in
theorem w_Mo_match_13 {p : Program} {l : Launch} {e : Env} {s : State} {m : MethodId} {args : Array Value} {below : List Frame} {meth : Method} {c : Code} {D : va_G} {g : Nat → ClassId} {ad : Nat → Nat} {r : Int32} {μ' : Mem} {A : Nat → Prop} {n : Nat} {μ : Mem} {s0 : Int32} {ls : Array Slot} {H : Heap} {locs : List Loc} (X : Cx p s m args meth c b_Mo_match 3 R_Mo (some .int) D CL (TY g)) (hDA : ∀ μ : Mem, va_D A (WM g ad μ)) (hP : va_P D CL (WM g ad μ) H) (hS : va_S A s.heap H locs) (hl : lv_has ls 3 [(0, .ref (ad 0))]) (hf : f_Mo_match_13 n μ s0 = some (r, μ')) : WU p l e rm_Mo_match s m args below meth c H locs D (WM g ad μ') A (some (.int r)) (F0 m 13 ls [.int s0]) := by
  obtain ⟨S, hr, hlk, hK⟩ := id X
  obtain ⟨hx, hb, hml, hown, hts⟩ := id S
  rw [f_Mo_match_13] at hf
  refine lv_istore_n (lv' := [(2, .int s0), (0, .ref (ad 0))]) hx hb d_Mo_match_13 rfl hl (Nat.le_of_ble_eq_true rfl) rfl (fun ls hl => ?_)
  exact w_Mo_match_14 X hDA _ _ _ _ _ _ hP hS (lv_sub (l' := [(0, .ref (ad 0)), (2, .int s0)]) hl [1, 0] rfl) hf
def f_Mo_match (n : Nat) (μ : Mem) (a1 : Int32) : Option (Int32 × Mem) := cl (f_Mo_ask n μ) (fun μ2 => (if 0 ≤ a1 then (f_Mo_match_13 n μ2 a1) else (f_Mo_match_13 n μ2 (0 : Int32))))
set_option maxHeartbeats 4000000 in
set_option maxRecDepth 100000 in
theorem w_Mo_match {p : Program} {l : Launch} {e : Env} {s : State} {m : MethodId} {args : Array Value} {below : List Frame} {meth : Method} {c : Code} {D : va_G} {g : Nat → ClassId} {ad : Nat → Nat} {r : Int32} {μ' : Mem} {A : Nat → Prop} {n : Nat} {μ : Mem} {a1 : Int32} {ls : Array Slot} {H : Heap} {locs : List Loc} (X : Cx p s m args meth c b_Mo_match 3 R_Mo (some .int) D CL (TY g)) (hDA : ∀ μ : Mem, va_D A (WM g ad μ)) (hP : va_P D CL (WM g ad μ) H) (hS : va_S A s.heap H locs) (hl : lv_has ls 3 [(0, .ref (ad 0)), (1, .int a1)]) (hf : f_Mo_match n μ a1 = some (r, μ')) : WU p l e rm_Mo_match s m args below meth c H locs D (WM g ad μ') A (some (.int r)) (F0 m 0 ls []) := by
  obtain ⟨S, hr, hlk, hK⟩ := id X
  obtain ⟨hx, hb, hml, hown, hts⟩ := id S
  rw [f_Mo_match] at hf
  refine lv_aload_n hx hb d_Mo_match_0 rfl (lv_at hl 0 rfl) ?_
  obtain ⟨μ2, hv1, hf⟩ := cl_x hf
  refine wrV (As := []) (rest := []) S K_Mo_ask q_1149 (c_Mo_ask hDA hv1) hK hP hS ⟨rfl, rfl⟩ ⟨Nat.le_of_ble_eq_true rfl, Nat.le_of_ble_eq_true rfl⟩ (mr_0 hK hP) rfl hl.1 rfl (Nat.le_of_ble_eq_true rfl) d_Mo_match_1 ⟨Nat.le_refl _, Nat.le_refl _⟩ (fun H locs hP hS => ?_)
  refine lv_iload_n hx hb d_Mo_match_4 rfl (lv_at hl 1 rfl) ?_
  refine lv_if_ge (tgt := 12) hx hb d_Mo_match_5 rfl (fun hc => ?_) (fun hc => ?_)
  · replace hf := br_p hc hf
    refine lv_iload_n hx hb d_Mo_match_12 rfl (lv_at hl 1 rfl) ?_
    exact w_Mo_match_13 X hDA hP hS (lv_sub (l' := [(0, .ref (ad 0))]) hl [0] rfl) hf
  · replace hf := br_n hc hf
    refine lv_iconst (v := 0) hx hb d_Mo_match_8 (by decide) ?_
    refine lv_goto (tgt := 13) hx hb d_Mo_match_9 rfl ?_
    exact w_Mo_match_13 X hDA hP hS (lv_sub (l' := [(0, .ref (ad 0))]) hl [0] rfl) hf
theorem c_Mo_match {l : Launch} {D : va_G} {g : Nat → ClassId} {ad : Nat → Nat} {μ : Mem} {r : Int32} {μ' : Mem} {A : Nat → Prop} {n : Nat} {a1 : Int32} (hDA : ∀ μ : Mem, va_D A (WM g ad μ)) (hf : f_Mo_match n μ a1 = some (r, μ')) : Met l y_Mo_match (Cond.code y_Mo_match b_Mo_match 3 (some .int) :: ww) rm_Mo_match (RP D CL (TY g) (WM g ad μ) [.ref (ad 0), .int a1]) (QW D CL (WM g ad μ') A (some (.int r))) 0 0 A := by
  refine met_of (by decide) (Nat.le_of_ble_eq_true rfl) ?_
  intro p e s m below meth c ls X hP hl
  have hl : lv_has ls 3 [(0, .ref (ad 0)), (1, .int a1)] := hl
  exact w_Mo_match X hDA hP va_S.rf hl hf
theorem d_Mo_places_0 : decode b_Mo_places 0 = .ok (.aload_n 0, 1) := by decide +kernel
theorem d_Mo_places_1 : decode b_Mo_places 1 = .ok (.invokevirtual 266, 3) := by decide +kernel
theorem d_Mo_places_4 : decode b_Mo_places 4 = .ok (.iload_n 1, 1) := by decide +kernel
theorem d_Mo_places_5 : decode b_Mo_places 5 = .ok (.iconst 0, 1) := by decide +kernel
theorem d_Mo_places_6 : decode b_Mo_places 6 = .ok (.aload_n 0, 1) := by decide +kernel
theorem d_Mo_places_7 : decode b_Mo_places 7 = .ok (.getfield 244, 3) := by decide +kernel
theorem d_Mo_places_10 : decode b_Mo_places 10 = .ok (.iconst 1, 1) := by decide +kernel
theorem d_Mo_places_11 : decode b_Mo_places 11 = .ok (.isub, 1) := by decide +kernel
theorem d_Mo_places_12 : decode b_Mo_places 12 = .ok (.invokestatic 142, 3) := by decide +kernel
theorem d_Mo_places_15 : decode b_Mo_places 15 = .ok (.ifCond .eq 20, 3) := by decide +kernel
theorem d_Mo_places_18 : decode b_Mo_places 18 = .ok (.aload_n 0, 1) := by decide +kernel
theorem d_Mo_places_19 : decode b_Mo_places 19 = .ok (.getfield 126, 3) := by decide +kernel
theorem d_Mo_places_22 : decode b_Mo_places 22 = .ok (.iload_n 1, 1) := by decide +kernel
theorem d_Mo_places_23 : decode b_Mo_places 23 = .ok (.baload, 1) := by decide +kernel
theorem d_Mo_places_24 : decode b_Mo_places 24 = .ok (.ifCond .eq 11, 3) := by decide +kernel
theorem d_Mo_places_27 : decode b_Mo_places 27 = .ok (.aload_n 0, 1) := by decide +kernel
theorem d_Mo_places_28 : decode b_Mo_places 28 = .ok (.iload_n 1, 1) := by decide +kernel
theorem d_Mo_places_29 : decode b_Mo_places 29 = .ok (.invokevirtual 269, 3) := by decide +kernel
theorem d_Mo_places_32 : decode b_Mo_places 32 = .ok (.goto 4, 3) := by decide +kernel
theorem d_Mo_places_35 : decode b_Mo_places 35 = .ok (.iconst 0, 1) := by decide +kernel
theorem d_Mo_places_36 : decode b_Mo_places 36 = .ok (.ireturn, 1) := by decide +kernel
abbrev rm_Mo_places : Room := { frames := 7, cells := 0, slots := 0, locals := 171 }
def f_Mo_places (n : Nat) (μ : Mem) (a1 : Int32) : Option (Int32 × Mem) := cl (f_Mo_ask n μ) (fun μ2 => cl (f_Mo_in n a1 (0 : Int32) ((μ2.1 0 50) - (1 : Int32))) (fun v3 => (if (bz v3) = 0 then (some ((0 : Int32), μ2)) else (gd (inb a1 40) ((if (μ2.1 39 a1.toNatClampNeg) = 0 then (some ((0 : Int32), μ2)) else (cl (f_Mo_count n μ2 a1) (fun v4 => some (v4, μ2)))))))))
set_option maxHeartbeats 4000000 in
set_option maxRecDepth 100000 in
theorem w_Mo_places {p : Program} {l : Launch} {e : Env} {s : State} {m : MethodId} {args : Array Value} {below : List Frame} {meth : Method} {c : Code} {D : va_G} {g : Nat → ClassId} {ad : Nat → Nat} {r : Int32} {μ' : Mem} {A : Nat → Prop} {n : Nat} {μ : Mem} {a1 : Int32} {ls : Array Slot} {H : Heap} {locs : List Loc} (X : Cx p s m args meth c b_Mo_places 2 R_Mo (some .int) D CL (TY g)) (hDA : ∀ μ : Mem, va_D A (WM g ad μ)) (hP : va_P D CL (WM g ad μ) H) (hS : va_S A s.heap H locs) (hl : lv_has ls 2 [(0, .ref (ad 0)), (1, .int a1)]) (hf : f_Mo_places n μ a1 = some (r, μ')) : WU p l e rm_Mo_places s m args below meth c H locs D (WM g ad μ') A (some (.int r)) (F0 m 0 ls []) := by
  obtain ⟨S, hr, hlk, hK⟩ := id X
  obtain ⟨hx, hb, hml, hown, hts⟩ := id S
  rw [f_Mo_places] at hf
  refine lv_aload_n hx hb d_Mo_places_0 rfl (lv_at hl 0 rfl) ?_
  obtain ⟨μ2, hv1, hf⟩ := cl_x hf
  refine wrV (As := []) (rest := []) S K_Mo_ask q_1149 (c_Mo_ask hDA hv1) hK hP hS ⟨rfl, rfl⟩ ⟨Nat.le_of_ble_eq_true rfl, Nat.le_of_ble_eq_true rfl⟩ (mr_0 hK hP) rfl hl.1 rfl (Nat.le_of_ble_eq_true rfl) d_Mo_places_1 ⟨Nat.le_refl _, Nat.le_refl _⟩ (fun H locs hP hS => ?_)
  refine lv_iload_n hx hb d_Mo_places_4 rfl (lv_at hl 1 rfl) ?_
  refine lv_iconst (v := 0) hx hb d_Mo_places_5 (by decide) ?_
  refine lv_aload_n hx hb d_Mo_places_6 rfl (lv_at hl 0 rfl) ?_
  refine mg_0_50 hx hb hts hown hK hP q_868 d_Mo_places_7 ?_
  refine lv_iconst (v := 1) hx hb d_Mo_places_10 (by decide) ?_
  refine lv_isub hx hb d_Mo_places_11 ?_
  obtain ⟨v3, hv3, hf⟩ := cl_x hf
  refine rdS (As := [.int a1, .int (0 : Int32), .int ((μ2.1 0 50) - (1 : Int32))]) (rest := []) S K_Mo_in q_985 (c_Mo_in (w := (WM g ad μ2)) hv3) hK hP ⟨rfl, rfl⟩ ⟨Nat.le_of_ble_eq_true rfl, Nat.le_of_ble_eq_true rfl⟩ rfl hl.1 rfl (Nat.le_of_ble_eq_true rfl) d_Mo_places_12 ⟨Nat.le_refl _, Nat.le_refl _⟩ ?_
  refine lv_if_eq (tgt := 35) hx hb d_Mo_places_15 rfl (fun hc => ?_) (fun hc => ?_)
  · replace hf := br_p hc hf
    refine lv_iconst (v := 0) hx hb d_Mo_places_35 (by decide) ?_
    obtain ⟨h1, h2⟩ := Prod.mk.inj (Option.some.inj hf)
    subst h1; subst h2
    exact W.iret hx hb hr (fun t ht _ => ⟨rfl, by rw [ht]; exact hP, hS.F ht⟩) hS.2.2 d_Mo_places_36
  · replace hf := br_n hc hf
    refine lv_aload_n hx hb d_Mo_places_18 rfl (lv_at hl 0 rfl) ?_
    refine mg_0_49 hx hb hts hown hK hP q_867 d_Mo_places_19 ?_
    refine lv_iload_n hx hb d_Mo_places_22 rfl (lv_at hl 1 rfl) ?_
    obtain ⟨hi, hf⟩ := gd_x hf
    refine ml_39 hx hb hK hP (inb_in hi) d_Mo_places_23 ?_
    refine lv_if_eq (tgt := 35) hx hb d_Mo_places_24 rfl (fun hc => ?_) (fun hc => ?_)
    · replace hf := br_p hc hf
      refine lv_iconst (v := 0) hx hb d_Mo_places_35 (by decide) ?_
      obtain ⟨h1, h2⟩ := Prod.mk.inj (Option.some.inj hf)
      subst h1; subst h2
      exact W.iret hx hb hr (fun t ht _ => ⟨rfl, by rw [ht]; exact hP, hS.F ht⟩) hS.2.2 d_Mo_places_36
    · replace hf := br_n hc hf
      refine lv_aload_n hx hb d_Mo_places_27 rfl (lv_at hl 0 rfl) ?_
      refine lv_iload_n hx hb d_Mo_places_28 rfl (lv_at hl 1 rfl) ?_
      obtain ⟨v4, hv4, hf⟩ := cl_x hf
      refine rdV (As := [.int a1]) (rest := []) S K_Mo_count q_1153 (c_Mo_count hv4) hK hP ⟨rfl, rfl⟩ ⟨Nat.le_of_ble_eq_true rfl, Nat.le_of_ble_eq_true rfl⟩ (mr_0 hK hP) rfl hl.1 rfl (Nat.le_of_ble_eq_true rfl) d_Mo_places_29 ⟨Nat.le_refl _, Nat.le_refl _⟩ ?_
      refine lv_goto (tgt := 36) hx hb d_Mo_places_32 rfl ?_
      obtain ⟨h1, h2⟩ := Prod.mk.inj (Option.some.inj hf)
      subst h1; subst h2
      exact W.iret hx hb hr (fun t ht _ => ⟨rfl, by rw [ht]; exact hP, hS.F ht⟩) hS.2.2 d_Mo_places_36
theorem c_Mo_places {l : Launch} {D : va_G} {g : Nat → ClassId} {ad : Nat → Nat} {μ : Mem} {r : Int32} {μ' : Mem} {A : Nat → Prop} {n : Nat} {a1 : Int32} (hDA : ∀ μ : Mem, va_D A (WM g ad μ)) (hf : f_Mo_places n μ a1 = some (r, μ')) : Met l y_Mo_places (Cond.code y_Mo_places b_Mo_places 2 (some .int) :: ww) rm_Mo_places (RP D CL (TY g) (WM g ad μ) [.ref (ad 0), .int a1]) (QW D CL (WM g ad μ') A (some (.int r))) 0 0 A := by
  refine met_of (by decide) (Nat.le_of_ble_eq_true rfl) ?_
  intro p e s m below meth c ls X hP hl
  have hl : lv_has ls 2 [(0, .ref (ad 0)), (1, .int a1)] := hl
  exact w_Mo_places X hDA hP va_S.rf hl hf
