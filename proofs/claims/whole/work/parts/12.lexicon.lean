theorem d_Lexicon_count_0 : decode b_Lexicon_count 0 = .ok (.aload_n 0, 1) := by decide +kernel
theorem d_Lexicon_count_1 : decode b_Lexicon_count 1 = .ok (.getfield 31, 3) := by decide +kernel
theorem d_Lexicon_count_4 : decode b_Lexicon_count 4 = .ok (.ireturn, 1) := by decide +kernel
abbrev rm_Lexicon_count : Room := { frames := 0, cells := 0, slots := 0, locals := 0 }
def f_Lexicon_count (n : Nat) (μ : Mem) : Option Int32 := some (μ.1 3 6)
set_option maxHeartbeats 4000000 in
set_option maxRecDepth 100000 in
theorem w_Lexicon_count {p : Program} {l : Launch} {e : Env} {s : State} {m : MethodId} {args : Array Value} {below : List Frame} {meth : Method} {c : Code} {D : va_G} {g : Nat → ClassId} {ad : Nat → Nat} {dr : Nat → Option Nat} {pl : va_W} {μ : Mem} {r : Int32} {n : Nat} {ls : Array Slot} (X : Cx p s m args meth c b_Lexicon_count 1 R_Lexicon (some .int) D CL (TY g)) (hP : va_P D CL (WX g ad dr pl μ) s.heap) (hl : lv_has ls 1 [(0, .ref (ad 3))]) (hf : f_Lexicon_count n μ = some r) : WR p l e rm_Lexicon_count s m args below meth c (.int r) (F0 m 0 ls []) := by
  obtain ⟨S, hr, hlk, hK⟩ := id X
  obtain ⟨hx, hb, hml, hown, hts⟩ := id S
  rw [f_Lexicon_count] at hf
  refine lv_aload_n hx hb d_Lexicon_count_0 rfl (lv_at hl 0 rfl) ?_
  refine xg_3_6 hx hb hts hown hK hP q_50 d_Lexicon_count_1 ?_
  have h1 := Option.some.inj hf
  subst h1
  exact W.iret hx hb hr (fun t ht _ => ⟨rfl, ht⟩) (fun _ h => by cases h) d_Lexicon_count_4
theorem c_Lexicon_count {l : Launch} {D : va_G} {g : Nat → ClassId} {ad : Nat → Nat} {dr : Nat → Option Nat} {pl : va_W} {μ : Mem} {r : Int32} {n : Nat} (hf : f_Lexicon_count n μ = some r) : Met l y_Lexicon_count (Cond.code y_Lexicon_count b_Lexicon_count 1 (some .int) :: ww) rm_Lexicon_count (RP D CL (TY g) (WX g ad dr pl μ) [.ref (ad 3)]) (k2_QcV (.int r)) 0 0 (fun _ => False) := by
  refine met_of (by decide) (Nat.le_of_ble_eq_true rfl) ?_
  intro p e s m below meth c ls X hP hl
  have hl : lv_has ls 1 [(0, .ref (ad 3))] := hl
  exact w_Lexicon_count X hP hl hf
theorem d_Lexicon_sameSurfaces_0 : decode b_Lexicon_sameSurfaces 0 = .ok (.iconst 0, 1) := by decide +kernel
theorem d_Lexicon_sameSurfaces_1 : decode b_Lexicon_sameSurfaces 1 = .ok (.istore_n 3, 1) := by decide +kernel
theorem d_Lexicon_sameSurfaces_2 : decode b_Lexicon_sameSurfaces 2 = .ok (.iconst 0, 1) := by decide +kernel
theorem d_Lexicon_sameSurfaces_3 : decode b_Lexicon_sameSurfaces 3 = .ok (.istore 4, 2) := by decide +kernel
theorem d_Lexicon_sameSurfaces_5 : decode b_Lexicon_sameSurfaces 5 = .ok (.iload 4, 2) := by decide +kernel
theorem d_Lexicon_sameSurfaces_7 : decode b_Lexicon_sameSurfaces 7 = .ok (.aload_n 0, 1) := by decide +kernel
theorem d_Lexicon_sameSurfaces_8 : decode b_Lexicon_sameSurfaces 8 = .ok (.getfield 31, 3) := by decide +kernel
theorem d_Lexicon_sameSurfaces_11 : decode b_Lexicon_sameSurfaces 11 = .ok (.if_icmp .ge 24, 3) := by decide +kernel
theorem d_Lexicon_sameSurfaces_14 : decode b_Lexicon_sameSurfaces 14 = .ok (.aload_n 0, 1) := by decide +kernel
theorem d_Lexicon_sameSurfaces_15 : decode b_Lexicon_sameSurfaces 15 = .ok (.getfield 9, 3) := by decide +kernel
theorem d_Lexicon_sameSurfaces_18 : decode b_Lexicon_sameSurfaces 18 = .ok (.iload 4, 2) := by decide +kernel
theorem d_Lexicon_sameSurfaces_20 : decode b_Lexicon_sameSurfaces 20 = .ok (.laload, 1) := by decide +kernel
theorem d_Lexicon_sameSurfaces_21 : decode b_Lexicon_sameSurfaces 21 = .ok (.lload_n 1, 1) := by decide +kernel
theorem d_Lexicon_sameSurfaces_22 : decode b_Lexicon_sameSurfaces 22 = .ok (.lcmp, 1) := by decide +kernel
theorem d_Lexicon_sameSurfaces_23 : decode b_Lexicon_sameSurfaces 23 = .ok (.ifCond .ne 6, 3) := by decide +kernel
theorem d_Lexicon_sameSurfaces_26 : decode b_Lexicon_sameSurfaces 26 = .ok (.iinc 3 1, 3) := by decide +kernel
theorem d_Lexicon_sameSurfaces_29 : decode b_Lexicon_sameSurfaces 29 = .ok (.iinc 4 1, 3) := by decide +kernel
theorem d_Lexicon_sameSurfaces_32 : decode b_Lexicon_sameSurfaces 32 = .ok (.goto (-27), 3) := by decide +kernel
theorem d_Lexicon_sameSurfaces_35 : decode b_Lexicon_sameSurfaces 35 = .ok (.iload_n 3, 1) := by decide +kernel
theorem d_Lexicon_sameSurfaces_36 : decode b_Lexicon_sameSurfaces 36 = .ok (.ireturn, 1) := by decide +kernel
abbrev rm_Lexicon_sameSurfaces : Room := { frames := 0, cells := 0, slots := 0, locals := 0 }
def f_Lexicon_sameSurfaces_29 (κ5 : Int64 → Int32 → Int32 → Option Int32) (μ : Mem) (n : Nat) (x1 : Int64) (x3 : Int32) (x4 : Int32) : Option Int32 := bd (x4 + 1) (fun v1 => κ5 x1 x3 v1)
set_option maxHeartbeats 4000000 in
set_option maxRecDepth 100000 in
theorem w_Lexicon_sameSurfaces_29 {p : Program} {l : Launch} {e : Env} {s : State} {m : MethodId} {args : Array Value} {below : List Frame} {meth : Method} {c : Code} {D : va_G} {g : Nat → ClassId} {ad : Nat → Nat} {dr : Nat → Option Nat} {pl : va_W} {μ : Mem} {r : Int32} {κ5 : Int64 → Int32 → Int32 → Option Int32} {n : Nat} {x1 : Int64} {x3 : Int32} {x4 : Int32} {ls : Array Slot} (X : Cx p s m args meth c b_Lexicon_sameSurfaces 5 R_Lexicon (some .int) D CL (TY g)) (hP : va_P D CL (WX g ad dr pl μ) s.heap) (hκ5 : ∀ (x1 : Int64) (x3 : Int32) (x4 : Int32) (ls : Array Slot), lv_has ls 5 [(0, .ref (ad 3)), (1, .long x1), (3, .int x3), (4, .int x4)] → κ5 x1 x3 x4 = some r → WR p l e rm_Lexicon_sameSurfaces s m args below meth c (.int r) (F0 m 5 ls [])) (hl : lv_has ls 5 [(0, .ref (ad 3)), (1, .long x1), (3, .int x3), (4, .int x4)]) (hf : f_Lexicon_sameSurfaces_29 κ5 μ n x1 x3 x4 = some r) : WR p l e rm_Lexicon_sameSurfaces s m args below meth c (.int r) (F0 m 29 ls []) := by
  obtain ⟨S, hr, hlk, hK⟩ := id X
  obtain ⟨hx, hb, hml, hown, hts⟩ := id S
  rw [f_Lexicon_sameSurfaces_29] at hf
  obtain ⟨v1, hv1, hf⟩ := bd_x hf
  refine lv_iinc (lv' := [(4, .int v1), (0, .ref (ad 3)), (1, .long x1), (3, .int x3)]) hx hb d_Lexicon_sameSurfaces_29 hl (k := 3) rfl (show x4 + Int32.ofInt (1) = v1 from hv1) (Nat.le_of_ble_eq_true rfl) rfl (fun ls hl => ?_)
  refine lv_goto (tgt := 5) hx hb d_Lexicon_sameSurfaces_32 rfl ?_
  exact hκ5 _ _ _ _ (lv_sub (l' := [(0, .ref (ad 3)), (1, .long x1), (3, .int x3), (4, .int v1)]) hl [1, 2, 3, 0] rfl) hf
def f_Lexicon_sameSurfaces_5 (μ : Mem) : Nat → Int64 → Int32 → Int32 → Option Int32
  | 0, _, _, _ => none
  | n + 1, x1, x3, x4 => (if (μ.1 3 6) ≤ x4 then (some x3) else (gd (inb x4 40) ((if (lg_cmp (μ.2 4 x4.toNatClampNeg) x1) = 0 then (bd (x3 + 1) (fun v1 => f_Lexicon_sameSurfaces_29 (f_Lexicon_sameSurfaces_5 μ n) μ n x1 v1 x4)) else (f_Lexicon_sameSurfaces_29 (f_Lexicon_sameSurfaces_5 μ n) μ n x1 x3 x4)))))
set_option maxHeartbeats 4000000 in
set_option maxRecDepth 100000 in
theorem w_Lexicon_sameSurfaces_5 {p : Program} {l : Launch} {e : Env} {s : State} {m : MethodId} {args : Array Value} {below : List Frame} {meth : Method} {c : Code} {D : va_G} {g : Nat → ClassId} {ad : Nat → Nat} {dr : Nat → Option Nat} {pl : va_W} {μ : Mem} {r : Int32} (X : Cx p s m args meth c b_Lexicon_sameSurfaces 5 R_Lexicon (some .int) D CL (TY g)) (hP : va_P D CL (WX g ad dr pl μ) s.heap) : ∀ (n : Nat) (x1 : Int64) (x3 : Int32) (x4 : Int32) (ls : Array Slot), lv_has ls 5 [(0, .ref (ad 3)), (1, .long x1), (3, .int x3), (4, .int x4)] → f_Lexicon_sameSurfaces_5 μ n x1 x3 x4 = some r → WR p l e rm_Lexicon_sameSurfaces s m args below meth c (.int r) (F0 m 5 ls []) := by
  intro n
  induction n with
  | zero => intro x1 x3 x4 ls hl hf; rw [f_Lexicon_sameSurfaces_5] at hf; cases hf
  | succ n ih =>
    intro x1 x3 x4 ls hl hf
    obtain ⟨S, hr, hlk, hK⟩ := id X
    obtain ⟨hx, hb, hml, hown, hts⟩ := id S
    rw [f_Lexicon_sameSurfaces_5] at hf
    refine lv_iload hx hb d_Lexicon_sameSurfaces_5 (lv_at hl 3 rfl) ?_
    refine lv_aload_n hx hb d_Lexicon_sameSurfaces_7 rfl (lv_at hl 0 rfl) ?_
    refine xg_3_6 hx hb hts hown hK hP q_50 d_Lexicon_sameSurfaces_8 ?_
    refine lv_icmp_ge (tgt := 35) hx hb d_Lexicon_sameSurfaces_11 rfl (fun hc => ?_) (fun hc => ?_)
    · replace hf := br_p hc hf
      refine lv_iload_n hx hb d_Lexicon_sameSurfaces_35 rfl (lv_at hl 2 rfl) ?_
      have h1 := Option.some.inj hf
      subst h1
      exact W.iret hx hb hr (fun t ht _ => ⟨rfl, ht⟩) (fun _ h => by cases h) d_Lexicon_sameSurfaces_36
    · replace hf := br_n hc hf
      refine lv_aload_n hx hb d_Lexicon_sameSurfaces_14 rfl (lv_at hl 0 rfl) ?_
      refine xg_3_0 hx hb hts hown hK hP q_44 d_Lexicon_sameSurfaces_15 ?_
      refine lv_iload hx hb d_Lexicon_sameSurfaces_18 (lv_at hl 3 rfl) ?_
      obtain ⟨hi, hf⟩ := gd_x hf
      refine xl_4 hx hb hK hP (inb_in hi) d_Lexicon_sameSurfaces_20 ?_
      refine lv_lload_n hx hb d_Lexicon_sameSurfaces_21 rfl (lv_at hl 1 rfl) ?_
      refine W.lcmp hx hb d_Lexicon_sameSurfaces_22 ?_
      refine lv_if_ne (tgt := 29) hx hb d_Lexicon_sameSurfaces_23 rfl (fun hc => ?_) (fun hc => ?_)
      · replace hf := br_n hc hf
        exact w_Lexicon_sameSurfaces_29 X hP ih (lv_sub (l' := [(0, .ref (ad 3)), (1, .long x1), (3, .int x3), (4, .int x4)]) hl [0, 1, 2, 3] rfl) hf
      · replace hf := br_p hc hf
        obtain ⟨v1, hv1, hf⟩ := bd_x hf
        refine lv_iinc (lv' := [(3, .int v1), (0, .ref (ad 3)), (1, .long x1), (4, .int x4)]) hx hb d_Lexicon_sameSurfaces_26 hl (k := 2) rfl (show x3 + Int32.ofInt (1) = v1 from hv1) (Nat.le_of_ble_eq_true rfl) rfl (fun ls hl => ?_)
        exact w_Lexicon_sameSurfaces_29 X hP ih (lv_sub (l' := [(0, .ref (ad 3)), (1, .long x1), (3, .int v1), (4, .int x4)]) hl [1, 2, 0, 3] rfl) hf
def f_Lexicon_sameSurfaces (n : Nat) (μ : Mem) (a1 : Int64) : Option Int32 := f_Lexicon_sameSurfaces_5 μ n a1 (0 : Int32) (0 : Int32)
set_option maxHeartbeats 4000000 in
set_option maxRecDepth 100000 in
theorem w_Lexicon_sameSurfaces {p : Program} {l : Launch} {e : Env} {s : State} {m : MethodId} {args : Array Value} {below : List Frame} {meth : Method} {c : Code} {D : va_G} {g : Nat → ClassId} {ad : Nat → Nat} {dr : Nat → Option Nat} {pl : va_W} {μ : Mem} {r : Int32} {n : Nat} {a1 : Int64} {ls : Array Slot} (X : Cx p s m args meth c b_Lexicon_sameSurfaces 5 R_Lexicon (some .int) D CL (TY g)) (hP : va_P D CL (WX g ad dr pl μ) s.heap) (hl : lv_has ls 5 [(0, .ref (ad 3)), (1, .long a1)]) (hf : f_Lexicon_sameSurfaces n μ a1 = some r) : WR p l e rm_Lexicon_sameSurfaces s m args below meth c (.int r) (F0 m 0 ls []) := by
  obtain ⟨S, hr, hlk, hK⟩ := id X
  obtain ⟨hx, hb, hml, hown, hts⟩ := id S
  rw [f_Lexicon_sameSurfaces] at hf
  refine lv_iconst (v := 0) hx hb d_Lexicon_sameSurfaces_0 (by decide) ?_
  refine lv_istore_n (lv' := [(3, .int (0 : Int32)), (0, .ref (ad 3)), (1, .long a1)]) hx hb d_Lexicon_sameSurfaces_1 rfl hl (Nat.le_of_ble_eq_true rfl) rfl (fun ls hl => ?_)
  refine lv_iconst (v := 0) hx hb d_Lexicon_sameSurfaces_2 (by decide) ?_
  refine lv_istore (lv' := [(4, .int (0 : Int32)), (3, .int (0 : Int32)), (0, .ref (ad 3)), (1, .long a1)]) hx hb d_Lexicon_sameSurfaces_3 hl (Nat.le_of_ble_eq_true rfl) rfl (fun ls hl => ?_)
  exact w_Lexicon_sameSurfaces_5 X hP _ _ _ _ _ (lv_sub (l' := [(0, .ref (ad 3)), (1, .long a1), (3, .int (0 : Int32)), (4, .int (0 : Int32))]) hl [2, 3, 1, 0] rfl) hf
theorem c_Lexicon_sameSurfaces {l : Launch} {D : va_G} {g : Nat → ClassId} {ad : Nat → Nat} {dr : Nat → Option Nat} {pl : va_W} {μ : Mem} {r : Int32} {n : Nat} {a1 : Int64} (hf : f_Lexicon_sameSurfaces n μ a1 = some r) : Met l y_Lexicon_sameSurfaces (Cond.code y_Lexicon_sameSurfaces b_Lexicon_sameSurfaces 5 (some .int) :: ww) rm_Lexicon_sameSurfaces (RP D CL (TY g) (WX g ad dr pl μ) [.ref (ad 3), .long a1]) (k2_QcV (.int r)) 0 0 (fun _ => False) := by
  refine met_of (by decide) (Nat.le_of_ble_eq_true rfl) ?_
  intro p e s m below meth c ls X hP hl
  have hl : lv_has ls 5 [(0, .ref (ad 3)), (1, .long a1)] := hl
  exact w_Lexicon_sameSurfaces X hP hl hf
theorem d_Lexicon_put_0 : decode b_Lexicon_put 0 = .ok (.aload_n 0, 1) := by decide +kernel
theorem d_Lexicon_put_1 : decode b_Lexicon_put 1 = .ok (.getfield 31, 3) := by decide +kernel
theorem d_Lexicon_put_4 : decode b_Lexicon_put 4 = .ok (.bipush 40, 2) := by decide +kernel
theorem d_Lexicon_put_6 : decode b_Lexicon_put 6 = .ok (.if_icmp .ge 18, 3) := by decide +kernel
theorem d_Lexicon_put_9 : decode b_Lexicon_put 9 = .ok (.iload 6, 2) := by decide +kernel
theorem d_Lexicon_put_11 : decode b_Lexicon_put 11 = .ok (.iconst (-1), 1) := by decide +kernel
theorem d_Lexicon_put_12 : decode b_Lexicon_put 12 = .ok (.if_icmp .lt 12, 3) := by decide +kernel
theorem d_Lexicon_put_15 : decode b_Lexicon_put 15 = .ok (.iload 6, 2) := by decide +kernel
theorem d_Lexicon_put_17 : decode b_Lexicon_put 17 = .ok (.aload_n 0, 1) := by decide +kernel
theorem d_Lexicon_put_18 : decode b_Lexicon_put 18 = .ok (.getfield 31, 3) := by decide +kernel
theorem d_Lexicon_put_21 : decode b_Lexicon_put 21 = .ok (.if_icmp .lt 5, 3) := by decide +kernel
theorem d_Lexicon_put_24 : decode b_Lexicon_put 24 = .ok (.iconst (-1), 1) := by decide +kernel
theorem d_Lexicon_put_25 : decode b_Lexicon_put 25 = .ok (.ireturn, 1) := by decide +kernel
theorem d_Lexicon_put_26 : decode b_Lexicon_put 26 = .ok (.iload 5, 2) := by decide +kernel
theorem d_Lexicon_put_28 : decode b_Lexicon_put 28 = .ok (.ifCond .eq 9, 3) := by decide +kernel
theorem d_Lexicon_put_31 : decode b_Lexicon_put 31 = .ok (.iload 6, 2) := by decide +kernel
theorem d_Lexicon_put_33 : decode b_Lexicon_put 33 = .ok (.iconst (-1), 1) := by decide +kernel
theorem d_Lexicon_put_34 : decode b_Lexicon_put 34 = .ok (.if_icmp .ne 12, 3) := by decide +kernel
theorem d_Lexicon_put_37 : decode b_Lexicon_put 37 = .ok (.aload_n 0, 1) := by decide +kernel
theorem d_Lexicon_put_38 : decode b_Lexicon_put 38 = .ok (.lload_n 1, 1) := by decide +kernel
theorem d_Lexicon_put_39 : decode b_Lexicon_put 39 = .ok (.invokevirtual 35, 3) := by decide +kernel
theorem d_Lexicon_put_42 : decode b_Lexicon_put 42 = .ok (.iconst 3, 1) := by decide +kernel
theorem d_Lexicon_put_43 : decode b_Lexicon_put 43 = .ok (.if_icmp .lt 5, 3) := by decide +kernel
theorem d_Lexicon_put_46 : decode b_Lexicon_put 46 = .ok (.iconst (-1), 1) := by decide +kernel
theorem d_Lexicon_put_47 : decode b_Lexicon_put 47 = .ok (.ireturn, 1) := by decide +kernel
theorem d_Lexicon_put_48 : decode b_Lexicon_put 48 = .ok (.aload_n 0, 1) := by decide +kernel
theorem d_Lexicon_put_49 : decode b_Lexicon_put 49 = .ok (.getfield 31, 3) := by decide +kernel
theorem d_Lexicon_put_52 : decode b_Lexicon_put 52 = .ok (.istore 7, 2) := by decide +kernel
theorem d_Lexicon_put_54 : decode b_Lexicon_put 54 = .ok (.aload_n 0, 1) := by decide +kernel
theorem d_Lexicon_put_55 : decode b_Lexicon_put 55 = .ok (.getfield 9, 3) := by decide +kernel
theorem d_Lexicon_put_58 : decode b_Lexicon_put 58 = .ok (.iload 7, 2) := by decide +kernel
theorem d_Lexicon_put_60 : decode b_Lexicon_put 60 = .ok (.lload_n 1, 1) := by decide +kernel
theorem d_Lexicon_put_61 : decode b_Lexicon_put 61 = .ok (.lastore, 1) := by decide +kernel
theorem d_Lexicon_put_62 : decode b_Lexicon_put 62 = .ok (.aload_n 0, 1) := by decide +kernel
theorem d_Lexicon_put_63 : decode b_Lexicon_put 63 = .ok (.getfield 15, 3) := by decide +kernel
theorem d_Lexicon_put_66 : decode b_Lexicon_put 66 = .ok (.iload 7, 2) := by decide +kernel
theorem d_Lexicon_put_68 : decode b_Lexicon_put 68 = .ok (.lload_n 1, 1) := by decide +kernel
theorem d_Lexicon_put_69 : decode b_Lexicon_put 69 = .ok (.invokestatic 39, 3) := by decide +kernel
theorem d_Lexicon_put_72 : decode b_Lexicon_put 72 = .ok (.iastore, 1) := by decide +kernel
theorem d_Lexicon_put_73 : decode b_Lexicon_put 73 = .ok (.aload_n 0, 1) := by decide +kernel
theorem d_Lexicon_put_74 : decode b_Lexicon_put 74 = .ok (.getfield 19, 3) := by decide +kernel
theorem d_Lexicon_put_77 : decode b_Lexicon_put 77 = .ok (.iload 7, 2) := by decide +kernel
theorem d_Lexicon_put_79 : decode b_Lexicon_put 79 = .ok (.iload_n 3, 1) := by decide +kernel
theorem d_Lexicon_put_80 : decode b_Lexicon_put 80 = .ok (.iastore, 1) := by decide +kernel
theorem d_Lexicon_put_81 : decode b_Lexicon_put 81 = .ok (.aload_n 0, 1) := by decide +kernel
theorem d_Lexicon_put_82 : decode b_Lexicon_put 82 = .ok (.getfield 22, 3) := by decide +kernel
theorem d_Lexicon_put_85 : decode b_Lexicon_put 85 = .ok (.iload 7, 2) := by decide +kernel
theorem d_Lexicon_put_87 : decode b_Lexicon_put 87 = .ok (.iload 4, 2) := by decide +kernel
theorem d_Lexicon_put_89 : decode b_Lexicon_put 89 = .ok (.iastore, 1) := by decide +kernel
theorem d_Lexicon_put_90 : decode b_Lexicon_put 90 = .ok (.aload_n 0, 1) := by decide +kernel
theorem d_Lexicon_put_91 : decode b_Lexicon_put 91 = .ok (.getfield 25, 3) := by decide +kernel
theorem d_Lexicon_put_94 : decode b_Lexicon_put 94 = .ok (.iload 7, 2) := by decide +kernel
theorem d_Lexicon_put_96 : decode b_Lexicon_put 96 = .ok (.iload 5, 2) := by decide +kernel
theorem d_Lexicon_put_98 : decode b_Lexicon_put 98 = .ok (.iastore, 1) := by decide +kernel
theorem d_Lexicon_put_99 : decode b_Lexicon_put 99 = .ok (.aload_n 0, 1) := by decide +kernel
theorem d_Lexicon_put_100 : decode b_Lexicon_put 100 = .ok (.getfield 28, 3) := by decide +kernel
theorem d_Lexicon_put_103 : decode b_Lexicon_put 103 = .ok (.iload 7, 2) := by decide +kernel
theorem d_Lexicon_put_105 : decode b_Lexicon_put 105 = .ok (.iload 6, 2) := by decide +kernel
theorem d_Lexicon_put_107 : decode b_Lexicon_put 107 = .ok (.iastore, 1) := by decide +kernel
theorem d_Lexicon_put_108 : decode b_Lexicon_put 108 = .ok (.aload_n 0, 1) := by decide +kernel
theorem d_Lexicon_put_109 : decode b_Lexicon_put 109 = .ok (.dup, 1) := by decide +kernel
theorem d_Lexicon_put_110 : decode b_Lexicon_put 110 = .ok (.getfield 31, 3) := by decide +kernel
theorem d_Lexicon_put_113 : decode b_Lexicon_put 113 = .ok (.iconst 1, 1) := by decide +kernel
theorem d_Lexicon_put_114 : decode b_Lexicon_put 114 = .ok (.iadd, 1) := by decide +kernel
theorem d_Lexicon_put_115 : decode b_Lexicon_put 115 = .ok (.putfield 31, 3) := by decide +kernel
theorem d_Lexicon_put_118 : decode b_Lexicon_put 118 = .ok (.iload 7, 2) := by decide +kernel
theorem d_Lexicon_put_120 : decode b_Lexicon_put 120 = .ok (.ireturn, 1) := by decide +kernel
abbrev rm_Lexicon_put : Room := { frames := 2, cells := 0, slots := 0, locals := 44 }
def f_Lexicon_put_37 (n : Nat) (μ : Mem) (x1 : Int64) (x3 : Int32) (x4 : Int32) (x5 : Int32) (x6 : Int32) : Option (Int32 × Mem) := cl (f_Lexicon_sameSurfaces n μ x1) (fun v1 => (if v1 < (3 : Int32) then (bd (μ.1 3 6) (fun v2 => gd (inb v2 40) (bd (wl μ 4 v2.toNatClampNeg x1) (fun μ3 => cl (f_Texts_size n x1) (fun v4 => gd (inb v2 40) (bd (wi μ3 5 v2.toNatClampNeg v4) (fun μ5 => gd (inb v2 40) (bd (wi μ5 6 v2.toNatClampNeg x3) (fun μ6 => gd (inb v2 40) (bd (wi μ6 7 v2.toNatClampNeg x4) (fun μ7 => gd (inb v2 40) (bd (wi μ7 8 v2.toNatClampNeg x5) (fun μ8 => gd (inb v2 40) (bd (wi μ8 9 v2.toNatClampNeg x6) (fun μ9 => bd (wi μ9 3 6 ((μ9.1 3 6) + (1 : Int32))) (fun μ10 => some (v2, μ10))))))))))))))))) else (some ((-1 : Int32), μ))))
set_option maxHeartbeats 4000000 in
set_option maxRecDepth 100000 in
theorem w_Lexicon_put_37 {p : Program} {l : Launch} {e : Env} {s : State} {m : MethodId} {args : Array Value} {below : List Frame} {meth : Method} {c : Code} {D : va_G} {g : Nat → ClassId} {ad : Nat → Nat} {dr : Nat → Option Nat} {pl : va_W} {r : Int32} {μ' : Mem} {A : Nat → Prop} {n : Nat} {μ : Mem} {x1 : Int64} {x3 : Int32} {x4 : Int32} {x5 : Int32} {x6 : Int32} {ls : Array Slot} {H : Heap} {locs : List Loc} (X : Cx p s m args meth c b_Lexicon_put 8 R_Lexicon (some .int) D CL (TY g)) (hDA : ∀ μ : Mem, va_D A (WX g ad dr pl μ)) (hP : va_P D CL (WX g ad dr pl μ) H) (hS : va_S A s.heap H locs) (hl : lv_has ls 8 [(0, .ref (ad 3)), (1, .long x1), (3, .int x3), (4, .int x4), (5, .int x5), (6, .int x6)]) (hf : f_Lexicon_put_37 n μ x1 x3 x4 x5 x6 = some (r, μ')) : WU p l e rm_Lexicon_put s m args below meth c H locs D (WX g ad dr pl μ') A (some (.int r)) (F0 m 37 ls []) := by
  obtain ⟨S, hr, hlk, hK⟩ := id X
  obtain ⟨hx, hb, hml, hown, hts⟩ := id S
  rw [f_Lexicon_put_37] at hf
  refine lv_aload_n hx hb d_Lexicon_put_37 rfl (lv_at hl 0 rfl) ?_
  refine lv_lload_n hx hb d_Lexicon_put_38 rfl (lv_at hl 1 rfl) ?_
  obtain ⟨v1, hv1, hf⟩ := cl_x hf
  refine rdV (As := [.long x1]) (rest := []) S K_Lexicon_sameSurfaces q_330 (c_Lexicon_sameSurfaces hv1) hK hP ⟨rfl, rfl⟩ ⟨Nat.le_of_ble_eq_true rfl, Nat.le_of_ble_eq_true rfl⟩ (xr_3 hK hP) rfl hl.1 rfl (Nat.le_of_ble_eq_true rfl) d_Lexicon_put_39 ⟨Nat.le_refl _, Nat.le_refl _⟩ ?_
  refine lv_iconst (v := 3) hx hb d_Lexicon_put_42 (by decide) ?_
  refine lv_icmp_lt (tgt := 48) hx hb d_Lexicon_put_43 rfl (fun hc => ?_) (fun hc => ?_)
  · replace hf := br_p hc hf
    refine lv_aload_n hx hb d_Lexicon_put_48 rfl (lv_at hl 0 rfl) ?_
    refine xg_3_6 hx hb hts hown hK hP q_50 d_Lexicon_put_49 ?_
    obtain ⟨v2, hv2, hf⟩ := bd_x hf
    refine top_i hv2 ?_
    refine lv_istore (lv' := [(7, .int v2), (0, .ref (ad 3)), (1, .long x1), (3, .int x3), (4, .int x4), (5, .int x5), (6, .int x6)]) hx hb d_Lexicon_put_52 hl (Nat.le_of_ble_eq_true rfl) rfl (fun ls hl => ?_)
    refine lv_aload_n hx hb d_Lexicon_put_54 rfl (lv_at hl 1 rfl) ?_
    refine xg_3_0 hx hb hts hown hK hP q_44 d_Lexicon_put_55 ?_
    refine lv_iload hx hb d_Lexicon_put_58 (lv_at hl 0 rfl) ?_
    refine lv_lload_n hx hb d_Lexicon_put_60 rfl (lv_at hl 2 rfl) ?_
    obtain ⟨hi, hf⟩ := gd_x hf
    obtain ⟨μ3, hμ3, hf⟩ := bd_x hf
    refine xs_4 hx hb hK (hDA _) hP hS (inb_in hi) d_Lexicon_put_61 hμ3 (fun H locs hP hS => ?_)
    refine lv_aload_n hx hb d_Lexicon_put_62 rfl (lv_at hl 1 rfl) ?_
    refine xg_3_1 hx hb hts hown hK hP q_45 d_Lexicon_put_63 ?_
    refine lv_iload hx hb d_Lexicon_put_66 (lv_at hl 0 rfl) ?_
    refine lv_lload_n hx hb d_Lexicon_put_68 rfl (lv_at hl 2 rfl) ?_
    obtain ⟨v4, hv4, hf⟩ := cl_x hf
    refine rdS (As := [.long x1]) (rest := [.int v2, .ref (ad 5)]) S K_Texts_size q_334 (c_Texts_size (w := (WX g ad dr pl μ3)) hv4) hK hP ⟨rfl, rfl⟩ ⟨Nat.le_of_ble_eq_true rfl, Nat.le_of_ble_eq_true rfl⟩ rfl hl.1 rfl (Nat.le_of_ble_eq_true rfl) d_Lexicon_put_69 ⟨Nat.le_refl _, Nat.le_refl _⟩ ?_
    obtain ⟨hi, hf⟩ := gd_x hf
    obtain ⟨μ5, hμ5, hf⟩ := bd_x hf
    refine xs_5 hx hb hK (hDA _) hP hS (inb_in hi) d_Lexicon_put_72 hμ5 (fun H locs hP hS => ?_)
    refine lv_aload_n hx hb d_Lexicon_put_73 rfl (lv_at hl 1 rfl) ?_
    refine xg_3_2 hx hb hts hown hK hP q_46 d_Lexicon_put_74 ?_
    refine lv_iload hx hb d_Lexicon_put_77 (lv_at hl 0 rfl) ?_
    refine lv_iload_n hx hb d_Lexicon_put_79 rfl (lv_at hl 3 rfl) ?_
    obtain ⟨hi, hf⟩ := gd_x hf
    obtain ⟨μ6, hμ6, hf⟩ := bd_x hf
    refine xs_6 hx hb hK (hDA _) hP hS (inb_in hi) d_Lexicon_put_80 hμ6 (fun H locs hP hS => ?_)
    refine lv_aload_n hx hb d_Lexicon_put_81 rfl (lv_at hl 1 rfl) ?_
    refine xg_3_3 hx hb hts hown hK hP q_47 d_Lexicon_put_82 ?_
    refine lv_iload hx hb d_Lexicon_put_85 (lv_at hl 0 rfl) ?_
    refine lv_iload hx hb d_Lexicon_put_87 (lv_at hl 4 rfl) ?_
    obtain ⟨hi, hf⟩ := gd_x hf
    obtain ⟨μ7, hμ7, hf⟩ := bd_x hf
    refine xs_7 hx hb hK (hDA _) hP hS (inb_in hi) d_Lexicon_put_89 hμ7 (fun H locs hP hS => ?_)
    refine lv_aload_n hx hb d_Lexicon_put_90 rfl (lv_at hl 1 rfl) ?_
    refine xg_3_4 hx hb hts hown hK hP q_48 d_Lexicon_put_91 ?_
    refine lv_iload hx hb d_Lexicon_put_94 (lv_at hl 0 rfl) ?_
    refine lv_iload hx hb d_Lexicon_put_96 (lv_at hl 5 rfl) ?_
    obtain ⟨hi, hf⟩ := gd_x hf
    obtain ⟨μ8, hμ8, hf⟩ := bd_x hf
    refine xs_8 hx hb hK (hDA _) hP hS (inb_in hi) d_Lexicon_put_98 hμ8 (fun H locs hP hS => ?_)
    refine lv_aload_n hx hb d_Lexicon_put_99 rfl (lv_at hl 1 rfl) ?_
    refine xg_3_5 hx hb hts hown hK hP q_49 d_Lexicon_put_100 ?_
    refine lv_iload hx hb d_Lexicon_put_103 (lv_at hl 0 rfl) ?_
    refine lv_iload hx hb d_Lexicon_put_105 (lv_at hl 6 rfl) ?_
    obtain ⟨hi, hf⟩ := gd_x hf
    obtain ⟨μ9, hμ9, hf⟩ := bd_x hf
    refine xs_9 hx hb hK (hDA _) hP hS (inb_in hi) d_Lexicon_put_107 hμ9 (fun H locs hP hS => ?_)
    refine lv_aload_n hx hb d_Lexicon_put_108 rfl (lv_at hl 1 rfl) ?_
    refine lv_dup hx hb d_Lexicon_put_109 rfl ?_
    refine xg_3_6 hx hb hts hown hK hP q_50 d_Lexicon_put_110 ?_
    refine lv_iconst (v := 1) hx hb d_Lexicon_put_113 (by decide) ?_
    refine lv_iadd hx hb d_Lexicon_put_114 ?_
    obtain ⟨μ10, hμ10, hf⟩ := bd_x hf
    refine xp_3_6 hx hb hts hown hK (hDA _) hP hS q_50 d_Lexicon_put_115 hμ10 (fun H locs hP hS => ?_)
    refine lv_iload hx hb d_Lexicon_put_118 (lv_at hl 0 rfl) ?_
    obtain ⟨h1, h2⟩ := Prod.mk.inj (Option.some.inj hf)
    subst h1; subst h2
    exact W.iret hx hb hr (fun t ht _ => ⟨rfl, by rw [ht]; exact hP, hS.F ht⟩) hS.2.2 d_Lexicon_put_120
  · replace hf := br_n hc hf
    refine lv_iconst (v := -1) hx hb d_Lexicon_put_46 (by decide) ?_
    obtain ⟨h1, h2⟩ := Prod.mk.inj (Option.some.inj hf)
    subst h1; subst h2
    exact W.iret hx hb hr (fun t ht _ => ⟨rfl, by rw [ht]; exact hP, hS.F ht⟩) hS.2.2 d_Lexicon_put_47
def f_Lexicon_put (n : Nat) (μ : Mem) (a1 : Int64) (a3 : Int32) (a4 : Int32) (a5 : Int32) (a6 : Int32) : Option (Int32 × Mem) := (if (40 : Int32) ≤ (μ.1 3 6) then (some ((-1 : Int32), μ)) else (if a6 < (-1 : Int32) then (some ((-1 : Int32), μ)) else (if a6 < (μ.1 3 6) then (if a5 = 0 then (f_Lexicon_put_37 n μ a1 a3 a4 a5 a6) else (if a6 = (-1 : Int32) then (f_Lexicon_put_37 n μ a1 a3 a4 a5 a6) else (some ((-1 : Int32), μ)))) else (some ((-1 : Int32), μ)))))
set_option maxHeartbeats 4000000 in
set_option maxRecDepth 100000 in
theorem w_Lexicon_put {p : Program} {l : Launch} {e : Env} {s : State} {m : MethodId} {args : Array Value} {below : List Frame} {meth : Method} {c : Code} {D : va_G} {g : Nat → ClassId} {ad : Nat → Nat} {dr : Nat → Option Nat} {pl : va_W} {r : Int32} {μ' : Mem} {A : Nat → Prop} {n : Nat} {μ : Mem} {a1 : Int64} {a3 : Int32} {a4 : Int32} {a5 : Int32} {a6 : Int32} {ls : Array Slot} {H : Heap} {locs : List Loc} (X : Cx p s m args meth c b_Lexicon_put 8 R_Lexicon (some .int) D CL (TY g)) (hDA : ∀ μ : Mem, va_D A (WX g ad dr pl μ)) (hP : va_P D CL (WX g ad dr pl μ) H) (hS : va_S A s.heap H locs) (hl : lv_has ls 8 [(0, .ref (ad 3)), (1, .long a1), (3, .int a3), (4, .int a4), (5, .int a5), (6, .int a6)]) (hf : f_Lexicon_put n μ a1 a3 a4 a5 a6 = some (r, μ')) : WU p l e rm_Lexicon_put s m args below meth c H locs D (WX g ad dr pl μ') A (some (.int r)) (F0 m 0 ls []) := by
  obtain ⟨S, hr, hlk, hK⟩ := id X
  obtain ⟨hx, hb, hml, hown, hts⟩ := id S
  rw [f_Lexicon_put] at hf
  refine lv_aload_n hx hb d_Lexicon_put_0 rfl (lv_at hl 0 rfl) ?_
  refine xg_3_6 hx hb hts hown hK hP q_50 d_Lexicon_put_1 ?_
  refine lv_bipush (v := 40) hx hb d_Lexicon_put_4 (by decide) ?_
  refine lv_icmp_ge (tgt := 24) hx hb d_Lexicon_put_6 rfl (fun hc => ?_) (fun hc => ?_)
  · replace hf := br_p hc hf
    refine lv_iconst (v := -1) hx hb d_Lexicon_put_24 (by decide) ?_
    obtain ⟨h1, h2⟩ := Prod.mk.inj (Option.some.inj hf)
    subst h1; subst h2
    exact W.iret hx hb hr (fun t ht _ => ⟨rfl, by rw [ht]; exact hP, hS.F ht⟩) hS.2.2 d_Lexicon_put_25
  · replace hf := br_n hc hf
    refine lv_iload hx hb d_Lexicon_put_9 (lv_at hl 5 rfl) ?_
    refine lv_iconst (v := -1) hx hb d_Lexicon_put_11 (by decide) ?_
    refine lv_icmp_lt (tgt := 24) hx hb d_Lexicon_put_12 rfl (fun hc => ?_) (fun hc => ?_)
    · replace hf := br_p hc hf
      refine lv_iconst (v := -1) hx hb d_Lexicon_put_24 (by decide) ?_
      obtain ⟨h1, h2⟩ := Prod.mk.inj (Option.some.inj hf)
      subst h1; subst h2
      exact W.iret hx hb hr (fun t ht _ => ⟨rfl, by rw [ht]; exact hP, hS.F ht⟩) hS.2.2 d_Lexicon_put_25
    · replace hf := br_n hc hf
      refine lv_iload hx hb d_Lexicon_put_15 (lv_at hl 5 rfl) ?_
      refine lv_aload_n hx hb d_Lexicon_put_17 rfl (lv_at hl 0 rfl) ?_
      refine xg_3_6 hx hb hts hown hK hP q_50 d_Lexicon_put_18 ?_
      refine lv_icmp_lt (tgt := 26) hx hb d_Lexicon_put_21 rfl (fun hc => ?_) (fun hc => ?_)
      · replace hf := br_p hc hf
        refine lv_iload hx hb d_Lexicon_put_26 (lv_at hl 4 rfl) ?_
        refine lv_if_eq (tgt := 37) hx hb d_Lexicon_put_28 rfl (fun hc => ?_) (fun hc => ?_)
        · replace hf := br_p hc hf
          exact w_Lexicon_put_37 X hDA hP hS (lv_sub (l' := [(0, .ref (ad 3)), (1, .long a1), (3, .int a3), (4, .int a4), (5, .int a5), (6, .int a6)]) hl [0, 1, 2, 3, 4, 5] rfl) hf
        · replace hf := br_n hc hf
          refine lv_iload hx hb d_Lexicon_put_31 (lv_at hl 5 rfl) ?_
          refine lv_iconst (v := -1) hx hb d_Lexicon_put_33 (by decide) ?_
          refine lv_icmp_ne (tgt := 46) hx hb d_Lexicon_put_34 rfl (fun hc => ?_) (fun hc => ?_)
          · replace hf := br_n hc hf
            refine lv_iconst (v := -1) hx hb d_Lexicon_put_46 (by decide) ?_
            obtain ⟨h1, h2⟩ := Prod.mk.inj (Option.some.inj hf)
            subst h1; subst h2
            exact W.iret hx hb hr (fun t ht _ => ⟨rfl, by rw [ht]; exact hP, hS.F ht⟩) hS.2.2 d_Lexicon_put_47
          · replace hf := br_p hc hf
            exact w_Lexicon_put_37 X hDA hP hS (lv_sub (l' := [(0, .ref (ad 3)), (1, .long a1), (3, .int a3), (4, .int a4), (5, .int a5), (6, .int a6)]) hl [0, 1, 2, 3, 4, 5] rfl) hf
      · replace hf := br_n hc hf
        refine lv_iconst (v := -1) hx hb d_Lexicon_put_24 (by decide) ?_
        obtain ⟨h1, h2⟩ := Prod.mk.inj (Option.some.inj hf)
        subst h1; subst h2
        exact W.iret hx hb hr (fun t ht _ => ⟨rfl, by rw [ht]; exact hP, hS.F ht⟩) hS.2.2 d_Lexicon_put_25
theorem c_Lexicon_put {l : Launch} {D : va_G} {g : Nat → ClassId} {ad : Nat → Nat} {dr : Nat → Option Nat} {pl : va_W} {μ : Mem} {r : Int32} {μ' : Mem} {A : Nat → Prop} {n : Nat} {a1 : Int64} {a3 : Int32} {a4 : Int32} {a5 : Int32} {a6 : Int32} (hDA : ∀ μ : Mem, va_D A (WX g ad dr pl μ)) (hf : f_Lexicon_put n μ a1 a3 a4 a5 a6 = some (r, μ')) : Met l y_Lexicon_put (Cond.code y_Lexicon_put b_Lexicon_put 8 (some .int) :: ww) rm_Lexicon_put (RP D CL (TY g) (WX g ad dr pl μ) [.ref (ad 3), .long a1, .int a3, .int a4, .int a5, .int a6]) (QW D CL (WX g ad dr pl μ') A (some (.int r))) 0 0 A := by
  refine met_of (by decide) (Nat.le_of_ble_eq_true rfl) ?_
  intro p e s m below meth c ls X hP hl
  have hl : lv_has ls 8 [(0, .ref (ad 3)), (1, .long a1), (3, .int a3), (4, .int a4), (5, .int a5), (6, .int a6)] := hl
  exact w_Lexicon_put X hDA hP va_S.rf hl hf
theorem d_Lexicon_begins_0 : decode b_Lexicon_begins 0 = .ok (.lload_n 2, 1) := by decide +kernel
theorem d_Lexicon_begins_1 : decode b_Lexicon_begins 1 = .ok (.aload_n 0, 1) := by decide +kernel
theorem d_Lexicon_begins_2 : decode b_Lexicon_begins 2 = .ok (.getfield 15, 3) := by decide +kernel
theorem d_Lexicon_begins_5 : decode b_Lexicon_begins 5 = .ok (.iload_n 1, 1) := by decide +kernel
theorem d_Lexicon_begins_6 : decode b_Lexicon_begins 6 = .ok (.iaload, 1) := by decide +kernel
theorem d_Lexicon_begins_7 : decode b_Lexicon_begins 7 = .ok (.invokestatic 44, 3) := by decide +kernel
theorem d_Lexicon_begins_10 : decode b_Lexicon_begins 10 = .ok (.aload_n 0, 1) := by decide +kernel
theorem d_Lexicon_begins_11 : decode b_Lexicon_begins 11 = .ok (.getfield 9, 3) := by decide +kernel
theorem d_Lexicon_begins_14 : decode b_Lexicon_begins 14 = .ok (.iload_n 1, 1) := by decide +kernel
theorem d_Lexicon_begins_15 : decode b_Lexicon_begins 15 = .ok (.laload, 1) := by decide +kernel
theorem d_Lexicon_begins_16 : decode b_Lexicon_begins 16 = .ok (.lcmp, 1) := by decide +kernel
theorem d_Lexicon_begins_17 : decode b_Lexicon_begins 17 = .ok (.ifCond .ne 7, 3) := by decide +kernel
theorem d_Lexicon_begins_20 : decode b_Lexicon_begins 20 = .ok (.iconst 1, 1) := by decide +kernel
theorem d_Lexicon_begins_21 : decode b_Lexicon_begins 21 = .ok (.goto 4, 3) := by decide +kernel
theorem d_Lexicon_begins_24 : decode b_Lexicon_begins 24 = .ok (.iconst 0, 1) := by decide +kernel
theorem d_Lexicon_begins_25 : decode b_Lexicon_begins 25 = .ok (.ireturn, 1) := by decide +kernel
abbrev rm_Lexicon_begins : Room := { frames := 1, cells := 0, slots := 0, locals := 22 }
def f_Lexicon_begins (n : Nat) (μ : Mem) (a1 : Int32) (a2 : Int64) : Option Bool := gd (inb a1 40) (cl (f_Texts_first n a2 (μ.1 5 a1.toNatClampNeg)) (fun v1 => gd (inb a1 40) ((if (lg_cmp v1 (μ.2 4 a1.toNatClampNeg)) = 0 then (some true) else (some false)))))
set_option maxHeartbeats 4000000 in
set_option maxRecDepth 100000 in
theorem w_Lexicon_begins {p : Program} {l : Launch} {e : Env} {s : State} {m : MethodId} {args : Array Value} {below : List Frame} {meth : Method} {c : Code} {D : va_G} {g : Nat → ClassId} {ad : Nat → Nat} {dr : Nat → Option Nat} {pl : va_W} {μ : Mem} {r : Bool} {n : Nat} {a1 : Int32} {a2 : Int64} {ls : Array Slot} (X : Cx p s m args meth c b_Lexicon_begins 4 R_Lexicon (some .boolean) D CL (TY g)) (hP : va_P D CL (WX g ad dr pl μ) s.heap) (hl : lv_has ls 4 [(0, .ref (ad 3)), (1, .int a1), (2, .long a2)]) (hf : f_Lexicon_begins n μ a1 a2 = some r) : WR p l e rm_Lexicon_begins s m args below meth c (.int (bz r)) (F0 m 0 ls []) := by
  obtain ⟨S, hr, hlk, hK⟩ := id X
  obtain ⟨hx, hb, hml, hown, hts⟩ := id S
  rw [f_Lexicon_begins] at hf
  refine lv_lload_n hx hb d_Lexicon_begins_0 rfl (lv_at hl 2 rfl) ?_
  refine lv_aload_n hx hb d_Lexicon_begins_1 rfl (lv_at hl 0 rfl) ?_
  refine xg_3_1 hx hb hts hown hK hP q_45 d_Lexicon_begins_2 ?_
  refine lv_iload_n hx hb d_Lexicon_begins_5 rfl (lv_at hl 1 rfl) ?_
  obtain ⟨hi, hf⟩ := gd_x hf
  refine xl_5 hx hb hK hP (inb_in hi) d_Lexicon_begins_6 ?_
  obtain ⟨v1, hv1, hf⟩ := cl_x hf
  refine rdS (As := [.long a2, .int (μ.1 5 a1.toNatClampNeg)]) (rest := []) S K_Texts_first q_400 (c_Texts_first (w := (WX g ad dr pl μ)) hv1) hK hP ⟨rfl, rfl⟩ ⟨Nat.le_of_ble_eq_true rfl, Nat.le_of_ble_eq_true rfl⟩ rfl hl.1 rfl (Nat.le_of_ble_eq_true rfl) d_Lexicon_begins_7 ⟨Nat.le_refl _, Nat.le_refl _⟩ ?_
  refine lv_aload_n hx hb d_Lexicon_begins_10 rfl (lv_at hl 0 rfl) ?_
  refine xg_3_0 hx hb hts hown hK hP q_44 d_Lexicon_begins_11 ?_
  refine lv_iload_n hx hb d_Lexicon_begins_14 rfl (lv_at hl 1 rfl) ?_
  obtain ⟨hi, hf⟩ := gd_x hf
  refine xl_4 hx hb hK hP (inb_in hi) d_Lexicon_begins_15 ?_
  refine W.lcmp hx hb d_Lexicon_begins_16 ?_
  refine lv_if_ne (tgt := 24) hx hb d_Lexicon_begins_17 rfl (fun hc => ?_) (fun hc => ?_)
  · replace hf := br_n hc hf
    refine lv_iconst (v := 0) hx hb d_Lexicon_begins_24 (by decide) ?_
    have h1 := Option.some.inj hf
    subst h1
    exact W.zret hx hb hr (by first | rfl | exact bz_nar _) (fun t ht _ => ⟨rfl, ht⟩) (fun _ h => by cases h) d_Lexicon_begins_25
  · replace hf := br_p hc hf
    refine lv_iconst (v := 1) hx hb d_Lexicon_begins_20 (by decide) ?_
    refine lv_goto (tgt := 25) hx hb d_Lexicon_begins_21 rfl ?_
    have h1 := Option.some.inj hf
    subst h1
    exact W.zret hx hb hr (by first | rfl | exact bz_nar _) (fun t ht _ => ⟨rfl, ht⟩) (fun _ h => by cases h) d_Lexicon_begins_25
theorem c_Lexicon_begins {l : Launch} {D : va_G} {g : Nat → ClassId} {ad : Nat → Nat} {dr : Nat → Option Nat} {pl : va_W} {μ : Mem} {r : Bool} {n : Nat} {a1 : Int32} {a2 : Int64} (hf : f_Lexicon_begins n μ a1 a2 = some r) : Met l y_Lexicon_begins (Cond.code y_Lexicon_begins b_Lexicon_begins 4 (some .boolean) :: ww) rm_Lexicon_begins (RP D CL (TY g) (WX g ad dr pl μ) [.ref (ad 3), .int a1, .long a2]) (k2_QcV (.int (bz r))) 0 0 (fun _ => False) := by
  refine met_of (by decide) (Nat.le_of_ble_eq_true rfl) ?_
  intro p e s m below meth c ls X hP hl
  have hl : lv_has ls 4 [(0, .ref (ad 3)), (1, .int a1), (2, .long a2)] := hl
  exact w_Lexicon_begins X hP hl hf
theorem d_Lexicon_size_0 : decode b_Lexicon_size 0 = .ok (.aload_n 0, 1) := by decide +kernel
theorem d_Lexicon_size_1 : decode b_Lexicon_size 1 = .ok (.getfield 15, 3) := by decide +kernel
theorem d_Lexicon_size_4 : decode b_Lexicon_size 4 = .ok (.iload_n 1, 1) := by decide +kernel
theorem d_Lexicon_size_5 : decode b_Lexicon_size 5 = .ok (.iaload, 1) := by decide +kernel
theorem d_Lexicon_size_6 : decode b_Lexicon_size 6 = .ok (.ireturn, 1) := by decide +kernel
abbrev rm_Lexicon_size : Room := { frames := 0, cells := 0, slots := 0, locals := 0 }
def f_Lexicon_size (n : Nat) (μ : Mem) (a1 : Int32) : Option Int32 := gd (inb a1 40) (some (μ.1 5 a1.toNatClampNeg))
set_option maxHeartbeats 4000000 in
set_option maxRecDepth 100000 in
theorem w_Lexicon_size {p : Program} {l : Launch} {e : Env} {s : State} {m : MethodId} {args : Array Value} {below : List Frame} {meth : Method} {c : Code} {D : va_G} {g : Nat → ClassId} {ad : Nat → Nat} {dr : Nat → Option Nat} {pl : va_W} {μ : Mem} {r : Int32} {n : Nat} {a1 : Int32} {ls : Array Slot} (X : Cx p s m args meth c b_Lexicon_size 2 R_Lexicon (some .int) D CL (TY g)) (hP : va_P D CL (WX g ad dr pl μ) s.heap) (hl : lv_has ls 2 [(0, .ref (ad 3)), (1, .int a1)]) (hf : f_Lexicon_size n μ a1 = some r) : WR p l e rm_Lexicon_size s m args below meth c (.int r) (F0 m 0 ls []) := by
  obtain ⟨S, hr, hlk, hK⟩ := id X
  obtain ⟨hx, hb, hml, hown, hts⟩ := id S
  rw [f_Lexicon_size] at hf
  refine lv_aload_n hx hb d_Lexicon_size_0 rfl (lv_at hl 0 rfl) ?_
  refine xg_3_1 hx hb hts hown hK hP q_45 d_Lexicon_size_1 ?_
  refine lv_iload_n hx hb d_Lexicon_size_4 rfl (lv_at hl 1 rfl) ?_
  obtain ⟨hi, hf⟩ := gd_x hf
  refine xl_5 hx hb hK hP (inb_in hi) d_Lexicon_size_5 ?_
  have h1 := Option.some.inj hf
  subst h1
  exact W.iret hx hb hr (fun t ht _ => ⟨rfl, ht⟩) (fun _ h => by cases h) d_Lexicon_size_6
theorem c_Lexicon_size {l : Launch} {D : va_G} {g : Nat → ClassId} {ad : Nat → Nat} {dr : Nat → Option Nat} {pl : va_W} {μ : Mem} {r : Int32} {n : Nat} {a1 : Int32} (hf : f_Lexicon_size n μ a1 = some r) : Met l y_Lexicon_size (Cond.code y_Lexicon_size b_Lexicon_size 2 (some .int) :: ww) rm_Lexicon_size (RP D CL (TY g) (WX g ad dr pl μ) [.ref (ad 3), .int a1]) (k2_QcV (.int r)) 0 0 (fun _ => False) := by
  refine met_of (by decide) (Nat.le_of_ble_eq_true rfl) ?_
  intro p e s m below meth c ls X hP hl
  have hl : lv_has ls 2 [(0, .ref (ad 3)), (1, .int a1)] := hl
  exact w_Lexicon_size X hP hl hf
theorem d_Lexicon_part_0 : decode b_Lexicon_part 0 = .ok (.aload_n 0, 1) := by decide +kernel
theorem d_Lexicon_part_1 : decode b_Lexicon_part 1 = .ok (.getfield 19, 3) := by decide +kernel
theorem d_Lexicon_part_4 : decode b_Lexicon_part 4 = .ok (.iload_n 1, 1) := by decide +kernel
theorem d_Lexicon_part_5 : decode b_Lexicon_part 5 = .ok (.iaload, 1) := by decide +kernel
theorem d_Lexicon_part_6 : decode b_Lexicon_part 6 = .ok (.ireturn, 1) := by decide +kernel
abbrev rm_Lexicon_part : Room := { frames := 0, cells := 0, slots := 0, locals := 0 }
def f_Lexicon_part (n : Nat) (μ : Mem) (a1 : Int32) : Option Int32 := gd (inb a1 40) (some (μ.1 6 a1.toNatClampNeg))
set_option maxHeartbeats 4000000 in
set_option maxRecDepth 100000 in
theorem w_Lexicon_part {p : Program} {l : Launch} {e : Env} {s : State} {m : MethodId} {args : Array Value} {below : List Frame} {meth : Method} {c : Code} {D : va_G} {g : Nat → ClassId} {ad : Nat → Nat} {dr : Nat → Option Nat} {pl : va_W} {μ : Mem} {r : Int32} {n : Nat} {a1 : Int32} {ls : Array Slot} (X : Cx p s m args meth c b_Lexicon_part 2 R_Lexicon (some .int) D CL (TY g)) (hP : va_P D CL (WX g ad dr pl μ) s.heap) (hl : lv_has ls 2 [(0, .ref (ad 3)), (1, .int a1)]) (hf : f_Lexicon_part n μ a1 = some r) : WR p l e rm_Lexicon_part s m args below meth c (.int r) (F0 m 0 ls []) := by
  obtain ⟨S, hr, hlk, hK⟩ := id X
  obtain ⟨hx, hb, hml, hown, hts⟩ := id S
  rw [f_Lexicon_part] at hf
  refine lv_aload_n hx hb d_Lexicon_part_0 rfl (lv_at hl 0 rfl) ?_
  refine xg_3_2 hx hb hts hown hK hP q_46 d_Lexicon_part_1 ?_
  refine lv_iload_n hx hb d_Lexicon_part_4 rfl (lv_at hl 1 rfl) ?_
  obtain ⟨hi, hf⟩ := gd_x hf
  refine xl_6 hx hb hK hP (inb_in hi) d_Lexicon_part_5 ?_
  have h1 := Option.some.inj hf
  subst h1
  exact W.iret hx hb hr (fun t ht _ => ⟨rfl, ht⟩) (fun _ h => by cases h) d_Lexicon_part_6
theorem c_Lexicon_part {l : Launch} {D : va_G} {g : Nat → ClassId} {ad : Nat → Nat} {dr : Nat → Option Nat} {pl : va_W} {μ : Mem} {r : Int32} {n : Nat} {a1 : Int32} (hf : f_Lexicon_part n μ a1 = some r) : Met l y_Lexicon_part (Cond.code y_Lexicon_part b_Lexicon_part 2 (some .int) :: ww) rm_Lexicon_part (RP D CL (TY g) (WX g ad dr pl μ) [.ref (ad 3), .int a1]) (k2_QcV (.int r)) 0 0 (fun _ => False) := by
  refine met_of (by decide) (Nat.le_of_ble_eq_true rfl) ?_
  intro p e s m below meth c ls X hP hl
  have hl : lv_has ls 2 [(0, .ref (ad 3)), (1, .int a1)] := hl
  exact w_Lexicon_part X hP hl hf
theorem d_Lexicon_price_0 : decode b_Lexicon_price 0 = .ok (.aload_n 0, 1) := by decide +kernel
theorem d_Lexicon_price_1 : decode b_Lexicon_price 1 = .ok (.getfield 22, 3) := by decide +kernel
theorem d_Lexicon_price_4 : decode b_Lexicon_price 4 = .ok (.iload_n 1, 1) := by decide +kernel
theorem d_Lexicon_price_5 : decode b_Lexicon_price 5 = .ok (.iaload, 1) := by decide +kernel
theorem d_Lexicon_price_6 : decode b_Lexicon_price 6 = .ok (.ireturn, 1) := by decide +kernel
abbrev rm_Lexicon_price : Room := { frames := 0, cells := 0, slots := 0, locals := 0 }
def f_Lexicon_price (n : Nat) (μ : Mem) (a1 : Int32) : Option Int32 := gd (inb a1 40) (some (μ.1 7 a1.toNatClampNeg))
set_option maxHeartbeats 4000000 in
set_option maxRecDepth 100000 in
theorem w_Lexicon_price {p : Program} {l : Launch} {e : Env} {s : State} {m : MethodId} {args : Array Value} {below : List Frame} {meth : Method} {c : Code} {D : va_G} {g : Nat → ClassId} {ad : Nat → Nat} {dr : Nat → Option Nat} {pl : va_W} {μ : Mem} {r : Int32} {n : Nat} {a1 : Int32} {ls : Array Slot} (X : Cx p s m args meth c b_Lexicon_price 2 R_Lexicon (some .int) D CL (TY g)) (hP : va_P D CL (WX g ad dr pl μ) s.heap) (hl : lv_has ls 2 [(0, .ref (ad 3)), (1, .int a1)]) (hf : f_Lexicon_price n μ a1 = some r) : WR p l e rm_Lexicon_price s m args below meth c (.int r) (F0 m 0 ls []) := by
  obtain ⟨S, hr, hlk, hK⟩ := id X
  obtain ⟨hx, hb, hml, hown, hts⟩ := id S
  rw [f_Lexicon_price] at hf
  refine lv_aload_n hx hb d_Lexicon_price_0 rfl (lv_at hl 0 rfl) ?_
  refine xg_3_3 hx hb hts hown hK hP q_47 d_Lexicon_price_1 ?_
  refine lv_iload_n hx hb d_Lexicon_price_4 rfl (lv_at hl 1 rfl) ?_
  obtain ⟨hi, hf⟩ := gd_x hf
  refine xl_7 hx hb hK hP (inb_in hi) d_Lexicon_price_5 ?_
  have h1 := Option.some.inj hf
  subst h1
  exact W.iret hx hb hr (fun t ht _ => ⟨rfl, ht⟩) (fun _ h => by cases h) d_Lexicon_price_6
theorem c_Lexicon_price {l : Launch} {D : va_G} {g : Nat → ClassId} {ad : Nat → Nat} {dr : Nat → Option Nat} {pl : va_W} {μ : Mem} {r : Int32} {n : Nat} {a1 : Int32} (hf : f_Lexicon_price n μ a1 = some r) : Met l y_Lexicon_price (Cond.code y_Lexicon_price b_Lexicon_price 2 (some .int) :: ww) rm_Lexicon_price (RP D CL (TY g) (WX g ad dr pl μ) [.ref (ad 3), .int a1]) (k2_QcV (.int r)) 0 0 (fun _ => False) := by
  refine met_of (by decide) (Nat.le_of_ble_eq_true rfl) ?_
  intro p e s m below meth c ls X hP hl
  have hl : lv_has ls 2 [(0, .ref (ad 3)), (1, .int a1)] := hl
  exact w_Lexicon_price X hP hl hf
theorem d_Lexicon_cuts_0 : decode b_Lexicon_cuts 0 = .ok (.iload_n 1, 1) := by decide +kernel
theorem d_Lexicon_cuts_1 : decode b_Lexicon_cuts 1 = .ok (.iconst (-1), 1) := by decide +kernel
theorem d_Lexicon_cuts_2 : decode b_Lexicon_cuts 2 = .ok (.if_icmp .ne 7, 3) := by decide +kernel
theorem d_Lexicon_cuts_5 : decode b_Lexicon_cuts 5 = .ok (.iconst 0, 1) := by decide +kernel
theorem d_Lexicon_cuts_6 : decode b_Lexicon_cuts 6 = .ok (.goto 9, 3) := by decide +kernel
theorem d_Lexicon_cuts_9 : decode b_Lexicon_cuts 9 = .ok (.aload_n 0, 1) := by decide +kernel
theorem d_Lexicon_cuts_10 : decode b_Lexicon_cuts 10 = .ok (.getfield 25, 3) := by decide +kernel
theorem d_Lexicon_cuts_13 : decode b_Lexicon_cuts 13 = .ok (.iload_n 1, 1) := by decide +kernel
theorem d_Lexicon_cuts_14 : decode b_Lexicon_cuts 14 = .ok (.iaload, 1) := by decide +kernel
theorem d_Lexicon_cuts_15 : decode b_Lexicon_cuts 15 = .ok (.ireturn, 1) := by decide +kernel
abbrev rm_Lexicon_cuts : Room := { frames := 0, cells := 0, slots := 0, locals := 0 }
def f_Lexicon_cuts (n : Nat) (μ : Mem) (a1 : Int32) : Option Int32 := (if a1 = (-1 : Int32) then (some (0 : Int32)) else (gd (inb a1 40) (some (μ.1 8 a1.toNatClampNeg))))
set_option maxHeartbeats 4000000 in
set_option maxRecDepth 100000 in
theorem w_Lexicon_cuts {p : Program} {l : Launch} {e : Env} {s : State} {m : MethodId} {args : Array Value} {below : List Frame} {meth : Method} {c : Code} {D : va_G} {g : Nat → ClassId} {ad : Nat → Nat} {dr : Nat → Option Nat} {pl : va_W} {μ : Mem} {r : Int32} {n : Nat} {a1 : Int32} {ls : Array Slot} (X : Cx p s m args meth c b_Lexicon_cuts 2 R_Lexicon (some .int) D CL (TY g)) (hP : va_P D CL (WX g ad dr pl μ) s.heap) (hl : lv_has ls 2 [(0, .ref (ad 3)), (1, .int a1)]) (hf : f_Lexicon_cuts n μ a1 = some r) : WR p l e rm_Lexicon_cuts s m args below meth c (.int r) (F0 m 0 ls []) := by
  obtain ⟨S, hr, hlk, hK⟩ := id X
  obtain ⟨hx, hb, hml, hown, hts⟩ := id S
  rw [f_Lexicon_cuts] at hf
  refine lv_iload_n hx hb d_Lexicon_cuts_0 rfl (lv_at hl 1 rfl) ?_
  refine lv_iconst (v := -1) hx hb d_Lexicon_cuts_1 (by decide) ?_
  refine lv_icmp_ne (tgt := 9) hx hb d_Lexicon_cuts_2 rfl (fun hc => ?_) (fun hc => ?_)
  · replace hf := br_n hc hf
    refine lv_aload_n hx hb d_Lexicon_cuts_9 rfl (lv_at hl 0 rfl) ?_
    refine xg_3_4 hx hb hts hown hK hP q_48 d_Lexicon_cuts_10 ?_
    refine lv_iload_n hx hb d_Lexicon_cuts_13 rfl (lv_at hl 1 rfl) ?_
    obtain ⟨hi, hf⟩ := gd_x hf
    refine xl_8 hx hb hK hP (inb_in hi) d_Lexicon_cuts_14 ?_
    have h1 := Option.some.inj hf
    subst h1
    exact W.iret hx hb hr (fun t ht _ => ⟨rfl, ht⟩) (fun _ h => by cases h) d_Lexicon_cuts_15
  · replace hf := br_p hc hf
    refine lv_iconst (v := 0) hx hb d_Lexicon_cuts_5 (by decide) ?_
    refine lv_goto (tgt := 15) hx hb d_Lexicon_cuts_6 rfl ?_
    have h1 := Option.some.inj hf
    subst h1
    exact W.iret hx hb hr (fun t ht _ => ⟨rfl, ht⟩) (fun _ h => by cases h) d_Lexicon_cuts_15
theorem c_Lexicon_cuts {l : Launch} {D : va_G} {g : Nat → ClassId} {ad : Nat → Nat} {dr : Nat → Option Nat} {pl : va_W} {μ : Mem} {r : Int32} {n : Nat} {a1 : Int32} (hf : f_Lexicon_cuts n μ a1 = some r) : Met l y_Lexicon_cuts (Cond.code y_Lexicon_cuts b_Lexicon_cuts 2 (some .int) :: ww) rm_Lexicon_cuts (RP D CL (TY g) (WX g ad dr pl μ) [.ref (ad 3), .int a1]) (k2_QcV (.int r)) 0 0 (fun _ => False) := by
  refine met_of (by decide) (Nat.le_of_ble_eq_true rfl) ?_
  intro p e s m below meth c ls X hP hl
  have hl : lv_has ls 2 [(0, .ref (ad 3)), (1, .int a1)] := hl
  exact w_Lexicon_cuts X hP hl hf
theorem d_Lexicon_baseSurface_0 : decode b_Lexicon_baseSurface 0 = .ok (.iload_n 1, 1) := by decide +kernel
theorem d_Lexicon_baseSurface_1 : decode b_Lexicon_baseSurface 1 = .ok (.iconst (-1), 1) := by decide +kernel
theorem d_Lexicon_baseSurface_2 : decode b_Lexicon_baseSurface 2 = .ok (.if_icmp .eq 13, 3) := by decide +kernel
theorem d_Lexicon_baseSurface_5 : decode b_Lexicon_baseSurface 5 = .ok (.aload_n 0, 1) := by decide +kernel
theorem d_Lexicon_baseSurface_6 : decode b_Lexicon_baseSurface 6 = .ok (.getfield 28, 3) := by decide +kernel
theorem d_Lexicon_baseSurface_9 : decode b_Lexicon_baseSurface 9 = .ok (.iload_n 1, 1) := by decide +kernel
theorem d_Lexicon_baseSurface_10 : decode b_Lexicon_baseSurface 10 = .ok (.iaload, 1) := by decide +kernel
theorem d_Lexicon_baseSurface_11 : decode b_Lexicon_baseSurface 11 = .ok (.iconst (-1), 1) := by decide +kernel
theorem d_Lexicon_baseSurface_12 : decode b_Lexicon_baseSurface 12 = .ok (.if_icmp .ne 5, 3) := by decide +kernel
theorem d_Lexicon_baseSurface_15 : decode b_Lexicon_baseSurface 15 = .ok (.lconst 0, 1) := by decide +kernel
theorem d_Lexicon_baseSurface_16 : decode b_Lexicon_baseSurface 16 = .ok (.lreturn, 1) := by decide +kernel
theorem d_Lexicon_baseSurface_17 : decode b_Lexicon_baseSurface 17 = .ok (.aload_n 0, 1) := by decide +kernel
theorem d_Lexicon_baseSurface_18 : decode b_Lexicon_baseSurface 18 = .ok (.getfield 9, 3) := by decide +kernel
theorem d_Lexicon_baseSurface_21 : decode b_Lexicon_baseSurface 21 = .ok (.aload_n 0, 1) := by decide +kernel
theorem d_Lexicon_baseSurface_22 : decode b_Lexicon_baseSurface 22 = .ok (.getfield 28, 3) := by decide +kernel
theorem d_Lexicon_baseSurface_25 : decode b_Lexicon_baseSurface 25 = .ok (.iload_n 1, 1) := by decide +kernel
theorem d_Lexicon_baseSurface_26 : decode b_Lexicon_baseSurface 26 = .ok (.iaload, 1) := by decide +kernel
theorem d_Lexicon_baseSurface_27 : decode b_Lexicon_baseSurface 27 = .ok (.laload, 1) := by decide +kernel
theorem d_Lexicon_baseSurface_28 : decode b_Lexicon_baseSurface 28 = .ok (.lreturn, 1) := by decide +kernel
abbrev rm_Lexicon_baseSurface : Room := { frames := 0, cells := 0, slots := 0, locals := 0 }
def f_Lexicon_baseSurface (n : Nat) (μ : Mem) (a1 : Int32) : Option Int64 := (if a1 = (-1 : Int32) then (some (0 : Int64)) else (gd (inb a1 40) ((if (μ.1 9 a1.toNatClampNeg) = (-1 : Int32) then (some (0 : Int64)) else (gd (inb a1 40) (gd (inb (μ.1 9 a1.toNatClampNeg) 40) (some (μ.2 4 (μ.1 9 a1.toNatClampNeg).toNatClampNeg))))))))
set_option maxHeartbeats 4000000 in
set_option maxRecDepth 100000 in
theorem w_Lexicon_baseSurface {p : Program} {l : Launch} {e : Env} {s : State} {m : MethodId} {args : Array Value} {below : List Frame} {meth : Method} {c : Code} {D : va_G} {g : Nat → ClassId} {ad : Nat → Nat} {dr : Nat → Option Nat} {pl : va_W} {μ : Mem} {r : Int64} {n : Nat} {a1 : Int32} {ls : Array Slot} (X : Cx p s m args meth c b_Lexicon_baseSurface 2 R_Lexicon (some .long) D CL (TY g)) (hP : va_P D CL (WX g ad dr pl μ) s.heap) (hl : lv_has ls 2 [(0, .ref (ad 3)), (1, .int a1)]) (hf : f_Lexicon_baseSurface n μ a1 = some r) : WR p l e rm_Lexicon_baseSurface s m args below meth c (.long r) (F0 m 0 ls []) := by
  obtain ⟨S, hr, hlk, hK⟩ := id X
  obtain ⟨hx, hb, hml, hown, hts⟩ := id S
  rw [f_Lexicon_baseSurface] at hf
  refine lv_iload_n hx hb d_Lexicon_baseSurface_0 rfl (lv_at hl 1 rfl) ?_
  refine lv_iconst (v := -1) hx hb d_Lexicon_baseSurface_1 (by decide) ?_
  refine lv_icmp_eq (tgt := 15) hx hb d_Lexicon_baseSurface_2 rfl (fun hc => ?_) (fun hc => ?_)
  · replace hf := br_p hc hf
    refine lv_lconst (v := 0) hx hb d_Lexicon_baseSurface_15 (by decide) ?_
    have h1 := Option.some.inj hf
    subst h1
    exact W.lret hx hb hr (fun t ht _ => ⟨rfl, ht⟩) (fun _ h => by cases h) d_Lexicon_baseSurface_16
  · replace hf := br_n hc hf
    refine lv_aload_n hx hb d_Lexicon_baseSurface_5 rfl (lv_at hl 0 rfl) ?_
    refine xg_3_5 hx hb hts hown hK hP q_49 d_Lexicon_baseSurface_6 ?_
    refine lv_iload_n hx hb d_Lexicon_baseSurface_9 rfl (lv_at hl 1 rfl) ?_
    obtain ⟨hi, hf⟩ := gd_x hf
    refine xl_9 hx hb hK hP (inb_in hi) d_Lexicon_baseSurface_10 ?_
    refine lv_iconst (v := -1) hx hb d_Lexicon_baseSurface_11 (by decide) ?_
    refine lv_icmp_ne (tgt := 17) hx hb d_Lexicon_baseSurface_12 rfl (fun hc => ?_) (fun hc => ?_)
    · replace hf := br_n hc hf
      refine lv_aload_n hx hb d_Lexicon_baseSurface_17 rfl (lv_at hl 0 rfl) ?_
      refine xg_3_0 hx hb hts hown hK hP q_44 d_Lexicon_baseSurface_18 ?_
      refine lv_aload_n hx hb d_Lexicon_baseSurface_21 rfl (lv_at hl 0 rfl) ?_
      refine xg_3_5 hx hb hts hown hK hP q_49 d_Lexicon_baseSurface_22 ?_
      refine lv_iload_n hx hb d_Lexicon_baseSurface_25 rfl (lv_at hl 1 rfl) ?_
      obtain ⟨hi, hf⟩ := gd_x hf
      refine xl_9 hx hb hK hP (inb_in hi) d_Lexicon_baseSurface_26 ?_
      obtain ⟨hi, hf⟩ := gd_x hf
      refine xl_4 hx hb hK hP (inb_in hi) d_Lexicon_baseSurface_27 ?_
      have h1 := Option.some.inj hf
      subst h1
      exact W.lret hx hb hr (fun t ht _ => ⟨rfl, ht⟩) (fun _ h => by cases h) d_Lexicon_baseSurface_28
    · replace hf := br_p hc hf
      refine lv_lconst (v := 0) hx hb d_Lexicon_baseSurface_15 (by decide) ?_
      have h1 := Option.some.inj hf
      subst h1
      exact W.lret hx hb hr (fun t ht _ => ⟨rfl, ht⟩) (fun _ h => by cases h) d_Lexicon_baseSurface_16
theorem c_Lexicon_baseSurface {l : Launch} {D : va_G} {g : Nat → ClassId} {ad : Nat → Nat} {dr : Nat → Option Nat} {pl : va_W} {μ : Mem} {r : Int64} {n : Nat} {a1 : Int32} (hf : f_Lexicon_baseSurface n μ a1 = some r) : Met l y_Lexicon_baseSurface (Cond.code y_Lexicon_baseSurface b_Lexicon_baseSurface 2 (some .long) :: ww) rm_Lexicon_baseSurface (RP D CL (TY g) (WX g ad dr pl μ) [.ref (ad 3), .int a1]) (k2_QcV (.long r)) 0 0 (fun _ => False) := by
  refine met_of (by decide) (Nat.le_of_ble_eq_true rfl) ?_
  intro p e s m below meth c ls X hP hl
  have hl : lv_has ls 2 [(0, .ref (ad 3)), (1, .int a1)] := hl
  exact w_Lexicon_baseSurface X hP hl hf
