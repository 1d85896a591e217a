theorem d_Texts_character_0 : decode b_Texts_character 0 = .ok (.lload_n 0, 1) := by decide +kernel
theorem d_Texts_character_1 : decode b_Texts_character 1 = .ok (.bipush 8, 2) := by decide +kernel
theorem d_Texts_character_3 : decode b_Texts_character 3 = .ok (.iload_n 2, 1) := by decide +kernel
theorem d_Texts_character_4 : decode b_Texts_character 4 = .ok (.imul, 1) := by decide +kernel
theorem d_Texts_character_5 : decode b_Texts_character 5 = .ok (.lushr, 1) := by decide +kernel
theorem d_Texts_character_6 : decode b_Texts_character 6 = .ok (.l2i, 1) := by decide +kernel
theorem d_Texts_character_7 : decode b_Texts_character 7 = .ok (.sipush 255, 3) := by decide +kernel
theorem d_Texts_character_10 : decode b_Texts_character 10 = .ok (.iand, 1) := by decide +kernel
theorem d_Texts_character_11 : decode b_Texts_character 11 = .ok (.ireturn, 1) := by decide +kernel
abbrev rm_Texts_character : Room := { frames := 0, cells := 0, slots := 0, locals := 0 }
def f_Texts_character (n : Nat) (a0 : Int64) (a2 : Int32) : Option Int32 := some (((((a0 : Int64).toUInt64 >>> (((8 : Int32) * a2 : Int32).toInt64.toUInt64 &&& Int64.toUInt64 63)).toInt64 : Int64).toInt32) &&& (255 : Int32))
set_option maxHeartbeats 4000000 in
set_option maxRecDepth 100000 in
theorem w_Texts_character {p : Program} {l : Launch} {e : Env} {s : State} {m : MethodId} {args : Array Value} {below : List Frame} {meth : Method} {c : Code} {D : va_G} {g : Nat → ClassId} {w : va_W} {r : Int32} {n : Nat} {a0 : Int64} {a2 : Int32} {ls : Array Slot} (X : Cx p s m args meth c b_Texts_character 3 R_Texts (some .int) D CL (TY g)) (hP : va_P D CL w s.heap) (hl : lv_has ls 3 [(0, .long a0), (2, .int a2)]) (hf : f_Texts_character n a0 a2 = some r) : WR p l e rm_Texts_character s m args below meth c (.int r) (F0 m 0 ls []) := by
  obtain ⟨S, hr, hlk, hK⟩ := id X
  obtain ⟨hx, hb, hml, hown, hts⟩ := id S
  rw [f_Texts_character] at hf
  refine lv_lload_n hx hb d_Texts_character_0 rfl (lv_at hl 0 rfl) ?_
  refine lv_bipush (v := 8) hx hb d_Texts_character_1 (by decide) ?_
  refine lv_iload_n hx hb d_Texts_character_3 rfl (lv_at hl 1 rfl) ?_
  refine lv_imul hx hb d_Texts_character_4 ?_
  refine lv_lushr (v := ((a0 : Int64).toUInt64 >>> (((8 : Int32) * a2 : Int32).toInt64.toUInt64 &&& Int64.toUInt64 63)).toInt64) hx hb d_Texts_character_5 rfl ?_
  refine lv_l2i (v := (((a0 : Int64).toUInt64 >>> (((8 : Int32) * a2 : Int32).toInt64.toUInt64 &&& Int64.toUInt64 63)).toInt64 : Int64).toInt32) hx hb d_Texts_character_6 rfl ?_
  refine lv_sipush (v := 255) hx hb d_Texts_character_7 (by decide) ?_
  refine lv_iand hx hb d_Texts_character_10 ?_
  have h1 := Option.some.inj hf
  subst h1
  exact W.iret hx hb hr (fun t ht _ => ⟨rfl, ht⟩) (fun _ h => by cases h) d_Texts_character_11
theorem c_Texts_character {l : Launch} {D : va_G} {g : Nat → ClassId} {w : va_W} {r : Int32} {n : Nat} {a0 : Int64} {a2 : Int32} (hf : f_Texts_character n a0 a2 = some r) : Met l y_Texts_character (Cond.code y_Texts_character b_Texts_character 3 (some .int) :: ww) rm_Texts_character (RP D CL (TY g) w [.long a0, .int a2]) (k2_QcV (.int r)) 0 0 (fun _ => False) := by
  refine met_of (by decide) (Nat.le_of_ble_eq_true rfl) ?_
  intro p e s m below meth c ls X hP hl
  have hl : lv_has ls 3 [(0, .long a0), (2, .int a2)] := hl
  exact w_Texts_character X hP hl hf
theorem d_Texts_size_0 : decode b_Texts_size 0 = .ok (.iconst 0, 1) := by decide +kernel
theorem d_Texts_size_1 : decode b_Texts_size 1 = .ok (.istore_n 2, 1) := by decide +kernel
theorem d_Texts_size_2 : decode b_Texts_size 2 = .ok (.iload_n 2, 1) := by decide +kernel
theorem d_Texts_size_3 : decode b_Texts_size 3 = .ok (.bipush 8, 2) := by decide +kernel
theorem d_Texts_size_5 : decode b_Texts_size 5 = .ok (.if_icmp .ge 17, 3) := by decide +kernel
theorem d_Texts_size_8 : decode b_Texts_size 8 = .ok (.lload_n 0, 1) := by decide +kernel
theorem d_Texts_size_9 : decode b_Texts_size 9 = .ok (.iload_n 2, 1) := by decide +kernel
theorem d_Texts_size_10 : decode b_Texts_size 10 = .ok (.invokestatic 9, 3) := by decide +kernel
theorem d_Texts_size_13 : decode b_Texts_size 13 = .ok (.ifCond .eq 9, 3) := by decide +kernel
theorem d_Texts_size_16 : decode b_Texts_size 16 = .ok (.iinc 2 1, 3) := by decide +kernel
theorem d_Texts_size_19 : decode b_Texts_size 19 = .ok (.goto (-17), 3) := by decide +kernel
theorem d_Texts_size_22 : decode b_Texts_size 22 = .ok (.iload_n 2, 1) := by decide +kernel
theorem d_Texts_size_23 : decode b_Texts_size 23 = .ok (.ireturn, 1) := by decide +kernel
abbrev rm_Texts_size : Room := { frames := 1, cells := 0, slots := 0, locals := 22 }
def f_Texts_size_2 : Nat → Int64 → Int32 → Option Int32
  | 0, _, _ => none
  | n + 1, x0, x2 => (if (8 : Int32) ≤ x2 then (some x2) else (cl (f_Texts_character n x0 x2) (fun v1 => (if v1 = 0 then (some x2) else (bd (x2 + 1) (fun v2 => (f_Texts_size_2 n) x0 v2))))))
set_option maxHeartbeats 4000000 in
set_option maxRecDepth 100000 in
theorem w_Texts_size_2 {p : Program} {l : Launch} {e : Env} {s : State} {m : MethodId} {args : Array Value} {below : List Frame} {meth : Method} {c : Code} {D : va_G} {g : Nat → ClassId} {w : va_W} {r : Int32} (X : Cx p s m args meth c b_Texts_size 3 R_Texts (some .int) D CL (TY g)) (hP : va_P D CL w s.heap) : ∀ (n : Nat) (x0 : Int64) (x2 : Int32) (ls : Array Slot), lv_has ls 3 [(0, .long x0), (2, .int x2)] → f_Texts_size_2 n x0 x2 = some r → WR p l e rm_Texts_size s m args below meth c (.int r) (F0 m 2 ls []) := by
  intro n
  induction n with
  | zero => intro x0 x2 ls hl hf; rw [f_Texts_size_2] at hf; cases hf
  | succ n ih =>
    intro x0 x2 ls hl hf
    obtain ⟨S, hr, hlk, hK⟩ := id X
    obtain ⟨hx, hb, hml, hown, hts⟩ := id S
    rw [f_Texts_size_2] at hf
    refine lv_iload_n hx hb d_Texts_size_2 rfl (lv_at hl 1 rfl) ?_
    refine lv_bipush (v := 8) hx hb d_Texts_size_3 (by decide) ?_
    refine lv_icmp_ge (tgt := 22) hx hb d_Texts_size_5 rfl (fun hc => ?_) (fun hc => ?_)
    · replace hf := br_p hc hf
      refine lv_iload_n hx hb d_Texts_size_22 rfl (lv_at hl 1 rfl) ?_
      have h1 := Option.some.inj hf
      subst h1
      exact W.iret hx hb hr (fun t ht _ => ⟨rfl, ht⟩) (fun _ h => by cases h) d_Texts_size_23
    · replace hf := br_n hc hf
      refine lv_lload_n hx hb d_Texts_size_8 rfl (lv_at hl 0 rfl) ?_
      refine lv_iload_n hx hb d_Texts_size_9 rfl (lv_at hl 1 rfl) ?_
      obtain ⟨v1, hv1, hf⟩ := cl_x hf
      refine rdS (As := [.long x0, .int x2]) (rest := []) S K_Texts_character q_295 (c_Texts_character (w := w) hv1) hK hP ⟨rfl, rfl⟩ ⟨Nat.le_of_ble_eq_true rfl, Nat.le_of_ble_eq_true rfl⟩ rfl hl.1 rfl (Nat.le_of_ble_eq_true rfl) d_Texts_size_10 ⟨Nat.le_refl _, Nat.le_refl _⟩ ?_
      refine lv_if_eq (tgt := 22) hx hb d_Texts_size_13 rfl (fun hc => ?_) (fun hc => ?_)
      · replace hf := br_p hc hf
        refine lv_iload_n hx hb d_Texts_size_22 rfl (lv_at hl 1 rfl) ?_
        have h1 := Option.some.inj hf
        subst h1
        exact W.iret hx hb hr (fun t ht _ => ⟨rfl, ht⟩) (fun _ h => by cases h) d_Texts_size_23
      · replace hf := br_n hc hf
        obtain ⟨v2, hv2, hf⟩ := bd_x hf
        refine lv_iinc (lv' := [(2, .int v2), (0, .long x0)]) hx hb d_Texts_size_16 hl (k := 1) rfl (show x2 + Int32.ofInt (1) = v2 from hv2) (Nat.le_of_ble_eq_true rfl) rfl (fun ls hl => ?_)
        refine lv_goto (tgt := 2) hx hb d_Texts_size_19 rfl ?_
        exact ih _ _ _ (lv_sub (l' := [(0, .long x0), (2, .int v2)]) hl [1, 0] rfl) hf
def f_Texts_size (n : Nat) (a0 : Int64) : Option Int32 := f_Texts_size_2 n a0 (0 : Int32)
set_option maxHeartbeats 4000000 in
set_option maxRecDepth 100000 in
theorem w_Texts_size {p : Program} {l : Launch} {e : Env} {s : State} {m : MethodId} {args : Array Value} {below : List Frame} {meth : Method} {c : Code} {D : va_G} {g : Nat → ClassId} {w : va_W} {r : Int32} {n : Nat} {a0 : Int64} {ls : Array Slot} (X : Cx p s m args meth c b_Texts_size 3 R_Texts (some .int) D CL (TY g)) (hP : va_P D CL w s.heap) (hl : lv_has ls 3 [(0, .long a0)]) (hf : f_Texts_size n a0 = some r) : WR p l e rm_Texts_size s m args below meth c (.int r) (F0 m 0 ls []) := by
  obtain ⟨S, hr, hlk, hK⟩ := id X
  obtain ⟨hx, hb, hml, hown, hts⟩ := id S
  rw [f_Texts_size] at hf
  refine lv_iconst (v := 0) hx hb d_Texts_size_0 (by decide) ?_
  refine lv_istore_n (lv' := [(2, .int (0 : Int32)), (0, .long a0)]) hx hb d_Texts_size_1 rfl hl (Nat.le_of_ble_eq_true rfl) rfl (fun ls hl => ?_)
  exact w_Texts_size_2 X hP _ _ _ _ (lv_sub (l' := [(0, .long a0), (2, .int (0 : Int32))]) hl [1, 0] rfl) hf
theorem c_Texts_size {l : Launch} {D : va_G} {g : Nat → ClassId} {w : va_W} {r : Int32} {n : Nat} {a0 : Int64} (hf : f_Texts_size n a0 = some r) : Met l y_Texts_size (Cond.code y_Texts_size b_Texts_size 3 (some .int) :: ww) rm_Texts_size (RP D CL (TY g) w [.long a0]) (k2_QcV (.int r)) 0 0 (fun _ => False) := by
  refine met_of (by decide) (Nat.le_of_ble_eq_true rfl) ?_
  intro p e s m below meth c ls X hP hl
  have hl : lv_has ls 3 [(0, .long a0)] := hl
  exact w_Texts_size X hP hl hf
theorem d_Texts_classOf_0 : decode b_Texts_classOf 0 = .ok (.iload_n 0, 1) := by decide +kernel
theorem d_Texts_classOf_1 : decode b_Texts_classOf 1 = .ok (.bipush 64, 2) := by decide +kernel
theorem d_Texts_classOf_3 : decode b_Texts_classOf 3 = .ok (.idiv, 1) := by decide +kernel
theorem d_Texts_classOf_4 : decode b_Texts_classOf 4 = .ok (.ireturn, 1) := by decide +kernel
abbrev rm_Texts_classOf : Room := { frames := 0, cells := 0, slots := 0, locals := 0 }
def f_Texts_classOf (n : Nat) (a0 : Int32) : Option Int32 := some (a0 / (64 : Int32))
set_option maxHeartbeats 4000000 in
set_option maxRecDepth 100000 in
theorem w_Texts_classOf {p : Program} {l : Launch} {e : Env} {s : State} {m : MethodId} {args : Array Value} {below : List Frame} {meth : Method} {c : Code} {D : va_G} {g : Nat → ClassId} {w : va_W} {r : Int32} {n : Nat} {a0 : Int32} {ls : Array Slot} (X : Cx p s m args meth c b_Texts_classOf 1 R_Texts (some .int) D CL (TY g)) (hP : va_P D CL w s.heap) (hl : lv_has ls 1 [(0, .int a0)]) (hf : f_Texts_classOf n a0 = some r) : WR p l e rm_Texts_classOf s m args below meth c (.int r) (F0 m 0 ls []) := by
  obtain ⟨S, hr, hlk, hK⟩ := id X
  obtain ⟨hx, hb, hml, hown, hts⟩ := id S
  rw [f_Texts_classOf] at hf
  refine lv_iload_n hx hb d_Texts_classOf_0 rfl (lv_at hl 0 rfl) ?_
  refine lv_bipush (v := 64) hx hb d_Texts_classOf_1 (by decide) ?_
  refine lv_idiv hx hb d_Texts_classOf_3 (by decide) ?_
  have h1 := Option.some.inj hf
  subst h1
  exact W.iret hx hb hr (fun t ht _ => ⟨rfl, ht⟩) (fun _ h => by cases h) d_Texts_classOf_4
theorem c_Texts_classOf {l : Launch} {D : va_G} {g : Nat → ClassId} {w : va_W} {r : Int32} {n : Nat} {a0 : Int32} (hf : f_Texts_classOf n a0 = some r) : Met l y_Texts_classOf (Cond.code y_Texts_classOf b_Texts_classOf 1 (some .int) :: ww) rm_Texts_classOf (RP D CL (TY g) w [.int a0]) (k2_QcV (.int r)) 0 0 (fun _ => False) := by
  refine met_of (by decide) (Nat.le_of_ble_eq_true rfl) ?_
  intro p e s m below meth c ls X hP hl
  have hl : lv_has ls 1 [(0, .int a0)] := hl
  exact w_Texts_classOf X hP hl hf
theorem d_Texts_first_0 : decode b_Texts_first 0 = .ok (.iload_n 2, 1) := by decide +kernel
theorem d_Texts_first_1 : decode b_Texts_first 1 = .ok (.bipush 8, 2) := by decide +kernel
theorem d_Texts_first_3 : decode b_Texts_first 3 = .ok (.if_icmp .lt 7, 3) := by decide +kernel
theorem d_Texts_first_6 : decode b_Texts_first 6 = .ok (.lload_n 0, 1) := by decide +kernel
theorem d_Texts_first_7 : decode b_Texts_first 7 = .ok (.goto 13, 3) := by decide +kernel
theorem d_Texts_first_10 : decode b_Texts_first 10 = .ok (.lload_n 0, 1) := by decide +kernel
theorem d_Texts_first_11 : decode b_Texts_first 11 = .ok (.lconst 1, 1) := by decide +kernel
theorem d_Texts_first_12 : decode b_Texts_first 12 = .ok (.bipush 8, 2) := by decide +kernel
theorem d_Texts_first_14 : decode b_Texts_first 14 = .ok (.iload_n 2, 1) := by decide +kernel
theorem d_Texts_first_15 : decode b_Texts_first 15 = .ok (.imul, 1) := by decide +kernel
theorem d_Texts_first_16 : decode b_Texts_first 16 = .ok (.lshl, 1) := by decide +kernel
theorem d_Texts_first_17 : decode b_Texts_first 17 = .ok (.lconst 1, 1) := by decide +kernel
theorem d_Texts_first_18 : decode b_Texts_first 18 = .ok (.lsub, 1) := by decide +kernel
theorem d_Texts_first_19 : decode b_Texts_first 19 = .ok (.land, 1) := by decide +kernel
theorem d_Texts_first_20 : decode b_Texts_first 20 = .ok (.lreturn, 1) := by decide +kernel
abbrev rm_Texts_first : Room := { frames := 0, cells := 0, slots := 0, locals := 0 }
def f_Texts_first (n : Nat) (a0 : Int64) (a2 : Int32) : Option Int64 := (if a2 < (8 : Int32) then (some (a0 &&& (((1 : Int64) <<< (((8 : Int32) * a2 : Int32).toInt64 &&& 63)) - (1 : Int64)))) else (some a0))
set_option maxHeartbeats 4000000 in
set_option maxRecDepth 100000 in
theorem w_Texts_first {p : Program} {l : Launch} {e : Env} {s : State} {m : MethodId} {args : Array Value} {below : List Frame} {meth : Method} {c : Code} {D : va_G} {g : Nat → ClassId} {w : va_W} {r : Int64} {n : Nat} {a0 : Int64} {a2 : Int32} {ls : Array Slot} (X : Cx p s m args meth c b_Texts_first 3 R_Texts (some .long) D CL (TY g)) (hP : va_P D CL w s.heap) (hl : lv_has ls 3 [(0, .long a0), (2, .int a2)]) (hf : f_Texts_first n a0 a2 = some r) : WR p l e rm_Texts_first s m args below meth c (.long r) (F0 m 0 ls []) := by
  obtain ⟨S, hr, hlk, hK⟩ := id X
  obtain ⟨hx, hb, hml, hown, hts⟩ := id S
  rw [f_Texts_first] at hf
  refine lv_iload_n hx hb d_Texts_first_0 rfl (lv_at hl 1 rfl) ?_
  refine lv_bipush (v := 8) hx hb d_Texts_first_1 (by decide) ?_
  refine lv_icmp_lt (tgt := 10) hx hb d_Texts_first_3 rfl (fun hc => ?_) (fun hc => ?_)
  · replace hf := br_p hc hf
    refine lv_lload_n hx hb d_Texts_first_10 rfl (lv_at hl 0 rfl) ?_
    refine lv_lconst (v := 1) hx hb d_Texts_first_11 (by decide) ?_
    refine lv_bipush (v := 8) hx hb d_Texts_first_12 (by decide) ?_
    refine lv_iload_n hx hb d_Texts_first_14 rfl (lv_at hl 1 rfl) ?_
    refine lv_imul hx hb d_Texts_first_15 ?_
    refine lv_lshl (v := (1 : Int64) <<< (((8 : Int32) * a2 : Int32).toInt64 &&& 63)) hx hb d_Texts_first_16 rfl ?_
    refine lv_lconst (v := 1) hx hb d_Texts_first_17 (by decide) ?_
    refine lv_lsub hx hb d_Texts_first_18 ?_
    refine lv_land hx hb d_Texts_first_19 ?_
    have h1 := Option.some.inj hf
    subst h1
    exact W.lret hx hb hr (fun t ht _ => ⟨rfl, ht⟩) (fun _ h => by cases h) d_Texts_first_20
  · replace hf := br_n hc hf
    refine lv_lload_n hx hb d_Texts_first_6 rfl (lv_at hl 0 rfl) ?_
    refine lv_goto (tgt := 20) hx hb d_Texts_first_7 rfl ?_
    have h1 := Option.some.inj hf
    subst h1
    exact W.lret hx hb hr (fun t ht _ => ⟨rfl, ht⟩) (fun _ h => by cases h) d_Texts_first_20
theorem c_Texts_first {l : Launch} {D : va_G} {g : Nat → ClassId} {w : va_W} {r : Int64} {n : Nat} {a0 : Int64} {a2 : Int32} (hf : f_Texts_first n a0 a2 = some r) : Met l y_Texts_first (Cond.code y_Texts_first b_Texts_first 3 (some .long) :: ww) rm_Texts_first (RP D CL (TY g) w [.long a0, .int a2]) (k2_QcV (.long r)) 0 0 (fun _ => False) := by
  refine met_of (by decide) (Nat.le_of_ble_eq_true rfl) ?_
  intro p e s m below meth c ls X hP hl
  have hl : lv_has ls 3 [(0, .long a0), (2, .int a2)] := hl
  exact w_Texts_first X hP hl hf
theorem d_Texts_isAllOf_0 : decode b_Texts_isAllOf 0 = .ok (.iconst 0, 1) := by decide +kernel
theorem d_Texts_isAllOf_1 : decode b_Texts_isAllOf 1 = .ok (.istore 4, 2) := by decide +kernel
theorem d_Texts_isAllOf_3 : decode b_Texts_isAllOf 3 = .ok (.iload 4, 2) := by decide +kernel
theorem d_Texts_isAllOf_5 : decode b_Texts_isAllOf 5 = .ok (.iload_n 3, 1) := by decide +kernel
theorem d_Texts_isAllOf_6 : decode b_Texts_isAllOf 6 = .ok (.if_icmp .ge 24, 3) := by decide +kernel
theorem d_Texts_isAllOf_9 : decode b_Texts_isAllOf 9 = .ok (.lload_n 1, 1) := by decide +kernel
theorem d_Texts_isAllOf_10 : decode b_Texts_isAllOf 10 = .ok (.iload 4, 2) := by decide +kernel
theorem d_Texts_isAllOf_12 : decode b_Texts_isAllOf 12 = .ok (.invokestatic 9, 3) := by decide +kernel
theorem d_Texts_isAllOf_15 : decode b_Texts_isAllOf 15 = .ok (.invokestatic 15, 3) := by decide +kernel
theorem d_Texts_isAllOf_18 : decode b_Texts_isAllOf 18 = .ok (.iload_n 0, 1) := by decide +kernel
theorem d_Texts_isAllOf_19 : decode b_Texts_isAllOf 19 = .ok (.if_icmp .eq 5, 3) := by decide +kernel
theorem d_Texts_isAllOf_22 : decode b_Texts_isAllOf 22 = .ok (.iconst 0, 1) := by decide +kernel
theorem d_Texts_isAllOf_23 : decode b_Texts_isAllOf 23 = .ok (.ireturn, 1) := by decide +kernel
theorem d_Texts_isAllOf_24 : decode b_Texts_isAllOf 24 = .ok (.iinc 4 1, 3) := by decide +kernel
theorem d_Texts_isAllOf_27 : decode b_Texts_isAllOf 27 = .ok (.goto (-24), 3) := by decide +kernel
theorem d_Texts_isAllOf_30 : decode b_Texts_isAllOf 30 = .ok (.iconst 1, 1) := by decide +kernel
theorem d_Texts_isAllOf_31 : decode b_Texts_isAllOf 31 = .ok (.ireturn, 1) := by decide +kernel
abbrev rm_Texts_isAllOf : Room := { frames := 1, cells := 0, slots := 0, locals := 22 }
def f_Texts_isAllOf_3 : Nat → Int32 → Int64 → Int32 → Int32 → Option Bool
  | 0, _, _, _, _ => none
  | n + 1, x0, x1, x3, x4 => (if x3 ≤ x4 then (some true) else (cl (f_Texts_character n x1 x4) (fun v1 => cl (f_Texts_classOf n v1) (fun v2 => (if v2 = x0 then (bd (x4 + 1) (fun v3 => (f_Texts_isAllOf_3 n) x0 x1 x3 v3)) else (some false))))))
set_option maxHeartbeats 4000000 in
set_option maxRecDepth 100000 in
theorem w_Texts_isAllOf_3 {p : Program} {l : Launch} {e : Env} {s : State} {m : MethodId} {args : Array Value} {below : List Frame} {meth : Method} {c : Code} {D : va_G} {g : Nat → ClassId} {w : va_W} {r : Bool} (X : Cx p s m args meth c b_Texts_isAllOf 5 R_Texts (some .boolean) D CL (TY g)) (hP : va_P D CL w s.heap) : ∀ (n : Nat) (x0 : Int32) (x1 : Int64) (x3 : Int32) (x4 : Int32) (ls : Array Slot), lv_has ls 5 [(0, .int x0), (1, .long x1), (3, .int x3), (4, .int x4)] → f_Texts_isAllOf_3 n x0 x1 x3 x4 = some r → WR p l e rm_Texts_isAllOf s m args below meth c (.int (bz r)) (F0 m 3 ls []) := by
  intro n
  induction n with
  | zero => intro x0 x1 x3 x4 ls hl hf; rw [f_Texts_isAllOf_3] at hf; cases hf
  | succ n ih =>
    intro x0 x1 x3 x4 ls hl hf
    obtain ⟨S, hr, hlk, hK⟩ := id X
    obtain ⟨hx, hb, hml, hown, hts⟩ := id S
    rw [f_Texts_isAllOf_3] at hf
    refine lv_iload hx hb d_Texts_isAllOf_3 (lv_at hl 3 rfl) ?_
    refine lv_iload_n hx hb d_Texts_isAllOf_5 rfl (lv_at hl 2 rfl) ?_
    refine lv_icmp_ge (tgt := 30) hx hb d_Texts_isAllOf_6 rfl (fun hc => ?_) (fun hc => ?_)
    · replace hf := br_p hc hf
      refine lv_iconst (v := 1) hx hb d_Texts_isAllOf_30 (by decide) ?_
      have h1 := Option.some.inj hf
      subst h1
      exact W.zret hx hb hr (by first | rfl | exact bz_nar _) (fun t ht _ => ⟨rfl, ht⟩) (fun _ h => by cases h) d_Texts_isAllOf_31
    · replace hf := br_n hc hf
      refine lv_lload_n hx hb d_Texts_isAllOf_9 rfl (lv_at hl 1 rfl) ?_
      refine lv_iload hx hb d_Texts_isAllOf_10 (lv_at hl 3 rfl) ?_
      obtain ⟨v1, hv1, hf⟩ := cl_x hf
      refine rdS (As := [.long x1, .int x4]) (rest := []) S K_Texts_character q_295 (c_Texts_character (w := w) hv1) hK hP ⟨rfl, rfl⟩ ⟨Nat.le_of_ble_eq_true rfl, Nat.le_of_ble_eq_true rfl⟩ rfl hl.1 rfl (Nat.le_of_ble_eq_true rfl) d_Texts_isAllOf_12 ⟨Nat.le_refl _, Nat.le_refl _⟩ ?_
      obtain ⟨v2, hv2, hf⟩ := cl_x hf
      refine rdS (As := [.int v1]) (rest := []) S K_Texts_classOf q_471 (c_Texts_classOf (w := w) hv2) hK hP ⟨rfl, rfl⟩ ⟨Nat.le_of_ble_eq_true rfl, Nat.le_of_ble_eq_true rfl⟩ rfl hl.1 rfl (Nat.le_of_ble_eq_true rfl) d_Texts_isAllOf_15 ⟨Nat.le_refl _, Nat.le_refl _⟩ ?_
      refine lv_iload_n hx hb d_Texts_isAllOf_18 rfl (lv_at hl 0 rfl) ?_
      refine lv_icmp_eq (tgt := 24) hx hb d_Texts_isAllOf_19 rfl (fun hc => ?_) (fun hc => ?_)
      · replace hf := br_p hc hf
        obtain ⟨v3, hv3, hf⟩ := bd_x hf
        refine lv_iinc (lv' := [(4, .int v3), (0, .int x0), (1, .long x1), (3, .int x3)]) hx hb d_Texts_isAllOf_24 hl (k := 3) rfl (show x4 + Int32.ofInt (1) = v3 from hv3) (Nat.le_of_ble_eq_true rfl) rfl (fun ls hl => ?_)
        refine lv_goto (tgt := 3) hx hb d_Texts_isAllOf_27 rfl ?_
        exact ih _ _ _ _ _ (lv_sub (l' := [(0, .int x0), (1, .long x1), (3, .int x3), (4, .int v3)]) hl [1, 2, 3, 0] rfl) hf
      · replace hf := br_n hc hf
        refine lv_iconst (v := 0) hx hb d_Texts_isAllOf_22 (by decide) ?_
        have h1 := Option.some.inj hf
        subst h1
        exact W.zret hx hb hr (by first | rfl | exact bz_nar _) (fun t ht _ => ⟨rfl, ht⟩) (fun _ h => by cases h) d_Texts_isAllOf_23
def f_Texts_isAllOf (n : Nat) (a0 : Int32) (a1 : Int64) (a3 : Int32) : Option Bool := f_Texts_isAllOf_3 n a0 a1 a3 (0 : Int32)
set_option maxHeartbeats 4000000 in
set_option maxRecDepth 100000 in
theorem w_Texts_isAllOf {p : Program} {l : Launch} {e : Env} {s : State} {m : MethodId} {args : Array Value} {below : List Frame} {meth : Method} {c : Code} {D : va_G} {g : Nat → ClassId} {w : va_W} {r : Bool} {n : Nat} {a0 : Int32} {a1 : Int64} {a3 : Int32} {ls : Array Slot} (X : Cx p s m args meth c b_Texts_isAllOf 5 R_Texts (some .boolean) D CL (TY g)) (hP : va_P D CL w s.heap) (hl : lv_has ls 5 [(0, .int a0), (1, .long a1), (3, .int a3)]) (hf : f_Texts_isAllOf n a0 a1 a3 = some r) : WR p l e rm_Texts_isAllOf s m args below meth c (.int (bz r)) (F0 m 0 ls []) := by
  obtain ⟨S, hr, hlk, hK⟩ := id X
  obtain ⟨hx, hb, hml, hown, hts⟩ := id S
  rw [f_Texts_isAllOf] at hf
  refine lv_iconst (v := 0) hx hb d_Texts_isAllOf_0 (by decide) ?_
  refine lv_istore (lv' := [(4, .int (0 : Int32)), (0, .int a0), (1, .long a1), (3, .int a3)]) hx hb d_Texts_isAllOf_1 hl (Nat.le_of_ble_eq_true rfl) rfl (fun ls hl => ?_)
  exact w_Texts_isAllOf_3 X hP _ _ _ _ _ _ (lv_sub (l' := [(0, .int a0), (1, .long a1), (3, .int a3), (4, .int (0 : Int32))]) hl [1, 2, 3, 0] rfl) hf
theorem c_Texts_isAllOf {l : Launch} {D : va_G} {g : Nat → ClassId} {w : va_W} {r : Bool} {n : Nat} {a0 : Int32} {a1 : Int64} {a3 : Int32} (hf : f_Texts_isAllOf n a0 a1 a3 = some r) : Met l y_Texts_isAllOf (Cond.code y_Texts_isAllOf b_Texts_isAllOf 5 (some .boolean) :: ww) rm_Texts_isAllOf (RP D CL (TY g) w [.int a0, .long a1, .int a3]) (k2_QcV (.int (bz r))) 0 0 (fun _ => False) := by
  refine met_of (by decide) (Nat.le_of_ble_eq_true rfl) ?_
  intro p e s m below meth c ls X hP hl
  have hl : lv_has ls 5 [(0, .int a0), (1, .long a1), (3, .int a3)] := hl
  exact w_Texts_isAllOf X hP hl hf
theorem d_Texts_narrowed_0 : decode b_Texts_narrowed 0 = .ok (.lload_n 0, 1) := by decide +kernel
theorem d_Texts_narrowed_1 : decode b_Texts_narrowed 1 = .ok (.lstore_n 2, 1) := by decide +kernel
theorem d_Texts_narrowed_2 : decode b_Texts_narrowed 2 = .ok (.iconst 0, 1) := by decide +kernel
theorem d_Texts_narrowed_3 : decode b_Texts_narrowed 3 = .ok (.istore 4, 2) := by decide +kernel
theorem d_Texts_narrowed_5 : decode b_Texts_narrowed 5 = .ok (.iload 4, 2) := by decide +kernel
theorem d_Texts_narrowed_7 : decode b_Texts_narrowed 7 = .ok (.bipush 8, 2) := by decide +kernel
theorem d_Texts_narrowed_9 : decode b_Texts_narrowed 9 = .ok (.if_icmp .ge 33, 3) := by decide +kernel
theorem d_Texts_narrowed_12 : decode b_Texts_narrowed 12 = .ok (.lload_n 0, 1) := by decide +kernel
theorem d_Texts_narrowed_13 : decode b_Texts_narrowed 13 = .ok (.iload 4, 2) := by decide +kernel
theorem d_Texts_narrowed_15 : decode b_Texts_narrowed 15 = .ok (.invokestatic 9, 3) := by decide +kernel
theorem d_Texts_narrowed_18 : decode b_Texts_narrowed 18 = .ok (.sipush 192, 3) := by decide +kernel
theorem d_Texts_narrowed_21 : decode b_Texts_narrowed 21 = .ok (.if_icmp .lt 15, 3) := by decide +kernel
theorem d_Texts_narrowed_24 : decode b_Texts_narrowed 24 = .ok (.lload_n 2, 1) := by decide +kernel
theorem d_Texts_narrowed_25 : decode b_Texts_narrowed 25 = .ok (.ldc2_w 19, 3) := by decide +kernel
theorem d_Texts_narrowed_28 : decode b_Texts_narrowed 28 = .ok (.bipush 8, 2) := by decide +kernel
theorem d_Texts_narrowed_30 : decode b_Texts_narrowed 30 = .ok (.iload 4, 2) := by decide +kernel
theorem d_Texts_narrowed_32 : decode b_Texts_narrowed 32 = .ok (.imul, 1) := by decide +kernel
theorem d_Texts_narrowed_33 : decode b_Texts_narrowed 33 = .ok (.lshl, 1) := by decide +kernel
theorem d_Texts_narrowed_34 : decode b_Texts_narrowed 34 = .ok (.lsub, 1) := by decide +kernel
theorem d_Texts_narrowed_35 : decode b_Texts_narrowed 35 = .ok (.lstore_n 2, 1) := by decide +kernel
theorem d_Texts_narrowed_36 : decode b_Texts_narrowed 36 = .ok (.iinc 4 1, 3) := by decide +kernel
theorem d_Texts_narrowed_39 : decode b_Texts_narrowed 39 = .ok (.goto (-34), 3) := by decide +kernel
theorem d_Texts_narrowed_42 : decode b_Texts_narrowed 42 = .ok (.lload_n 2, 1) := by decide +kernel
theorem d_Texts_narrowed_43 : decode b_Texts_narrowed 43 = .ok (.lreturn, 1) := by decide +kernel
abbrev rm_Texts_narrowed : Room := { frames := 1, cells := 0, slots := 0, locals := 22 }
def f_Texts_narrowed_36 (κ5 : Int64 → Int64 → Int32 → Option Int64) (n : Nat) (x0 : Int64) (x2 : Int64) (x4 : Int32) : Option Int64 := bd (x4 + 1) (fun v1 => κ5 x0 x2 v1)
set_option maxHeartbeats 4000000 in
set_option maxRecDepth 100000 in
theorem w_Texts_narrowed_36 {p : Program} {l : Launch} {e : Env} {s : State} {m : MethodId} {args : Array Value} {below : List Frame} {meth : Method} {c : Code} {D : va_G} {g : Nat → ClassId} {w : va_W} {r : Int64} {κ5 : Int64 → Int64 → Int32 → Option Int64} {n : Nat} {x0 : Int64} {x2 : Int64} {x4 : Int32} {ls : Array Slot} (X : Cx p s m args meth c b_Texts_narrowed 5 R_Texts (some .long) D CL (TY g)) (hP : va_P D CL w s.heap) (hκ5 : ∀ (x0 : Int64) (x2 : Int64) (x4 : Int32) (ls : Array Slot), lv_has ls 5 [(0, .long x0), (2, .long x2), (4, .int x4)] → κ5 x0 x2 x4 = some r → WR p l e rm_Texts_narrowed s m args below meth c (.long r) (F0 m 5 ls [])) (hl : lv_has ls 5 [(0, .long x0), (2, .long x2), (4, .int x4)]) (hf : f_Texts_narrowed_36 κ5 n x0 x2 x4 = some r) : WR p l e rm_Texts_narrowed s m args below meth c (.long r) (F0 m 36 ls []) := by
  obtain ⟨S, hr, hlk, hK⟩ := id X
  obtain ⟨hx, hb, hml, hown, hts⟩ := id S
  rw [f_Texts_narrowed_36] at hf
  obtain ⟨v1, hv1, hf⟩ := bd_x hf
  refine lv_iinc (lv' := [(4, .int v1), (0, .long x0), (2, .long x2)]) hx hb d_Texts_narrowed_36 hl (k := 2) rfl (show x4 + Int32.ofInt (1) = v1 from hv1) (Nat.le_of_ble_eq_true rfl) rfl (fun ls hl => ?_)
  refine lv_goto (tgt := 5) hx hb d_Texts_narrowed_39 rfl ?_
  exact hκ5 _ _ _ _ (lv_sub (l' := [(0, .long x0), (2, .long x2), (4, .int v1)]) hl [1, 2, 0] rfl) hf
def f_Texts_narrowed_5 : Nat → Int64 → Int64 → Int32 → Option Int64
  | 0, _, _, _ => none
  | n + 1, x0, x2, x4 => (if (8 : Int32) ≤ x4 then (some x2) else (cl (f_Texts_character n x0 x4) (fun v1 => (if v1 < (192 : Int32) then (f_Texts_narrowed_36 (f_Texts_narrowed_5 n) n x0 x2 x4) else (bd (x2 - ((64 : Int64) <<< (((8 : Int32) * x4 : Int32).toInt64 &&& 63))) (fun v2 => f_Texts_narrowed_36 (f_Texts_narrowed_5 n) n x0 v2 x4))))))
set_option maxHeartbeats 4000000 in
set_option maxRecDepth 100000 in
theorem w_Texts_narrowed_5 {p : Program} {l : Launch} {e : Env} {s : State} {m : MethodId} {args : Array Value} {below : List Frame} {meth : Method} {c : Code} {D : va_G} {g : Nat → ClassId} {w : va_W} {r : Int64} (X : Cx p s m args meth c b_Texts_narrowed 5 R_Texts (some .long) D CL (TY g)) (hP : va_P D CL w s.heap) : ∀ (n : Nat) (x0 : Int64) (x2 : Int64) (x4 : Int32) (ls : Array Slot), lv_has ls 5 [(0, .long x0), (2, .long x2), (4, .int x4)] → f_Texts_narrowed_5 n x0 x2 x4 = some r → WR p l e rm_Texts_narrowed s m args below meth c (.long r) (F0 m 5 ls []) := by
  intro n
  induction n with
  | zero => intro x0 x2 x4 ls hl hf; rw [f_Texts_narrowed_5] at hf; cases hf
  | succ n ih =>
    intro x0 x2 x4 ls hl hf
    obtain ⟨S, hr, hlk, hK⟩ := id X
    obtain ⟨hx, hb, hml, hown, hts⟩ := id S
    rw [f_Texts_narrowed_5] at hf
    refine lv_iload hx hb d_Texts_narrowed_5 (lv_at hl 2 rfl) ?_
    refine lv_bipush (v := 8) hx hb d_Texts_narrowed_7 (by decide) ?_
    refine lv_icmp_ge (tgt := 42) hx hb d_Texts_narrowed_9 rfl (fun hc => ?_) (fun hc => ?_)
    · replace hf := br_p hc hf
      refine lv_lload_n hx hb d_Texts_narrowed_42 rfl (lv_at hl 1 rfl) ?_
      have h1 := Option.some.inj hf
      subst h1
      exact W.lret hx hb hr (fun t ht _ => ⟨rfl, ht⟩) (fun _ h => by cases h) d_Texts_narrowed_43
    · replace hf := br_n hc hf
      refine lv_lload_n hx hb d_Texts_narrowed_12 rfl (lv_at hl 0 rfl) ?_
      refine lv_iload hx hb d_Texts_narrowed_13 (lv_at hl 2 rfl) ?_
      obtain ⟨v1, hv1, hf⟩ := cl_x hf
      refine rdS (As := [.long x0, .int x4]) (rest := []) S K_Texts_character q_295 (c_Texts_character (w := w) hv1) hK hP ⟨rfl, rfl⟩ ⟨Nat.le_of_ble_eq_true rfl, Nat.le_of_ble_eq_true rfl⟩ rfl hl.1 rfl (Nat.le_of_ble_eq_true rfl) d_Texts_narrowed_15 ⟨Nat.le_refl _, Nat.le_refl _⟩ ?_
      refine lv_sipush (v := 192) hx hb d_Texts_narrowed_18 (by decide) ?_
      refine lv_icmp_lt (tgt := 36) hx hb d_Texts_narrowed_21 rfl (fun hc => ?_) (fun hc => ?_)
      · replace hf := br_p hc hf
        exact w_Texts_narrowed_36 X hP ih (lv_sub (l' := [(0, .long x0), (2, .long x2), (4, .int x4)]) hl [0, 1, 2] rfl) hf
      · replace hf := br_n hc hf
        refine lv_lload_n hx hb d_Texts_narrowed_24 rfl (lv_at hl 1 rfl) ?_
        refine lv_ldc2 (v := 64) hx hb hown (hts _ q_663) d_Texts_narrowed_25 ?_
        refine lv_bipush (v := 8) hx hb d_Texts_narrowed_28 (by decide) ?_
        refine lv_iload hx hb d_Texts_narrowed_30 (lv_at hl 2 rfl) ?_
        refine lv_imul hx hb d_Texts_narrowed_32 ?_
        refine lv_lshl (v := (64 : Int64) <<< (((8 : Int32) * x4 : Int32).toInt64 &&& 63)) hx hb d_Texts_narrowed_33 rfl ?_
        refine lv_lsub hx hb d_Texts_narrowed_34 ?_
        obtain ⟨v2, hv2, hf⟩ := bd_x hf
        refine top_l hv2 ?_
        refine lv_lstore_n (lv' := [(2, .long v2), (0, .long x0), (4, .int x4)]) hx hb d_Texts_narrowed_35 rfl hl (Nat.le_of_ble_eq_true rfl) rfl (fun ls hl => ?_)
        exact w_Texts_narrowed_36 X hP ih (lv_sub (l' := [(0, .long x0), (2, .long v2), (4, .int x4)]) hl [1, 0, 2] rfl) hf
def f_Texts_narrowed (n : Nat) (a0 : Int64) : Option Int64 := f_Texts_narrowed_5 n a0 a0 (0 : Int32)
set_option maxHeartbeats 4000000 in
set_option maxRecDepth 100000 in
theorem w_Texts_narrowed {p : Program} {l : Launch} {e : Env} {s : State} {m : MethodId} {args : Array Value} {below : List Frame} {meth : Method} {c : Code} {D : va_G} {g : Nat → ClassId} {w : va_W} {r : Int64} {n : Nat} {a0 : Int64} {ls : Array Slot} (X : Cx p s m args meth c b_Texts_narrowed 5 R_Texts (some .long) D CL (TY g)) (hP : va_P D CL w s.heap) (hl : lv_has ls 5 [(0, .long a0)]) (hf : f_Texts_narrowed n a0 = some r) : WR p l e rm_Texts_narrowed s m args below meth c (.long r) (F0 m 0 ls []) := by
  obtain ⟨S, hr, hlk, hK⟩ := id X
  obtain ⟨hx, hb, hml, hown, hts⟩ := id S
  rw [f_Texts_narrowed] at hf
  refine lv_lload_n hx hb d_Texts_narrowed_0 rfl (lv_at hl 0 rfl) ?_
  refine lv_lstore_n (lv' := [(2, .long a0), (0, .long a0)]) hx hb d_Texts_narrowed_1 rfl hl (Nat.le_of_ble_eq_true rfl) rfl (fun ls hl => ?_)
  refine lv_iconst (v := 0) hx hb d_Texts_narrowed_2 (by decide) ?_
  refine lv_istore (lv' := [(4, .int (0 : Int32)), (2, .long a0), (0, .long a0)]) hx hb d_Texts_narrowed_3 hl (Nat.le_of_ble_eq_true rfl) rfl (fun ls hl => ?_)
  exact w_Texts_narrowed_5 X hP _ _ _ _ _ (lv_sub (l' := [(0, .long a0), (2, .long a0), (4, .int (0 : Int32))]) hl [2, 1, 0] rfl) hf
theorem c_Texts_narrowed {l : Launch} {D : va_G} {g : Nat → ClassId} {w : va_W} {r : Int64} {n : Nat} {a0 : Int64} (hf : f_Texts_narrowed n a0 = some r) : Met l y_Texts_narrowed (Cond.code y_Texts_narrowed b_Texts_narrowed 5 (some .long) :: ww) rm_Texts_narrowed (RP D CL (TY g) w [.long a0]) (k2_QcV (.long r)) 0 0 (fun _ => False) := by
  refine met_of (by decide) (Nat.le_of_ble_eq_true rfl) ?_
  intro p e s m below meth c ls X hP hl
  have hl : lv_has ls 5 [(0, .long a0)] := hl
  exact w_Texts_narrowed X hP hl hf
theorem d_Texts_stemmed_0 : decode b_Texts_stemmed 0 = .ok (.lload_n 0, 1) := by decide +kernel
theorem d_Texts_stemmed_1 : decode b_Texts_stemmed 1 = .ok (.invokestatic 21, 3) := by decide +kernel
theorem d_Texts_stemmed_4 : decode b_Texts_stemmed 4 = .ok (.istore_n 3, 1) := by decide +kernel
theorem d_Texts_stemmed_5 : decode b_Texts_stemmed 5 = .ok (.iload_n 3, 1) := by decide +kernel
theorem d_Texts_stemmed_6 : decode b_Texts_stemmed 6 = .ok (.iload_n 2, 1) := by decide +kernel
theorem d_Texts_stemmed_7 : decode b_Texts_stemmed 7 = .ok (.if_icmp .le 16, 3) := by decide +kernel
theorem d_Texts_stemmed_10 : decode b_Texts_stemmed 10 = .ok (.lload_n 0, 1) := by decide +kernel
theorem d_Texts_stemmed_11 : decode b_Texts_stemmed 11 = .ok (.iload_n 3, 1) := by decide +kernel
theorem d_Texts_stemmed_12 : decode b_Texts_stemmed 12 = .ok (.iconst 1, 1) := by decide +kernel
theorem d_Texts_stemmed_13 : decode b_Texts_stemmed 13 = .ok (.isub, 1) := by decide +kernel
theorem d_Texts_stemmed_14 : decode b_Texts_stemmed 14 = .ok (.invokestatic 9, 3) := by decide +kernel
theorem d_Texts_stemmed_17 : decode b_Texts_stemmed 17 = .ok (.sipush 191, 3) := by decide +kernel
theorem d_Texts_stemmed_20 : decode b_Texts_stemmed 20 = .ok (.if_icmp .eq 5, 3) := by decide +kernel
theorem d_Texts_stemmed_23 : decode b_Texts_stemmed 23 = .ok (.lload_n 0, 1) := by decide +kernel
theorem d_Texts_stemmed_24 : decode b_Texts_stemmed 24 = .ok (.lreturn, 1) := by decide +kernel
theorem d_Texts_stemmed_25 : decode b_Texts_stemmed 25 = .ok (.iconst 2, 1) := by decide +kernel
theorem d_Texts_stemmed_26 : decode b_Texts_stemmed 26 = .ok (.lload_n 0, 1) := by decide +kernel
theorem d_Texts_stemmed_27 : decode b_Texts_stemmed 27 = .ok (.iload_n 3, 1) := by decide +kernel
theorem d_Texts_stemmed_28 : decode b_Texts_stemmed 28 = .ok (.invokestatic 25, 3) := by decide +kernel
theorem d_Texts_stemmed_31 : decode b_Texts_stemmed 31 = .ok (.ifCond .eq 13, 3) := by decide +kernel
theorem d_Texts_stemmed_34 : decode b_Texts_stemmed 34 = .ok (.lload_n 0, 1) := by decide +kernel
theorem d_Texts_stemmed_35 : decode b_Texts_stemmed 35 = .ok (.iload_n 3, 1) := by decide +kernel
theorem d_Texts_stemmed_36 : decode b_Texts_stemmed 36 = .ok (.iconst 1, 1) := by decide +kernel
theorem d_Texts_stemmed_37 : decode b_Texts_stemmed 37 = .ok (.isub, 1) := by decide +kernel
theorem d_Texts_stemmed_38 : decode b_Texts_stemmed 38 = .ok (.invokestatic 29, 3) := by decide +kernel
theorem d_Texts_stemmed_41 : decode b_Texts_stemmed 41 = .ok (.goto 4, 3) := by decide +kernel
theorem d_Texts_stemmed_44 : decode b_Texts_stemmed 44 = .ok (.lload_n 0, 1) := by decide +kernel
theorem d_Texts_stemmed_45 : decode b_Texts_stemmed 45 = .ok (.lreturn, 1) := by decide +kernel
abbrev rm_Texts_stemmed : Room := { frames := 2, cells := 0, slots := 0, locals := 46 }
def f_Texts_stemmed (n : Nat) (a0 : Int64) (a2 : Int32) : Option Int64 := cl (f_Texts_size n a0) (fun v1 => (if v1 ≤ a2 then (some a0) else (cl (f_Texts_character n a0 (v1 - (1 : Int32))) (fun v2 => (if v2 = (191 : Int32) then (cl (f_Texts_isAllOf n (2 : Int32) a0 v1) (fun v3 => (if (bz v3) = 0 then (some a0) else (cl (f_Texts_first n a0 (v1 - (1 : Int32))) (fun v4 => some v4))))) else (some a0))))))
set_option maxHeartbeats 4000000 in
set_option maxRecDepth 100000 in
theorem w_Texts_stemmed {p : Program} {l : Launch} {e : Env} {s : State} {m : MethodId} {args : Array Value} {below : List Frame} {meth : Method} {c : Code} {D : va_G} {g : Nat → ClassId} {w : va_W} {r : Int64} {n : Nat} {a0 : Int64} {a2 : Int32} {ls : Array Slot} (X : Cx p s m args meth c b_Texts_stemmed 4 R_Texts (some .long) D CL (TY g)) (hP : va_P D CL w s.heap) (hl : lv_has ls 4 [(0, .long a0), (2, .int a2)]) (hf : f_Texts_stemmed n a0 a2 = some r) : WR p l e rm_Texts_stemmed s m args below meth c (.long r) (F0 m 0 ls []) := by
  obtain ⟨S, hr, hlk, hK⟩ := id X
  obtain ⟨hx, hb, hml, hown, hts⟩ := id S
  rw [f_Texts_stemmed] at hf
  refine lv_lload_n hx hb d_Texts_stemmed_0 rfl (lv_at hl 0 rfl) ?_
  obtain ⟨v1, hv1, hf⟩ := cl_x hf
  refine rdS (As := [.long a0]) (rest := []) S K_Texts_size q_667 (c_Texts_size (w := w) hv1) hK hP ⟨rfl, rfl⟩ ⟨Nat.le_of_ble_eq_true rfl, Nat.le_of_ble_eq_true rfl⟩ rfl hl.1 rfl (Nat.le_of_ble_eq_true rfl) d_Texts_stemmed_1 ⟨Nat.le_refl _, Nat.le_refl _⟩ ?_
  refine lv_istore_n (lv' := [(3, .int v1), (0, .long a0), (2, .int a2)]) hx hb d_Texts_stemmed_4 rfl hl (Nat.le_of_ble_eq_true rfl) rfl (fun ls hl => ?_)
  refine lv_iload_n hx hb d_Texts_stemmed_5 rfl (lv_at hl 0 rfl) ?_
  refine lv_iload_n hx hb d_Texts_stemmed_6 rfl (lv_at hl 2 rfl) ?_
  refine lv_icmp_le (tgt := 23) hx hb d_Texts_stemmed_7 rfl (fun hc => ?_) (fun hc => ?_)
  · replace hf := br_p hc hf
    refine lv_lload_n hx hb d_Texts_stemmed_23 rfl (lv_at hl 1 rfl) ?_
    have h1 := Option.some.inj hf
    subst h1
    exact W.lret hx hb hr (fun t ht _ => ⟨rfl, ht⟩) (fun _ h => by cases h) d_Texts_stemmed_24
  · replace hf := br_n hc hf
    refine lv_lload_n hx hb d_Texts_stemmed_10 rfl (lv_at hl 1 rfl) ?_
    refine lv_iload_n hx hb d_Texts_stemmed_11 rfl (lv_at hl 0 rfl) ?_
    refine lv_iconst (v := 1) hx hb d_Texts_stemmed_12 (by decide) ?_
    refine lv_isub hx hb d_Texts_stemmed_13 ?_
    obtain ⟨v2, hv2, hf⟩ := cl_x hf
    refine rdS (As := [.long a0, .int (v1 - (1 : Int32))]) (rest := []) S K_Texts_character q_295 (c_Texts_character (w := w) hv2) hK hP ⟨rfl, rfl⟩ ⟨Nat.le_of_ble_eq_true rfl, Nat.le_of_ble_eq_true rfl⟩ rfl hl.1 rfl (Nat.le_of_ble_eq_true rfl) d_Texts_stemmed_14 ⟨Nat.le_refl _, Nat.le_refl _⟩ ?_
    refine lv_sipush (v := 191) hx hb d_Texts_stemmed_17 (by decide) ?_
    refine lv_icmp_eq (tgt := 25) hx hb d_Texts_stemmed_20 rfl (fun hc => ?_) (fun hc => ?_)
    · replace hf := br_p hc hf
      refine lv_iconst (v := 2) hx hb d_Texts_stemmed_25 (by decide) ?_
      refine lv_lload_n hx hb d_Texts_stemmed_26 rfl (lv_at hl 1 rfl) ?_
      refine lv_iload_n hx hb d_Texts_stemmed_27 rfl (lv_at hl 0 rfl) ?_
      obtain ⟨v3, hv3, hf⟩ := cl_x hf
      refine rdS (As := [.int (2 : Int32), .long a0, .int v1]) (rest := []) S K_Texts_isAllOf q_668 (c_Texts_isAllOf (w := w) hv3) hK hP ⟨rfl, rfl⟩ ⟨Nat.le_of_ble_eq_true rfl, Nat.le_of_ble_eq_true rfl⟩ rfl hl.1 rfl (Nat.le_of_ble_eq_true rfl) d_Texts_stemmed_28 ⟨Nat.le_refl _, Nat.le_refl _⟩ ?_
      refine lv_if_eq (tgt := 44) hx hb d_Texts_stemmed_31 rfl (fun hc => ?_) (fun hc => ?_)
      · replace hf := br_p hc hf
        refine lv_lload_n hx hb d_Texts_stemmed_44 rfl (lv_at hl 1 rfl) ?_
        have h1 := Option.some.inj hf
        subst h1
        exact W.lret hx hb hr (fun t ht _ => ⟨rfl, ht⟩) (fun _ h => by cases h) d_Texts_stemmed_45
      · replace hf := br_n hc hf
        refine lv_lload_n hx hb d_Texts_stemmed_34 rfl (lv_at hl 1 rfl) ?_
        refine lv_iload_n hx hb d_Texts_stemmed_35 rfl (lv_at hl 0 rfl) ?_
        refine lv_iconst (v := 1) hx hb d_Texts_stemmed_36 (by decide) ?_
        refine lv_isub hx hb d_Texts_stemmed_37 ?_
        obtain ⟨v4, hv4, hf⟩ := cl_x hf
        refine rdS (As := [.long a0, .int (v1 - (1 : Int32))]) (rest := []) S K_Texts_first q_669 (c_Texts_first (w := w) hv4) hK hP ⟨rfl, rfl⟩ ⟨Nat.le_of_ble_eq_true rfl, Nat.le_of_ble_eq_true rfl⟩ rfl hl.1 rfl (Nat.le_of_ble_eq_true rfl) d_Texts_stemmed_38 ⟨Nat.le_refl _, Nat.le_refl _⟩ ?_
        refine lv_goto (tgt := 45) hx hb d_Texts_stemmed_41 rfl ?_
        have h1 := Option.some.inj hf
        subst h1
        exact W.lret hx hb hr (fun t ht _ => ⟨rfl, ht⟩) (fun _ h => by cases h) d_Texts_stemmed_45
    · replace hf := br_n hc hf
      refine lv_lload_n hx hb d_Texts_stemmed_23 rfl (lv_at hl 1 rfl) ?_
      have h1 := Option.some.inj hf
      subst h1
      exact W.lret hx hb hr (fun t ht _ => ⟨rfl, ht⟩) (fun _ h => by cases h) d_Texts_stemmed_24
theorem c_Texts_stemmed {l : Launch} {D : va_G} {g : Nat → ClassId} {w : va_W} {r : Int64} {n : Nat} {a0 : Int64} {a2 : Int32} (hf : f_Texts_stemmed n a0 a2 = some r) : Met l y_Texts_stemmed (Cond.code y_Texts_stemmed b_Texts_stemmed 4 (some .long) :: ww) rm_Texts_stemmed (RP D CL (TY g) w [.long a0, .int a2]) (k2_QcV (.long r)) 0 0 (fun _ => False) := by
  refine met_of (by decide) (Nat.le_of_ble_eq_true rfl) ?_
  intro p e s m below meth c ls X hP hl
  have hl : lv_has ls 4 [(0, .long a0), (2, .int a2)] := hl
  exact w_Texts_stemmed X hP hl hf
