theorem d_Long_bitCount_0 : decode b_Long_bitCount 0 = .ok (.lload_n 0, 1) := by decide +kernel
theorem d_Long_bitCount_1 : decode b_Long_bitCount 1 = .ok (.lload_n 0, 1) := by decide +kernel
theorem d_Long_bitCount_2 : decode b_Long_bitCount 2 = .ok (.iconst 1, 1) := by decide +kernel
theorem d_Long_bitCount_3 : decode b_Long_bitCount 3 = .ok (.lushr, 1) := by decide +kernel
theorem d_Long_bitCount_4 : decode b_Long_bitCount 4 = .ok (.ldc2_w 314, 3) := by decide +kernel
theorem d_Long_bitCount_7 : decode b_Long_bitCount 7 = .ok (.land, 1) := by decide +kernel
theorem d_Long_bitCount_8 : decode b_Long_bitCount 8 = .ok (.lsub, 1) := by decide +kernel
theorem d_Long_bitCount_9 : decode b_Long_bitCount 9 = .ok (.lstore_n 0, 1) := by decide +kernel
theorem d_Long_bitCount_10 : decode b_Long_bitCount 10 = .ok (.lload_n 0, 1) := by decide +kernel
theorem d_Long_bitCount_11 : decode b_Long_bitCount 11 = .ok (.ldc2_w 316, 3) := by decide +kernel
theorem d_Long_bitCount_14 : decode b_Long_bitCount 14 = .ok (.land, 1) := by decide +kernel
theorem d_Long_bitCount_15 : decode b_Long_bitCount 15 = .ok (.lload_n 0, 1) := by decide +kernel
theorem d_Long_bitCount_16 : decode b_Long_bitCount 16 = .ok (.iconst 2, 1) := by decide +kernel
theorem d_Long_bitCount_17 : decode b_Long_bitCount 17 = .ok (.lushr, 1) := by decide +kernel
theorem d_Long_bitCount_18 : decode b_Long_bitCount 18 = .ok (.ldc2_w 316, 3) := by decide +kernel
theorem d_Long_bitCount_21 : decode b_Long_bitCount 21 = .ok (.land, 1) := by decide +kernel
theorem d_Long_bitCount_22 : decode b_Long_bitCount 22 = .ok (.ladd, 1) := by decide +kernel
theorem d_Long_bitCount_23 : decode b_Long_bitCount 23 = .ok (.lstore_n 0, 1) := by decide +kernel
theorem d_Long_bitCount_24 : decode b_Long_bitCount 24 = .ok (.lload_n 0, 1) := by decide +kernel
theorem d_Long_bitCount_25 : decode b_Long_bitCount 25 = .ok (.lload_n 0, 1) := by decide +kernel
theorem d_Long_bitCount_26 : decode b_Long_bitCount 26 = .ok (.iconst 4, 1) := by decide +kernel
theorem d_Long_bitCount_27 : decode b_Long_bitCount 27 = .ok (.lushr, 1) := by decide +kernel
theorem d_Long_bitCount_28 : decode b_Long_bitCount 28 = .ok (.ladd, 1) := by decide +kernel
theorem d_Long_bitCount_29 : decode b_Long_bitCount 29 = .ok (.ldc2_w 318, 3) := by decide +kernel
theorem d_Long_bitCount_32 : decode b_Long_bitCount 32 = .ok (.land, 1) := by decide +kernel
theorem d_Long_bitCount_33 : decode b_Long_bitCount 33 = .ok (.lstore_n 0, 1) := by decide +kernel
theorem d_Long_bitCount_34 : decode b_Long_bitCount 34 = .ok (.lload_n 0, 1) := by decide +kernel
theorem d_Long_bitCount_35 : decode b_Long_bitCount 35 = .ok (.lload_n 0, 1) := by decide +kernel
theorem d_Long_bitCount_36 : decode b_Long_bitCount 36 = .ok (.bipush 8, 2) := by decide +kernel
theorem d_Long_bitCount_38 : decode b_Long_bitCount 38 = .ok (.lushr, 1) := by decide +kernel
theorem d_Long_bitCount_39 : decode b_Long_bitCount 39 = .ok (.ladd, 1) := by decide +kernel
theorem d_Long_bitCount_40 : decode b_Long_bitCount 40 = .ok (.lstore_n 0, 1) := by decide +kernel
theorem d_Long_bitCount_41 : decode b_Long_bitCount 41 = .ok (.lload_n 0, 1) := by decide +kernel
theorem d_Long_bitCount_42 : decode b_Long_bitCount 42 = .ok (.lload_n 0, 1) := by decide +kernel
theorem d_Long_bitCount_43 : decode b_Long_bitCount 43 = .ok (.bipush 16, 2) := by decide +kernel
theorem d_Long_bitCount_45 : decode b_Long_bitCount 45 = .ok (.lushr, 1) := by decide +kernel
theorem d_Long_bitCount_46 : decode b_Long_bitCount 46 = .ok (.ladd, 1) := by decide +kernel
theorem d_Long_bitCount_47 : decode b_Long_bitCount 47 = .ok (.lstore_n 0, 1) := by decide +kernel
theorem d_Long_bitCount_48 : decode b_Long_bitCount 48 = .ok (.lload_n 0, 1) := by decide +kernel
theorem d_Long_bitCount_49 : decode b_Long_bitCount 49 = .ok (.lload_n 0, 1) := by decide +kernel
theorem d_Long_bitCount_50 : decode b_Long_bitCount 50 = .ok (.bipush 32, 2) := by decide +kernel
theorem d_Long_bitCount_52 : decode b_Long_bitCount 52 = .ok (.lushr, 1) := by decide +kernel
theorem d_Long_bitCount_53 : decode b_Long_bitCount 53 = .ok (.ladd, 1) := by decide +kernel
theorem d_Long_bitCount_54 : decode b_Long_bitCount 54 = .ok (.lstore_n 0, 1) := by decide +kernel
theorem d_Long_bitCount_55 : decode b_Long_bitCount 55 = .ok (.lload_n 0, 1) := by decide +kernel
theorem d_Long_bitCount_56 : decode b_Long_bitCount 56 = .ok (.l2i, 1) := by decide +kernel
theorem d_Long_bitCount_57 : decode b_Long_bitCount 57 = .ok (.bipush 127, 2) := by decide +kernel
theorem d_Long_bitCount_59 : decode b_Long_bitCount 59 = .ok (.iand, 1) := by decide +kernel
theorem d_Long_bitCount_60 : decode b_Long_bitCount 60 = .ok (.ireturn, 1) := by decide +kernel
abbrev rm_Long_bitCount : Room := { frames := 0, cells := 0, slots := 0, locals := 0 }
def f_Long_bitCount (n : Nat) (a0 : Int64) : Option Int32 := bd (a0 - ((((a0 : Int64).toUInt64 >>> (((1 : Int32) : Int32).toInt64.toUInt64 &&& Int64.toUInt64 63)).toInt64) &&& (6148914691236517205 : Int64))) (fun v1 => bd ((v1 &&& (3689348814741910323 : Int64)) + ((((v1 : Int64).toUInt64 >>> (((2 : Int32) : Int32).toInt64.toUInt64 &&& Int64.toUInt64 63)).toInt64) &&& (3689348814741910323 : Int64))) (fun v2 => bd ((v2 + (((v2 : Int64).toUInt64 >>> (((4 : Int32) : Int32).toInt64.toUInt64 &&& Int64.toUInt64 63)).toInt64)) &&& (1085102592571150095 : Int64)) (fun v3 => bd (v3 + (((v3 : Int64).toUInt64 >>> (((8 : Int32) : Int32).toInt64.toUInt64 &&& Int64.toUInt64 63)).toInt64)) (fun v4 => bd (v4 + (((v4 : Int64).toUInt64 >>> (((16 : Int32) : Int32).toInt64.toUInt64 &&& Int64.toUInt64 63)).toInt64)) (fun v5 => bd (v5 + (((v5 : Int64).toUInt64 >>> (((32 : Int32) : Int32).toInt64.toUInt64 &&& Int64.toUInt64 63)).toInt64)) (fun v6 => some (((v6 : Int64).toInt32) &&& (127 : Int32))))))))
set_option maxHeartbeats 4000000 in
set_option maxRecDepth 100000 in
theorem w_Long_bitCount {p : Program} {l : Launch} {e : Env} {s : State} {m : MethodId} {args : Array Value} {below : List Frame} {meth : Method} {c : Code} {D : va_G} {g : Nat → ClassId} {w : va_W} {r : Int32} {n : Nat} {a0 : Int64} {ls : Array Slot} (X : Cx p s m args meth c b_Long_bitCount 2 R_Long (some .int) D CL (TY g)) (hP : va_P D CL w s.heap) (hl : lv_has ls 2 [(0, .long a0)]) (hf : f_Long_bitCount n a0 = some r) : WR p l e rm_Long_bitCount s m args below meth c (.int r) (F0 m 0 ls []) := by
  obtain ⟨S, hr, hlk, hK⟩ := id X
  obtain ⟨hx, hb, hml, hown, hts⟩ := id S
  rw [f_Long_bitCount] at hf
  refine lv_lload_n hx hb d_Long_bitCount_0 rfl (lv_at hl 0 rfl) ?_
  refine lv_lload_n hx hb d_Long_bitCount_1 rfl (lv_at hl 0 rfl) ?_
  refine lv_iconst (v := 1) hx hb d_Long_bitCount_2 (by decide) ?_
  refine lv_lushr (v := ((a0 : Int64).toUInt64 >>> (((1 : Int32) : Int32).toInt64.toUInt64 &&& Int64.toUInt64 63)).toInt64) hx hb d_Long_bitCount_3 rfl ?_
  refine lv_ldc2 (v := 6148914691236517205) hx hb hown (hts _ q_681) d_Long_bitCount_4 ?_
  refine lv_land hx hb d_Long_bitCount_7 ?_
  refine lv_lsub hx hb d_Long_bitCount_8 ?_
  obtain ⟨v1, hv1, hf⟩ := bd_x hf
  refine top_l hv1 ?_
  refine lv_lstore_n (lv' := [(0, .long v1)]) hx hb d_Long_bitCount_9 rfl hl (Nat.le_of_ble_eq_true rfl) rfl (fun ls hl => ?_)
  refine lv_lload_n hx hb d_Long_bitCount_10 rfl (lv_at hl 0 rfl) ?_
  refine lv_ldc2 (v := 3689348814741910323) hx hb hown (hts _ q_682) d_Long_bitCount_11 ?_
  refine lv_land hx hb d_Long_bitCount_14 ?_
  refine lv_lload_n hx hb d_Long_bitCount_15 rfl (lv_at hl 0 rfl) ?_
  refine lv_iconst (v := 2) hx hb d_Long_bitCount_16 (by decide) ?_
  refine lv_lushr (v := ((v1 : Int64).toUInt64 >>> (((2 : Int32) : Int32).toInt64.toUInt64 &&& Int64.toUInt64 63)).toInt64) hx hb d_Long_bitCount_17 rfl ?_
  refine lv_ldc2 (v := 3689348814741910323) hx hb hown (hts _ q_682) d_Long_bitCount_18 ?_
  refine lv_land hx hb d_Long_bitCount_21 ?_
  refine lv_ladd hx hb d_Long_bitCount_22 ?_
  obtain ⟨v2, hv2, hf⟩ := bd_x hf
  refine top_l hv2 ?_
  refine lv_lstore_n (lv' := [(0, .long v2)]) hx hb d_Long_bitCount_23 rfl hl (Nat.le_of_ble_eq_true rfl) rfl (fun ls hl => ?_)
  refine lv_lload_n hx hb d_Long_bitCount_24 rfl (lv_at hl 0 rfl) ?_
  refine lv_lload_n hx hb d_Long_bitCount_25 rfl (lv_at hl 0 rfl) ?_
  refine lv_iconst (v := 4) hx hb d_Long_bitCount_26 (by decide) ?_
  refine lv_lushr (v := ((v2 : Int64).toUInt64 >>> (((4 : Int32) : Int32).toInt64.toUInt64 &&& Int64.toUInt64 63)).toInt64) hx hb d_Long_bitCount_27 rfl ?_
  refine lv_ladd hx hb d_Long_bitCount_28 ?_
  refine lv_ldc2 (v := 1085102592571150095) hx hb hown (hts _ q_683) d_Long_bitCount_29 ?_
  refine lv_land hx hb d_Long_bitCount_32 ?_
  obtain ⟨v3, hv3, hf⟩ := bd_x hf
  refine top_l hv3 ?_
  refine lv_lstore_n (lv' := [(0, .long v3)]) hx hb d_Long_bitCount_33 rfl hl (Nat.le_of_ble_eq_true rfl) rfl (fun ls hl => ?_)
  refine lv_lload_n hx hb d_Long_bitCount_34 rfl (lv_at hl 0 rfl) ?_
  refine lv_lload_n hx hb d_Long_bitCount_35 rfl (lv_at hl 0 rfl) ?_
  refine lv_bipush (v := 8) hx hb d_Long_bitCount_36 (by decide) ?_
  refine lv_lushr (v := ((v3 : Int64).toUInt64 >>> (((8 : Int32) : Int32).toInt64.toUInt64 &&& Int64.toUInt64 63)).toInt64) hx hb d_Long_bitCount_38 rfl ?_
  refine lv_ladd hx hb d_Long_bitCount_39 ?_
  obtain ⟨v4, hv4, hf⟩ := bd_x hf
  refine top_l hv4 ?_
  refine lv_lstore_n (lv' := [(0, .long v4)]) hx hb d_Long_bitCount_40 rfl hl (Nat.le_of_ble_eq_true rfl) rfl (fun ls hl => ?_)
  refine lv_lload_n hx hb d_Long_bitCount_41 rfl (lv_at hl 0 rfl) ?_
  refine lv_lload_n hx hb d_Long_bitCount_42 rfl (lv_at hl 0 rfl) ?_
  refine lv_bipush (v := 16) hx hb d_Long_bitCount_43 (by decide) ?_
  refine lv_lushr (v := ((v4 : Int64).toUInt64 >>> (((16 : Int32) : Int32).toInt64.toUInt64 &&& Int64.toUInt64 63)).toInt64) hx hb d_Long_bitCount_45 rfl ?_
  refine lv_ladd hx hb d_Long_bitCount_46 ?_
  obtain ⟨v5, hv5, hf⟩ := bd_x hf
  refine top_l hv5 ?_
  refine lv_lstore_n (lv' := [(0, .long v5)]) hx hb d_Long_bitCount_47 rfl hl (Nat.le_of_ble_eq_true rfl) rfl (fun ls hl => ?_)
  refine lv_lload_n hx hb d_Long_bitCount_48 rfl (lv_at hl 0 rfl) ?_
  refine lv_lload_n hx hb d_Long_bitCount_49 rfl (lv_at hl 0 rfl) ?_
  refine lv_bipush (v := 32) hx hb d_Long_bitCount_50 (by decide) ?_
  refine lv_lushr (v := ((v5 : Int64).toUInt64 >>> (((32 : Int32) : Int32).toInt64.toUInt64 &&& Int64.toUInt64 63)).toInt64) hx hb d_Long_bitCount_52 rfl ?_
  refine lv_ladd hx hb d_Long_bitCount_53 ?_
  obtain ⟨v6, hv6, hf⟩ := bd_x hf
  refine top_l hv6 ?_
  refine lv_lstore_n (lv' := [(0, .long v6)]) hx hb d_Long_bitCount_54 rfl hl (Nat.le_of_ble_eq_true rfl) rfl (fun ls hl => ?_)
  refine lv_lload_n hx hb d_Long_bitCount_55 rfl (lv_at hl 0 rfl) ?_
  refine lv_l2i (v := (v6 : Int64).toInt32) hx hb d_Long_bitCount_56 rfl ?_
  refine lv_bipush (v := 127) hx hb d_Long_bitCount_57 (by decide) ?_
  refine lv_iand hx hb d_Long_bitCount_59 ?_
  have h1 := Option.some.inj hf
  subst h1
  exact W.iret hx hb hr (fun t ht _ => ⟨rfl, ht⟩) (fun _ h => by cases h) d_Long_bitCount_60
theorem c_Long_bitCount {l : Launch} {D : va_G} {g : Nat → ClassId} {w : va_W} {r : Int32} {n : Nat} {a0 : Int64} (hf : f_Long_bitCount n a0 = some r) : Met l y_Long_bitCount (Cond.code y_Long_bitCount b_Long_bitCount 2 (some .int) :: ww) rm_Long_bitCount (RP D CL (TY g) w [.long a0]) (k2_QcV (.int r)) 0 0 (fun _ => False) := by
  refine met_of (by decide) (Nat.le_of_ble_eq_true rfl) ?_
  intro p e s m below meth c ls X hP hl
  have hl : lv_has ls 2 [(0, .long a0)] := hl
  exact w_Long_bitCount X hP hl hf
theorem d_Shelf_hasRoom_0 : decode b_Shelf_hasRoom 0 = .ok (.aload_n 0, 1) := by decide +kernel
theorem d_Shelf_hasRoom_1 : decode b_Shelf_hasRoom 1 = .ok (.getfield 21, 3) := by decide +kernel
theorem d_Shelf_hasRoom_4 : decode b_Shelf_hasRoom 4 = .ok (.bipush 40, 2) := by decide +kernel
theorem d_Shelf_hasRoom_6 : decode b_Shelf_hasRoom 6 = .ok (.if_icmp .ge 18, 3) := by decide +kernel
theorem d_Shelf_hasRoom_9 : decode b_Shelf_hasRoom 9 = .ok (.aload_n 0, 1) := by decide +kernel
theorem d_Shelf_hasRoom_10 : decode b_Shelf_hasRoom 10 = .ok (.getfield 25, 3) := by decide +kernel
theorem d_Shelf_hasRoom_13 : decode b_Shelf_hasRoom 13 = .ok (.invokestatic 38, 3) := by decide +kernel
theorem d_Shelf_hasRoom_16 : decode b_Shelf_hasRoom 16 = .ok (.iconst 4, 1) := by decide +kernel
theorem d_Shelf_hasRoom_17 : decode b_Shelf_hasRoom 17 = .ok (.if_icmp .ge 7, 3) := by decide +kernel
theorem d_Shelf_hasRoom_20 : decode b_Shelf_hasRoom 20 = .ok (.iconst 1, 1) := by decide +kernel
theorem d_Shelf_hasRoom_21 : decode b_Shelf_hasRoom 21 = .ok (.goto 4, 3) := by decide +kernel
theorem d_Shelf_hasRoom_24 : decode b_Shelf_hasRoom 24 = .ok (.iconst 0, 1) := by decide +kernel
theorem d_Shelf_hasRoom_25 : decode b_Shelf_hasRoom 25 = .ok (.ireturn, 1) := by decide +kernel
abbrev rm_Shelf_hasRoom : Room := { frames := 1, cells := 0, slots := 0, locals := 21 }
def f_Shelf_hasRoom (n : Nat) (μ : Mem) : Option Bool := (if (40 : Int32) ≤ (μ.1 41 1) then (some false) else (cl (f_Long_bitCount n (μ.2 41 2)) (fun v1 => (if (4 : Int32) ≤ v1 then (some false) else (some true)))))
set_option maxHeartbeats 4000000 in
set_option maxRecDepth 100000 in
theorem w_Shelf_hasRoom {p : Program} {l : Launch} {e : Env} {s : State} {m : MethodId} {args : Array Value} {below : List Frame} {meth : Method} {c : Code} {D : va_G} {g : Nat → ClassId} {ad : Nat → Nat} {dr : Nat → Option Nat} {pl : va_W} {μ : Mem} {r : Bool} {n : Nat} {ls : Array Slot} (X : Cx p s m args meth c b_Shelf_hasRoom 1 R_Shelf (some .boolean) D CL (TY g)) (hP : va_P D CL (WX g ad dr pl μ) s.heap) (hl : lv_has ls 1 [(0, .ref (ad 41))]) (hf : f_Shelf_hasRoom n μ = some r) : WR p l e rm_Shelf_hasRoom s m args below meth c (.int (bz r)) (F0 m 0 ls []) := by
  obtain ⟨S, hr, hlk, hK⟩ := id X
  obtain ⟨hx, hb, hml, hown, hts⟩ := id S
  rw [f_Shelf_hasRoom] at hf
  refine lv_aload_n hx hb d_Shelf_hasRoom_0 rfl (lv_at hl 0 rfl) ?_
  refine xg_41_1 hx hb hts hown hK hP q_225 d_Shelf_hasRoom_1 ?_
  refine lv_bipush (v := 40) hx hb d_Shelf_hasRoom_4 (by decide) ?_
  refine lv_icmp_ge (tgt := 24) hx hb d_Shelf_hasRoom_6 rfl (fun hc => ?_) (fun hc => ?_)
  · replace hf := br_p hc hf
    refine lv_iconst (v := 0) hx hb d_Shelf_hasRoom_24 (by decide) ?_
    have h1 := Option.some.inj hf
    subst h1
    exact W.zret hx hb hr (by first | rfl | exact bz_nar _) (fun t ht _ => ⟨rfl, ht⟩) (fun _ h => by cases h) d_Shelf_hasRoom_25
  · replace hf := br_n hc hf
    refine lv_aload_n hx hb d_Shelf_hasRoom_9 rfl (lv_at hl 0 rfl) ?_
    refine xg_41_2 hx hb hts hown hK hP q_226 d_Shelf_hasRoom_10 ?_
    obtain ⟨v1, hv1, hf⟩ := cl_x hf
    refine rdS (As := [.long (μ.2 41 2)]) (rest := []) S K_Long_bitCount q_678 (c_Long_bitCount (w := (WX g ad dr pl μ)) hv1) hK hP ⟨rfl, rfl⟩ ⟨Nat.le_of_ble_eq_true rfl, Nat.le_of_ble_eq_true rfl⟩ rfl hl.1 rfl (Nat.le_of_ble_eq_true rfl) d_Shelf_hasRoom_13 ⟨Nat.le_refl _, Nat.le_refl _⟩ ?_
    refine lv_iconst (v := 4) hx hb d_Shelf_hasRoom_16 (by decide) ?_
    refine lv_icmp_ge (tgt := 24) hx hb d_Shelf_hasRoom_17 rfl (fun hc => ?_) (fun hc => ?_)
    · replace hf := br_p hc hf
      refine lv_iconst (v := 0) hx hb d_Shelf_hasRoom_24 (by decide) ?_
      have h1 := Option.some.inj hf
      subst h1
      exact W.zret hx hb hr (by first | rfl | exact bz_nar _) (fun t ht _ => ⟨rfl, ht⟩) (fun _ h => by cases h) d_Shelf_hasRoom_25
    · replace hf := br_n hc hf
      refine lv_iconst (v := 1) hx hb d_Shelf_hasRoom_20 (by decide) ?_
      refine lv_goto (tgt := 25) hx hb d_Shelf_hasRoom_21 rfl ?_
      have h1 := Option.some.inj hf
      subst h1
      exact W.zret hx hb hr (by first | rfl | exact bz_nar _) (fun t ht _ => ⟨rfl, ht⟩) (fun _ h => by cases h) d_Shelf_hasRoom_25
theorem c_Shelf_hasRoom {l : Launch} {D : va_G} {g : Nat → ClassId} {ad : Nat → Nat} {dr : Nat → Option Nat} {pl : va_W} {μ : Mem} {r : Bool} {n : Nat} (hf : f_Shelf_hasRoom n μ = some r) : Met l y_Shelf_hasRoom (Cond.code y_Shelf_hasRoom b_Shelf_hasRoom 1 (some .boolean) :: ww) rm_Shelf_hasRoom (RP D CL (TY g) (WX g ad dr pl μ) [.ref (ad 41)]) (k2_QcV (.int (bz r))) 0 0 (fun _ => False) := by
  refine met_of (by decide) (Nat.le_of_ble_eq_true rfl) ?_
  intro p e s m below meth c ls X hP hl
  have hl : lv_has ls 1 [(0, .ref (ad 41))] := hl
  exact w_Shelf_hasRoom X hP hl hf
theorem d_Shelf_holds_0 : decode b_Shelf_holds 0 = .ok (.lload_n 0, 1) := by decide +kernel
theorem d_Shelf_holds_1 : decode b_Shelf_holds 1 = .ok (.iload_n 2, 1) := by decide +kernel
theorem d_Shelf_holds_2 : decode b_Shelf_holds 2 = .ok (.lushr, 1) := by decide +kernel
theorem d_Shelf_holds_3 : decode b_Shelf_holds 3 = .ok (.lconst 1, 1) := by decide +kernel
theorem d_Shelf_holds_4 : decode b_Shelf_holds 4 = .ok (.land, 1) := by decide +kernel
theorem d_Shelf_holds_5 : decode b_Shelf_holds 5 = .ok (.lconst 0, 1) := by decide +kernel
theorem d_Shelf_holds_6 : decode b_Shelf_holds 6 = .ok (.lcmp, 1) := by decide +kernel
theorem d_Shelf_holds_7 : decode b_Shelf_holds 7 = .ok (.ifCond .eq 7, 3) := by decide +kernel
theorem d_Shelf_holds_10 : decode b_Shelf_holds 10 = .ok (.iconst 1, 1) := by decide +kernel
theorem d_Shelf_holds_11 : decode b_Shelf_holds 11 = .ok (.goto 4, 3) := by decide +kernel
theorem d_Shelf_holds_14 : decode b_Shelf_holds 14 = .ok (.iconst 0, 1) := by decide +kernel
theorem d_Shelf_holds_15 : decode b_Shelf_holds 15 = .ok (.ireturn, 1) := by decide +kernel
abbrev rm_Shelf_holds : Room := { frames := 0, cells := 0, slots := 0, locals := 0 }
def f_Shelf_holds (n : Nat) (a0 : Int64) (a2 : Int32) : Option Bool := (if (lg_cmp ((((a0 : Int64).toUInt64 >>> ((a2 : Int32).toInt64.toUInt64 &&& Int64.toUInt64 63)).toInt64) &&& (1 : Int64)) (0 : Int64)) = 0 then (some false) else (some true))
set_option maxHeartbeats 4000000 in
set_option maxRecDepth 100000 in
theorem w_Shelf_holds {p : Program} {l : Launch} {e : Env} {s : State} {m : MethodId} {args : Array Value} {below : List Frame} {meth : Method} {c : Code} {D : va_G} {g : Nat → ClassId} {w : va_W} {r : Bool} {n : Nat} {a0 : Int64} {a2 : Int32} {ls : Array Slot} (X : Cx p s m args meth c b_Shelf_holds 3 R_Shelf (some .boolean) D CL (TY g)) (hP : va_P D CL w s.heap) (hl : lv_has ls 3 [(0, .long a0), (2, .int a2)]) (hf : f_Shelf_holds n a0 a2 = some r) : WR p l e rm_Shelf_holds s m args below meth c (.int (bz r)) (F0 m 0 ls []) := by
  obtain ⟨S, hr, hlk, hK⟩ := id X
  obtain ⟨hx, hb, hml, hown, hts⟩ := id S
  rw [f_Shelf_holds] at hf
  refine lv_lload_n hx hb d_Shelf_holds_0 rfl (lv_at hl 0 rfl) ?_
  refine lv_iload_n hx hb d_Shelf_holds_1 rfl (lv_at hl 1 rfl) ?_
  refine lv_lushr (v := ((a0 : Int64).toUInt64 >>> ((a2 : Int32).toInt64.toUInt64 &&& Int64.toUInt64 63)).toInt64) hx hb d_Shelf_holds_2 rfl ?_
  refine lv_lconst (v := 1) hx hb d_Shelf_holds_3 (by decide) ?_
  refine lv_land hx hb d_Shelf_holds_4 ?_
  refine lv_lconst (v := 0) hx hb d_Shelf_holds_5 (by decide) ?_
  refine W.lcmp hx hb d_Shelf_holds_6 ?_
  refine lv_if_eq (tgt := 14) hx hb d_Shelf_holds_7 rfl (fun hc => ?_) (fun hc => ?_)
  · replace hf := br_p hc hf
    refine lv_iconst (v := 0) hx hb d_Shelf_holds_14 (by decide) ?_
    have h1 := Option.some.inj hf
    subst h1
    exact W.zret hx hb hr (by first | rfl | exact bz_nar _) (fun t ht _ => ⟨rfl, ht⟩) (fun _ h => by cases h) d_Shelf_holds_15
  · replace hf := br_n hc hf
    refine lv_iconst (v := 1) hx hb d_Shelf_holds_10 (by decide) ?_
    refine lv_goto (tgt := 15) hx hb d_Shelf_holds_11 rfl ?_
    have h1 := Option.some.inj hf
    subst h1
    exact W.zret hx hb hr (by first | rfl | exact bz_nar _) (fun t ht _ => ⟨rfl, ht⟩) (fun _ h => by cases h) d_Shelf_holds_15
theorem c_Shelf_holds {l : Launch} {D : va_G} {g : Nat → ClassId} {w : va_W} {r : Bool} {n : Nat} {a0 : Int64} {a2 : Int32} (hf : f_Shelf_holds n a0 a2 = some r) : Met l y_Shelf_holds (Cond.code y_Shelf_holds b_Shelf_holds 3 (some .boolean) :: ww) rm_Shelf_holds (RP D CL (TY g) w [.long a0, .int a2]) (k2_QcV (.int (bz r))) 0 0 (fun _ => False) := by
  refine met_of (by decide) (Nat.le_of_ble_eq_true rfl) ?_
  intro p e s m below meth c ls X hP hl
  have hl : lv_has ls 3 [(0, .long a0), (2, .int a2)] := hl
  exact w_Shelf_holds X hP hl hf
theorem d_Shelf_discard_0 : decode b_Shelf_discard 0 = .ok (.iload_n 1, 1) := by decide +kernel
theorem d_Shelf_discard_1 : decode b_Shelf_discard 1 = .ok (.ifCond .lt 22, 3) := by decide +kernel
theorem d_Shelf_discard_4 : decode b_Shelf_discard 4 = .ok (.iload_n 1, 1) := by decide +kernel
theorem d_Shelf_discard_5 : decode b_Shelf_discard 5 = .ok (.aload_n 0, 1) := by decide +kernel
theorem d_Shelf_discard_6 : decode b_Shelf_discard 6 = .ok (.getfield 21, 3) := by decide +kernel
theorem d_Shelf_discard_9 : decode b_Shelf_discard 9 = .ok (.if_icmp .ge 14, 3) := by decide +kernel
theorem d_Shelf_discard_12 : decode b_Shelf_discard 12 = .ok (.aload_n 0, 1) := by decide +kernel
theorem d_Shelf_discard_13 : decode b_Shelf_discard 13 = .ok (.getfield 29, 3) := by decide +kernel
theorem d_Shelf_discard_16 : decode b_Shelf_discard 16 = .ok (.iload_n 1, 1) := by decide +kernel
theorem d_Shelf_discard_17 : decode b_Shelf_discard 17 = .ok (.invokestatic 48, 3) := by decide +kernel
theorem d_Shelf_discard_20 : decode b_Shelf_discard 20 = .ok (.ifCond .eq 5, 3) := by decide +kernel
theorem d_Shelf_discard_23 : decode b_Shelf_discard 23 = .ok (.iconst 0, 1) := by decide +kernel
theorem d_Shelf_discard_24 : decode b_Shelf_discard 24 = .ok (.ireturn, 1) := by decide +kernel
theorem d_Shelf_discard_25 : decode b_Shelf_discard 25 = .ok (.aload_n 0, 1) := by decide +kernel
theorem d_Shelf_discard_26 : decode b_Shelf_discard 26 = .ok (.dup, 1) := by decide +kernel
theorem d_Shelf_discard_27 : decode b_Shelf_discard 27 = .ok (.getfield 29, 3) := by decide +kernel
theorem d_Shelf_discard_30 : decode b_Shelf_discard 30 = .ok (.lconst 1, 1) := by decide +kernel
theorem d_Shelf_discard_31 : decode b_Shelf_discard 31 = .ok (.iload_n 1, 1) := by decide +kernel
theorem d_Shelf_discard_32 : decode b_Shelf_discard 32 = .ok (.lshl, 1) := by decide +kernel
theorem d_Shelf_discard_33 : decode b_Shelf_discard 33 = .ok (.lor, 1) := by decide +kernel
theorem d_Shelf_discard_34 : decode b_Shelf_discard 34 = .ok (.putfield 29, 3) := by decide +kernel
theorem d_Shelf_discard_37 : decode b_Shelf_discard 37 = .ok (.aload_n 0, 1) := by decide +kernel
theorem d_Shelf_discard_38 : decode b_Shelf_discard 38 = .ok (.dup, 1) := by decide +kernel
theorem d_Shelf_discard_39 : decode b_Shelf_discard 39 = .ok (.getfield 25, 3) := by decide +kernel
theorem d_Shelf_discard_42 : decode b_Shelf_discard 42 = .ok (.aload_n 0, 1) := by decide +kernel
theorem d_Shelf_discard_43 : decode b_Shelf_discard 43 = .ok (.getfield 29, 3) := by decide +kernel
theorem d_Shelf_discard_46 : decode b_Shelf_discard 46 = .ok (.ldc2_w 52, 3) := by decide +kernel
theorem d_Shelf_discard_49 : decode b_Shelf_discard 49 = .ok (.lxor, 1) := by decide +kernel
theorem d_Shelf_discard_50 : decode b_Shelf_discard 50 = .ok (.land, 1) := by decide +kernel
theorem d_Shelf_discard_51 : decode b_Shelf_discard 51 = .ok (.putfield 25, 3) := by decide +kernel
theorem d_Shelf_discard_54 : decode b_Shelf_discard 54 = .ok (.iconst 1, 1) := by decide +kernel
theorem d_Shelf_discard_55 : decode b_Shelf_discard 55 = .ok (.ireturn, 1) := by decide +kernel
abbrev rm_Shelf_discard : Room := { frames := 1, cells := 0, slots := 0, locals := 22 }
def f_Shelf_discard (n : Nat) (μ : Mem) (a1 : Int32) : Option (Bool × Mem) := (if a1 < 0 then (some (false, μ)) else (if (μ.1 41 1) ≤ a1 then (some (false, μ)) else (cl (f_Shelf_holds n (μ.2 41 3) a1) (fun v1 => (if (bz v1) = 0 then (bd (wl μ 41 3 ((μ.2 41 3) ||| ((1 : Int64) <<< ((a1 : Int32).toInt64 &&& 63)))) (fun μ2 => bd (wl μ2 41 2 ((μ2.2 41 2) &&& ((μ2.2 41 3) ^^^ (-1 : Int64)))) (fun μ3 => some (true, μ3)))) else (some (false, μ)))))))
set_option maxHeartbeats 4000000 in
set_option maxRecDepth 100000 in
theorem w_Shelf_discard {p : Program} {l : Launch} {e : Env} {s : State} {m : MethodId} {args : Array Value} {below : List Frame} {meth : Method} {c : Code} {D : va_G} {g : Nat → ClassId} {ad : Nat → Nat} {dr : Nat → Option Nat} {pl : va_W} {r : Bool} {μ' : Mem} {A : Nat → Prop} {n : Nat} {μ : Mem} {a1 : Int32} {ls : Array Slot} {H : Heap} {locs : List Loc} (X : Cx p s m args meth c b_Shelf_discard 2 R_Shelf (some .boolean) D CL (TY g)) (hDA : ∀ μ : Mem, va_D A (WX g ad dr pl μ)) (hP : va_P D CL (WX g ad dr pl μ) H) (hS : va_S A s.heap H locs) (hl : lv_has ls 2 [(0, .ref (ad 41)), (1, .int a1)]) (hf : f_Shelf_discard n μ a1 = some (r, μ')) : WU p l e rm_Shelf_discard s m args below meth c H locs D (WX g ad dr pl μ') A (some (.int (bz r))) (F0 m 0 ls []) := by
  obtain ⟨S, hr, hlk, hK⟩ := id X
  obtain ⟨hx, hb, hml, hown, hts⟩ := id S
  rw [f_Shelf_discard] at hf
  refine lv_iload_n hx hb d_Shelf_discard_0 rfl (lv_at hl 1 rfl) ?_
  refine lv_if_lt (tgt := 23) hx hb d_Shelf_discard_1 rfl (fun hc => ?_) (fun hc => ?_)
  · replace hf := br_p hc hf
    refine lv_iconst (v := 0) hx hb d_Shelf_discard_23 (by decide) ?_
    obtain ⟨h1, h2⟩ := Prod.mk.inj (Option.some.inj hf)
    subst h1; subst h2
    exact W.zret hx hb hr (by first | rfl | exact bz_nar _) (fun t ht _ => ⟨rfl, by rw [ht]; exact hP, hS.F ht⟩) hS.2.2 d_Shelf_discard_24
  · replace hf := br_n hc hf
    refine lv_iload_n hx hb d_Shelf_discard_4 rfl (lv_at hl 1 rfl) ?_
    refine lv_aload_n hx hb d_Shelf_discard_5 rfl (lv_at hl 0 rfl) ?_
    refine xg_41_1 hx hb hts hown hK hP q_225 d_Shelf_discard_6 ?_
    refine lv_icmp_ge (tgt := 23) hx hb d_Shelf_discard_9 rfl (fun hc => ?_) (fun hc => ?_)
    · replace hf := br_p hc hf
      refine lv_iconst (v := 0) hx hb d_Shelf_discard_23 (by decide) ?_
      obtain ⟨h1, h2⟩ := Prod.mk.inj (Option.some.inj hf)
      subst h1; subst h2
      exact W.zret hx hb hr (by first | rfl | exact bz_nar _) (fun t ht _ => ⟨rfl, by rw [ht]; exact hP, hS.F ht⟩) hS.2.2 d_Shelf_discard_24
    · replace hf := br_n hc hf
      refine lv_aload_n hx hb d_Shelf_discard_12 rfl (lv_at hl 0 rfl) ?_
      refine xg_41_3 hx hb hts hown hK hP q_227 d_Shelf_discard_13 ?_
      refine lv_iload_n hx hb d_Shelf_discard_16 rfl (lv_at hl 1 rfl) ?_
      obtain ⟨v1, hv1, hf⟩ := cl_x hf
      refine rdS (As := [.long (μ.2 41 3), .int a1]) (rest := []) S K_Shelf_holds q_724 (c_Shelf_holds (w := (WX g ad dr pl μ)) hv1) hK hP ⟨rfl, rfl⟩ ⟨Nat.le_of_ble_eq_true rfl, Nat.le_of_ble_eq_true rfl⟩ rfl hl.1 rfl (Nat.le_of_ble_eq_true rfl) d_Shelf_discard_17 ⟨Nat.le_refl _, Nat.le_refl _⟩ ?_
      refine lv_if_eq (tgt := 25) hx hb d_Shelf_discard_20 rfl (fun hc => ?_) (fun hc => ?_)
      · replace hf := br_p hc hf
        refine lv_aload_n hx hb d_Shelf_discard_25 rfl (lv_at hl 0 rfl) ?_
        refine lv_dup hx hb d_Shelf_discard_26 rfl ?_
        refine xg_41_3 hx hb hts hown hK hP q_227 d_Shelf_discard_27 ?_
        refine lv_lconst (v := 1) hx hb d_Shelf_discard_30 (by decide) ?_
        refine lv_iload_n hx hb d_Shelf_discard_31 rfl (lv_at hl 1 rfl) ?_
        refine lv_lshl (v := (1 : Int64) <<< ((a1 : Int32).toInt64 &&& 63)) hx hb d_Shelf_discard_32 rfl ?_
        refine lv_lor hx hb d_Shelf_discard_33 ?_
        obtain ⟨μ2, hμ2, hf⟩ := bd_x hf
        refine xp_41_3 hx hb hts hown hK (hDA _) hP hS q_227 d_Shelf_discard_34 hμ2 (fun H locs hP hS => ?_)
        refine lv_aload_n hx hb d_Shelf_discard_37 rfl (lv_at hl 0 rfl) ?_
        refine lv_dup hx hb d_Shelf_discard_38 rfl ?_
        refine xg_41_2 hx hb hts hown hK hP q_226 d_Shelf_discard_39 ?_
        refine lv_aload_n hx hb d_Shelf_discard_42 rfl (lv_at hl 0 rfl) ?_
        refine xg_41_3 hx hb hts hown hK hP q_227 d_Shelf_discard_43 ?_
        refine lv_ldc2 (v := -1) hx hb hown (hts _ q_727) d_Shelf_discard_46 ?_
        refine lv_lxor hx hb d_Shelf_discard_49 ?_
        refine lv_land hx hb d_Shelf_discard_50 ?_
        obtain ⟨μ3, hμ3, hf⟩ := bd_x hf
        refine xp_41_2 hx hb hts hown hK (hDA _) hP hS q_226 d_Shelf_discard_51 hμ3 (fun H locs hP hS => ?_)
        refine lv_iconst (v := 1) hx hb d_Shelf_discard_54 (by decide) ?_
        obtain ⟨h1, h2⟩ := Prod.mk.inj (Option.some.inj hf)
        subst h1; subst h2
        exact W.zret hx hb hr (by first | rfl | exact bz_nar _) (fun t ht _ => ⟨rfl, by rw [ht]; exact hP, hS.F ht⟩) hS.2.2 d_Shelf_discard_55
      · replace hf := br_n hc hf
        refine lv_iconst (v := 0) hx hb d_Shelf_discard_23 (by decide) ?_
        obtain ⟨h1, h2⟩ := Prod.mk.inj (Option.some.inj hf)
        subst h1; subst h2
        exact W.zret hx hb hr (by first | rfl | exact bz_nar _) (fun t ht _ => ⟨rfl, by rw [ht]; exact hP, hS.F ht⟩) hS.2.2 d_Shelf_discard_24
theorem c_Shelf_discard {l : Launch} {D : va_G} {g : Nat → ClassId} {ad : Nat → Nat} {dr : Nat → Option Nat} {pl : va_W} {μ : Mem} {r : Bool} {μ' : Mem} {A : Nat → Prop} {n : Nat} {a1 : Int32} (hDA : ∀ μ : Mem, va_D A (WX g ad dr pl μ)) (hf : f_Shelf_discard n μ a1 = some (r, μ')) : Met l y_Shelf_discard (Cond.code y_Shelf_discard b_Shelf_discard 2 (some .boolean) :: ww) rm_Shelf_discard (RP D CL (TY g) (WX g ad dr pl μ) [.ref (ad 41), .int a1]) (QW D CL (WX g ad dr pl μ') A (some (.int (bz r)))) 0 0 A := by
  refine met_of (by decide) (Nat.le_of_ble_eq_true rfl) ?_
  intro p e s m below meth c ls X hP hl
  have hl : lv_has ls 2 [(0, .ref (ad 41)), (1, .int a1)] := hl
  exact w_Shelf_discard X hDA hP va_S.rf hl hf
theorem d_Shelf_segmentCount_0 : decode b_Shelf_segmentCount 0 = .ok (.aload_n 0, 1) := by decide +kernel
theorem d_Shelf_segmentCount_1 : decode b_Shelf_segmentCount 1 = .ok (.getfield 35, 3) := by decide +kernel
theorem d_Shelf_segmentCount_4 : decode b_Shelf_segmentCount 4 = .ok (.ireturn, 1) := by decide +kernel
abbrev rm_Shelf_segmentCount : Room := { frames := 0, cells := 0, slots := 0, locals := 0 }
def f_Shelf_segmentCount (n : Nat) (μ : Mem) : Option Int32 := some (μ.1 41 6)
set_option maxHeartbeats 4000000 in
set_option maxRecDepth 100000 in
theorem w_Shelf_segmentCount {p : Program} {l : Launch} {e : Env} {s : State} {m : MethodId} {args : Array Value} {below : List Frame} {meth : Method} {c : Code} {D : va_G} {g : Nat → ClassId} {ad : Nat → Nat} {dr : Nat → Option Nat} {pl : va_W} {μ : Mem} {r : Int32} {n : Nat} {ls : Array Slot} (X : Cx p s m args meth c b_Shelf_segmentCount 1 R_Shelf (some .int) D CL (TY g)) (hP : va_P D CL (WX g ad dr pl μ) s.heap) (hl : lv_has ls 1 [(0, .ref (ad 41))]) (hf : f_Shelf_segmentCount n μ = some r) : WR p l e rm_Shelf_segmentCount s m args below meth c (.int r) (F0 m 0 ls []) := by
  obtain ⟨S, hr, hlk, hK⟩ := id X
  obtain ⟨hx, hb, hml, hown, hts⟩ := id S
  rw [f_Shelf_segmentCount] at hf
  refine lv_aload_n hx hb d_Shelf_segmentCount_0 rfl (lv_at hl 0 rfl) ?_
  refine xg_41_6 hx hb hts hown hK hP q_230 d_Shelf_segmentCount_1 ?_
  have h1 := Option.some.inj hf
  subst h1
  exact W.iret hx hb hr (fun t ht _ => ⟨rfl, ht⟩) (fun _ h => by cases h) d_Shelf_segmentCount_4
theorem c_Shelf_segmentCount {l : Launch} {D : va_G} {g : Nat → ClassId} {ad : Nat → Nat} {dr : Nat → Option Nat} {pl : va_W} {μ : Mem} {r : Int32} {n : Nat} (hf : f_Shelf_segmentCount n μ = some r) : Met l y_Shelf_segmentCount (Cond.code y_Shelf_segmentCount b_Shelf_segmentCount 1 (some .int) :: ww) rm_Shelf_segmentCount (RP D CL (TY g) (WX g ad dr pl μ) [.ref (ad 41)]) (k2_QcV (.int r)) 0 0 (fun _ => False) := by
  refine met_of (by decide) (Nat.le_of_ble_eq_true rfl) ?_
  intro p e s m below meth c ls X hP hl
  have hl : lv_has ls 1 [(0, .ref (ad 41))] := hl
  exact w_Shelf_segmentCount X hP hl hf
theorem d_Shelf_segmentSize_0 : decode b_Shelf_segmentSize 0 = .ok (.iload_n 1, 1) := by decide +kernel
theorem d_Shelf_segmentSize_1 : decode b_Shelf_segmentSize 1 = .ok (.ifCond .lt 11, 3) := by decide +kernel
theorem d_Shelf_segmentSize_4 : decode b_Shelf_segmentSize 4 = .ok (.iload_n 1, 1) := by decide +kernel
theorem d_Shelf_segmentSize_5 : decode b_Shelf_segmentSize 5 = .ok (.aload_n 0, 1) := by decide +kernel
theorem d_Shelf_segmentSize_6 : decode b_Shelf_segmentSize 6 = .ok (.getfield 35, 3) := by decide +kernel
theorem d_Shelf_segmentSize_9 : decode b_Shelf_segmentSize 9 = .ok (.if_icmp .lt 7, 3) := by decide +kernel
theorem d_Shelf_segmentSize_12 : decode b_Shelf_segmentSize 12 = .ok (.iconst (-1), 1) := by decide +kernel
theorem d_Shelf_segmentSize_13 : decode b_Shelf_segmentSize 13 = .ok (.goto 12, 3) := by decide +kernel
theorem d_Shelf_segmentSize_16 : decode b_Shelf_segmentSize 16 = .ok (.aload_n 0, 1) := by decide +kernel
theorem d_Shelf_segmentSize_17 : decode b_Shelf_segmentSize 17 = .ok (.getfield 17, 3) := by decide +kernel
theorem d_Shelf_segmentSize_20 : decode b_Shelf_segmentSize 20 = .ok (.iload_n 1, 1) := by decide +kernel
theorem d_Shelf_segmentSize_21 : decode b_Shelf_segmentSize 21 = .ok (.laload, 1) := by decide +kernel
theorem d_Shelf_segmentSize_22 : decode b_Shelf_segmentSize 22 = .ok (.invokestatic 38, 3) := by decide +kernel
theorem d_Shelf_segmentSize_25 : decode b_Shelf_segmentSize 25 = .ok (.ireturn, 1) := by decide +kernel
abbrev rm_Shelf_segmentSize : Room := { frames := 1, cells := 0, slots := 0, locals := 21 }
def f_Shelf_segmentSize_12 (μ : Mem) (n : Nat) : Option Int32 := some (-1 : Int32)
set_option maxHeartbeats 4000000 in
set_option maxRecDepth 100000 in
theorem w_Shelf_segmentSize_12 {p : Program} {l : Launch} {e : Env} {s : State} {m : MethodId} {args : Array Value} {below : List Frame} {meth : Method} {c : Code} {D : va_G} {g : Nat → ClassId} {ad : Nat → Nat} {dr : Nat → Option Nat} {pl : va_W} {μ : Mem} {r : Int32} {n : Nat} {ls : Array Slot} (X : Cx p s m args meth c b_Shelf_segmentSize 2 R_Shelf (some .int) D CL (TY g)) (hP : va_P D CL (WX g ad dr pl μ) s.heap) (hl : lv_has ls 2 []) (hf : f_Shelf_segmentSize_12 μ n = some r) : WR p l e rm_Shelf_segmentSize s m args below meth c (.int r) (F0 m 12 ls []) := by
  obtain ⟨S, hr, hlk, hK⟩ := id X
  obtain ⟨hx, hb, hml, hown, hts⟩ := id S
  rw [f_Shelf_segmentSize_12] at hf
  refine lv_iconst (v := -1) hx hb d_Shelf_segmentSize_12 (by decide) ?_
  refine lv_goto (tgt := 25) hx hb d_Shelf_segmentSize_13 rfl ?_
  have h1 := Option.some.inj hf
  subst h1
  exact W.iret hx hb hr (fun t ht _ => ⟨rfl, ht⟩) (fun _ h => by cases h) d_Shelf_segmentSize_25
def f_Shelf_segmentSize (n : Nat) (μ : Mem) (a1 : Int32) : Option Int32 := (if a1 < 0 then (f_Shelf_segmentSize_12 μ n) else (if a1 < (μ.1 41 6) then (gd (inb a1 4) (cl (f_Long_bitCount n (μ.2 43 a1.toNatClampNeg)) (fun v1 => some v1))) else (f_Shelf_segmentSize_12 μ n)))
set_option maxHeartbeats 4000000 in
set_option maxRecDepth 100000 in
theorem w_Shelf_segmentSize {p : Program} {l : Launch} {e : Env} {s : State} {m : MethodId} {args : Array Value} {below : List Frame} {meth : Method} {c : Code} {D : va_G} {g : Nat → ClassId} {ad : Nat → Nat} {dr : Nat → Option Nat} {pl : va_W} {μ : Mem} {r : Int32} {n : Nat} {a1 : Int32} {ls : Array Slot} (X : Cx p s m args meth c b_Shelf_segmentSize 2 R_Shelf (some .int) D CL (TY g)) (hP : va_P D CL (WX g ad dr pl μ) s.heap) (hl : lv_has ls 2 [(0, .ref (ad 41)), (1, .int a1)]) (hf : f_Shelf_segmentSize n μ a1 = some r) : WR p l e rm_Shelf_segmentSize s m args below meth c (.int r) (F0 m 0 ls []) := by
  obtain ⟨S, hr, hlk, hK⟩ := id X
  obtain ⟨hx, hb, hml, hown, hts⟩ := id S
  rw [f_Shelf_segmentSize] at hf
  refine lv_iload_n hx hb d_Shelf_segmentSize_0 rfl (lv_at hl 1 rfl) ?_
  refine lv_if_lt (tgt := 12) hx hb d_Shelf_segmentSize_1 rfl (fun hc => ?_) (fun hc => ?_)
  · replace hf := br_p hc hf
    exact w_Shelf_segmentSize_12 X hP (lv_sub (l' := []) hl [] rfl) hf
  · replace hf := br_n hc hf
    refine lv_iload_n hx hb d_Shelf_segmentSize_4 rfl (lv_at hl 1 rfl) ?_
    refine lv_aload_n hx hb d_Shelf_segmentSize_5 rfl (lv_at hl 0 rfl) ?_
    refine xg_41_6 hx hb hts hown hK hP q_230 d_Shelf_segmentSize_6 ?_
    refine lv_icmp_lt (tgt := 16) hx hb d_Shelf_segmentSize_9 rfl (fun hc => ?_) (fun hc => ?_)
    · replace hf := br_p hc hf
      refine lv_aload_n hx hb d_Shelf_segmentSize_16 rfl (lv_at hl 0 rfl) ?_
      refine xg_41_5 hx hb hts hown hK hP q_229 d_Shelf_segmentSize_17 ?_
      refine lv_iload_n hx hb d_Shelf_segmentSize_20 rfl (lv_at hl 1 rfl) ?_
      obtain ⟨hi, hf⟩ := gd_x hf
      refine xl_43 hx hb hK hP (inb_in hi) d_Shelf_segmentSize_21 ?_
      obtain ⟨v1, hv1, hf⟩ := cl_x hf
      refine rdS (As := [.long (μ.2 43 a1.toNatClampNeg)]) (rest := []) S K_Long_bitCount q_678 (c_Long_bitCount (w := (WX g ad dr pl μ)) hv1) hK hP ⟨rfl, rfl⟩ ⟨Nat.le_of_ble_eq_true rfl, Nat.le_of_ble_eq_true rfl⟩ rfl hl.1 rfl (Nat.le_of_ble_eq_true rfl) d_Shelf_segmentSize_22 ⟨Nat.le_refl _, Nat.le_refl _⟩ ?_
      have h1 := Option.some.inj hf
      subst h1
      exact W.iret hx hb hr (fun t ht _ => ⟨rfl, ht⟩) (fun _ h => by cases h) d_Shelf_segmentSize_25
    · replace hf := br_n hc hf
      exact w_Shelf_segmentSize_12 X hP (lv_sub (l' := []) hl [] rfl) hf
theorem c_Shelf_segmentSize {l : Launch} {D : va_G} {g : Nat → ClassId} {ad : Nat → Nat} {dr : Nat → Option Nat} {pl : va_W} {μ : Mem} {r : Int32} {n : Nat} {a1 : Int32} (hf : f_Shelf_segmentSize n μ a1 = some r) : Met l y_Shelf_segmentSize (Cond.code y_Shelf_segmentSize b_Shelf_segmentSize 2 (some .int) :: ww) rm_Shelf_segmentSize (RP D CL (TY g) (WX g ad dr pl μ) [.ref (ad 41), .int a1]) (k2_QcV (.int r)) 0 0 (fun _ => False) := by
  refine met_of (by decide) (Nat.le_of_ble_eq_true rfl) ?_
  intro p e s m below meth c ls X hP hl
  have hl : lv_has ls 2 [(0, .ref (ad 41)), (1, .int a1)] := hl
  exact w_Shelf_segmentSize X hP hl hf
theorem d_Shelf_takeSnapshot_0 : decode b_Shelf_takeSnapshot 0 = .ok (.lconst 0, 1) := by decide +kernel
theorem d_Shelf_takeSnapshot_1 : decode b_Shelf_takeSnapshot 1 = .ok (.lstore_n 1, 1) := by decide +kernel
theorem d_Shelf_takeSnapshot_2 : decode b_Shelf_takeSnapshot 2 = .ok (.iconst 0, 1) := by decide +kernel
theorem d_Shelf_takeSnapshot_3 : decode b_Shelf_takeSnapshot 3 = .ok (.istore_n 3, 1) := by decide +kernel
theorem d_Shelf_takeSnapshot_4 : decode b_Shelf_takeSnapshot 4 = .ok (.iload_n 3, 1) := by decide +kernel
theorem d_Shelf_takeSnapshot_5 : decode b_Shelf_takeSnapshot 5 = .ok (.aload_n 0, 1) := by decide +kernel
theorem d_Shelf_takeSnapshot_6 : decode b_Shelf_takeSnapshot 6 = .ok (.getfield 35, 3) := by decide +kernel
theorem d_Shelf_takeSnapshot_9 : decode b_Shelf_takeSnapshot 9 = .ok (.if_icmp .ge 18, 3) := by decide +kernel
theorem d_Shelf_takeSnapshot_12 : decode b_Shelf_takeSnapshot 12 = .ok (.lload_n 1, 1) := by decide +kernel
theorem d_Shelf_takeSnapshot_13 : decode b_Shelf_takeSnapshot 13 = .ok (.aload_n 0, 1) := by decide +kernel
theorem d_Shelf_takeSnapshot_14 : decode b_Shelf_takeSnapshot 14 = .ok (.getfield 17, 3) := by decide +kernel
theorem d_Shelf_takeSnapshot_17 : decode b_Shelf_takeSnapshot 17 = .ok (.iload_n 3, 1) := by decide +kernel
theorem d_Shelf_takeSnapshot_18 : decode b_Shelf_takeSnapshot 18 = .ok (.laload, 1) := by decide +kernel
theorem d_Shelf_takeSnapshot_19 : decode b_Shelf_takeSnapshot 19 = .ok (.lor, 1) := by decide +kernel
theorem d_Shelf_takeSnapshot_20 : decode b_Shelf_takeSnapshot 20 = .ok (.lstore_n 1, 1) := by decide +kernel
theorem d_Shelf_takeSnapshot_21 : decode b_Shelf_takeSnapshot 21 = .ok (.iinc 3 1, 3) := by decide +kernel
theorem d_Shelf_takeSnapshot_24 : decode b_Shelf_takeSnapshot 24 = .ok (.goto (-20), 3) := by decide +kernel
theorem d_Shelf_takeSnapshot_27 : decode b_Shelf_takeSnapshot 27 = .ok (.aload_n 0, 1) := by decide +kernel
theorem d_Shelf_takeSnapshot_28 : decode b_Shelf_takeSnapshot 28 = .ok (.lload_n 1, 1) := by decide +kernel
theorem d_Shelf_takeSnapshot_29 : decode b_Shelf_takeSnapshot 29 = .ok (.aload_n 0, 1) := by decide +kernel
theorem d_Shelf_takeSnapshot_30 : decode b_Shelf_takeSnapshot 30 = .ok (.getfield 29, 3) := by decide +kernel
theorem d_Shelf_takeSnapshot_33 : decode b_Shelf_takeSnapshot 33 = .ok (.ldc2_w 52, 3) := by decide +kernel
theorem d_Shelf_takeSnapshot_36 : decode b_Shelf_takeSnapshot 36 = .ok (.lxor, 1) := by decide +kernel
theorem d_Shelf_takeSnapshot_37 : decode b_Shelf_takeSnapshot 37 = .ok (.land, 1) := by decide +kernel
theorem d_Shelf_takeSnapshot_38 : decode b_Shelf_takeSnapshot 38 = .ok (.putfield 32, 3) := by decide +kernel
theorem d_Shelf_takeSnapshot_41 : decode b_Shelf_takeSnapshot 41 = .ok (.aload_n 0, 1) := by decide +kernel
theorem d_Shelf_takeSnapshot_42 : decode b_Shelf_takeSnapshot 42 = .ok (.getfield 32, 3) := by decide +kernel
theorem d_Shelf_takeSnapshot_45 : decode b_Shelf_takeSnapshot 45 = .ok (.invokestatic 38, 3) := by decide +kernel
theorem d_Shelf_takeSnapshot_48 : decode b_Shelf_takeSnapshot 48 = .ok (.ireturn, 1) := by decide +kernel
abbrev rm_Shelf_takeSnapshot : Room := { frames := 1, cells := 0, slots := 0, locals := 21 }
def f_Shelf_takeSnapshot_4 : Nat → Mem → Int64 → Int32 → Option (Int32 × Mem)
  | 0, _, _, _ => none
  | n + 1, μ, x1, x3 => (if (μ.1 41 6) ≤ x3 then (bd (wl μ 41 4 (x1 &&& ((μ.2 41 3) ^^^ (-1 : Int64)))) (fun μ1 => cl (f_Long_bitCount n (μ1.2 41 4)) (fun v2 => some (v2, μ1)))) else (gd (inb x3 4) (bd (x1 ||| (μ.2 43 x3.toNatClampNeg)) (fun v3 => bd (x3 + 1) (fun v4 => (f_Shelf_takeSnapshot_4 n) μ v3 v4)))))
set_option maxHeartbeats 4000000 in
set_option maxRecDepth 100000 in
theorem w_Shelf_takeSnapshot_4 {p : Program} {l : Launch} {e : Env} {s : State} {m : MethodId} {args : Array Value} {below : List Frame} {meth : Method} {c : Code} {D : va_G} {g : Nat → ClassId} {ad : Nat → Nat} {dr : Nat → Option Nat} {pl : va_W} {r : Int32} {μ' : Mem} {A : Nat → Prop} (X : Cx p s m args meth c b_Shelf_takeSnapshot 4 R_Shelf (some .int) D CL (TY g)) (hDA : ∀ μ : Mem, va_D A (WX g ad dr pl μ)) : ∀ (n : Nat) (μ : Mem) (x1 : Int64) (x3 : Int32) (ls : Array Slot) (H : Heap) (locs : List Loc), va_P D CL (WX g ad dr pl μ) H → va_S A s.heap H locs → lv_has ls 4 [(0, .ref (ad 41)), (1, .long x1), (3, .int x3)] → f_Shelf_takeSnapshot_4 n μ x1 x3 = some (r, μ') → WU p l e rm_Shelf_takeSnapshot s m args below meth c H locs D (WX g ad dr pl μ') A (some (.int r)) (F0 m 4 ls []) := by
  intro n
  induction n with
  | zero => intro μ x1 x3 ls H locs hP hS hl hf; rw [f_Shelf_takeSnapshot_4] at hf; cases hf
  | succ n ih =>
    intro μ x1 x3 ls H locs hP hS hl hf
    obtain ⟨S, hr, hlk, hK⟩ := id X
    obtain ⟨hx, hb, hml, hown, hts⟩ := id S
    rw [f_Shelf_takeSnapshot_4] at hf
    refine lv_iload_n hx hb d_Shelf_takeSnapshot_4 rfl (lv_at hl 2 rfl) ?_
    refine lv_aload_n hx hb d_Shelf_takeSnapshot_5 rfl (lv_at hl 0 rfl) ?_
    refine xg_41_6 hx hb hts hown hK hP q_230 d_Shelf_takeSnapshot_6 ?_
    refine lv_icmp_ge (tgt := 27) hx hb d_Shelf_takeSnapshot_9 rfl (fun hc => ?_) (fun hc => ?_)
    · replace hf := br_p hc hf
      refine lv_aload_n hx hb d_Shelf_takeSnapshot_27 rfl (lv_at hl 0 rfl) ?_
      refine lv_lload_n hx hb d_Shelf_takeSnapshot_28 rfl (lv_at hl 1 rfl) ?_
      refine lv_aload_n hx hb d_Shelf_takeSnapshot_29 rfl (lv_at hl 0 rfl) ?_
      refine xg_41_3 hx hb hts hown hK hP q_227 d_Shelf_takeSnapshot_30 ?_
      refine lv_ldc2 (v := -1) hx hb hown (hts _ q_727) d_Shelf_takeSnapshot_33 ?_
      refine lv_lxor hx hb d_Shelf_takeSnapshot_36 ?_
      refine lv_land hx hb d_Shelf_takeSnapshot_37 ?_
      obtain ⟨μ1, hμ1, hf⟩ := bd_x hf
      refine xp_41_4 hx hb hts hown hK (hDA _) hP hS q_228 d_Shelf_takeSnapshot_38 hμ1 (fun H locs hP hS => ?_)
      refine lv_aload_n hx hb d_Shelf_takeSnapshot_41 rfl (lv_at hl 0 rfl) ?_
      refine xg_41_4 hx hb hts hown hK hP q_228 d_Shelf_takeSnapshot_42 ?_
      obtain ⟨v2, hv2, hf⟩ := cl_x hf
      refine rdS (As := [.long (μ1.2 41 4)]) (rest := []) S K_Long_bitCount q_678 (c_Long_bitCount (w := (WX g ad dr pl μ1)) hv2) hK hP ⟨rfl, rfl⟩ ⟨Nat.le_of_ble_eq_true rfl, Nat.le_of_ble_eq_true rfl⟩ rfl hl.1 rfl (Nat.le_of_ble_eq_true rfl) d_Shelf_takeSnapshot_45 ⟨Nat.le_refl _, Nat.le_refl _⟩ ?_
      obtain ⟨h1, h2⟩ := Prod.mk.inj (Option.some.inj hf)
      subst h1; subst h2
      exact W.iret hx hb hr (fun t ht _ => ⟨rfl, by rw [ht]; exact hP, hS.F ht⟩) hS.2.2 d_Shelf_takeSnapshot_48
    · replace hf := br_n hc hf
      refine lv_lload_n hx hb d_Shelf_takeSnapshot_12 rfl (lv_at hl 1 rfl) ?_
      refine lv_aload_n hx hb d_Shelf_takeSnapshot_13 rfl (lv_at hl 0 rfl) ?_
      refine xg_41_5 hx hb hts hown hK hP q_229 d_Shelf_takeSnapshot_14 ?_
      refine lv_iload_n hx hb d_Shelf_takeSnapshot_17 rfl (lv_at hl 2 rfl) ?_
      obtain ⟨hi, hf⟩ := gd_x hf
      refine xl_43 hx hb hK hP (inb_in hi) d_Shelf_takeSnapshot_18 ?_
      refine lv_lor hx hb d_Shelf_takeSnapshot_19 ?_
      obtain ⟨v3, hv3, hf⟩ := bd_x hf
      refine top_l hv3 ?_
      refine lv_lstore_n (lv' := [(1, .long v3), (0, .ref (ad 41)), (3, .int x3)]) hx hb d_Shelf_takeSnapshot_20 rfl hl (Nat.le_of_ble_eq_true rfl) rfl (fun ls hl => ?_)
      obtain ⟨v4, hv4, hf⟩ := bd_x hf
      refine lv_iinc (lv' := [(3, .int v4), (1, .long v3), (0, .ref (ad 41))]) hx hb d_Shelf_takeSnapshot_21 hl (k := 2) rfl (show x3 + Int32.ofInt (1) = v4 from hv4) (Nat.le_of_ble_eq_true rfl) rfl (fun ls hl => ?_)
      refine lv_goto (tgt := 4) hx hb d_Shelf_takeSnapshot_24 rfl ?_
      exact ih _ _ _ _ _ _ hP hS (lv_sub (l' := [(0, .ref (ad 41)), (1, .long v3), (3, .int v4)]) hl [2, 1, 0] rfl) hf
def f_Shelf_takeSnapshot (n : Nat) (μ : Mem) : Option (Int32 × Mem) := f_Shelf_takeSnapshot_4 n μ (0 : Int64) (0 : Int32)
set_option maxHeartbeats 4000000 in
set_option maxRecDepth 100000 in
theorem w_Shelf_takeSnapshot {p : Program} {l : Launch} {e : Env} {s : State} {m : MethodId} {args : Array Value} {below : List Frame} {meth : Method} {c : Code} {D : va_G} {g : Nat → ClassId} {ad : Nat → Nat} {dr : Nat → Option Nat} {pl : va_W} {r : Int32} {μ' : Mem} {A : Nat → Prop} {n : Nat} {μ : Mem} {ls : Array Slot} {H : Heap} {locs : List Loc} (X : Cx p s m args meth c b_Shelf_takeSnapshot 4 R_Shelf (some .int) D CL (TY g)) (hDA : ∀ μ : Mem, va_D A (WX g ad dr pl μ)) (hP : va_P D CL (WX g ad dr pl μ) H) (hS : va_S A s.heap H locs) (hl : lv_has ls 4 [(0, .ref (ad 41))]) (hf : f_Shelf_takeSnapshot n μ = some (r, μ')) : WU p l e rm_Shelf_takeSnapshot s m args below meth c H locs D (WX g ad dr pl μ') A (some (.int r)) (F0 m 0 ls []) := by
  obtain ⟨S, hr, hlk, hK⟩ := id X
  obtain ⟨hx, hb, hml, hown, hts⟩ := id S
  rw [f_Shelf_takeSnapshot] at hf
  refine lv_lconst (v := 0) hx hb d_Shelf_takeSnapshot_0 (by decide) ?_
  refine lv_lstore_n (lv' := [(1, .long (0 : Int64)), (0, .ref (ad 41))]) hx hb d_Shelf_takeSnapshot_1 rfl hl (Nat.le_of_ble_eq_true rfl) rfl (fun ls hl => ?_)
  refine lv_iconst (v := 0) hx hb d_Shelf_takeSnapshot_2 (by decide) ?_
  refine lv_istore_n (lv' := [(3, .int (0 : Int32)), (1, .long (0 : Int64)), (0, .ref (ad 41))]) hx hb d_Shelf_takeSnapshot_3 rfl hl (Nat.le_of_ble_eq_true rfl) rfl (fun ls hl => ?_)
  exact w_Shelf_takeSnapshot_4 X hDA _ _ _ _ _ _ _ hP hS (lv_sub (l' := [(0, .ref (ad 41)), (1, .long (0 : Int64)), (3, .int (0 : Int32))]) hl [2, 1, 0] rfl) hf
theorem c_Shelf_takeSnapshot {l : Launch} {D : va_G} {g : Nat → ClassId} {ad : Nat → Nat} {dr : Nat → Option Nat} {pl : va_W} {μ : Mem} {r : Int32} {μ' : Mem} {A : Nat → Prop} {n : Nat} (hDA : ∀ μ : Mem, va_D A (WX g ad dr pl μ)) (hf : f_Shelf_takeSnapshot n μ = some (r, μ')) : Met l y_Shelf_takeSnapshot (Cond.code y_Shelf_takeSnapshot b_Shelf_takeSnapshot 4 (some .int) :: ww) rm_Shelf_takeSnapshot (RP D CL (TY g) (WX g ad dr pl μ) [.ref (ad 41)]) (QW D CL (WX g ad dr pl μ') A (some (.int r))) 0 0 A := by
  refine met_of (by decide) (Nat.le_of_ble_eq_true rfl) ?_
  intro p e s m below meth c ls X hP hl
  have hl : lv_has ls 4 [(0, .ref (ad 41))] := hl
  exact w_Shelf_takeSnapshot X hDA hP va_S.rf hl hf
theorem d_Shelf_pairSize_0 : decode b_Shelf_pairSize 0 = .ok (.aload_n 0, 1) := by decide +kernel
theorem d_Shelf_pairSize_1 : decode b_Shelf_pairSize 1 = .ok (.iload_n 1, 1) := by decide +kernel
theorem d_Shelf_pairSize_2 : decode b_Shelf_pairSize 2 = .ok (.invokevirtual 71, 3) := by decide +kernel
theorem d_Shelf_pairSize_5 : decode b_Shelf_pairSize 5 = .ok (.aload_n 0, 1) := by decide +kernel
theorem d_Shelf_pairSize_6 : decode b_Shelf_pairSize 6 = .ok (.iload_n 1, 1) := by decide +kernel
theorem d_Shelf_pairSize_7 : decode b_Shelf_pairSize 7 = .ok (.iconst 1, 1) := by decide +kernel
theorem d_Shelf_pairSize_8 : decode b_Shelf_pairSize 8 = .ok (.iadd, 1) := by decide +kernel
theorem d_Shelf_pairSize_9 : decode b_Shelf_pairSize 9 = .ok (.invokevirtual 71, 3) := by decide +kernel
theorem d_Shelf_pairSize_12 : decode b_Shelf_pairSize 12 = .ok (.iadd, 1) := by decide +kernel
theorem d_Shelf_pairSize_13 : decode b_Shelf_pairSize 13 = .ok (.ireturn, 1) := by decide +kernel
abbrev rm_Shelf_pairSize : Room := { frames := 2, cells := 0, slots := 0, locals := 42 }
def f_Shelf_pairSize (n : Nat) (μ : Mem) (a1 : Int32) : Option Int32 := cl (f_Shelf_segmentSize n μ a1) (fun v1 => cl (f_Shelf_segmentSize n μ (a1 + (1 : Int32))) (fun v2 => some (v1 + v2)))
set_option maxHeartbeats 4000000 in
set_option maxRecDepth 100000 in
theorem w_Shelf_pairSize {p : Program} {l : Launch} {e : Env} {s : State} {m : MethodId} {args : Array Value} {below : List Frame} {meth : Method} {c : Code} {D : va_G} {g : Nat → ClassId} {ad : Nat → Nat} {dr : Nat → Option Nat} {pl : va_W} {μ : Mem} {r : Int32} {n : Nat} {a1 : Int32} {ls : Array Slot} (X : Cx p s m args meth c b_Shelf_pairSize 2 R_Shelf (some .int) D CL (TY g)) (hP : va_P D CL (WX g ad dr pl μ) s.heap) (hl : lv_has ls 2 [(0, .ref (ad 41)), (1, .int a1)]) (hf : f_Shelf_pairSize n μ a1 = some r) : WR p l e rm_Shelf_pairSize s m args below meth c (.int r) (F0 m 0 ls []) := by
  obtain ⟨S, hr, hlk, hK⟩ := id X
  obtain ⟨hx, hb, hml, hown, hts⟩ := id S
  rw [f_Shelf_pairSize] at hf
  refine lv_aload_n hx hb d_Shelf_pairSize_0 rfl (lv_at hl 0 rfl) ?_
  refine lv_iload_n hx hb d_Shelf_pairSize_1 rfl (lv_at hl 1 rfl) ?_
  obtain ⟨v1, hv1, hf⟩ := cl_x hf
  refine rdV (As := [.int a1]) (rest := []) S K_Shelf_segmentSize q_752 (c_Shelf_segmentSize hv1) hK hP ⟨rfl, rfl⟩ ⟨Nat.le_of_ble_eq_true rfl, Nat.le_of_ble_eq_true rfl⟩ (xr_41 hK hP) rfl hl.1 rfl (Nat.le_of_ble_eq_true rfl) d_Shelf_pairSize_2 ⟨Nat.le_refl _, Nat.le_refl _⟩ ?_
  refine lv_aload_n hx hb d_Shelf_pairSize_5 rfl (lv_at hl 0 rfl) ?_
  refine lv_iload_n hx hb d_Shelf_pairSize_6 rfl (lv_at hl 1 rfl) ?_
  refine lv_iconst (v := 1) hx hb d_Shelf_pairSize_7 (by decide) ?_
  refine lv_iadd hx hb d_Shelf_pairSize_8 ?_
  obtain ⟨v2, hv2, hf⟩ := cl_x hf
  refine rdV (As := [.int (a1 + (1 : Int32))]) (rest := [.int v1]) S K_Shelf_segmentSize q_752 (c_Shelf_segmentSize hv2) hK hP ⟨rfl, rfl⟩ ⟨Nat.le_of_ble_eq_true rfl, Nat.le_of_ble_eq_true rfl⟩ (xr_41 hK hP) rfl hl.1 rfl (Nat.le_of_ble_eq_true rfl) d_Shelf_pairSize_9 ⟨Nat.le_refl _, Nat.le_refl _⟩ ?_
  refine lv_iadd hx hb d_Shelf_pairSize_12 ?_
  have h1 := Option.some.inj hf
  subst h1
  exact W.iret hx hb hr (fun t ht _ => ⟨rfl, ht⟩) (fun _ h => by cases h) d_Shelf_pairSize_13
theorem c_Shelf_pairSize {l : Launch} {D : va_G} {g : Nat → ClassId} {ad : Nat → Nat} {dr : Nat → Option Nat} {pl : va_W} {μ : Mem} {r : Int32} {n : Nat} {a1 : Int32} (hf : f_Shelf_pairSize n μ a1 = some r) : Met l y_Shelf_pairSize (Cond.code y_Shelf_pairSize b_Shelf_pairSize 2 (some .int) :: ww) rm_Shelf_pairSize (RP D CL (TY g) (WX g ad dr pl μ) [.ref (ad 41), .int a1]) (k2_QcV (.int r)) 0 0 (fun _ => False) := by
  refine met_of (by decide) (Nat.le_of_ble_eq_true rfl) ?_
  intro p e s m below meth c ls X hP hl
  have hl : lv_has ls 2 [(0, .ref (ad 41)), (1, .int a1)] := hl
  exact w_Shelf_pairSize X hP hl hf
theorem d_Shelf_smallestPair_0 : decode b_Shelf_smallestPair 0 = .ok (.iconst 0, 1) := by decide +kernel
theorem d_Shelf_smallestPair_1 : decode b_Shelf_smallestPair 1 = .ok (.istore_n 1, 1) := by decide +kernel
theorem d_Shelf_smallestPair_2 : decode b_Shelf_smallestPair 2 = .ok (.iconst 1, 1) := by decide +kernel
theorem d_Shelf_smallestPair_3 : decode b_Shelf_smallestPair 3 = .ok (.istore_n 2, 1) := by decide +kernel
theorem d_Shelf_smallestPair_4 : decode b_Shelf_smallestPair 4 = .ok (.iload_n 2, 1) := by decide +kernel
theorem d_Shelf_smallestPair_5 : decode b_Shelf_smallestPair 5 = .ok (.iconst 1, 1) := by decide +kernel
theorem d_Shelf_smallestPair_6 : decode b_Shelf_smallestPair 6 = .ok (.iadd, 1) := by decide +kernel
theorem d_Shelf_smallestPair_7 : decode b_Shelf_smallestPair 7 = .ok (.aload_n 0, 1) := by decide +kernel
theorem d_Shelf_smallestPair_8 : decode b_Shelf_smallestPair 8 = .ok (.getfield 35, 3) := by decide +kernel
theorem d_Shelf_smallestPair_11 : decode b_Shelf_smallestPair 11 = .ok (.if_icmp .ge 24, 3) := by decide +kernel
theorem d_Shelf_smallestPair_14 : decode b_Shelf_smallestPair 14 = .ok (.aload_n 0, 1) := by decide +kernel
theorem d_Shelf_smallestPair_15 : decode b_Shelf_smallestPair 15 = .ok (.iload_n 2, 1) := by decide +kernel
theorem d_Shelf_smallestPair_16 : decode b_Shelf_smallestPair 16 = .ok (.invokevirtual 68, 3) := by decide +kernel
theorem d_Shelf_smallestPair_19 : decode b_Shelf_smallestPair 19 = .ok (.aload_n 0, 1) := by decide +kernel
theorem d_Shelf_smallestPair_20 : decode b_Shelf_smallestPair 20 = .ok (.iload_n 1, 1) := by decide +kernel
theorem d_Shelf_smallestPair_21 : decode b_Shelf_smallestPair 21 = .ok (.invokevirtual 68, 3) := by decide +kernel
theorem d_Shelf_smallestPair_24 : decode b_Shelf_smallestPair 24 = .ok (.if_icmp .ge 5, 3) := by decide +kernel
theorem d_Shelf_smallestPair_27 : decode b_Shelf_smallestPair 27 = .ok (.iload_n 2, 1) := by decide +kernel
theorem d_Shelf_smallestPair_28 : decode b_Shelf_smallestPair 28 = .ok (.istore_n 1, 1) := by decide +kernel
theorem d_Shelf_smallestPair_29 : decode b_Shelf_smallestPair 29 = .ok (.iinc 2 1, 3) := by decide +kernel
theorem d_Shelf_smallestPair_32 : decode b_Shelf_smallestPair 32 = .ok (.goto (-28), 3) := by decide +kernel
theorem d_Shelf_smallestPair_35 : decode b_Shelf_smallestPair 35 = .ok (.iload_n 1, 1) := by decide +kernel
theorem d_Shelf_smallestPair_36 : decode b_Shelf_smallestPair 36 = .ok (.ireturn, 1) := by decide +kernel
abbrev rm_Shelf_smallestPair : Room := { frames := 3, cells := 0, slots := 0, locals := 63 }
def f_Shelf_smallestPair_29 (κ4 : Int32 → Int32 → Option Int32) (μ : Mem) (n : Nat) (x1 : Int32) (x2 : Int32) : Option Int32 := bd (x2 + 1) (fun v1 => κ4 x1 v1)
set_option maxHeartbeats 4000000 in
set_option maxRecDepth 100000 in
theorem w_Shelf_smallestPair_29 {p : Program} {l : Launch} {e : Env} {s : State} {m : MethodId} {args : Array Value} {below : List Frame} {meth : Method} {c : Code} {D : va_G} {g : Nat → ClassId} {ad : Nat → Nat} {dr : Nat → Option Nat} {pl : va_W} {μ : Mem} {r : Int32} {κ4 : Int32 → Int32 → Option Int32} {n : Nat} {x1 : Int32} {x2 : Int32} {ls : Array Slot} (X : Cx p s m args meth c b_Shelf_smallestPair 3 R_Shelf (some .int) D CL (TY g)) (hP : va_P D CL (WX g ad dr pl μ) s.heap) (hκ4 : ∀ (x1 : Int32) (x2 : Int32) (ls : Array Slot), lv_has ls 3 [(0, .ref (ad 41)), (1, .int x1), (2, .int x2)] → κ4 x1 x2 = some r → WR p l e rm_Shelf_smallestPair s m args below meth c (.int r) (F0 m 4 ls [])) (hl : lv_has ls 3 [(0, .ref (ad 41)), (1, .int x1), (2, .int x2)]) (hf : f_Shelf_smallestPair_29 κ4 μ n x1 x2 = some r) : WR p l e rm_Shelf_smallestPair s m args below meth c (.int r) (F0 m 29 ls []) := by
  obtain ⟨S, hr, hlk, hK⟩ := id X
  obtain ⟨hx, hb, hml, hown, hts⟩ := id S
  rw [f_Shelf_smallestPair_29] at hf
  obtain ⟨v1, hv1, hf⟩ := bd_x hf
  refine lv_iinc (lv' := [(2, .int v1), (0, .ref (ad 41)), (1, .int x1)]) hx hb d_Shelf_smallestPair_29 hl (k := 2) rfl (show x2 + Int32.ofInt (1) = v1 from hv1) (Nat.le_of_ble_eq_true rfl) rfl (fun ls hl => ?_)
  refine lv_goto (tgt := 4) hx hb d_Shelf_smallestPair_32 rfl ?_
  exact hκ4 _ _ _ (lv_sub (l' := [(0, .ref (ad 41)), (1, .int x1), (2, .int v1)]) hl [1, 2, 0] rfl) hf
def f_Shelf_smallestPair_4 (μ : Mem) : Nat → Int32 → Int32 → Option Int32
  | 0, _, _ => none
  | n + 1, x1, x2 => (if (μ.1 41 6) ≤ (x2 + (1 : Int32)) then (some x1) else (cl (f_Shelf_pairSize n μ x2) (fun v1 => cl (f_Shelf_pairSize n μ x1) (fun v2 => (if v2 ≤ v1 then (f_Shelf_smallestPair_29 (f_Shelf_smallestPair_4 μ n) μ n x1 x2) else (f_Shelf_smallestPair_29 (f_Shelf_smallestPair_4 μ n) μ n x2 x2))))))
set_option maxHeartbeats 4000000 in
set_option maxRecDepth 100000 in
theorem w_Shelf_smallestPair_4 {p : Program} {l : Launch} {e : Env} {s : State} {m : MethodId} {args : Array Value} {below : List Frame} {meth : Method} {c : Code} {D : va_G} {g : Nat → ClassId} {ad : Nat → Nat} {dr : Nat → Option Nat} {pl : va_W} {μ : Mem} {r : Int32} (X : Cx p s m args meth c b_Shelf_smallestPair 3 R_Shelf (some .int) D CL (TY g)) (hP : va_P D CL (WX g ad dr pl μ) s.heap) : ∀ (n : Nat) (x1 : Int32) (x2 : Int32) (ls : Array Slot), lv_has ls 3 [(0, .ref (ad 41)), (1, .int x1), (2, .int x2)] → f_Shelf_smallestPair_4 μ n x1 x2 = some r → WR p l e rm_Shelf_smallestPair s m args below meth c (.int r) (F0 m 4 ls []) := by
  intro n
  induction n with
  | zero => intro x1 x2 ls hl hf; rw [f_Shelf_smallestPair_4] at hf; cases hf
  | succ n ih =>
    intro x1 x2 ls hl hf
    obtain ⟨S, hr, hlk, hK⟩ := id X
    obtain ⟨hx, hb, hml, hown, hts⟩ := id S
    rw [f_Shelf_smallestPair_4] at hf
    refine lv_iload_n hx hb d_Shelf_smallestPair_4 rfl (lv_at hl 2 rfl) ?_
    refine lv_iconst (v := 1) hx hb d_Shelf_smallestPair_5 (by decide) ?_
    refine lv_iadd hx hb d_Shelf_smallestPair_6 ?_
    refine lv_aload_n hx hb d_Shelf_smallestPair_7 rfl (lv_at hl 0 rfl) ?_
    refine xg_41_6 hx hb hts hown hK hP q_230 d_Shelf_smallestPair_8 ?_
    refine lv_icmp_ge (tgt := 35) hx hb d_Shelf_smallestPair_11 rfl (fun hc => ?_) (fun hc => ?_)
    · replace hf := br_p hc hf
      refine lv_iload_n hx hb d_Shelf_smallestPair_35 rfl (lv_at hl 1 rfl) ?_
      have h1 := Option.some.inj hf
      subst h1
      exact W.iret hx hb hr (fun t ht _ => ⟨rfl, ht⟩) (fun _ h => by cases h) d_Shelf_smallestPair_36
    · replace hf := br_n hc hf
      refine lv_aload_n hx hb d_Shelf_smallestPair_14 rfl (lv_at hl 0 rfl) ?_
      refine lv_iload_n hx hb d_Shelf_smallestPair_15 rfl (lv_at hl 2 rfl) ?_
      obtain ⟨v1, hv1, hf⟩ := cl_x hf
      refine rdV (As := [.int x2]) (rest := []) S K_Shelf_pairSize q_748 (c_Shelf_pairSize hv1) hK hP ⟨rfl, rfl⟩ ⟨Nat.le_of_ble_eq_true rfl, Nat.le_of_ble_eq_true rfl⟩ (xr_41 hK hP) rfl hl.1 rfl (Nat.le_of_ble_eq_true rfl) d_Shelf_smallestPair_16 ⟨Nat.le_refl _, Nat.le_refl _⟩ ?_
      refine lv_aload_n hx hb d_Shelf_smallestPair_19 rfl (lv_at hl 0 rfl) ?_
      refine lv_iload_n hx hb d_Shelf_smallestPair_20 rfl (lv_at hl 1 rfl) ?_
      obtain ⟨v2, hv2, hf⟩ := cl_x hf
      refine rdV (As := [.int x1]) (rest := [.int v1]) S K_Shelf_pairSize q_748 (c_Shelf_pairSize hv2) hK hP ⟨rfl, rfl⟩ ⟨Nat.le_of_ble_eq_true rfl, Nat.le_of_ble_eq_true rfl⟩ (xr_41 hK hP) rfl hl.1 rfl (Nat.le_of_ble_eq_true rfl) d_Shelf_smallestPair_21 ⟨Nat.le_refl _, Nat.le_refl _⟩ ?_
      refine lv_icmp_ge (tgt := 29) hx hb d_Shelf_smallestPair_24 rfl (fun hc => ?_) (fun hc => ?_)
      · replace hf := br_p hc hf
        exact w_Shelf_smallestPair_29 X hP ih (lv_sub (l' := [(0, .ref (ad 41)), (1, .int x1), (2, .int x2)]) hl [0, 1, 2] rfl) hf
      · replace hf := br_n hc hf
        refine lv_iload_n hx hb d_Shelf_smallestPair_27 rfl (lv_at hl 2 rfl) ?_
        refine lv_istore_n (lv' := [(1, .int x2), (0, .ref (ad 41)), (2, .int x2)]) hx hb d_Shelf_smallestPair_28 rfl hl (Nat.le_of_ble_eq_true rfl) rfl (fun ls hl => ?_)
        exact w_Shelf_smallestPair_29 X hP ih (lv_sub (l' := [(0, .ref (ad 41)), (1, .int x2), (2, .int x2)]) hl [1, 0, 2] rfl) hf
def f_Shelf_smallestPair (n : Nat) (μ : Mem) : Option Int32 := f_Shelf_smallestPair_4 μ n (0 : Int32) (1 : Int32)
set_option maxHeartbeats 4000000 in
set_option maxRecDepth 100000 in
theorem w_Shelf_smallestPair {p : Program} {l : Launch} {e : Env} {s : State} {m : MethodId} {args : Array Value} {below : List Frame} {meth : Method} {c : Code} {D : va_G} {g : Nat → ClassId} {ad : Nat → Nat} {dr : Nat → Option Nat} {pl : va_W} {μ : Mem} {r : Int32} {n : Nat} {ls : Array Slot} (X : Cx p s m args meth c b_Shelf_smallestPair 3 R_Shelf (some .int) D CL (TY g)) (hP : va_P D CL (WX g ad dr pl μ) s.heap) (hl : lv_has ls 3 [(0, .ref (ad 41))]) (hf : f_Shelf_smallestPair n μ = some r) : WR p l e rm_Shelf_smallestPair s m args below meth c (.int r) (F0 m 0 ls []) := by
  obtain ⟨S, hr, hlk, hK⟩ := id X
  obtain ⟨hx, hb, hml, hown, hts⟩ := id S
  rw [f_Shelf_smallestPair] at hf
  refine lv_iconst (v := 0) hx hb d_Shelf_smallestPair_0 (by decide) ?_
  refine lv_istore_n (lv' := [(1, .int (0 : Int32)), (0, .ref (ad 41))]) hx hb d_Shelf_smallestPair_1 rfl hl (Nat.le_of_ble_eq_true rfl) rfl (fun ls hl => ?_)
  refine lv_iconst (v := 1) hx hb d_Shelf_smallestPair_2 (by decide) ?_
  refine lv_istore_n (lv' := [(2, .int (1 : Int32)), (1, .int (0 : Int32)), (0, .ref (ad 41))]) hx hb d_Shelf_smallestPair_3 rfl hl (Nat.le_of_ble_eq_true rfl) rfl (fun ls hl => ?_)
  exact w_Shelf_smallestPair_4 X hP _ _ _ _ (lv_sub (l' := [(0, .ref (ad 41)), (1, .int (0 : Int32)), (2, .int (1 : Int32))]) hl [2, 1, 0] rfl) hf
theorem c_Shelf_smallestPair {l : Launch} {D : va_G} {g : Nat → ClassId} {ad : Nat → Nat} {dr : Nat → Option Nat} {pl : va_W} {μ : Mem} {r : Int32} {n : Nat} (hf : f_Shelf_smallestPair n μ = some r) : Met l y_Shelf_smallestPair (Cond.code y_Shelf_smallestPair b_Shelf_smallestPair 3 (some .int) :: ww) rm_Shelf_smallestPair (RP D CL (TY g) (WX g ad dr pl μ) [.ref (ad 41)]) (k2_QcV (.int r)) 0 0 (fun _ => False) := by
  refine met_of (by decide) (Nat.le_of_ble_eq_true rfl) ?_
  intro p e s m below meth c ls X hP hl
  have hl : lv_has ls 3 [(0, .ref (ad 41))] := hl
  exact w_Shelf_smallestPair X hP hl hf
