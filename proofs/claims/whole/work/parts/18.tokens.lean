theorem d_TokenRow_put_0 : decode b_TokenRow_put 0 = .ok (.aload_n 0, 1) := by decide +kernel
theorem d_TokenRow_put_1 : decode b_TokenRow_put 1 = .ok (.getfield 35, 3) := by decide +kernel
theorem d_TokenRow_put_4 : decode b_TokenRow_put 4 = .ok (.bipush 24, 2) := by decide +kernel
theorem d_TokenRow_put_6 : decode b_TokenRow_put 6 = .ok (.if_icmp .lt 4, 3) := by decide +kernel
theorem d_TokenRow_put_9 : decode b_TokenRow_put 9 = .ok (.return_, 1) := by decide +kernel
theorem d_TokenRow_put_10 : decode b_TokenRow_put 10 = .ok (.aload_n 0, 1) := by decide +kernel
theorem d_TokenRow_put_11 : decode b_TokenRow_put 11 = .ok (.getfield 19, 3) := by decide +kernel
theorem d_TokenRow_put_14 : decode b_TokenRow_put 14 = .ok (.aload_n 0, 1) := by decide +kernel
theorem d_TokenRow_put_15 : decode b_TokenRow_put 15 = .ok (.getfield 35, 3) := by decide +kernel
theorem d_TokenRow_put_18 : decode b_TokenRow_put 18 = .ok (.aload_n 0, 1) := by decide +kernel
theorem d_TokenRow_put_19 : decode b_TokenRow_put 19 = .ok (.getfield 9, 3) := by decide +kernel
theorem d_TokenRow_put_22 : decode b_TokenRow_put 22 = .ok (.iload_n 1, 1) := by decide +kernel
theorem d_TokenRow_put_23 : decode b_TokenRow_put 23 = .ok (.invokevirtual 72, 3) := by decide +kernel
theorem d_TokenRow_put_26 : decode b_TokenRow_put 26 = .ok (.iload_n 2, 1) := by decide +kernel
theorem d_TokenRow_put_27 : decode b_TokenRow_put 27 = .ok (.iadd, 1) := by decide +kernel
theorem d_TokenRow_put_28 : decode b_TokenRow_put 28 = .ok (.iastore, 1) := by decide +kernel
theorem d_TokenRow_put_29 : decode b_TokenRow_put 29 = .ok (.aload_n 0, 1) := by decide +kernel
theorem d_TokenRow_put_30 : decode b_TokenRow_put 30 = .ok (.getfield 23, 3) := by decide +kernel
theorem d_TokenRow_put_33 : decode b_TokenRow_put 33 = .ok (.aload_n 0, 1) := by decide +kernel
theorem d_TokenRow_put_34 : decode b_TokenRow_put 34 = .ok (.getfield 35, 3) := by decide +kernel
theorem d_TokenRow_put_37 : decode b_TokenRow_put 37 = .ok (.iload_n 3, 1) := by decide +kernel
theorem d_TokenRow_put_38 : decode b_TokenRow_put 38 = .ok (.iastore, 1) := by decide +kernel
theorem d_TokenRow_put_39 : decode b_TokenRow_put 39 = .ok (.aload_n 0, 1) := by decide +kernel
theorem d_TokenRow_put_40 : decode b_TokenRow_put 40 = .ok (.getfield 26, 3) := by decide +kernel
theorem d_TokenRow_put_43 : decode b_TokenRow_put 43 = .ok (.aload_n 0, 1) := by decide +kernel
theorem d_TokenRow_put_44 : decode b_TokenRow_put 44 = .ok (.getfield 35, 3) := by decide +kernel
theorem d_TokenRow_put_47 : decode b_TokenRow_put 47 = .ok (.aload_n 0, 1) := by decide +kernel
theorem d_TokenRow_put_48 : decode b_TokenRow_put 48 = .ok (.getfield 9, 3) := by decide +kernel
theorem d_TokenRow_put_51 : decode b_TokenRow_put 51 = .ok (.iload_n 1, 1) := by decide +kernel
theorem d_TokenRow_put_52 : decode b_TokenRow_put 52 = .ok (.invokevirtual 75, 3) := by decide +kernel
theorem d_TokenRow_put_55 : decode b_TokenRow_put 55 = .ok (.iastore, 1) := by decide +kernel
theorem d_TokenRow_put_56 : decode b_TokenRow_put 56 = .ok (.aload_n 0, 1) := by decide +kernel
theorem d_TokenRow_put_57 : decode b_TokenRow_put 57 = .ok (.getfield 29, 3) := by decide +kernel
theorem d_TokenRow_put_60 : decode b_TokenRow_put 60 = .ok (.aload_n 0, 1) := by decide +kernel
theorem d_TokenRow_put_61 : decode b_TokenRow_put 61 = .ok (.getfield 35, 3) := by decide +kernel
theorem d_TokenRow_put_64 : decode b_TokenRow_put 64 = .ok (.aload_n 0, 1) := by decide +kernel
theorem d_TokenRow_put_65 : decode b_TokenRow_put 65 = .ok (.getfield 9, 3) := by decide +kernel
theorem d_TokenRow_put_68 : decode b_TokenRow_put 68 = .ok (.iload_n 1, 1) := by decide +kernel
theorem d_TokenRow_put_69 : decode b_TokenRow_put 69 = .ok (.invokevirtual 56, 3) := by decide +kernel
theorem d_TokenRow_put_72 : decode b_TokenRow_put 72 = .ok (.iastore, 1) := by decide +kernel
theorem d_TokenRow_put_73 : decode b_TokenRow_put 73 = .ok (.aload_n 0, 1) := by decide +kernel
theorem d_TokenRow_put_74 : decode b_TokenRow_put 74 = .ok (.getfield 32, 3) := by decide +kernel
theorem d_TokenRow_put_77 : decode b_TokenRow_put 77 = .ok (.aload_n 0, 1) := by decide +kernel
theorem d_TokenRow_put_78 : decode b_TokenRow_put 78 = .ok (.getfield 35, 3) := by decide +kernel
theorem d_TokenRow_put_81 : decode b_TokenRow_put 81 = .ok (.iconst (-1), 1) := by decide +kernel
theorem d_TokenRow_put_82 : decode b_TokenRow_put 82 = .ok (.iastore, 1) := by decide +kernel
theorem d_TokenRow_put_83 : decode b_TokenRow_put 83 = .ok (.aload_n 0, 1) := by decide +kernel
theorem d_TokenRow_put_84 : decode b_TokenRow_put 84 = .ok (.dup, 1) := by decide +kernel
theorem d_TokenRow_put_85 : decode b_TokenRow_put 85 = .ok (.getfield 35, 3) := by decide +kernel
theorem d_TokenRow_put_88 : decode b_TokenRow_put 88 = .ok (.iconst 1, 1) := by decide +kernel
theorem d_TokenRow_put_89 : decode b_TokenRow_put 89 = .ok (.iadd, 1) := by decide +kernel
theorem d_TokenRow_put_90 : decode b_TokenRow_put 90 = .ok (.putfield 35, 3) := by decide +kernel
theorem d_TokenRow_put_93 : decode b_TokenRow_put 93 = .ok (.return_, 1) := by decide +kernel
abbrev rm_TokenRow_put : Room := { frames := 1, cells := 0, slots := 0, locals := 21 }
def f_TokenRow_put (n : Nat) (μ : Mem) (a1 : Int32) (a2 : Int32) (a3 : Int32) : Option Mem := (if (μ.1 35 7) < (24 : Int32) then (cl (f_Lattice_begin n μ a1) (fun v1 => gd (inb (μ.1 35 7) 24) (bd (wi μ 36 (μ.1 35 7).toNatClampNeg (v1 + a2)) (fun μ2 => gd (inb (μ2.1 35 7) 24) (bd (wi μ2 37 (μ2.1 35 7).toNatClampNeg a3) (fun μ3 => cl (f_Lattice_part n μ3 a1) (fun v4 => gd (inb (μ3.1 35 7) 24) (bd (wi μ3 38 (μ3.1 35 7).toNatClampNeg v4) (fun μ5 => cl (f_Lattice_entry n μ5 a1) (fun v6 => gd (inb (μ5.1 35 7) 24) (bd (wi μ5 39 (μ5.1 35 7).toNatClampNeg v6) (fun μ7 => gd (inb (μ7.1 35 7) 24) (bd (wi μ7 40 (μ7.1 35 7).toNatClampNeg (-1 : Int32)) (fun μ8 => bd (wi μ8 35 7 ((μ8.1 35 7) + (1 : Int32))) (fun μ9 => some μ9))))))))))))))) else (some μ))
set_option maxHeartbeats 4000000 in
set_option maxRecDepth 100000 in
theorem w_TokenRow_put {p : Program} {l : Launch} {e : Env} {s : State} {m : MethodId} {args : Array Value} {below : List Frame} {meth : Method} {c : Code} {D : va_G} {g : Nat → ClassId} {ad : Nat → Nat} {dr : Nat → Option Nat} {pl : va_W} {μ' : Mem} {A : Nat → Prop} {n : Nat} {μ : Mem} {a1 : Int32} {a2 : Int32} {a3 : Int32} {ls : Array Slot} {H : Heap} {locs : List Loc} (X : Cx p s m args meth c b_TokenRow_put 4 R_TokenRow none D CL (TY g)) (hDA : ∀ μ : Mem, va_D A (WX g ad dr pl μ)) (hP : va_P D CL (WX g ad dr pl μ) H) (hS : va_S A s.heap H locs) (hl : lv_has ls 4 [(0, .ref (ad 35)), (1, .int a1), (2, .int a2), (3, .int a3)]) (hf : f_TokenRow_put n μ a1 a2 a3 = some μ') : WU p l e rm_TokenRow_put s m args below meth c H locs D (WX g ad dr pl μ') A none (F0 m 0 ls []) := by
  obtain ⟨S, hr, hlk, hK⟩ := id X
  obtain ⟨hx, hb, hml, hown, hts⟩ := id S
  rw [f_TokenRow_put] at hf
  refine lv_aload_n hx hb d_TokenRow_put_0 rfl (lv_at hl 0 rfl) ?_
  refine xg_35_7 hx hb hts hown hK hP q_198 d_TokenRow_put_1 ?_
  refine lv_bipush (v := 24) hx hb d_TokenRow_put_4 (by decide) ?_
  refine lv_icmp_lt (tgt := 10) hx hb d_TokenRow_put_6 rfl (fun hc => ?_) (fun hc => ?_)
  · replace hf := br_p hc hf
    refine lv_aload_n hx hb d_TokenRow_put_10 rfl (lv_at hl 0 rfl) ?_
    refine xg_35_2 hx hb hts hown hK hP q_193 d_TokenRow_put_11 ?_
    refine lv_aload_n hx hb d_TokenRow_put_14 rfl (lv_at hl 0 rfl) ?_
    refine xg_35_7 hx hb hts hown hK hP q_198 d_TokenRow_put_15 ?_
    refine lv_aload_n hx hb d_TokenRow_put_18 rfl (lv_at hl 0 rfl) ?_
    refine xg_35_0 hx hb hts hown hK hP q_191 d_TokenRow_put_19 ?_
    refine lv_iload_n hx hb d_TokenRow_put_22 rfl (lv_at hl 1 rfl) ?_
    obtain ⟨v1, hv1, hf⟩ := cl_x hf
    refine rdV (As := [.int a1]) (rest := [.int (μ.1 35 7), .ref (ad 36)]) S K_Lattice_begin q_566 (c_Lattice_begin hv1) hK hP ⟨rfl, rfl⟩ ⟨Nat.le_of_ble_eq_true rfl, Nat.le_of_ble_eq_true rfl⟩ (xr_18 hK hP) rfl hl.1 rfl (Nat.le_of_ble_eq_true rfl) d_TokenRow_put_23 ⟨Nat.le_refl _, Nat.le_refl _⟩ ?_
    refine lv_iload_n hx hb d_TokenRow_put_26 rfl (lv_at hl 2 rfl) ?_
    refine lv_iadd hx hb d_TokenRow_put_27 ?_
    obtain ⟨hi, hf⟩ := gd_x hf
    obtain ⟨μ2, hμ2, hf⟩ := bd_x hf
    refine xs_36 hx hb hK (hDA _) hP hS (inb_in hi) d_TokenRow_put_28 hμ2 (fun H locs hP hS => ?_)
    refine lv_aload_n hx hb d_TokenRow_put_29 rfl (lv_at hl 0 rfl) ?_
    refine xg_35_3 hx hb hts hown hK hP q_194 d_TokenRow_put_30 ?_
    refine lv_aload_n hx hb d_TokenRow_put_33 rfl (lv_at hl 0 rfl) ?_
    refine xg_35_7 hx hb hts hown hK hP q_198 d_TokenRow_put_34 ?_
    refine lv_iload_n hx hb d_TokenRow_put_37 rfl (lv_at hl 3 rfl) ?_
    obtain ⟨hi, hf⟩ := gd_x hf
    obtain ⟨μ3, hμ3, hf⟩ := bd_x hf
    refine xs_37 hx hb hK (hDA _) hP hS (inb_in hi) d_TokenRow_put_38 hμ3 (fun H locs hP hS => ?_)
    refine lv_aload_n hx hb d_TokenRow_put_39 rfl (lv_at hl 0 rfl) ?_
    refine xg_35_4 hx hb hts hown hK hP q_195 d_TokenRow_put_40 ?_
    refine lv_aload_n hx hb d_TokenRow_put_43 rfl (lv_at hl 0 rfl) ?_
    refine xg_35_7 hx hb hts hown hK hP q_198 d_TokenRow_put_44 ?_
    refine lv_aload_n hx hb d_TokenRow_put_47 rfl (lv_at hl 0 rfl) ?_
    refine xg_35_0 hx hb hts hown hK hP q_191 d_TokenRow_put_48 ?_
    refine lv_iload_n hx hb d_TokenRow_put_51 rfl (lv_at hl 1 rfl) ?_
    obtain ⟨v4, hv4, hf⟩ := cl_x hf
    refine rdV (As := [.int a1]) (rest := [.int (μ3.1 35 7), .ref (ad 38)]) S K_Lattice_part q_567 (c_Lattice_part hv4) hK hP ⟨rfl, rfl⟩ ⟨Nat.le_of_ble_eq_true rfl, Nat.le_of_ble_eq_true rfl⟩ (xr_18 hK hP) rfl hl.1 rfl (Nat.le_of_ble_eq_true rfl) d_TokenRow_put_52 ⟨Nat.le_refl _, Nat.le_refl _⟩ ?_
    obtain ⟨hi, hf⟩ := gd_x hf
    obtain ⟨μ5, hμ5, hf⟩ := bd_x hf
    refine xs_38 hx hb hK (hDA _) hP hS (inb_in hi) d_TokenRow_put_55 hμ5 (fun H locs hP hS => ?_)
    refine lv_aload_n hx hb d_TokenRow_put_56 rfl (lv_at hl 0 rfl) ?_
    refine xg_35_5 hx hb hts hown hK hP q_196 d_TokenRow_put_57 ?_
    refine lv_aload_n hx hb d_TokenRow_put_60 rfl (lv_at hl 0 rfl) ?_
    refine xg_35_7 hx hb hts hown hK hP q_198 d_TokenRow_put_61 ?_
    refine lv_aload_n hx hb d_TokenRow_put_64 rfl (lv_at hl 0 rfl) ?_
    refine xg_35_0 hx hb hts hown hK hP q_191 d_TokenRow_put_65 ?_
    refine lv_iload_n hx hb d_TokenRow_put_68 rfl (lv_at hl 1 rfl) ?_
    obtain ⟨v6, hv6, hf⟩ := cl_x hf
    refine rdV (As := [.int a1]) (rest := [.int (μ5.1 35 7), .ref (ad 39)]) S K_Lattice_entry q_553 (c_Lattice_entry hv6) hK hP ⟨rfl, rfl⟩ ⟨Nat.le_of_ble_eq_true rfl, Nat.le_of_ble_eq_true rfl⟩ (xr_18 hK hP) rfl hl.1 rfl (Nat.le_of_ble_eq_true rfl) d_TokenRow_put_69 ⟨Nat.le_refl _, Nat.le_refl _⟩ ?_
    obtain ⟨hi, hf⟩ := gd_x hf
    obtain ⟨μ7, hμ7, hf⟩ := bd_x hf
    refine xs_39 hx hb hK (hDA _) hP hS (inb_in hi) d_TokenRow_put_72 hμ7 (fun H locs hP hS => ?_)
    refine lv_aload_n hx hb d_TokenRow_put_73 rfl (lv_at hl 0 rfl) ?_
    refine xg_35_6 hx hb hts hown hK hP q_197 d_TokenRow_put_74 ?_
    refine lv_aload_n hx hb d_TokenRow_put_77 rfl (lv_at hl 0 rfl) ?_
    refine xg_35_7 hx hb hts hown hK hP q_198 d_TokenRow_put_78 ?_
    refine lv_iconst (v := -1) hx hb d_TokenRow_put_81 (by decide) ?_
    obtain ⟨hi, hf⟩ := gd_x hf
    obtain ⟨μ8, hμ8, hf⟩ := bd_x hf
    refine xs_40 hx hb hK (hDA _) hP hS (inb_in hi) d_TokenRow_put_82 hμ8 (fun H locs hP hS => ?_)
    refine lv_aload_n hx hb d_TokenRow_put_83 rfl (lv_at hl 0 rfl) ?_
    refine lv_dup hx hb d_TokenRow_put_84 rfl ?_
    refine xg_35_7 hx hb hts hown hK hP q_198 d_TokenRow_put_85 ?_
    refine lv_iconst (v := 1) hx hb d_TokenRow_put_88 (by decide) ?_
    refine lv_iadd hx hb d_TokenRow_put_89 ?_
    obtain ⟨μ9, hμ9, hf⟩ := bd_x hf
    refine xp_35_7 hx hb hts hown hK (hDA _) hP hS q_198 d_TokenRow_put_90 hμ9 (fun H locs hP hS => ?_)
    obtain rfl := Option.some.inj hf
    exact W.vret hx hb hr (fun t ht _ => ⟨rfl, by rw [ht]; exact hP, hS.F ht⟩) hS.2.2 d_TokenRow_put_93
  · replace hf := br_n hc hf
    obtain rfl := Option.some.inj hf
    exact W.vret hx hb hr (fun t ht _ => ⟨rfl, by rw [ht]; exact hP, hS.F ht⟩) hS.2.2 d_TokenRow_put_9
theorem c_TokenRow_put {l : Launch} {D : va_G} {g : Nat → ClassId} {ad : Nat → Nat} {dr : Nat → Option Nat} {pl : va_W} {μ : Mem} {μ' : Mem} {A : Nat → Prop} {n : Nat} {a1 : Int32} {a2 : Int32} {a3 : Int32} (hDA : ∀ μ : Mem, va_D A (WX g ad dr pl μ)) (hf : f_TokenRow_put n μ a1 a2 a3 = some μ') : Met l y_TokenRow_put (Cond.code y_TokenRow_put b_TokenRow_put 4 none :: ww) rm_TokenRow_put (RP D CL (TY g) (WX g ad dr pl μ) [.ref (ad 35), .int a1, .int a2, .int a3]) (QW D CL (WX g ad dr pl μ') A none) 0 0 A := by
  refine met_of (by decide) (Nat.le_of_ble_eq_true rfl) ?_
  intro p e s m below meth c ls X hP hl
  have hl : lv_has ls 4 [(0, .ref (ad 35)), (1, .int a1), (2, .int a2), (3, .int a3)] := hl
  exact w_TokenRow_put X hDA hP va_S.rf hl hf
theorem d_TokenRow_putPieces_0 : decode b_TokenRow_putPieces 0 = .ok (.aload_n 0, 1) := by decide +kernel
theorem d_TokenRow_putPieces_1 : decode b_TokenRow_putPieces 1 = .ok (.getfield 15, 3) := by decide +kernel
theorem d_TokenRow_putPieces_4 : decode b_TokenRow_putPieces 4 = .ok (.aload_n 0, 1) := by decide +kernel
theorem d_TokenRow_putPieces_5 : decode b_TokenRow_putPieces 5 = .ok (.getfield 9, 3) := by decide +kernel
theorem d_TokenRow_putPieces_8 : decode b_TokenRow_putPieces 8 = .ok (.iload_n 1, 1) := by decide +kernel
theorem d_TokenRow_putPieces_9 : decode b_TokenRow_putPieces 9 = .ok (.invokevirtual 56, 3) := by decide +kernel
theorem d_TokenRow_putPieces_12 : decode b_TokenRow_putPieces 12 = .ok (.invokevirtual 61, 3) := by decide +kernel
theorem d_TokenRow_putPieces_15 : decode b_TokenRow_putPieces 15 = .ok (.istore_n 2, 1) := by decide +kernel
theorem d_TokenRow_putPieces_16 : decode b_TokenRow_putPieces 16 = .ok (.aload_n 0, 1) := by decide +kernel
theorem d_TokenRow_putPieces_17 : decode b_TokenRow_putPieces 17 = .ok (.getfield 9, 3) := by decide +kernel
theorem d_TokenRow_putPieces_20 : decode b_TokenRow_putPieces 20 = .ok (.iload_n 1, 1) := by decide +kernel
theorem d_TokenRow_putPieces_21 : decode b_TokenRow_putPieces 21 = .ok (.invokevirtual 66, 3) := by decide +kernel
theorem d_TokenRow_putPieces_24 : decode b_TokenRow_putPieces 24 = .ok (.istore_n 3, 1) := by decide +kernel
theorem d_TokenRow_putPieces_25 : decode b_TokenRow_putPieces 25 = .ok (.iconst 0, 1) := by decide +kernel
theorem d_TokenRow_putPieces_26 : decode b_TokenRow_putPieces 26 = .ok (.istore 4, 2) := by decide +kernel
theorem d_TokenRow_putPieces_28 : decode b_TokenRow_putPieces 28 = .ok (.iconst 1, 1) := by decide +kernel
theorem d_TokenRow_putPieces_29 : decode b_TokenRow_putPieces 29 = .ok (.istore 5, 2) := by decide +kernel
theorem d_TokenRow_putPieces_31 : decode b_TokenRow_putPieces 31 = .ok (.iload 5, 2) := by decide +kernel
theorem d_TokenRow_putPieces_33 : decode b_TokenRow_putPieces 33 = .ok (.iload_n 3, 1) := by decide +kernel
theorem d_TokenRow_putPieces_34 : decode b_TokenRow_putPieces 34 = .ok (.if_icmp .gt 40, 3) := by decide +kernel
theorem d_TokenRow_putPieces_37 : decode b_TokenRow_putPieces 37 = .ok (.iload 5, 2) := by decide +kernel
theorem d_TokenRow_putPieces_39 : decode b_TokenRow_putPieces 39 = .ok (.iload_n 3, 1) := by decide +kernel
theorem d_TokenRow_putPieces_40 : decode b_TokenRow_putPieces 40 = .ok (.if_icmp .eq 12, 3) := by decide +kernel
theorem d_TokenRow_putPieces_43 : decode b_TokenRow_putPieces 43 = .ok (.iload_n 2, 1) := by decide +kernel
theorem d_TokenRow_putPieces_44 : decode b_TokenRow_putPieces 44 = .ok (.iload 5, 2) := by decide +kernel
theorem d_TokenRow_putPieces_46 : decode b_TokenRow_putPieces 46 = .ok (.ishr, 1) := by decide +kernel
theorem d_TokenRow_putPieces_47 : decode b_TokenRow_putPieces 47 = .ok (.iconst 1, 1) := by decide +kernel
theorem d_TokenRow_putPieces_48 : decode b_TokenRow_putPieces 48 = .ok (.iand, 1) := by decide +kernel
theorem d_TokenRow_putPieces_49 : decode b_TokenRow_putPieces 49 = .ok (.ifCond .eq 19, 3) := by decide +kernel
theorem d_TokenRow_putPieces_52 : decode b_TokenRow_putPieces 52 = .ok (.aload_n 0, 1) := by decide +kernel
theorem d_TokenRow_putPieces_53 : decode b_TokenRow_putPieces 53 = .ok (.iload_n 1, 1) := by decide +kernel
theorem d_TokenRow_putPieces_54 : decode b_TokenRow_putPieces 54 = .ok (.iload 4, 2) := by decide +kernel
theorem d_TokenRow_putPieces_56 : decode b_TokenRow_putPieces 56 = .ok (.iload 5, 2) := by decide +kernel
theorem d_TokenRow_putPieces_58 : decode b_TokenRow_putPieces 58 = .ok (.iload 4, 2) := by decide +kernel
theorem d_TokenRow_putPieces_60 : decode b_TokenRow_putPieces 60 = .ok (.isub, 1) := by decide +kernel
theorem d_TokenRow_putPieces_61 : decode b_TokenRow_putPieces 61 = .ok (.invokevirtual 68, 3) := by decide +kernel
theorem d_TokenRow_putPieces_64 : decode b_TokenRow_putPieces 64 = .ok (.iload 5, 2) := by decide +kernel
theorem d_TokenRow_putPieces_66 : decode b_TokenRow_putPieces 66 = .ok (.istore 4, 2) := by decide +kernel
theorem d_TokenRow_putPieces_68 : decode b_TokenRow_putPieces 68 = .ok (.iinc 5 1, 3) := by decide +kernel
theorem d_TokenRow_putPieces_71 : decode b_TokenRow_putPieces 71 = .ok (.goto (-40), 3) := by decide +kernel
theorem d_TokenRow_putPieces_74 : decode b_TokenRow_putPieces 74 = .ok (.return_, 1) := by decide +kernel
abbrev rm_TokenRow_putPieces : Room := { frames := 2, cells := 0, slots := 0, locals := 44 }
def f_TokenRow_putPieces_68 (κ31 : Mem → Int32 → Int32 → Int32 → Int32 → Int32 → Option Mem) (n : Nat) (μ : Mem) (x1 : Int32) (x2 : Int32) (x3 : Int32) (x4 : Int32) (x5 : Int32) : Option Mem := bd (x5 + 1) (fun v1 => κ31 μ x1 x2 x3 x4 v1)
set_option maxHeartbeats 4000000 in
set_option maxRecDepth 100000 in
theorem w_TokenRow_putPieces_68 {p : Program} {l : Launch} {e : Env} {s : State} {m : MethodId} {args : Array Value} {below : List Frame} {meth : Method} {c : Code} {D : va_G} {g : Nat → ClassId} {ad : Nat → Nat} {dr : Nat → Option Nat} {pl : va_W} {μ' : Mem} {A : Nat → Prop} {κ31 : Mem → Int32 → Int32 → Int32 → Int32 → Int32 → Option Mem} {n : Nat} {μ : Mem} {x1 : Int32} {x2 : Int32} {x3 : Int32} {x4 : Int32} {x5 : Int32} {ls : Array Slot} {H : Heap} {locs : List Loc} (X : Cx p s m args meth c b_TokenRow_putPieces 6 R_TokenRow none D CL (TY g)) (hDA : ∀ μ : Mem, va_D A (WX g ad dr pl μ)) (hκ31 : ∀ (μ : Mem) (x1 : Int32) (x2 : Int32) (x3 : Int32) (x4 : Int32) (x5 : Int32) (ls : Array Slot) (H : Heap) (locs : List Loc), va_P D CL (WX g ad dr pl μ) H → va_S A s.heap H locs → lv_has ls 6 [(0, .ref (ad 35)), (1, .int x1), (2, .int x2), (3, .int x3), (4, .int x4), (5, .int x5)] → κ31 μ x1 x2 x3 x4 x5 = some μ' → WU p l e rm_TokenRow_putPieces s m args below meth c H locs D (WX g ad dr pl μ') A none (F0 m 31 ls [])) (hP : va_P D CL (WX g ad dr pl μ) H) (hS : va_S A s.heap H locs) (hl : lv_has ls 6 [(0, .ref (ad 35)), (1, .int x1), (2, .int x2), (3, .int x3), (4, .int x4), (5, .int x5)]) (hf : f_TokenRow_putPieces_68 κ31 n μ x1 x2 x3 x4 x5 = some μ') : WU p l e rm_TokenRow_putPieces s m args below meth c H locs D (WX g ad dr pl μ') A none (F0 m 68 ls []) := by
  obtain ⟨S, hr, hlk, hK⟩ := id X
  obtain ⟨hx, hb, hml, hown, hts⟩ := id S
  rw [f_TokenRow_putPieces_68] at hf
  obtain ⟨v1, hv1, hf⟩ := bd_x hf
  refine lv_iinc (lv' := [(5, .int v1), (0, .ref (ad 35)), (1, .int x1), (2, .int x2), (3, .int x3), (4, .int x4)]) hx hb d_TokenRow_putPieces_68 hl (k := 5) rfl (show x5 + Int32.ofInt (1) = v1 from hv1) (Nat.le_of_ble_eq_true rfl) rfl (fun ls hl => ?_)
  refine lv_goto (tgt := 31) hx hb d_TokenRow_putPieces_71 rfl ?_
  exact hκ31 _ _ _ _ _ _ _ _ _ hP hS (lv_sub (l' := [(0, .ref (ad 35)), (1, .int x1), (2, .int x2), (3, .int x3), (4, .int x4), (5, .int v1)]) hl [1, 2, 3, 4, 5, 0] rfl) hf
def f_TokenRow_putPieces_52 (κ31 : Mem → Int32 → Int32 → Int32 → Int32 → Int32 → Option Mem) (n : Nat) (μ : Mem) (x1 : Int32) (x2 : Int32) (x3 : Int32) (x4 : Int32) (x5 : Int32) : Option Mem := cl (f_TokenRow_put n μ x1 x4 (x5 - x4)) (fun μ2 => f_TokenRow_putPieces_68 κ31 n μ2 x1 x2 x3 x5 x5)
set_option maxHeartbeats 4000000 in
set_option maxRecDepth 100000 in
theorem w_TokenRow_putPieces_52 {p : Program} {l : Launch} {e : Env} {s : State} {m : MethodId} {args : Array Value} {below : List Frame} {meth : Method} {c : Code} {D : va_G} {g : Nat → ClassId} {ad : Nat → Nat} {dr : Nat → Option Nat} {pl : va_W} {μ' : Mem} {A : Nat → Prop} {κ31 : Mem → Int32 → Int32 → Int32 → Int32 → Int32 → Option Mem} {n : Nat} {μ : Mem} {x1 : Int32} {x2 : Int32} {x3 : Int32} {x4 : Int32} {x5 : Int32} {ls : Array Slot} {H : Heap} {locs : List Loc} (X : Cx p s m args meth c b_TokenRow_putPieces 6 R_TokenRow none D CL (TY g)) (hDA : ∀ μ : Mem, va_D A (WX g ad dr pl μ)) (hκ31 : ∀ (μ : Mem) (x1 : Int32) (x2 : Int32) (x3 : Int32) (x4 : Int32) (x5 : Int32) (ls : Array Slot) (H : Heap) (locs : List Loc), va_P D CL (WX g ad dr pl μ) H → va_S A s.heap H locs → lv_has ls 6 [(0, .ref (ad 35)), (1, .int x1), (2, .int x2), (3, .int x3), (4, .int x4), (5, .int x5)] → κ31 μ x1 x2 x3 x4 x5 = some μ' → WU p l e rm_TokenRow_putPieces s m args below meth c H locs D (WX g ad dr pl μ') A none (F0 m 31 ls [])) (hP : va_P D CL (WX g ad dr pl μ) H) (hS : va_S A s.heap H locs) (hl : lv_has ls 6 [(0, .ref (ad 35)), (1, .int x1), (2, .int x2), (3, .int x3), (4, .int x4), (5, .int x5)]) (hf : f_TokenRow_putPieces_52 κ31 n μ x1 x2 x3 x4 x5 = some μ') : WU p l e rm_TokenRow_putPieces s m args below meth c H locs D (WX g ad dr pl μ') A none (F0 m 52 ls []) := by
  obtain ⟨S, hr, hlk, hK⟩ := id X
  obtain ⟨hx, hb, hml, hown, hts⟩ := id S
  rw [f_TokenRow_putPieces_52] at hf
  refine lv_aload_n hx hb d_TokenRow_putPieces_52 rfl (lv_at hl 0 rfl) ?_
  refine lv_iload_n hx hb d_TokenRow_putPieces_53 rfl (lv_at hl 1 rfl) ?_
  refine lv_iload hx hb d_TokenRow_putPieces_54 (lv_at hl 4 rfl) ?_
  refine lv_iload hx hb d_TokenRow_putPieces_56 (lv_at hl 5 rfl) ?_
  refine lv_iload hx hb d_TokenRow_putPieces_58 (lv_at hl 4 rfl) ?_
  refine lv_isub hx hb d_TokenRow_putPieces_60 ?_
  obtain ⟨μ2, hv1, hf⟩ := cl_x hf
  refine wrV (As := [.int x1, .int x4, .int (x5 - x4)]) (rest := []) S K_TokenRow_put q_562 (c_TokenRow_put hDA hv1) hK hP hS ⟨rfl, rfl⟩ ⟨Nat.le_of_ble_eq_true rfl, Nat.le_of_ble_eq_true rfl⟩ (xr_35 hK hP) rfl hl.1 rfl (Nat.le_of_ble_eq_true rfl) d_TokenRow_putPieces_61 ⟨Nat.le_refl _, Nat.le_refl _⟩ (fun H locs hP hS => ?_)
  refine lv_iload hx hb d_TokenRow_putPieces_64 (lv_at hl 5 rfl) ?_
  refine lv_istore (lv' := [(4, .int x5), (0, .ref (ad 35)), (1, .int x1), (2, .int x2), (3, .int x3), (5, .int x5)]) hx hb d_TokenRow_putPieces_66 hl (Nat.le_of_ble_eq_true rfl) rfl (fun ls hl => ?_)
  exact w_TokenRow_putPieces_68 X hDA hκ31 hP hS (lv_sub (l' := [(0, .ref (ad 35)), (1, .int x1), (2, .int x2), (3, .int x3), (4, .int x5), (5, .int x5)]) hl [1, 2, 3, 4, 0, 5] rfl) hf
def f_TokenRow_putPieces_31 : Nat → Mem → Int32 → Int32 → Int32 → Int32 → Int32 → Option Mem
  | 0, _, _, _, _, _, _ => none
  | n + 1, μ, x1, x2, x3, x4, x5 => (if x3 < x5 then (some μ) else (if x5 = x3 then (f_TokenRow_putPieces_52 (f_TokenRow_putPieces_31 n) n μ x1 x2 x3 x4 x5) else (if ((x2 >>> (x5 &&& 31)) &&& (1 : Int32)) = 0 then (f_TokenRow_putPieces_68 (f_TokenRow_putPieces_31 n) n μ x1 x2 x3 x4 x5) else (f_TokenRow_putPieces_52 (f_TokenRow_putPieces_31 n) n μ x1 x2 x3 x4 x5))))
set_option maxHeartbeats 4000000 in
set_option maxRecDepth 100000 in
theorem w_TokenRow_putPieces_31 {p : Program} {l : Launch} {e : Env} {s : State} {m : MethodId} {args : Array Value} {below : List Frame} {meth : Method} {c : Code} {D : va_G} {g : Nat → ClassId} {ad : Nat → Nat} {dr : Nat → Option Nat} {pl : va_W} {μ' : Mem} {A : Nat → Prop} (X : Cx p s m args meth c b_TokenRow_putPieces 6 R_TokenRow none D CL (TY g)) (hDA : ∀ μ : Mem, va_D A (WX g ad dr pl μ)) : ∀ (n : Nat) (μ : Mem) (x1 : Int32) (x2 : Int32) (x3 : Int32) (x4 : Int32) (x5 : Int32) (ls : Array Slot) (H : Heap) (locs : List Loc), va_P D CL (WX g ad dr pl μ) H → va_S A s.heap H locs → lv_has ls 6 [(0, .ref (ad 35)), (1, .int x1), (2, .int x2), (3, .int x3), (4, .int x4), (5, .int x5)] → f_TokenRow_putPieces_31 n μ x1 x2 x3 x4 x5 = some μ' → WU p l e rm_TokenRow_putPieces s m args below meth c H locs D (WX g ad dr pl μ') A none (F0 m 31 ls []) := by
  intro n
  induction n with
  | zero => intro μ x1 x2 x3 x4 x5 ls H locs hP hS hl hf; rw [f_TokenRow_putPieces_31] at hf; cases hf
  | succ n ih =>
    intro μ x1 x2 x3 x4 x5 ls H locs hP hS hl hf
    obtain ⟨S, hr, hlk, hK⟩ := id X
    obtain ⟨hx, hb, hml, hown, hts⟩ := id S
    rw [f_TokenRow_putPieces_31] at hf
    refine lv_iload hx hb d_TokenRow_putPieces_31 (lv_at hl 5 rfl) ?_
    refine lv_iload_n hx hb d_TokenRow_putPieces_33 rfl (lv_at hl 3 rfl) ?_
    refine lv_icmp_gt (tgt := 74) hx hb d_TokenRow_putPieces_34 rfl (fun hc => ?_) (fun hc => ?_)
    · replace hf := br_p hc hf
      obtain rfl := Option.some.inj hf
      exact W.vret hx hb hr (fun t ht _ => ⟨rfl, by rw [ht]; exact hP, hS.F ht⟩) hS.2.2 d_TokenRow_putPieces_74
    · replace hf := br_n hc hf
      refine lv_iload hx hb d_TokenRow_putPieces_37 (lv_at hl 5 rfl) ?_
      refine lv_iload_n hx hb d_TokenRow_putPieces_39 rfl (lv_at hl 3 rfl) ?_
      refine lv_icmp_eq (tgt := 52) hx hb d_TokenRow_putPieces_40 rfl (fun hc => ?_) (fun hc => ?_)
      · replace hf := br_p hc hf
        exact w_TokenRow_putPieces_52 X hDA ih hP hS (lv_sub (l' := [(0, .ref (ad 35)), (1, .int x1), (2, .int x2), (3, .int x3), (4, .int x4), (5, .int x5)]) hl [0, 1, 2, 3, 4, 5] rfl) hf
      · replace hf := br_n hc hf
        refine lv_iload_n hx hb d_TokenRow_putPieces_43 rfl (lv_at hl 2 rfl) ?_
        refine lv_iload hx hb d_TokenRow_putPieces_44 (lv_at hl 5 rfl) ?_
        refine lv_ishr hx hb d_TokenRow_putPieces_46 ?_
        refine lv_iconst (v := 1) hx hb d_TokenRow_putPieces_47 (by decide) ?_
        refine lv_iand hx hb d_TokenRow_putPieces_48 ?_
        refine lv_if_eq (tgt := 68) hx hb d_TokenRow_putPieces_49 rfl (fun hc => ?_) (fun hc => ?_)
        · replace hf := br_p hc hf
          exact w_TokenRow_putPieces_68 X hDA ih hP hS (lv_sub (l' := [(0, .ref (ad 35)), (1, .int x1), (2, .int x2), (3, .int x3), (4, .int x4), (5, .int x5)]) hl [0, 1, 2, 3, 4, 5] rfl) hf
        · replace hf := br_n hc hf
          exact w_TokenRow_putPieces_52 X hDA ih hP hS (lv_sub (l' := [(0, .ref (ad 35)), (1, .int x1), (2, .int x2), (3, .int x3), (4, .int x4), (5, .int x5)]) hl [0, 1, 2, 3, 4, 5] rfl) hf
def f_TokenRow_putPieces (n : Nat) (μ : Mem) (a1 : Int32) : Option Mem := cl (f_Lattice_entry n μ a1) (fun v1 => cl (f_Lexicon_cuts n μ v1) (fun v2 => cl (f_Lattice_length n μ a1) (fun v3 => f_TokenRow_putPieces_31 n μ a1 v2 v3 (0 : Int32) (1 : Int32))))
set_option maxHeartbeats 4000000 in
set_option maxRecDepth 100000 in
theorem w_TokenRow_putPieces {p : Program} {l : Launch} {e : Env} {s : State} {m : MethodId} {args : Array Value} {below : List Frame} {meth : Method} {c : Code} {D : va_G} {g : Nat → ClassId} {ad : Nat → Nat} {dr : Nat → Option Nat} {pl : va_W} {μ' : Mem} {A : Nat → Prop} {n : Nat} {μ : Mem} {a1 : Int32} {ls : Array Slot} {H : Heap} {locs : List Loc} (X : Cx p s m args meth c b_TokenRow_putPieces 6 R_TokenRow none D CL (TY g)) (hDA : ∀ μ : Mem, va_D A (WX g ad dr pl μ)) (hP : va_P D CL (WX g ad dr pl μ) H) (hS : va_S A s.heap H locs) (hl : lv_has ls 6 [(0, .ref (ad 35)), (1, .int a1)]) (hf : f_TokenRow_putPieces n μ a1 = some μ') : WU p l e rm_TokenRow_putPieces s m args below meth c H locs D (WX g ad dr pl μ') A none (F0 m 0 ls []) := by
  obtain ⟨S, hr, hlk, hK⟩ := id X
  obtain ⟨hx, hb, hml, hown, hts⟩ := id S
  rw [f_TokenRow_putPieces] at hf
  refine lv_aload_n hx hb d_TokenRow_putPieces_0 rfl (lv_at hl 0 rfl) ?_
  refine xg_35_1 hx hb hts hown hK hP q_192 d_TokenRow_putPieces_1 ?_
  refine lv_aload_n hx hb d_TokenRow_putPieces_4 rfl (lv_at hl 0 rfl) ?_
  refine xg_35_0 hx hb hts hown hK hP q_191 d_TokenRow_putPieces_5 ?_
  refine lv_iload_n hx hb d_TokenRow_putPieces_8 rfl (lv_at hl 1 rfl) ?_
  obtain ⟨v1, hv1, hf⟩ := cl_x hf
  refine rdV (As := [.int a1]) (rest := [.ref (ad 3)]) S K_Lattice_entry q_553 (c_Lattice_entry hv1) hK hP ⟨rfl, rfl⟩ ⟨Nat.le_of_ble_eq_true rfl, Nat.le_of_ble_eq_true rfl⟩ (xr_18 hK hP) rfl hl.1 rfl (Nat.le_of_ble_eq_true rfl) d_TokenRow_putPieces_9 ⟨Nat.le_refl _, Nat.le_refl _⟩ ?_
  obtain ⟨v2, hv2, hf⟩ := cl_x hf
  refine rdV (As := [.int v1]) (rest := []) S K_Lexicon_cuts q_557 (c_Lexicon_cuts hv2) hK hP ⟨rfl, rfl⟩ ⟨Nat.le_of_ble_eq_true rfl, Nat.le_of_ble_eq_true rfl⟩ (xr_3 hK hP) rfl hl.1 rfl (Nat.le_of_ble_eq_true rfl) d_TokenRow_putPieces_12 ⟨Nat.le_refl _, Nat.le_refl _⟩ ?_
  refine lv_istore_n (lv' := [(2, .int v2), (0, .ref (ad 35)), (1, .int a1)]) hx hb d_TokenRow_putPieces_15 rfl hl (Nat.le_of_ble_eq_true rfl) rfl (fun ls hl => ?_)
  refine lv_aload_n hx hb d_TokenRow_putPieces_16 rfl (lv_at hl 1 rfl) ?_
  refine xg_35_0 hx hb hts hown hK hP q_191 d_TokenRow_putPieces_17 ?_
  refine lv_iload_n hx hb d_TokenRow_putPieces_20 rfl (lv_at hl 2 rfl) ?_
  obtain ⟨v3, hv3, hf⟩ := cl_x hf
  refine rdV (As := [.int a1]) (rest := []) S K_Lattice_length q_558 (c_Lattice_length hv3) hK hP ⟨rfl, rfl⟩ ⟨Nat.le_of_ble_eq_true rfl, Nat.le_of_ble_eq_true rfl⟩ (xr_18 hK hP) rfl hl.1 rfl (Nat.le_of_ble_eq_true rfl) d_TokenRow_putPieces_21 ⟨Nat.le_refl _, Nat.le_refl _⟩ ?_
  refine lv_istore_n (lv' := [(3, .int v3), (2, .int v2), (0, .ref (ad 35)), (1, .int a1)]) hx hb d_TokenRow_putPieces_24 rfl hl (Nat.le_of_ble_eq_true rfl) rfl (fun ls hl => ?_)
  refine lv_iconst (v := 0) hx hb d_TokenRow_putPieces_25 (by decide) ?_
  refine lv_istore (lv' := [(4, .int (0 : Int32)), (3, .int v3), (2, .int v2), (0, .ref (ad 35)), (1, .int a1)]) hx hb d_TokenRow_putPieces_26 hl (Nat.le_of_ble_eq_true rfl) rfl (fun ls hl => ?_)
  refine lv_iconst (v := 1) hx hb d_TokenRow_putPieces_28 (by decide) ?_
  refine lv_istore (lv' := [(5, .int (1 : Int32)), (4, .int (0 : Int32)), (3, .int v3), (2, .int v2), (0, .ref (ad 35)), (1, .int a1)]) hx hb d_TokenRow_putPieces_29 hl (Nat.le_of_ble_eq_true rfl) rfl (fun ls hl => ?_)
  exact w_TokenRow_putPieces_31 X hDA _ _ _ _ _ _ _ _ _ _ hP hS (lv_sub (l' := [(0, .ref (ad 35)), (1, .int a1), (2, .int v2), (3, .int v3), (4, .int (0 : Int32)), (5, .int (1 : Int32))]) hl [4, 5, 3, 2, 1, 0] rfl) hf
theorem c_TokenRow_putPieces {l : Launch} {D : va_G} {g : Nat → ClassId} {ad : Nat → Nat} {dr : Nat → Option Nat} {pl : va_W} {μ : Mem} {μ' : Mem} {A : Nat → Prop} {n : Nat} {a1 : Int32} (hDA : ∀ μ : Mem, va_D A (WX g ad dr pl μ)) (hf : f_TokenRow_putPieces n μ a1 = some μ') : Met l y_TokenRow_putPieces (Cond.code y_TokenRow_putPieces b_TokenRow_putPieces 6 none :: ww) rm_TokenRow_putPieces (RP D CL (TY g) (WX g ad dr pl μ) [.ref (ad 35), .int a1]) (QW D CL (WX g ad dr pl μ') A none) 0 0 A := by
  refine met_of (by decide) (Nat.le_of_ble_eq_true rfl) ?_
  intro p e s m below meth c ls X hP hl
  have hl : lv_has ls 6 [(0, .ref (ad 35)), (1, .int a1)] := hl
  exact w_TokenRow_putPieces X hDA hP va_S.rf hl hf
theorem d_TokenRow_beginningAt_0 : decode b_TokenRow_beginningAt 0 = .ok (.iconst 0, 1) := by decide +kernel
theorem d_TokenRow_beginningAt_1 : decode b_TokenRow_beginningAt 1 = .ok (.istore_n 2, 1) := by decide +kernel
theorem d_TokenRow_beginningAt_2 : decode b_TokenRow_beginningAt 2 = .ok (.iload_n 2, 1) := by decide +kernel
theorem d_TokenRow_beginningAt_3 : decode b_TokenRow_beginningAt 3 = .ok (.aload_n 0, 1) := by decide +kernel
theorem d_TokenRow_beginningAt_4 : decode b_TokenRow_beginningAt 4 = .ok (.getfield 35, 3) := by decide +kernel
theorem d_TokenRow_beginningAt_7 : decode b_TokenRow_beginningAt 7 = .ok (.if_icmp .ge 21, 3) := by decide +kernel
theorem d_TokenRow_beginningAt_10 : decode b_TokenRow_beginningAt 10 = .ok (.aload_n 0, 1) := by decide +kernel
theorem d_TokenRow_beginningAt_11 : decode b_TokenRow_beginningAt 11 = .ok (.getfield 19, 3) := by decide +kernel
theorem d_TokenRow_beginningAt_14 : decode b_TokenRow_beginningAt 14 = .ok (.iload_n 2, 1) := by decide +kernel
theorem d_TokenRow_beginningAt_15 : decode b_TokenRow_beginningAt 15 = .ok (.iaload, 1) := by decide +kernel
theorem d_TokenRow_beginningAt_16 : decode b_TokenRow_beginningAt 16 = .ok (.iload_n 1, 1) := by decide +kernel
theorem d_TokenRow_beginningAt_17 : decode b_TokenRow_beginningAt 17 = .ok (.if_icmp .ne 5, 3) := by decide +kernel
theorem d_TokenRow_beginningAt_20 : decode b_TokenRow_beginningAt 20 = .ok (.iload_n 2, 1) := by decide +kernel
theorem d_TokenRow_beginningAt_21 : decode b_TokenRow_beginningAt 21 = .ok (.ireturn, 1) := by decide +kernel
theorem d_TokenRow_beginningAt_22 : decode b_TokenRow_beginningAt 22 = .ok (.iinc 2 1, 3) := by decide +kernel
theorem d_TokenRow_beginningAt_25 : decode b_TokenRow_beginningAt 25 = .ok (.goto (-23), 3) := by decide +kernel
theorem d_TokenRow_beginningAt_28 : decode b_TokenRow_beginningAt 28 = .ok (.iconst (-1), 1) := by decide +kernel
theorem d_TokenRow_beginningAt_29 : decode b_TokenRow_beginningAt 29 = .ok (.ireturn, 1) := by decide +kernel
abbrev rm_TokenRow_beginningAt : Room := { frames := 0, cells := 0, slots := 0, locals := 0 }
def f_TokenRow_beginningAt_2 (μ : Mem) : Nat → Int32 → Int32 → Option Int32
  | 0, _, _ => none
  | n + 1, x1, x2 => (if (μ.1 35 7) ≤ x2 then (some (-1 : Int32)) else (gd (inb x2 24) ((if (μ.1 36 x2.toNatClampNeg) = x1 then (some x2) else (bd (x2 + 1) (fun v1 => (f_TokenRow_beginningAt_2 μ n) x1 v1))))))
set_option maxHeartbeats 4000000 in
set_option maxRecDepth 100000 in
theorem w_TokenRow_beginningAt_2 {p : Program} {l : Launch} {e : Env} {s : State} {m : MethodId} {args : Array Value} {below : List Frame} {meth : Method} {c : Code} {D : va_G} {g : Nat → ClassId} {ad : Nat → Nat} {dr : Nat → Option Nat} {pl : va_W} {μ : Mem} {r : Int32} (X : Cx p s m args meth c b_TokenRow_beginningAt 3 R_TokenRow (some .int) D CL (TY g)) (hP : va_P D CL (WX g ad dr pl μ) s.heap) : ∀ (n : Nat) (x1 : Int32) (x2 : Int32) (ls : Array Slot), lv_has ls 3 [(0, .ref (ad 35)), (1, .int x1), (2, .int x2)] → f_TokenRow_beginningAt_2 μ n x1 x2 = some r → WR p l e rm_TokenRow_beginningAt s m args below meth c (.int r) (F0 m 2 ls []) := by
  intro n
  induction n with
  | zero => intro x1 x2 ls hl hf; rw [f_TokenRow_beginningAt_2] at hf; cases hf
  | succ n ih =>
    intro x1 x2 ls hl hf
    obtain ⟨S, hr, hlk, hK⟩ := id X
    obtain ⟨hx, hb, hml, hown, hts⟩ := id S
    rw [f_TokenRow_beginningAt_2] at hf
    refine lv_iload_n hx hb d_TokenRow_beginningAt_2 rfl (lv_at hl 2 rfl) ?_
    refine lv_aload_n hx hb d_TokenRow_beginningAt_3 rfl (lv_at hl 0 rfl) ?_
    refine xg_35_7 hx hb hts hown hK hP q_198 d_TokenRow_beginningAt_4 ?_
    refine lv_icmp_ge (tgt := 28) hx hb d_TokenRow_beginningAt_7 rfl (fun hc => ?_) (fun hc => ?_)
    · replace hf := br_p hc hf
      refine lv_iconst (v := -1) hx hb d_TokenRow_beginningAt_28 (by decide) ?_
      have h1 := Option.some.inj hf
      subst h1
      exact W.iret hx hb hr (fun t ht _ => ⟨rfl, ht⟩) (fun _ h => by cases h) d_TokenRow_beginningAt_29
    · replace hf := br_n hc hf
      refine lv_aload_n hx hb d_TokenRow_beginningAt_10 rfl (lv_at hl 0 rfl) ?_
      refine xg_35_2 hx hb hts hown hK hP q_193 d_TokenRow_beginningAt_11 ?_
      refine lv_iload_n hx hb d_TokenRow_beginningAt_14 rfl (lv_at hl 2 rfl) ?_
      obtain ⟨hi, hf⟩ := gd_x hf
      refine xl_36 hx hb hK hP (inb_in hi) d_TokenRow_beginningAt_15 ?_
      refine lv_iload_n hx hb d_TokenRow_beginningAt_16 rfl (lv_at hl 1 rfl) ?_
      refine lv_icmp_ne (tgt := 22) hx hb d_TokenRow_beginningAt_17 rfl (fun hc => ?_) (fun hc => ?_)
      · replace hf := br_n hc hf
        obtain ⟨v1, hv1, hf⟩ := bd_x hf
        refine lv_iinc (lv' := [(2, .int v1), (0, .ref (ad 35)), (1, .int x1)]) hx hb d_TokenRow_beginningAt_22 hl (k := 2) rfl (show x2 + Int32.ofInt (1) = v1 from hv1) (Nat.le_of_ble_eq_true rfl) rfl (fun ls hl => ?_)
        refine lv_goto (tgt := 2) hx hb d_TokenRow_beginningAt_25 rfl ?_
        exact ih _ _ _ (lv_sub (l' := [(0, .ref (ad 35)), (1, .int x1), (2, .int v1)]) hl [1, 2, 0] rfl) hf
      · replace hf := br_p hc hf
        refine lv_iload_n hx hb d_TokenRow_beginningAt_20 rfl (lv_at hl 2 rfl) ?_
        have h1 := Option.some.inj hf
        subst h1
        exact W.iret hx hb hr (fun t ht _ => ⟨rfl, ht⟩) (fun _ h => by cases h) d_TokenRow_beginningAt_21
def f_TokenRow_beginningAt (n : Nat) (μ : Mem) (a1 : Int32) : Option Int32 := f_TokenRow_beginningAt_2 μ n a1 (0 : Int32)
set_option maxHeartbeats 4000000 in
set_option maxRecDepth 100000 in
theorem w_TokenRow_beginningAt {p : Program} {l : Launch} {e : Env} {s : State} {m : MethodId} {args : Array Value} {below : List Frame} {meth : Method} {c : Code} {D : va_G} {g : Nat → ClassId} {ad : Nat → Nat} {dr : Nat → Option Nat} {pl : va_W} {μ : Mem} {r : Int32} {n : Nat} {a1 : Int32} {ls : Array Slot} (X : Cx p s m args meth c b_TokenRow_beginningAt 3 R_TokenRow (some .int) D CL (TY g)) (hP : va_P D CL (WX g ad dr pl μ) s.heap) (hl : lv_has ls 3 [(0, .ref (ad 35)), (1, .int a1)]) (hf : f_TokenRow_beginningAt n μ a1 = some r) : WR p l e rm_TokenRow_beginningAt s m args below meth c (.int r) (F0 m 0 ls []) := by
  obtain ⟨S, hr, hlk, hK⟩ := id X
  obtain ⟨hx, hb, hml, hown, hts⟩ := id S
  rw [f_TokenRow_beginningAt] at hf
  refine lv_iconst (v := 0) hx hb d_TokenRow_beginningAt_0 (by decide) ?_
  refine lv_istore_n (lv' := [(2, .int (0 : Int32)), (0, .ref (ad 35)), (1, .int a1)]) hx hb d_TokenRow_beginningAt_1 rfl hl (Nat.le_of_ble_eq_true rfl) rfl (fun ls hl => ?_)
  exact w_TokenRow_beginningAt_2 X hP _ _ _ _ (lv_sub (l' := [(0, .ref (ad 35)), (1, .int a1), (2, .int (0 : Int32))]) hl [1, 2, 0] rfl) hf
theorem c_TokenRow_beginningAt {l : Launch} {D : va_G} {g : Nat → ClassId} {ad : Nat → Nat} {dr : Nat → Option Nat} {pl : va_W} {μ : Mem} {r : Int32} {n : Nat} {a1 : Int32} (hf : f_TokenRow_beginningAt n μ a1 = some r) : Met l y_TokenRow_beginningAt (Cond.code y_TokenRow_beginningAt b_TokenRow_beginningAt 3 (some .int) :: ww) rm_TokenRow_beginningAt (RP D CL (TY g) (WX g ad dr pl μ) [.ref (ad 35), .int a1]) (k2_QcV (.int r)) 0 0 (fun _ => False) := by
  refine met_of (by decide) (Nat.le_of_ble_eq_true rfl) ?_
  intro p e s m below meth c ls X hP hl
  have hl : lv_has ls 3 [(0, .ref (ad 35)), (1, .int a1)] := hl
  exact w_TokenRow_beginningAt X hP hl hf
theorem d_TokenRow_endingAt_0 : decode b_TokenRow_endingAt 0 = .ok (.iconst 0, 1) := by decide +kernel
theorem d_TokenRow_endingAt_1 : decode b_TokenRow_endingAt 1 = .ok (.istore_n 2, 1) := by decide +kernel
theorem d_TokenRow_endingAt_2 : decode b_TokenRow_endingAt 2 = .ok (.iload_n 2, 1) := by decide +kernel
theorem d_TokenRow_endingAt_3 : decode b_TokenRow_endingAt 3 = .ok (.aload_n 0, 1) := by decide +kernel
theorem d_TokenRow_endingAt_4 : decode b_TokenRow_endingAt 4 = .ok (.getfield 35, 3) := by decide +kernel
theorem d_TokenRow_endingAt_7 : decode b_TokenRow_endingAt 7 = .ok (.if_icmp .ge 28, 3) := by decide +kernel
theorem d_TokenRow_endingAt_10 : decode b_TokenRow_endingAt 10 = .ok (.aload_n 0, 1) := by decide +kernel
theorem d_TokenRow_endingAt_11 : decode b_TokenRow_endingAt 11 = .ok (.getfield 19, 3) := by decide +kernel
theorem d_TokenRow_endingAt_14 : decode b_TokenRow_endingAt 14 = .ok (.iload_n 2, 1) := by decide +kernel
theorem d_TokenRow_endingAt_15 : decode b_TokenRow_endingAt 15 = .ok (.iaload, 1) := by decide +kernel
theorem d_TokenRow_endingAt_16 : decode b_TokenRow_endingAt 16 = .ok (.aload_n 0, 1) := by decide +kernel
theorem d_TokenRow_endingAt_17 : decode b_TokenRow_endingAt 17 = .ok (.getfield 23, 3) := by decide +kernel
theorem d_TokenRow_endingAt_20 : decode b_TokenRow_endingAt 20 = .ok (.iload_n 2, 1) := by decide +kernel
theorem d_TokenRow_endingAt_21 : decode b_TokenRow_endingAt 21 = .ok (.iaload, 1) := by decide +kernel
theorem d_TokenRow_endingAt_22 : decode b_TokenRow_endingAt 22 = .ok (.iadd, 1) := by decide +kernel
theorem d_TokenRow_endingAt_23 : decode b_TokenRow_endingAt 23 = .ok (.iload_n 1, 1) := by decide +kernel
theorem d_TokenRow_endingAt_24 : decode b_TokenRow_endingAt 24 = .ok (.if_icmp .ne 5, 3) := by decide +kernel
theorem d_TokenRow_endingAt_27 : decode b_TokenRow_endingAt 27 = .ok (.iload_n 2, 1) := by decide +kernel
theorem d_TokenRow_endingAt_28 : decode b_TokenRow_endingAt 28 = .ok (.ireturn, 1) := by decide +kernel
theorem d_TokenRow_endingAt_29 : decode b_TokenRow_endingAt 29 = .ok (.iinc 2 1, 3) := by decide +kernel
theorem d_TokenRow_endingAt_32 : decode b_TokenRow_endingAt 32 = .ok (.goto (-30), 3) := by decide +kernel
theorem d_TokenRow_endingAt_35 : decode b_TokenRow_endingAt 35 = .ok (.iconst (-1), 1) := by decide +kernel
theorem d_TokenRow_endingAt_36 : decode b_TokenRow_endingAt 36 = .ok (.ireturn, 1) := by decide +kernel
abbrev rm_TokenRow_endingAt : Room := { frames := 0, cells := 0, slots := 0, locals := 0 }
def f_TokenRow_endingAt_2 (μ : Mem) : Nat → Int32 → Int32 → Option Int32
  | 0, _, _ => none
  | n + 1, x1, x2 => (if (μ.1 35 7) ≤ x2 then (some (-1 : Int32)) else (gd (inb x2 24) (gd (inb x2 24) ((if ((μ.1 36 x2.toNatClampNeg) + (μ.1 37 x2.toNatClampNeg)) = x1 then (some x2) else (bd (x2 + 1) (fun v1 => (f_TokenRow_endingAt_2 μ n) x1 v1)))))))
set_option maxHeartbeats 4000000 in
set_option maxRecDepth 100000 in
theorem w_TokenRow_endingAt_2 {p : Program} {l : Launch} {e : Env} {s : State} {m : MethodId} {args : Array Value} {below : List Frame} {meth : Method} {c : Code} {D : va_G} {g : Nat → ClassId} {ad : Nat → Nat} {dr : Nat → Option Nat} {pl : va_W} {μ : Mem} {r : Int32} (X : Cx p s m args meth c b_TokenRow_endingAt 3 R_TokenRow (some .int) D CL (TY g)) (hP : va_P D CL (WX g ad dr pl μ) s.heap) : ∀ (n : Nat) (x1 : Int32) (x2 : Int32) (ls : Array Slot), lv_has ls 3 [(0, .ref (ad 35)), (1, .int x1), (2, .int x2)] → f_TokenRow_endingAt_2 μ n x1 x2 = some r → WR p l e rm_TokenRow_endingAt s m args below meth c (.int r) (F0 m 2 ls []) := by
  intro n
  induction n with
  | zero => intro x1 x2 ls hl hf; rw [f_TokenRow_endingAt_2] at hf; cases hf
  | succ n ih =>
    intro x1 x2 ls hl hf
    obtain ⟨S, hr, hlk, hK⟩ := id X
    obtain ⟨hx, hb, hml, hown, hts⟩ := id S
    rw [f_TokenRow_endingAt_2] at hf
    refine lv_iload_n hx hb d_TokenRow_endingAt_2 rfl (lv_at hl 2 rfl) ?_
    refine lv_aload_n hx hb d_TokenRow_endingAt_3 rfl (lv_at hl 0 rfl) ?_
    refine xg_35_7 hx hb hts hown hK hP q_198 d_TokenRow_endingAt_4 ?_
    refine lv_icmp_ge (tgt := 35) hx hb d_TokenRow_endingAt_7 rfl (fun hc => ?_) (fun hc => ?_)
    · replace hf := br_p hc hf
      refine lv_iconst (v := -1) hx hb d_TokenRow_endingAt_35 (by decide) ?_
      have h1 := Option.some.inj hf
      subst h1
      exact W.iret hx hb hr (fun t ht _ => ⟨rfl, ht⟩) (fun _ h => by cases h) d_TokenRow_endingAt_36
    · replace hf := br_n hc hf
      refine lv_aload_n hx hb d_TokenRow_endingAt_10 rfl (lv_at hl 0 rfl) ?_
      refine xg_35_2 hx hb hts hown hK hP q_193 d_TokenRow_endingAt_11 ?_
      refine lv_iload_n hx hb d_TokenRow_endingAt_14 rfl (lv_at hl 2 rfl) ?_
      obtain ⟨hi, hf⟩ := gd_x hf
      refine xl_36 hx hb hK hP (inb_in hi) d_TokenRow_endingAt_15 ?_
      refine lv_aload_n hx hb d_TokenRow_endingAt_16 rfl (lv_at hl 0 rfl) ?_
      refine xg_35_3 hx hb hts hown hK hP q_194 d_TokenRow_endingAt_17 ?_
      refine lv_iload_n hx hb d_TokenRow_endingAt_20 rfl (lv_at hl 2 rfl) ?_
      obtain ⟨hi, hf⟩ := gd_x hf
      refine xl_37 hx hb hK hP (inb_in hi) d_TokenRow_endingAt_21 ?_
      refine lv_iadd hx hb d_TokenRow_endingAt_22 ?_
      refine lv_iload_n hx hb d_TokenRow_endingAt_23 rfl (lv_at hl 1 rfl) ?_
      refine lv_icmp_ne (tgt := 29) hx hb d_TokenRow_endingAt_24 rfl (fun hc => ?_) (fun hc => ?_)
      · replace hf := br_n hc hf
        obtain ⟨v1, hv1, hf⟩ := bd_x hf
        refine lv_iinc (lv' := [(2, .int v1), (0, .ref (ad 35)), (1, .int x1)]) hx hb d_TokenRow_endingAt_29 hl (k := 2) rfl (show x2 + Int32.ofInt (1) = v1 from hv1) (Nat.le_of_ble_eq_true rfl) rfl (fun ls hl => ?_)
        refine lv_goto (tgt := 2) hx hb d_TokenRow_endingAt_32 rfl ?_
        exact ih _ _ _ (lv_sub (l' := [(0, .ref (ad 35)), (1, .int x1), (2, .int v1)]) hl [1, 2, 0] rfl) hf
      · replace hf := br_p hc hf
        refine lv_iload_n hx hb d_TokenRow_endingAt_27 rfl (lv_at hl 2 rfl) ?_
        have h1 := Option.some.inj hf
        subst h1
        exact W.iret hx hb hr (fun t ht _ => ⟨rfl, ht⟩) (fun _ h => by cases h) d_TokenRow_endingAt_28
def f_TokenRow_endingAt (n : Nat) (μ : Mem) (a1 : Int32) : Option Int32 := f_TokenRow_endingAt_2 μ n a1 (0 : Int32)
set_option maxHeartbeats 4000000 in
set_option maxRecDepth 100000 in
theorem w_TokenRow_endingAt {p : Program} {l : Launch} {e : Env} {s : State} {m : MethodId} {args : Array Value} {below : List Frame} {meth : Method} {c : Code} {D : va_G} {g : Nat → ClassId} {ad : Nat → Nat} {dr : Nat → Option Nat} {pl : va_W} {μ : Mem} {r : Int32} {n : Nat} {a1 : Int32} {ls : Array Slot} (X : Cx p s m args meth c b_TokenRow_endingAt 3 R_TokenRow (some .int) D CL (TY g)) (hP : va_P D CL (WX g ad dr pl μ) s.heap) (hl : lv_has ls 3 [(0, .ref (ad 35)), (1, .int a1)]) (hf : f_TokenRow_endingAt n μ a1 = some r) : WR p l e rm_TokenRow_endingAt s m args below meth c (.int r) (F0 m 0 ls []) := by
  obtain ⟨S, hr, hlk, hK⟩ := id X
  obtain ⟨hx, hb, hml, hown, hts⟩ := id S
  rw [f_TokenRow_endingAt] at hf
  refine lv_iconst (v := 0) hx hb d_TokenRow_endingAt_0 (by decide) ?_
  refine lv_istore_n (lv' := [(2, .int (0 : Int32)), (0, .ref (ad 35)), (1, .int a1)]) hx hb d_TokenRow_endingAt_1 rfl hl (Nat.le_of_ble_eq_true rfl) rfl (fun ls hl => ?_)
  exact w_TokenRow_endingAt_2 X hP _ _ _ _ (lv_sub (l' := [(0, .ref (ad 35)), (1, .int a1), (2, .int (0 : Int32))]) hl [1, 2, 0] rfl) hf
theorem c_TokenRow_endingAt {l : Launch} {D : va_G} {g : Nat → ClassId} {ad : Nat → Nat} {dr : Nat → Option Nat} {pl : va_W} {μ : Mem} {r : Int32} {n : Nat} {a1 : Int32} (hf : f_TokenRow_endingAt n μ a1 = some r) : Met l y_TokenRow_endingAt (Cond.code y_TokenRow_endingAt b_TokenRow_endingAt 3 (some .int) :: ww) rm_TokenRow_endingAt (RP D CL (TY g) (WX g ad dr pl μ) [.ref (ad 35), .int a1]) (k2_QcV (.int r)) 0 0 (fun _ => False) := by
  refine met_of (by decide) (Nat.le_of_ble_eq_true rfl) ?_
  intro p e s m below meth c ls X hP hl
  have hl : lv_has ls 3 [(0, .ref (ad 35)), (1, .int a1)] := hl
  exact w_TokenRow_endingAt X hP hl hf
theorem d_TokenRow_attachCompound_0 : decode b_TokenRow_attachCompound 0 = .ok (.aload_n 0, 1) := by decide +kernel
theorem d_TokenRow_attachCompound_1 : decode b_TokenRow_attachCompound 1 = .ok (.getfield 15, 3) := by decide +kernel
theorem d_TokenRow_attachCompound_4 : decode b_TokenRow_attachCompound 4 = .ok (.aload_n 0, 1) := by decide +kernel
theorem d_TokenRow_attachCompound_5 : decode b_TokenRow_attachCompound 5 = .ok (.getfield 9, 3) := by decide +kernel
theorem d_TokenRow_attachCompound_8 : decode b_TokenRow_attachCompound 8 = .ok (.iload_n 1, 1) := by decide +kernel
theorem d_TokenRow_attachCompound_9 : decode b_TokenRow_attachCompound 9 = .ok (.invokevirtual 56, 3) := by decide +kernel
theorem d_TokenRow_attachCompound_12 : decode b_TokenRow_attachCompound 12 = .ok (.invokevirtual 61, 3) := by decide +kernel
theorem d_TokenRow_attachCompound_15 : decode b_TokenRow_attachCompound 15 = .ok (.ifCond .eq 4, 3) := by decide +kernel
theorem d_TokenRow_attachCompound_18 : decode b_TokenRow_attachCompound 18 = .ok (.return_, 1) := by decide +kernel
theorem d_TokenRow_attachCompound_19 : decode b_TokenRow_attachCompound 19 = .ok (.aload_n 0, 1) := by decide +kernel
theorem d_TokenRow_attachCompound_20 : decode b_TokenRow_attachCompound 20 = .ok (.aload_n 0, 1) := by decide +kernel
theorem d_TokenRow_attachCompound_21 : decode b_TokenRow_attachCompound 21 = .ok (.getfield 9, 3) := by decide +kernel
theorem d_TokenRow_attachCompound_24 : decode b_TokenRow_attachCompound 24 = .ok (.iload_n 1, 1) := by decide +kernel
theorem d_TokenRow_attachCompound_25 : decode b_TokenRow_attachCompound 25 = .ok (.invokevirtual 72, 3) := by decide +kernel
theorem d_TokenRow_attachCompound_28 : decode b_TokenRow_attachCompound 28 = .ok (.invokevirtual 78, 3) := by decide +kernel
theorem d_TokenRow_attachCompound_31 : decode b_TokenRow_attachCompound 31 = .ok (.istore_n 2, 1) := by decide +kernel
theorem d_TokenRow_attachCompound_32 : decode b_TokenRow_attachCompound 32 = .ok (.aload_n 0, 1) := by decide +kernel
theorem d_TokenRow_attachCompound_33 : decode b_TokenRow_attachCompound 33 = .ok (.aload_n 0, 1) := by decide +kernel
theorem d_TokenRow_attachCompound_34 : decode b_TokenRow_attachCompound 34 = .ok (.getfield 9, 3) := by decide +kernel
theorem d_TokenRow_attachCompound_37 : decode b_TokenRow_attachCompound 37 = .ok (.iload_n 1, 1) := by decide +kernel
theorem d_TokenRow_attachCompound_38 : decode b_TokenRow_attachCompound 38 = .ok (.invokevirtual 81, 3) := by decide +kernel
theorem d_TokenRow_attachCompound_41 : decode b_TokenRow_attachCompound 41 = .ok (.invokevirtual 84, 3) := by decide +kernel
theorem d_TokenRow_attachCompound_44 : decode b_TokenRow_attachCompound 44 = .ok (.istore_n 3, 1) := by decide +kernel
theorem d_TokenRow_attachCompound_45 : decode b_TokenRow_attachCompound 45 = .ok (.iload_n 2, 1) := by decide +kernel
theorem d_TokenRow_attachCompound_46 : decode b_TokenRow_attachCompound 46 = .ok (.iconst (-1), 1) := by decide +kernel
theorem d_TokenRow_attachCompound_47 : decode b_TokenRow_attachCompound 47 = .ok (.if_icmp .eq 15, 3) := by decide +kernel
theorem d_TokenRow_attachCompound_50 : decode b_TokenRow_attachCompound 50 = .ok (.iload_n 3, 1) := by decide +kernel
theorem d_TokenRow_attachCompound_51 : decode b_TokenRow_attachCompound 51 = .ok (.iload_n 2, 1) := by decide +kernel
theorem d_TokenRow_attachCompound_52 : decode b_TokenRow_attachCompound 52 = .ok (.if_icmp .le 10, 3) := by decide +kernel
theorem d_TokenRow_attachCompound_55 : decode b_TokenRow_attachCompound 55 = .ok (.aload_n 0, 1) := by decide +kernel
theorem d_TokenRow_attachCompound_56 : decode b_TokenRow_attachCompound 56 = .ok (.getfield 32, 3) := by decide +kernel
theorem d_TokenRow_attachCompound_59 : decode b_TokenRow_attachCompound 59 = .ok (.iload_n 2, 1) := by decide +kernel
theorem d_TokenRow_attachCompound_60 : decode b_TokenRow_attachCompound 60 = .ok (.iload_n 1, 1) := by decide +kernel
theorem d_TokenRow_attachCompound_61 : decode b_TokenRow_attachCompound 61 = .ok (.iastore, 1) := by decide +kernel
theorem d_TokenRow_attachCompound_62 : decode b_TokenRow_attachCompound 62 = .ok (.return_, 1) := by decide +kernel
abbrev rm_TokenRow_attachCompound : Room := { frames := 1, cells := 0, slots := 0, locals := 22 }
def f_TokenRow_attachCompound (n : Nat) (μ : Mem) (a1 : Int32) : Option Mem := cl (f_Lattice_entry n μ a1) (fun v1 => cl (f_Lexicon_cuts n μ v1) (fun v2 => (if v2 = 0 then (cl (f_Lattice_begin n μ a1) (fun v3 => cl (f_TokenRow_beginningAt n μ v3) (fun v4 => cl (f_Lattice_end n μ a1) (fun v5 => cl (f_TokenRow_endingAt n μ v5) (fun v6 => (if v4 = (-1 : Int32) then (some μ) else (if v6 ≤ v4 then (some μ) else (gd (inb v4 24) (bd (wi μ 40 v4.toNatClampNeg a1) (fun μ7 => some μ7)))))))))) else (some μ))))
set_option maxHeartbeats 4000000 in
set_option maxRecDepth 100000 in
theorem w_TokenRow_attachCompound {p : Program} {l : Launch} {e : Env} {s : State} {m : MethodId} {args : Array Value} {below : List Frame} {meth : Method} {c : Code} {D : va_G} {g : Nat → ClassId} {ad : Nat → Nat} {dr : Nat → Option Nat} {pl : va_W} {μ' : Mem} {A : Nat → Prop} {n : Nat} {μ : Mem} {a1 : Int32} {ls : Array Slot} {H : Heap} {locs : List Loc} (X : Cx p s m args meth c b_TokenRow_attachCompound 4 R_TokenRow none D CL (TY g)) (hDA : ∀ μ : Mem, va_D A (WX g ad dr pl μ)) (hP : va_P D CL (WX g ad dr pl μ) H) (hS : va_S A s.heap H locs) (hl : lv_has ls 4 [(0, .ref (ad 35)), (1, .int a1)]) (hf : f_TokenRow_attachCompound n μ a1 = some μ') : WU p l e rm_TokenRow_attachCompound s m args below meth c H locs D (WX g ad dr pl μ') A none (F0 m 0 ls []) := by
  obtain ⟨S, hr, hlk, hK⟩ := id X
  obtain ⟨hx, hb, hml, hown, hts⟩ := id S
  rw [f_TokenRow_attachCompound] at hf
  refine lv_aload_n hx hb d_TokenRow_attachCompound_0 rfl (lv_at hl 0 rfl) ?_
  refine xg_35_1 hx hb hts hown hK hP q_192 d_TokenRow_attachCompound_1 ?_
  refine lv_aload_n hx hb d_TokenRow_attachCompound_4 rfl (lv_at hl 0 rfl) ?_
  refine xg_35_0 hx hb hts hown hK hP q_191 d_TokenRow_attachCompound_5 ?_
  refine lv_iload_n hx hb d_TokenRow_attachCompound_8 rfl (lv_at hl 1 rfl) ?_
  obtain ⟨v1, hv1, hf⟩ := cl_x hf
  refine rdV (As := [.int a1]) (rest := [.ref (ad 3)]) S K_Lattice_entry q_553 (c_Lattice_entry hv1) hK hP ⟨rfl, rfl⟩ ⟨Nat.le_of_ble_eq_true rfl, Nat.le_of_ble_eq_true rfl⟩ (xr_18 hK hP) rfl hl.1 rfl (Nat.le_of_ble_eq_true rfl) d_TokenRow_attachCompound_9 ⟨Nat.le_refl _, Nat.le_refl _⟩ ?_
  obtain ⟨v2, hv2, hf⟩ := cl_x hf
  refine rdV (As := [.int v1]) (rest := []) S K_Lexicon_cuts q_557 (c_Lexicon_cuts hv2) hK hP ⟨rfl, rfl⟩ ⟨Nat.le_of_ble_eq_true rfl, Nat.le_of_ble_eq_true rfl⟩ (xr_3 hK hP) rfl hl.1 rfl (Nat.le_of_ble_eq_true rfl) d_TokenRow_attachCompound_12 ⟨Nat.le_refl _, Nat.le_refl _⟩ ?_
  refine lv_if_eq (tgt := 19) hx hb d_TokenRow_attachCompound_15 rfl (fun hc => ?_) (fun hc => ?_)
  · replace hf := br_p hc hf
    refine lv_aload_n hx hb d_TokenRow_attachCompound_19 rfl (lv_at hl 0 rfl) ?_
    refine lv_aload_n hx hb d_TokenRow_attachCompound_20 rfl (lv_at hl 0 rfl) ?_
    refine xg_35_0 hx hb hts hown hK hP q_191 d_TokenRow_attachCompound_21 ?_
    refine lv_iload_n hx hb d_TokenRow_attachCompound_24 rfl (lv_at hl 1 rfl) ?_
    obtain ⟨v3, hv3, hf⟩ := cl_x hf
    refine rdV (As := [.int a1]) (rest := [.ref (ad 35)]) S K_Lattice_begin q_566 (c_Lattice_begin hv3) hK hP ⟨rfl, rfl⟩ ⟨Nat.le_of_ble_eq_true rfl, Nat.le_of_ble_eq_true rfl⟩ (xr_18 hK hP) rfl hl.1 rfl (Nat.le_of_ble_eq_true rfl) d_TokenRow_attachCompound_25 ⟨Nat.le_refl _, Nat.le_refl _⟩ ?_
    obtain ⟨v4, hv4, hf⟩ := cl_x hf
    refine rdV (As := [.int v3]) (rest := []) S K_TokenRow_beginningAt q_572 (c_TokenRow_beginningAt hv4) hK hP ⟨rfl, rfl⟩ ⟨Nat.le_of_ble_eq_true rfl, Nat.le_of_ble_eq_true rfl⟩ (xr_35 hK hP) rfl hl.1 rfl (Nat.le_of_ble_eq_true rfl) d_TokenRow_attachCompound_28 ⟨Nat.le_refl _, Nat.le_refl _⟩ ?_
    refine lv_istore_n (lv' := [(2, .int v4), (0, .ref (ad 35)), (1, .int a1)]) hx hb d_TokenRow_attachCompound_31 rfl hl (Nat.le_of_ble_eq_true rfl) rfl (fun ls hl => ?_)
    refine lv_aload_n hx hb d_TokenRow_attachCompound_32 rfl (lv_at hl 1 rfl) ?_
    refine lv_aload_n hx hb d_TokenRow_attachCompound_33 rfl (lv_at hl 1 rfl) ?_
    refine xg_35_0 hx hb hts hown hK hP q_191 d_TokenRow_attachCompound_34 ?_
    refine lv_iload_n hx hb d_TokenRow_attachCompound_37 rfl (lv_at hl 2 rfl) ?_
    obtain ⟨v5, hv5, hf⟩ := cl_x hf
    refine rdV (As := [.int a1]) (rest := [.ref (ad 35)]) S K_Lattice_end q_576 (c_Lattice_end hv5) hK hP ⟨rfl, rfl⟩ ⟨Nat.le_of_ble_eq_true rfl, Nat.le_of_ble_eq_true rfl⟩ (xr_18 hK hP) rfl hl.1 rfl (Nat.le_of_ble_eq_true rfl) d_TokenRow_attachCompound_38 ⟨Nat.le_refl _, Nat.le_refl _⟩ ?_
    obtain ⟨v6, hv6, hf⟩ := cl_x hf
    refine rdV (As := [.int v5]) (rest := []) S K_TokenRow_endingAt q_577 (c_TokenRow_endingAt hv6) hK hP ⟨rfl, rfl⟩ ⟨Nat.le_of_ble_eq_true rfl, Nat.le_of_ble_eq_true rfl⟩ (xr_35 hK hP) rfl hl.1 rfl (Nat.le_of_ble_eq_true rfl) d_TokenRow_attachCompound_41 ⟨Nat.le_refl _, Nat.le_refl _⟩ ?_
    refine lv_istore_n (lv' := [(3, .int v6), (2, .int v4), (0, .ref (ad 35)), (1, .int a1)]) hx hb d_TokenRow_attachCompound_44 rfl hl (Nat.le_of_ble_eq_true rfl) rfl (fun ls hl => ?_)
    refine lv_iload_n hx hb d_TokenRow_attachCompound_45 rfl (lv_at hl 1 rfl) ?_
    refine lv_iconst (v := -1) hx hb d_TokenRow_attachCompound_46 (by decide) ?_
    refine lv_icmp_eq (tgt := 62) hx hb d_TokenRow_attachCompound_47 rfl (fun hc => ?_) (fun hc => ?_)
    · replace hf := br_p hc hf
      obtain rfl := Option.some.inj hf
      exact W.vret hx hb hr (fun t ht _ => ⟨rfl, by rw [ht]; exact hP, hS.F ht⟩) hS.2.2 d_TokenRow_attachCompound_62
    · replace hf := br_n hc hf
      refine lv_iload_n hx hb d_TokenRow_attachCompound_50 rfl (lv_at hl 0 rfl) ?_
      refine lv_iload_n hx hb d_TokenRow_attachCompound_51 rfl (lv_at hl 1 rfl) ?_
      refine lv_icmp_le (tgt := 62) hx hb d_TokenRow_attachCompound_52 rfl (fun hc => ?_) (fun hc => ?_)
      · replace hf := br_p hc hf
        obtain rfl := Option.some.inj hf
        exact W.vret hx hb hr (fun t ht _ => ⟨rfl, by rw [ht]; exact hP, hS.F ht⟩) hS.2.2 d_TokenRow_attachCompound_62
      · replace hf := br_n hc hf
        refine lv_aload_n hx hb d_TokenRow_attachCompound_55 rfl (lv_at hl 2 rfl) ?_
        refine xg_35_6 hx hb hts hown hK hP q_197 d_TokenRow_attachCompound_56 ?_
        refine lv_iload_n hx hb d_TokenRow_attachCompound_59 rfl (lv_at hl 1 rfl) ?_
        refine lv_iload_n hx hb d_TokenRow_attachCompound_60 rfl (lv_at hl 3 rfl) ?_
        obtain ⟨hi, hf⟩ := gd_x hf
        obtain ⟨μ7, hμ7, hf⟩ := bd_x hf
        refine xs_40 hx hb hK (hDA _) hP hS (inb_in hi) d_TokenRow_attachCompound_61 hμ7 (fun H locs hP hS => ?_)
        obtain rfl := Option.some.inj hf
        exact W.vret hx hb hr (fun t ht _ => ⟨rfl, by rw [ht]; exact hP, hS.F ht⟩) hS.2.2 d_TokenRow_attachCompound_62
  · replace hf := br_n hc hf
    obtain rfl := Option.some.inj hf
    exact W.vret hx hb hr (fun t ht _ => ⟨rfl, by rw [ht]; exact hP, hS.F ht⟩) hS.2.2 d_TokenRow_attachCompound_18
theorem c_TokenRow_attachCompound {l : Launch} {D : va_G} {g : Nat → ClassId} {ad : Nat → Nat} {dr : Nat → Option Nat} {pl : va_W} {μ : Mem} {μ' : Mem} {A : Nat → Prop} {n : Nat} {a1 : Int32} (hDA : ∀ μ : Mem, va_D A (WX g ad dr pl μ)) (hf : f_TokenRow_attachCompound n μ a1 = some μ') : Met l y_TokenRow_attachCompound (Cond.code y_TokenRow_attachCompound b_TokenRow_attachCompound 4 none :: ww) rm_TokenRow_attachCompound (RP D CL (TY g) (WX g ad dr pl μ) [.ref (ad 35), .int a1]) (QW D CL (WX g ad dr pl μ') A none) 0 0 A := by
  refine met_of (by decide) (Nat.le_of_ble_eq_true rfl) ?_
  intro p e s m below meth c ls X hP hl
  have hl : lv_has ls 4 [(0, .ref (ad 35)), (1, .int a1)] := hl
  exact w_TokenRow_attachCompound X hDA hP va_S.rf hl hf
theorem d_TokenRow_rebuild_0 : decode b_TokenRow_rebuild 0 = .ok (.aload_n 0, 1) := by decide +kernel
theorem d_TokenRow_rebuild_1 : decode b_TokenRow_rebuild 1 = .ok (.iconst 0, 1) := by decide +kernel
theorem d_TokenRow_rebuild_2 : decode b_TokenRow_rebuild 2 = .ok (.putfield 35, 3) := by decide +kernel
theorem d_TokenRow_rebuild_5 : decode b_TokenRow_rebuild 5 = .ok (.iconst 0, 1) := by decide +kernel
theorem d_TokenRow_rebuild_6 : decode b_TokenRow_rebuild 6 = .ok (.istore_n 3, 1) := by decide +kernel
theorem d_TokenRow_rebuild_7 : decode b_TokenRow_rebuild 7 = .ok (.iload_n 3, 1) := by decide +kernel
theorem d_TokenRow_rebuild_8 : decode b_TokenRow_rebuild 8 = .ok (.aload_n 1, 1) := by decide +kernel
theorem d_TokenRow_rebuild_9 : decode b_TokenRow_rebuild 9 = .ok (.invokevirtual 39, 3) := by decide +kernel
theorem d_TokenRow_rebuild_12 : decode b_TokenRow_rebuild 12 = .ok (.if_icmp .ge 18, 3) := by decide +kernel
theorem d_TokenRow_rebuild_15 : decode b_TokenRow_rebuild 15 = .ok (.aload_n 0, 1) := by decide +kernel
theorem d_TokenRow_rebuild_16 : decode b_TokenRow_rebuild 16 = .ok (.aload_n 1, 1) := by decide +kernel
theorem d_TokenRow_rebuild_17 : decode b_TokenRow_rebuild 17 = .ok (.iload_n 3, 1) := by decide +kernel
theorem d_TokenRow_rebuild_18 : decode b_TokenRow_rebuild 18 = .ok (.invokevirtual 45, 3) := by decide +kernel
theorem d_TokenRow_rebuild_21 : decode b_TokenRow_rebuild 21 = .ok (.invokevirtual 49, 3) := by decide +kernel
theorem d_TokenRow_rebuild_24 : decode b_TokenRow_rebuild 24 = .ok (.iinc 3 1, 3) := by decide +kernel
theorem d_TokenRow_rebuild_27 : decode b_TokenRow_rebuild 27 = .ok (.goto (-20), 3) := by decide +kernel
theorem d_TokenRow_rebuild_30 : decode b_TokenRow_rebuild 30 = .ok (.iconst 0, 1) := by decide +kernel
theorem d_TokenRow_rebuild_31 : decode b_TokenRow_rebuild 31 = .ok (.istore_n 3, 1) := by decide +kernel
theorem d_TokenRow_rebuild_32 : decode b_TokenRow_rebuild 32 = .ok (.iload_n 3, 1) := by decide +kernel
theorem d_TokenRow_rebuild_33 : decode b_TokenRow_rebuild 33 = .ok (.aload_n 2, 1) := by decide +kernel
theorem d_TokenRow_rebuild_34 : decode b_TokenRow_rebuild 34 = .ok (.invokevirtual 39, 3) := by decide +kernel
theorem d_TokenRow_rebuild_37 : decode b_TokenRow_rebuild 37 = .ok (.if_icmp .ge 18, 3) := by decide +kernel
theorem d_TokenRow_rebuild_40 : decode b_TokenRow_rebuild 40 = .ok (.aload_n 0, 1) := by decide +kernel
theorem d_TokenRow_rebuild_41 : decode b_TokenRow_rebuild 41 = .ok (.aload_n 2, 1) := by decide +kernel
theorem d_TokenRow_rebuild_42 : decode b_TokenRow_rebuild 42 = .ok (.iload_n 3, 1) := by decide +kernel
theorem d_TokenRow_rebuild_43 : decode b_TokenRow_rebuild 43 = .ok (.invokevirtual 45, 3) := by decide +kernel
theorem d_TokenRow_rebuild_46 : decode b_TokenRow_rebuild 46 = .ok (.invokevirtual 53, 3) := by decide +kernel
theorem d_TokenRow_rebuild_49 : decode b_TokenRow_rebuild 49 = .ok (.iinc 3 1, 3) := by decide +kernel
theorem d_TokenRow_rebuild_52 : decode b_TokenRow_rebuild 52 = .ok (.goto (-20), 3) := by decide +kernel
theorem d_TokenRow_rebuild_55 : decode b_TokenRow_rebuild 55 = .ok (.return_, 1) := by decide +kernel
abbrev rm_TokenRow_rebuild : Room := { frames := 3, cells := 0, slots := 0, locals := 69 }
def f_TokenRow_rebuild_32 : Nat → Mem → Int32 → Option Mem
  | 0, _, _ => none
  | n + 1, μ, x3 => cl (f_RouteP_length n μ) (fun v1 => (if v1 ≤ x3 then (some μ) else (cl (f_RouteP_node n μ x3) (fun v2 => cl (f_TokenRow_attachCompound n μ v2) (fun μ4 => bd (x3 + 1) (fun v5 => (f_TokenRow_rebuild_32 n) μ4 v5))))))
set_option maxHeartbeats 4000000 in
set_option maxRecDepth 100000 in
theorem w_TokenRow_rebuild_32 {p : Program} {l : Launch} {e : Env} {s : State} {m : MethodId} {args : Array Value} {below : List Frame} {meth : Method} {c : Code} {D : va_G} {g : Nat → ClassId} {ad : Nat → Nat} {dr : Nat → Option Nat} {pl : va_W} {μ' : Mem} {A : Nat → Prop} (X : Cx p s m args meth c b_TokenRow_rebuild 4 R_TokenRow none D CL (TY g)) (hDA : ∀ μ : Mem, va_D A (WX g ad dr pl μ)) : ∀ (n : Nat) (μ : Mem) (x3 : Int32) (ls : Array Slot) (H : Heap) (locs : List Loc), va_P D CL (WX g ad dr pl μ) H → va_S A s.heap H locs → lv_has ls 4 [(0, .ref (ad 35)), (2, .ref (ad 30)), (3, .int x3)] → f_TokenRow_rebuild_32 n μ x3 = some μ' → WU p l e rm_TokenRow_rebuild s m args below meth c H locs D (WX g ad dr pl μ') A none (F0 m 32 ls []) := by
  intro n
  induction n with
  | zero => intro μ x3 ls H locs hP hS hl hf; rw [f_TokenRow_rebuild_32] at hf; cases hf
  | succ n ih =>
    intro μ x3 ls H locs hP hS hl hf
    obtain ⟨S, hr, hlk, hK⟩ := id X
    obtain ⟨hx, hb, hml, hown, hts⟩ := id S
    rw [f_TokenRow_rebuild_32] at hf
    refine lv_iload_n hx hb d_TokenRow_rebuild_32 rfl (lv_at hl 2 rfl) ?_
    refine lv_aload_n hx hb d_TokenRow_rebuild_33 rfl (lv_at hl 1 rfl) ?_
    obtain ⟨v1, hv1, hf⟩ := cl_x hf
    refine rdV (As := []) (rest := [.int x3]) S K_Route_length q_541 (c_RouteP_length hv1) hK hP ⟨rfl, rfl⟩ ⟨Nat.le_of_ble_eq_true rfl, Nat.le_of_ble_eq_true rfl⟩ (xr_30 hK hP) rfl hl.1 rfl (Nat.le_of_ble_eq_true rfl) d_TokenRow_rebuild_34 ⟨Nat.le_refl _, Nat.le_refl _⟩ ?_
    refine lv_icmp_ge (tgt := 55) hx hb d_TokenRow_rebuild_37 rfl (fun hc => ?_) (fun hc => ?_)
    · replace hf := br_p hc hf
      obtain rfl := Option.some.inj hf
      exact W.vret hx hb hr (fun t ht _ => ⟨rfl, by rw [ht]; exact hP, hS.F ht⟩) hS.2.2 d_TokenRow_rebuild_55
    · replace hf := br_n hc hf
      refine lv_aload_n hx hb d_TokenRow_rebuild_40 rfl (lv_at hl 0 rfl) ?_
      refine lv_aload_n hx hb d_TokenRow_rebuild_41 rfl (lv_at hl 1 rfl) ?_
      refine lv_iload_n hx hb d_TokenRow_rebuild_42 rfl (lv_at hl 2 rfl) ?_
      obtain ⟨v2, hv2, hf⟩ := cl_x hf
      refine rdV (As := [.int x3]) (rest := [.ref (ad 35)]) S K_Route_node q_545 (c_RouteP_node hv2) hK hP ⟨rfl, rfl⟩ ⟨Nat.le_of_ble_eq_true rfl, Nat.le_of_ble_eq_true rfl⟩ (xr_30 hK hP) rfl hl.1 rfl (Nat.le_of_ble_eq_true rfl) d_TokenRow_rebuild_43 ⟨Nat.le_refl _, Nat.le_refl _⟩ ?_
      obtain ⟨μ4, hv3, hf⟩ := cl_x hf
      refine wrV (As := [.int v2]) (rest := []) S K_TokenRow_attachCompound q_568 (c_TokenRow_attachCompound hDA hv3) hK hP hS ⟨rfl, rfl⟩ ⟨Nat.le_of_ble_eq_true rfl, Nat.le_of_ble_eq_true rfl⟩ (xr_35 hK hP) rfl hl.1 rfl (Nat.le_of_ble_eq_true rfl) d_TokenRow_rebuild_46 ⟨Nat.le_refl _, Nat.le_refl _⟩ (fun H locs hP hS => ?_)
      obtain ⟨v5, hv5, hf⟩ := bd_x hf
      refine lv_iinc (lv' := [(3, .int v5), (0, .ref (ad 35)), (2, .ref (ad 30))]) hx hb d_TokenRow_rebuild_49 hl (k := 2) rfl (show x3 + Int32.ofInt (1) = v5 from hv5) (Nat.le_of_ble_eq_true rfl) rfl (fun ls hl => ?_)
      refine lv_goto (tgt := 32) hx hb d_TokenRow_rebuild_52 rfl ?_
      exact ih _ _ _ _ _ hP hS (lv_sub (l' := [(0, .ref (ad 35)), (2, .ref (ad 30)), (3, .int v5)]) hl [1, 2, 0] rfl) hf
def f_TokenRow_rebuild_7 : Nat → Mem → Int32 → Option Mem
  | 0, _, _ => none
  | n + 1, μ, x3 => cl (f_RouteB_length n μ) (fun v1 => (if v1 ≤ x3 then (f_TokenRow_rebuild_32 n μ (0 : Int32)) else (cl (f_RouteB_node n μ x3) (fun v2 => cl (f_TokenRow_putPieces n μ v2) (fun μ4 => bd (x3 + 1) (fun v5 => (f_TokenRow_rebuild_7 n) μ4 v5))))))
set_option maxHeartbeats 4000000 in
set_option maxRecDepth 100000 in
theorem w_TokenRow_rebuild_7 {p : Program} {l : Launch} {e : Env} {s : State} {m : MethodId} {args : Array Value} {below : List Frame} {meth : Method} {c : Code} {D : va_G} {g : Nat → ClassId} {ad : Nat → Nat} {dr : Nat → Option Nat} {pl : va_W} {μ' : Mem} {A : Nat → Prop} (X : Cx p s m args meth c b_TokenRow_rebuild 4 R_TokenRow none D CL (TY g)) (hDA : ∀ μ : Mem, va_D A (WX g ad dr pl μ)) : ∀ (n : Nat) (μ : Mem) (x3 : Int32) (ls : Array Slot) (H : Heap) (locs : List Loc), va_P D CL (WX g ad dr pl μ) H → va_S A s.heap H locs → lv_has ls 4 [(0, .ref (ad 35)), (1, .ref (ad 25)), (2, .ref (ad 30)), (3, .int x3)] → f_TokenRow_rebuild_7 n μ x3 = some μ' → WU p l e rm_TokenRow_rebuild s m args below meth c H locs D (WX g ad dr pl μ') A none (F0 m 7 ls []) := by
  intro n
  induction n with
  | zero => intro μ x3 ls H locs hP hS hl hf; rw [f_TokenRow_rebuild_7] at hf; cases hf
  | succ n ih =>
    intro μ x3 ls H locs hP hS hl hf
    obtain ⟨S, hr, hlk, hK⟩ := id X
    obtain ⟨hx, hb, hml, hown, hts⟩ := id S
    rw [f_TokenRow_rebuild_7] at hf
    refine lv_iload_n hx hb d_TokenRow_rebuild_7 rfl (lv_at hl 3 rfl) ?_
    refine lv_aload_n hx hb d_TokenRow_rebuild_8 rfl (lv_at hl 1 rfl) ?_
    obtain ⟨v1, hv1, hf⟩ := cl_x hf
    refine rdV (As := []) (rest := [.int x3]) S K_Route_length q_541 (c_RouteB_length hv1) hK hP ⟨rfl, rfl⟩ ⟨Nat.le_of_ble_eq_true rfl, Nat.le_of_ble_eq_true rfl⟩ (xr_25 hK hP) rfl hl.1 rfl (Nat.le_of_ble_eq_true rfl) d_TokenRow_rebuild_9 ⟨Nat.le_refl _, Nat.le_refl _⟩ ?_
    refine lv_icmp_ge (tgt := 30) hx hb d_TokenRow_rebuild_12 rfl (fun hc => ?_) (fun hc => ?_)
    · replace hf := br_p hc hf
      refine lv_iconst (v := 0) hx hb d_TokenRow_rebuild_30 (by decide) ?_
      refine lv_istore_n (lv' := [(3, .int (0 : Int32)), (0, .ref (ad 35)), (1, .ref (ad 25)), (2, .ref (ad 30))]) hx hb d_TokenRow_rebuild_31 rfl hl (Nat.le_of_ble_eq_true rfl) rfl (fun ls hl => ?_)
      exact w_TokenRow_rebuild_32 X hDA _ _ _ _ _ _ hP hS (lv_sub (l' := [(0, .ref (ad 35)), (2, .ref (ad 30)), (3, .int (0 : Int32))]) hl [1, 3, 0] rfl) hf
    · replace hf := br_n hc hf
      refine lv_aload_n hx hb d_TokenRow_rebuild_15 rfl (lv_at hl 0 rfl) ?_
      refine lv_aload_n hx hb d_TokenRow_rebuild_16 rfl (lv_at hl 1 rfl) ?_
      refine lv_iload_n hx hb d_TokenRow_rebuild_17 rfl (lv_at hl 3 rfl) ?_
      obtain ⟨v2, hv2, hf⟩ := cl_x hf
      refine rdV (As := [.int x3]) (rest := [.ref (ad 35)]) S K_Route_node q_545 (c_RouteB_node hv2) hK hP ⟨rfl, rfl⟩ ⟨Nat.le_of_ble_eq_true rfl, Nat.le_of_ble_eq_true rfl⟩ (xr_25 hK hP) rfl hl.1 rfl (Nat.le_of_ble_eq_true rfl) d_TokenRow_rebuild_18 ⟨Nat.le_refl _, Nat.le_refl _⟩ ?_
      obtain ⟨μ4, hv3, hf⟩ := cl_x hf
      refine wrV (As := [.int v2]) (rest := []) S K_TokenRow_putPieces q_549 (c_TokenRow_putPieces hDA hv3) hK hP hS ⟨rfl, rfl⟩ ⟨Nat.le_of_ble_eq_true rfl, Nat.le_of_ble_eq_true rfl⟩ (xr_35 hK hP) rfl hl.1 rfl (Nat.le_of_ble_eq_true rfl) d_TokenRow_rebuild_21 ⟨Nat.le_refl _, Nat.le_refl _⟩ (fun H locs hP hS => ?_)
      obtain ⟨v5, hv5, hf⟩ := bd_x hf
      refine lv_iinc (lv' := [(3, .int v5), (0, .ref (ad 35)), (1, .ref (ad 25)), (2, .ref (ad 30))]) hx hb d_TokenRow_rebuild_24 hl (k := 3) rfl (show x3 + Int32.ofInt (1) = v5 from hv5) (Nat.le_of_ble_eq_true rfl) rfl (fun ls hl => ?_)
      refine lv_goto (tgt := 7) hx hb d_TokenRow_rebuild_27 rfl ?_
      exact ih _ _ _ _ _ hP hS (lv_sub (l' := [(0, .ref (ad 35)), (1, .ref (ad 25)), (2, .ref (ad 30)), (3, .int v5)]) hl [1, 2, 3, 0] rfl) hf
def f_TokenRow_rebuild (n : Nat) (μ : Mem) : Option Mem := bd (wi μ 35 7 (0 : Int32)) (fun μ1 => f_TokenRow_rebuild_7 n μ1 (0 : Int32))
set_option maxHeartbeats 4000000 in
set_option maxRecDepth 100000 in
theorem w_TokenRow_rebuild {p : Program} {l : Launch} {e : Env} {s : State} {m : MethodId} {args : Array Value} {below : List Frame} {meth : Method} {c : Code} {D : va_G} {g : Nat → ClassId} {ad : Nat → Nat} {dr : Nat → Option Nat} {pl : va_W} {μ' : Mem} {A : Nat → Prop} {n : Nat} {μ : Mem} {ls : Array Slot} {H : Heap} {locs : List Loc} (X : Cx p s m args meth c b_TokenRow_rebuild 4 R_TokenRow none D CL (TY g)) (hDA : ∀ μ : Mem, va_D A (WX g ad dr pl μ)) (hP : va_P D CL (WX g ad dr pl μ) H) (hS : va_S A s.heap H locs) (hl : lv_has ls 4 [(0, .ref (ad 35)), (1, .ref (ad 25)), (2, .ref (ad 30))]) (hf : f_TokenRow_rebuild n μ = some μ') : WU p l e rm_TokenRow_rebuild s m args below meth c H locs D (WX g ad dr pl μ') A none (F0 m 0 ls []) := by
  obtain ⟨S, hr, hlk, hK⟩ := id X
  obtain ⟨hx, hb, hml, hown, hts⟩ := id S
  rw [f_TokenRow_rebuild] at hf
  refine lv_aload_n hx hb d_TokenRow_rebuild_0 rfl (lv_at hl 0 rfl) ?_
  refine lv_iconst (v := 0) hx hb d_TokenRow_rebuild_1 (by decide) ?_
  obtain ⟨μ1, hμ1, hf⟩ := bd_x hf
  refine xp_35_7 hx hb hts hown hK (hDA _) hP hS q_198 d_TokenRow_rebuild_2 hμ1 (fun H locs hP hS => ?_)
  refine lv_iconst (v := 0) hx hb d_TokenRow_rebuild_5 (by decide) ?_
  refine lv_istore_n (lv' := [(3, .int (0 : Int32)), (0, .ref (ad 35)), (1, .ref (ad 25)), (2, .ref (ad 30))]) hx hb d_TokenRow_rebuild_6 rfl hl (Nat.le_of_ble_eq_true rfl) rfl (fun ls hl => ?_)
  exact w_TokenRow_rebuild_7 X hDA _ _ _ _ _ _ hP hS (lv_sub (l' := [(0, .ref (ad 35)), (1, .ref (ad 25)), (2, .ref (ad 30)), (3, .int (0 : Int32))]) hl [1, 2, 3, 0] rfl) hf
theorem c_TokenRow_rebuild {l : Launch} {D : va_G} {g : Nat → ClassId} {ad : Nat → Nat} {dr : Nat → Option Nat} {pl : va_W} {μ : Mem} {μ' : Mem} {A : Nat → Prop} {n : Nat} (hDA : ∀ μ : Mem, va_D A (WX g ad dr pl μ)) (hf : f_TokenRow_rebuild n μ = some μ') : Met l y_TokenRow_rebuild (Cond.code y_TokenRow_rebuild b_TokenRow_rebuild 4 none :: ww) rm_TokenRow_rebuild (RP D CL (TY g) (WX g ad dr pl μ) [.ref (ad 35), .ref (ad 25), .ref (ad 30)]) (QW D CL (WX g ad dr pl μ') A none) 0 0 A := by
  refine met_of (by decide) (Nat.le_of_ble_eq_true rfl) ?_
  intro p e s m below meth c ls X hP hl
  have hl : lv_has ls 4 [(0, .ref (ad 35)), (1, .ref (ad 25)), (2, .ref (ad 30))] := hl
  exact w_TokenRow_rebuild X hDA hP va_S.rf hl hf
theorem d_TokenRow_count_0 : decode b_TokenRow_count 0 = .ok (.aload_n 0, 1) := by decide +kernel
theorem d_TokenRow_count_1 : decode b_TokenRow_count 1 = .ok (.getfield 35, 3) := by decide +kernel
theorem d_TokenRow_count_4 : decode b_TokenRow_count 4 = .ok (.ireturn, 1) := by decide +kernel
abbrev rm_TokenRow_count : Room := { frames := 0, cells := 0, slots := 0, locals := 0 }
def f_TokenRow_count (n : Nat) (μ : Mem) : Option Int32 := some (μ.1 35 7)
set_option maxHeartbeats 4000000 in
set_option maxRecDepth 100000 in
theorem w_TokenRow_count {p : Program} {l : Launch} {e : Env} {s : State} {m : MethodId} {args : Array Value} {below : List Frame} {meth : Method} {c : Code} {D : va_G} {g : Nat → ClassId} {ad : Nat → Nat} {dr : Nat → Option Nat} {pl : va_W} {μ : Mem} {r : Int32} {n : Nat} {ls : Array Slot} (X : Cx p s m args meth c b_TokenRow_count 1 R_TokenRow (some .int) D CL (TY g)) (hP : va_P D CL (WX g ad dr pl μ) s.heap) (hl : lv_has ls 1 [(0, .ref (ad 35))]) (hf : f_TokenRow_count n μ = some r) : WR p l e rm_TokenRow_count s m args below meth c (.int r) (F0 m 0 ls []) := by
  obtain ⟨S, hr, hlk, hK⟩ := id X
  obtain ⟨hx, hb, hml, hown, hts⟩ := id S
  rw [f_TokenRow_count] at hf
  refine lv_aload_n hx hb d_TokenRow_count_0 rfl (lv_at hl 0 rfl) ?_
  refine xg_35_7 hx hb hts hown hK hP q_198 d_TokenRow_count_1 ?_
  have h1 := Option.some.inj hf
  subst h1
  exact W.iret hx hb hr (fun t ht _ => ⟨rfl, ht⟩) (fun _ h => by cases h) d_TokenRow_count_4
theorem c_TokenRow_count {l : Launch} {D : va_G} {g : Nat → ClassId} {ad : Nat → Nat} {dr : Nat → Option Nat} {pl : va_W} {μ : Mem} {r : Int32} {n : Nat} (hf : f_TokenRow_count n μ = some r) : Met l y_TokenRow_count (Cond.code y_TokenRow_count b_TokenRow_count 1 (some .int) :: ww) rm_TokenRow_count (RP D CL (TY g) (WX g ad dr pl μ) [.ref (ad 35)]) (k2_QcV (.int r)) 0 0 (fun _ => False) := by
  refine met_of (by decide) (Nat.le_of_ble_eq_true rfl) ?_
  intro p e s m below meth c ls X hP hl
  have hl : lv_has ls 1 [(0, .ref (ad 35))] := hl
  exact w_TokenRow_count X hP hl hf
theorem d_TokenRow_has_0 : decode b_TokenRow_has 0 = .ok (.iload_n 1, 1) := by decide +kernel
theorem d_TokenRow_has_1 : decode b_TokenRow_has 1 = .ok (.ifCond .lt 15, 3) := by decide +kernel
theorem d_TokenRow_has_4 : decode b_TokenRow_has 4 = .ok (.iload_n 1, 1) := by decide +kernel
theorem d_TokenRow_has_5 : decode b_TokenRow_has 5 = .ok (.aload_n 0, 1) := by decide +kernel
theorem d_TokenRow_has_6 : decode b_TokenRow_has 6 = .ok (.getfield 35, 3) := by decide +kernel
theorem d_TokenRow_has_9 : decode b_TokenRow_has 9 = .ok (.if_icmp .ge 7, 3) := by decide +kernel
theorem d_TokenRow_has_12 : decode b_TokenRow_has 12 = .ok (.iconst 1, 1) := by decide +kernel
theorem d_TokenRow_has_13 : decode b_TokenRow_has 13 = .ok (.goto 4, 3) := by decide +kernel
theorem d_TokenRow_has_16 : decode b_TokenRow_has 16 = .ok (.iconst 0, 1) := by decide +kernel
theorem d_TokenRow_has_17 : decode b_TokenRow_has 17 = .ok (.ireturn, 1) := by decide +kernel
abbrev rm_TokenRow_has : Room := { frames := 0, cells := 0, slots := 0, locals := 0 }
def f_TokenRow_has (n : Nat) (μ : Mem) (a1 : Int32) : Option Bool := (if a1 < 0 then (some false) else (if (μ.1 35 7) ≤ a1 then (some false) else (some true)))
set_option maxHeartbeats 4000000 in
set_option maxRecDepth 100000 in
theorem w_TokenRow_has {p : Program} {l : Launch} {e : Env} {s : State} {m : MethodId} {args : Array Value} {below : List Frame} {meth : Method} {c : Code} {D : va_G} {g : Nat → ClassId} {ad : Nat → Nat} {dr : Nat → Option Nat} {pl : va_W} {μ : Mem} {r : Bool} {n : Nat} {a1 : Int32} {ls : Array Slot} (X : Cx p s m args meth c b_TokenRow_has 2 R_TokenRow (some .boolean) D CL (TY g)) (hP : va_P D CL (WX g ad dr pl μ) s.heap) (hl : lv_has ls 2 [(0, .ref (ad 35)), (1, .int a1)]) (hf : f_TokenRow_has n μ a1 = some r) : WR p l e rm_TokenRow_has s m args below meth c (.int (bz r)) (F0 m 0 ls []) := by
  obtain ⟨S, hr, hlk, hK⟩ := id X
  obtain ⟨hx, hb, hml, hown, hts⟩ := id S
  rw [f_TokenRow_has] at hf
  refine lv_iload_n hx hb d_TokenRow_has_0 rfl (lv_at hl 1 rfl) ?_
  refine lv_if_lt (tgt := 16) hx hb d_TokenRow_has_1 rfl (fun hc => ?_) (fun hc => ?_)
  · replace hf := br_p hc hf
    refine lv_iconst (v := 0) hx hb d_TokenRow_has_16 (by decide) ?_
    have h1 := Option.some.inj hf
    subst h1
    exact W.zret hx hb hr (by first | rfl | exact bz_nar _) (fun t ht _ => ⟨rfl, ht⟩) (fun _ h => by cases h) d_TokenRow_has_17
  · replace hf := br_n hc hf
    refine lv_iload_n hx hb d_TokenRow_has_4 rfl (lv_at hl 1 rfl) ?_
    refine lv_aload_n hx hb d_TokenRow_has_5 rfl (lv_at hl 0 rfl) ?_
    refine xg_35_7 hx hb hts hown hK hP q_198 d_TokenRow_has_6 ?_
    refine lv_icmp_ge (tgt := 16) hx hb d_TokenRow_has_9 rfl (fun hc => ?_) (fun hc => ?_)
    · replace hf := br_p hc hf
      refine lv_iconst (v := 0) hx hb d_TokenRow_has_16 (by decide) ?_
      have h1 := Option.some.inj hf
      subst h1
      exact W.zret hx hb hr (by first | rfl | exact bz_nar _) (fun t ht _ => ⟨rfl, ht⟩) (fun _ h => by cases h) d_TokenRow_has_17
    · replace hf := br_n hc hf
      refine lv_iconst (v := 1) hx hb d_TokenRow_has_12 (by decide) ?_
      refine lv_goto (tgt := 17) hx hb d_TokenRow_has_13 rfl ?_
      have h1 := Option.some.inj hf
      subst h1
      exact W.zret hx hb hr (by first | rfl | exact bz_nar _) (fun t ht _ => ⟨rfl, ht⟩) (fun _ h => by cases h) d_TokenRow_has_17
theorem c_TokenRow_has {l : Launch} {D : va_G} {g : Nat → ClassId} {ad : Nat → Nat} {dr : Nat → Option Nat} {pl : va_W} {μ : Mem} {r : Bool} {n : Nat} {a1 : Int32} (hf : f_TokenRow_has n μ a1 = some r) : Met l y_TokenRow_has (Cond.code y_TokenRow_has b_TokenRow_has 2 (some .boolean) :: ww) rm_TokenRow_has (RP D CL (TY g) (WX g ad dr pl μ) [.ref (ad 35), .int a1]) (k2_QcV (.int (bz r))) 0 0 (fun _ => False) := by
  refine met_of (by decide) (Nat.le_of_ble_eq_true rfl) ?_
  intro p e s m below meth c ls X hP hl
  have hl : lv_has ls 2 [(0, .ref (ad 35)), (1, .int a1)] := hl
  exact w_TokenRow_has X hP hl hf
theorem d_TokenRow_begin_0 : decode b_TokenRow_begin 0 = .ok (.aload_n 0, 1) := by decide +kernel
theorem d_TokenRow_begin_1 : decode b_TokenRow_begin 1 = .ok (.getfield 19, 3) := by decide +kernel
theorem d_TokenRow_begin_4 : decode b_TokenRow_begin 4 = .ok (.iload_n 1, 1) := by decide +kernel
theorem d_TokenRow_begin_5 : decode b_TokenRow_begin 5 = .ok (.iaload, 1) := by decide +kernel
theorem d_TokenRow_begin_6 : decode b_TokenRow_begin 6 = .ok (.ireturn, 1) := by decide +kernel
abbrev rm_TokenRow_begin : Room := { frames := 0, cells := 0, slots := 0, locals := 0 }
def f_TokenRow_begin (n : Nat) (μ : Mem) (a1 : Int32) : Option Int32 := gd (inb a1 24) (some (μ.1 36 a1.toNatClampNeg))
set_option maxHeartbeats 4000000 in
set_option maxRecDepth 100000 in
theorem w_TokenRow_begin {p : Program} {l : Launch} {e : Env} {s : State} {m : MethodId} {args : Array Value} {below : List Frame} {meth : Method} {c : Code} {D : va_G} {g : Nat → ClassId} {ad : Nat → Nat} {dr : Nat → Option Nat} {pl : va_W} {μ : Mem} {r : Int32} {n : Nat} {a1 : Int32} {ls : Array Slot} (X : Cx p s m args meth c b_TokenRow_begin 2 R_TokenRow (some .int) D CL (TY g)) (hP : va_P D CL (WX g ad dr pl μ) s.heap) (hl : lv_has ls 2 [(0, .ref (ad 35)), (1, .int a1)]) (hf : f_TokenRow_begin n μ a1 = some r) : WR p l e rm_TokenRow_begin s m args below meth c (.int r) (F0 m 0 ls []) := by
  obtain ⟨S, hr, hlk, hK⟩ := id X
  obtain ⟨hx, hb, hml, hown, hts⟩ := id S
  rw [f_TokenRow_begin] at hf
  refine lv_aload_n hx hb d_TokenRow_begin_0 rfl (lv_at hl 0 rfl) ?_
  refine xg_35_2 hx hb hts hown hK hP q_193 d_TokenRow_begin_1 ?_
  refine lv_iload_n hx hb d_TokenRow_begin_4 rfl (lv_at hl 1 rfl) ?_
  obtain ⟨hi, hf⟩ := gd_x hf
  refine xl_36 hx hb hK hP (inb_in hi) d_TokenRow_begin_5 ?_
  have h1 := Option.some.inj hf
  subst h1
  exact W.iret hx hb hr (fun t ht _ => ⟨rfl, ht⟩) (fun _ h => by cases h) d_TokenRow_begin_6
theorem c_TokenRow_begin {l : Launch} {D : va_G} {g : Nat → ClassId} {ad : Nat → Nat} {dr : Nat → Option Nat} {pl : va_W} {μ : Mem} {r : Int32} {n : Nat} {a1 : Int32} (hf : f_TokenRow_begin n μ a1 = some r) : Met l y_TokenRow_begin (Cond.code y_TokenRow_begin b_TokenRow_begin 2 (some .int) :: ww) rm_TokenRow_begin (RP D CL (TY g) (WX g ad dr pl μ) [.ref (ad 35), .int a1]) (k2_QcV (.int r)) 0 0 (fun _ => False) := by
  refine met_of (by decide) (Nat.le_of_ble_eq_true rfl) ?_
  intro p e s m below meth c ls X hP hl
  have hl : lv_has ls 2 [(0, .ref (ad 35)), (1, .int a1)] := hl
  exact w_TokenRow_begin X hP hl hf
theorem d_TokenRow_length_0 : decode b_TokenRow_length 0 = .ok (.aload_n 0, 1) := by decide +kernel
theorem d_TokenRow_length_1 : decode b_TokenRow_length 1 = .ok (.getfield 23, 3) := by decide +kernel
theorem d_TokenRow_length_4 : decode b_TokenRow_length 4 = .ok (.iload_n 1, 1) := by decide +kernel
theorem d_TokenRow_length_5 : decode b_TokenRow_length 5 = .ok (.iaload, 1) := by decide +kernel
theorem d_TokenRow_length_6 : decode b_TokenRow_length 6 = .ok (.ireturn, 1) := by decide +kernel
abbrev rm_TokenRow_length : Room := { frames := 0, cells := 0, slots := 0, locals := 0 }
def f_TokenRow_length (n : Nat) (μ : Mem) (a1 : Int32) : Option Int32 := gd (inb a1 24) (some (μ.1 37 a1.toNatClampNeg))
set_option maxHeartbeats 4000000 in
set_option maxRecDepth 100000 in
theorem w_TokenRow_length {p : Program} {l : Launch} {e : Env} {s : State} {m : MethodId} {args : Array Value} {below : List Frame} {meth : Method} {c : Code} {D : va_G} {g : Nat → ClassId} {ad : Nat → Nat} {dr : Nat → Option Nat} {pl : va_W} {μ : Mem} {r : Int32} {n : Nat} {a1 : Int32} {ls : Array Slot} (X : Cx p s m args meth c b_TokenRow_length 2 R_TokenRow (some .int) D CL (TY g)) (hP : va_P D CL (WX g ad dr pl μ) s.heap) (hl : lv_has ls 2 [(0, .ref (ad 35)), (1, .int a1)]) (hf : f_TokenRow_length n μ a1 = some r) : WR p l e rm_TokenRow_length s m args below meth c (.int r) (F0 m 0 ls []) := by
  obtain ⟨S, hr, hlk, hK⟩ := id X
  obtain ⟨hx, hb, hml, hown, hts⟩ := id S
  rw [f_TokenRow_length] at hf
  refine lv_aload_n hx hb d_TokenRow_length_0 rfl (lv_at hl 0 rfl) ?_
  refine xg_35_3 hx hb hts hown hK hP q_194 d_TokenRow_length_1 ?_
  refine lv_iload_n hx hb d_TokenRow_length_4 rfl (lv_at hl 1 rfl) ?_
  obtain ⟨hi, hf⟩ := gd_x hf
  refine xl_37 hx hb hK hP (inb_in hi) d_TokenRow_length_5 ?_
  have h1 := Option.some.inj hf
  subst h1
  exact W.iret hx hb hr (fun t ht _ => ⟨rfl, ht⟩) (fun _ h => by cases h) d_TokenRow_length_6
theorem c_TokenRow_length {l : Launch} {D : va_G} {g : Nat → ClassId} {ad : Nat → Nat} {dr : Nat → Option Nat} {pl : va_W} {μ : Mem} {r : Int32} {n : Nat} {a1 : Int32} (hf : f_TokenRow_length n μ a1 = some r) : Met l y_TokenRow_length (Cond.code y_TokenRow_length b_TokenRow_length 2 (some .int) :: ww) rm_TokenRow_length (RP D CL (TY g) (WX g ad dr pl μ) [.ref (ad 35), .int a1]) (k2_QcV (.int r)) 0 0 (fun _ => False) := by
  refine met_of (by decide) (Nat.le_of_ble_eq_true rfl) ?_
  intro p e s m below meth c ls X hP hl
  have hl : lv_has ls 2 [(0, .ref (ad 35)), (1, .int a1)] := hl
  exact w_TokenRow_length X hP hl hf
theorem d_TokenRow_part_0 : decode b_TokenRow_part 0 = .ok (.aload_n 0, 1) := by decide +kernel
theorem d_TokenRow_part_1 : decode b_TokenRow_part 1 = .ok (.getfield 26, 3) := by decide +kernel
theorem d_TokenRow_part_4 : decode b_TokenRow_part 4 = .ok (.iload_n 1, 1) := by decide +kernel
theorem d_TokenRow_part_5 : decode b_TokenRow_part 5 = .ok (.iaload, 1) := by decide +kernel
theorem d_TokenRow_part_6 : decode b_TokenRow_part 6 = .ok (.ireturn, 1) := by decide +kernel
abbrev rm_TokenRow_part : Room := { frames := 0, cells := 0, slots := 0, locals := 0 }
def f_TokenRow_part (n : Nat) (μ : Mem) (a1 : Int32) : Option Int32 := gd (inb a1 24) (some (μ.1 38 a1.toNatClampNeg))
set_option maxHeartbeats 4000000 in
set_option maxRecDepth 100000 in
theorem w_TokenRow_part {p : Program} {l : Launch} {e : Env} {s : State} {m : MethodId} {args : Array Value} {below : List Frame} {meth : Method} {c : Code} {D : va_G} {g : Nat → ClassId} {ad : Nat → Nat} {dr : Nat → Option Nat} {pl : va_W} {μ : Mem} {r : Int32} {n : Nat} {a1 : Int32} {ls : Array Slot} (X : Cx p s m args meth c b_TokenRow_part 2 R_TokenRow (some .int) D CL (TY g)) (hP : va_P D CL (WX g ad dr pl μ) s.heap) (hl : lv_has ls 2 [(0, .ref (ad 35)), (1, .int a1)]) (hf : f_TokenRow_part n μ a1 = some r) : WR p l e rm_TokenRow_part s m args below meth c (.int r) (F0 m 0 ls []) := by
  obtain ⟨S, hr, hlk, hK⟩ := id X
  obtain ⟨hx, hb, hml, hown, hts⟩ := id S
  rw [f_TokenRow_part] at hf
  refine lv_aload_n hx hb d_TokenRow_part_0 rfl (lv_at hl 0 rfl) ?_
  refine xg_35_4 hx hb hts hown hK hP q_195 d_TokenRow_part_1 ?_
  refine lv_iload_n hx hb d_TokenRow_part_4 rfl (lv_at hl 1 rfl) ?_
  obtain ⟨hi, hf⟩ := gd_x hf
  refine xl_38 hx hb hK hP (inb_in hi) d_TokenRow_part_5 ?_
  have h1 := Option.some.inj hf
  subst h1
  exact W.iret hx hb hr (fun t ht _ => ⟨rfl, ht⟩) (fun _ h => by cases h) d_TokenRow_part_6
theorem c_TokenRow_part {l : Launch} {D : va_G} {g : Nat → ClassId} {ad : Nat → Nat} {dr : Nat → Option Nat} {pl : va_W} {μ : Mem} {r : Int32} {n : Nat} {a1 : Int32} (hf : f_TokenRow_part n μ a1 = some r) : Met l y_TokenRow_part (Cond.code y_TokenRow_part b_TokenRow_part 2 (some .int) :: ww) rm_TokenRow_part (RP D CL (TY g) (WX g ad dr pl μ) [.ref (ad 35), .int a1]) (k2_QcV (.int r)) 0 0 (fun _ => False) := by
  refine met_of (by decide) (Nat.le_of_ble_eq_true rfl) ?_
  intro p e s m below meth c ls X hP hl
  have hl : lv_has ls 2 [(0, .ref (ad 35)), (1, .int a1)] := hl
  exact w_TokenRow_part X hP hl hf
theorem d_TokenRow_entry_0 : decode b_TokenRow_entry 0 = .ok (.aload_n 0, 1) := by decide +kernel
theorem d_TokenRow_entry_1 : decode b_TokenRow_entry 1 = .ok (.getfield 29, 3) := by decide +kernel
theorem d_TokenRow_entry_4 : decode b_TokenRow_entry 4 = .ok (.iload_n 1, 1) := by decide +kernel
theorem d_TokenRow_entry_5 : decode b_TokenRow_entry 5 = .ok (.iaload, 1) := by decide +kernel
theorem d_TokenRow_entry_6 : decode b_TokenRow_entry 6 = .ok (.ireturn, 1) := by decide +kernel
abbrev rm_TokenRow_entry : Room := { frames := 0, cells := 0, slots := 0, locals := 0 }
def f_TokenRow_entry (n : Nat) (μ : Mem) (a1 : Int32) : Option Int32 := gd (inb a1 24) (some (μ.1 39 a1.toNatClampNeg))
set_option maxHeartbeats 4000000 in
set_option maxRecDepth 100000 in
theorem w_TokenRow_entry {p : Program} {l : Launch} {e : Env} {s : State} {m : MethodId} {args : Array Value} {below : List Frame} {meth : Method} {c : Code} {D : va_G} {g : Nat → ClassId} {ad : Nat → Nat} {dr : Nat → Option Nat} {pl : va_W} {μ : Mem} {r : Int32} {n : Nat} {a1 : Int32} {ls : Array Slot} (X : Cx p s m args meth c b_TokenRow_entry 2 R_TokenRow (some .int) D CL (TY g)) (hP : va_P D CL (WX g ad dr pl μ) s.heap) (hl : lv_has ls 2 [(0, .ref (ad 35)), (1, .int a1)]) (hf : f_TokenRow_entry n μ a1 = some r) : WR p l e rm_TokenRow_entry s m args below meth c (.int r) (F0 m 0 ls []) := by
  obtain ⟨S, hr, hlk, hK⟩ := id X
  obtain ⟨hx, hb, hml, hown, hts⟩ := id S
  rw [f_TokenRow_entry] at hf
  refine lv_aload_n hx hb d_TokenRow_entry_0 rfl (lv_at hl 0 rfl) ?_
  refine xg_35_5 hx hb hts hown hK hP q_196 d_TokenRow_entry_1 ?_
  refine lv_iload_n hx hb d_TokenRow_entry_4 rfl (lv_at hl 1 rfl) ?_
  obtain ⟨hi, hf⟩ := gd_x hf
  refine xl_39 hx hb hK hP (inb_in hi) d_TokenRow_entry_5 ?_
  have h1 := Option.some.inj hf
  subst h1
  exact W.iret hx hb hr (fun t ht _ => ⟨rfl, ht⟩) (fun _ h => by cases h) d_TokenRow_entry_6
theorem c_TokenRow_entry {l : Launch} {D : va_G} {g : Nat → ClassId} {ad : Nat → Nat} {dr : Nat → Option Nat} {pl : va_W} {μ : Mem} {r : Int32} {n : Nat} {a1 : Int32} (hf : f_TokenRow_entry n μ a1 = some r) : Met l y_TokenRow_entry (Cond.code y_TokenRow_entry b_TokenRow_entry 2 (some .int) :: ww) rm_TokenRow_entry (RP D CL (TY g) (WX g ad dr pl μ) [.ref (ad 35), .int a1]) (k2_QcV (.int r)) 0 0 (fun _ => False) := by
  refine met_of (by decide) (Nat.le_of_ble_eq_true rfl) ?_
  intro p e s m below meth c ls X hP hl
  have hl : lv_has ls 2 [(0, .ref (ad 35)), (1, .int a1)] := hl
  exact w_TokenRow_entry X hP hl hf
theorem d_TokenRow_compound_0 : decode b_TokenRow_compound 0 = .ok (.aload_n 0, 1) := by decide +kernel
theorem d_TokenRow_compound_1 : decode b_TokenRow_compound 1 = .ok (.getfield 32, 3) := by decide +kernel
theorem d_TokenRow_compound_4 : decode b_TokenRow_compound 4 = .ok (.iload_n 1, 1) := by decide +kernel
theorem d_TokenRow_compound_5 : decode b_TokenRow_compound 5 = .ok (.iaload, 1) := by decide +kernel
theorem d_TokenRow_compound_6 : decode b_TokenRow_compound 6 = .ok (.ireturn, 1) := by decide +kernel
abbrev rm_TokenRow_compound : Room := { frames := 0, cells := 0, slots := 0, locals := 0 }
def f_TokenRow_compound (n : Nat) (μ : Mem) (a1 : Int32) : Option Int32 := gd (inb a1 24) (some (μ.1 40 a1.toNatClampNeg))
set_option maxHeartbeats 4000000 in
set_option maxRecDepth 100000 in
theorem w_TokenRow_compound {p : Program} {l : Launch} {e : Env} {s : State} {m : MethodId} {args : Array Value} {below : List Frame} {meth : Method} {c : Code} {D : va_G} {g : Nat → ClassId} {ad : Nat → Nat} {dr : Nat → Option Nat} {pl : va_W} {μ : Mem} {r : Int32} {n : Nat} {a1 : Int32} {ls : Array Slot} (X : Cx p s m args meth c b_TokenRow_compound 2 R_TokenRow (some .int) D CL (TY g)) (hP : va_P D CL (WX g ad dr pl μ) s.heap) (hl : lv_has ls 2 [(0, .ref (ad 35)), (1, .int a1)]) (hf : f_TokenRow_compound n μ a1 = some r) : WR p l e rm_TokenRow_compound s m args below meth c (.int r) (F0 m 0 ls []) := by
  obtain ⟨S, hr, hlk, hK⟩ := id X
  obtain ⟨hx, hb, hml, hown, hts⟩ := id S
  rw [f_TokenRow_compound] at hf
  refine lv_aload_n hx hb d_TokenRow_compound_0 rfl (lv_at hl 0 rfl) ?_
  refine xg_35_6 hx hb hts hown hK hP q_197 d_TokenRow_compound_1 ?_
  refine lv_iload_n hx hb d_TokenRow_compound_4 rfl (lv_at hl 1 rfl) ?_
  obtain ⟨hi, hf⟩ := gd_x hf
  refine xl_40 hx hb hK hP (inb_in hi) d_TokenRow_compound_5 ?_
  have h1 := Option.some.inj hf
  subst h1
  exact W.iret hx hb hr (fun t ht _ => ⟨rfl, ht⟩) (fun _ h => by cases h) d_TokenRow_compound_6
theorem c_TokenRow_compound {l : Launch} {D : va_G} {g : Nat → ClassId} {ad : Nat → Nat} {dr : Nat → Option Nat} {pl : va_W} {μ : Mem} {r : Int32} {n : Nat} {a1 : Int32} (hf : f_TokenRow_compound n μ a1 = some r) : Met l y_TokenRow_compound (Cond.code y_TokenRow_compound b_TokenRow_compound 2 (some .int) :: ww) rm_TokenRow_compound (RP D CL (TY g) (WX g ad dr pl μ) [.ref (ad 35), .int a1]) (k2_QcV (.int r)) 0 0 (fun _ => False) := by
  refine met_of (by decide) (Nat.le_of_ble_eq_true rfl) ?_
  intro p e s m below meth c ls X hP hl
  have hl : lv_has ls 2 [(0, .ref (ad 35)), (1, .int a1)] := hl
  exact w_TokenRow_compound X hP hl hf
