theorem d_Lattice_put_0 : decode b_Lattice_put 0 = .ok (.aload_n 0, 1) := by decide +kernel
theorem d_Lattice_put_1 : decode b_Lattice_put 1 = .ok (.getfield 42, 3) := by decide +kernel
theorem d_Lattice_put_4 : decode b_Lattice_put 4 = .ok (.sipush 696, 3) := by decide +kernel
theorem d_Lattice_put_7 : decode b_Lattice_put 7 = .ok (.if_icmp .lt 4, 3) := by decide +kernel
theorem d_Lattice_put_10 : decode b_Lattice_put 10 = .ok (.return_, 1) := by decide +kernel
theorem d_Lattice_put_11 : decode b_Lattice_put 11 = .ok (.aload_n 0, 1) := by decide +kernel
theorem d_Lattice_put_12 : decode b_Lattice_put 12 = .ok (.getfield 23, 3) := by decide +kernel
theorem d_Lattice_put_15 : decode b_Lattice_put 15 = .ok (.aload_n 0, 1) := by decide +kernel
theorem d_Lattice_put_16 : decode b_Lattice_put 16 = .ok (.getfield 42, 3) := by decide +kernel
theorem d_Lattice_put_19 : decode b_Lattice_put 19 = .ok (.iload_n 1, 1) := by decide +kernel
theorem d_Lattice_put_20 : decode b_Lattice_put 20 = .ok (.iastore, 1) := by decide +kernel
theorem d_Lattice_put_21 : decode b_Lattice_put 21 = .ok (.aload_n 0, 1) := by decide +kernel
theorem d_Lattice_put_22 : decode b_Lattice_put 22 = .ok (.getfield 27, 3) := by decide +kernel
theorem d_Lattice_put_25 : decode b_Lattice_put 25 = .ok (.aload_n 0, 1) := by decide +kernel
theorem d_Lattice_put_26 : decode b_Lattice_put 26 = .ok (.getfield 42, 3) := by decide +kernel
theorem d_Lattice_put_29 : decode b_Lattice_put 29 = .ok (.iload_n 2, 1) := by decide +kernel
theorem d_Lattice_put_30 : decode b_Lattice_put 30 = .ok (.iastore, 1) := by decide +kernel
theorem d_Lattice_put_31 : decode b_Lattice_put 31 = .ok (.aload_n 0, 1) := by decide +kernel
theorem d_Lattice_put_32 : decode b_Lattice_put 32 = .ok (.getfield 30, 3) := by decide +kernel
theorem d_Lattice_put_35 : decode b_Lattice_put 35 = .ok (.aload_n 0, 1) := by decide +kernel
theorem d_Lattice_put_36 : decode b_Lattice_put 36 = .ok (.getfield 42, 3) := by decide +kernel
theorem d_Lattice_put_39 : decode b_Lattice_put 39 = .ok (.iload_n 3, 1) := by decide +kernel
theorem d_Lattice_put_40 : decode b_Lattice_put 40 = .ok (.iastore, 1) := by decide +kernel
theorem d_Lattice_put_41 : decode b_Lattice_put 41 = .ok (.aload_n 0, 1) := by decide +kernel
theorem d_Lattice_put_42 : decode b_Lattice_put 42 = .ok (.getfield 33, 3) := by decide +kernel
theorem d_Lattice_put_45 : decode b_Lattice_put 45 = .ok (.aload_n 0, 1) := by decide +kernel
theorem d_Lattice_put_46 : decode b_Lattice_put 46 = .ok (.getfield 42, 3) := by decide +kernel
theorem d_Lattice_put_49 : decode b_Lattice_put 49 = .ok (.iload 4, 2) := by decide +kernel
theorem d_Lattice_put_51 : decode b_Lattice_put 51 = .ok (.iastore, 1) := by decide +kernel
theorem d_Lattice_put_52 : decode b_Lattice_put 52 = .ok (.aload_n 0, 1) := by decide +kernel
theorem d_Lattice_put_53 : decode b_Lattice_put 53 = .ok (.getfield 39, 3) := by decide +kernel
theorem d_Lattice_put_56 : decode b_Lattice_put 56 = .ok (.aload_n 0, 1) := by decide +kernel
theorem d_Lattice_put_57 : decode b_Lattice_put 57 = .ok (.getfield 42, 3) := by decide +kernel
theorem d_Lattice_put_60 : decode b_Lattice_put 60 = .ok (.iload 5, 2) := by decide +kernel
theorem d_Lattice_put_62 : decode b_Lattice_put 62 = .ok (.iastore, 1) := by decide +kernel
theorem d_Lattice_put_63 : decode b_Lattice_put 63 = .ok (.aload_n 0, 1) := by decide +kernel
theorem d_Lattice_put_64 : decode b_Lattice_put 64 = .ok (.dup, 1) := by decide +kernel
theorem d_Lattice_put_65 : decode b_Lattice_put 65 = .ok (.getfield 42, 3) := by decide +kernel
theorem d_Lattice_put_68 : decode b_Lattice_put 68 = .ok (.iconst 1, 1) := by decide +kernel
theorem d_Lattice_put_69 : decode b_Lattice_put 69 = .ok (.iadd, 1) := by decide +kernel
theorem d_Lattice_put_70 : decode b_Lattice_put 70 = .ok (.putfield 42, 3) := by decide +kernel
theorem d_Lattice_put_73 : decode b_Lattice_put 73 = .ok (.return_, 1) := by decide +kernel
abbrev rm_Lattice_put : Room := { frames := 0, cells := 0, slots := 0, locals := 0 }
def f_Lattice_put (n : Nat) (μ : Mem) (a1 : Int32) (a2 : Int32) (a3 : Int32) (a4 : Int32) (a5 : Int32) : Option Mem := (if (μ.1 18 9) < (696 : Int32) then (gd (inb (μ.1 18 9) 696) (bd (wi μ 19 (μ.1 18 9).toNatClampNeg a1) (fun μ1 => gd (inb (μ1.1 18 9) 696) (bd (wi μ1 20 (μ1.1 18 9).toNatClampNeg a2) (fun μ2 => gd (inb (μ2.1 18 9) 696) (bd (wi μ2 21 (μ2.1 18 9).toNatClampNeg a3) (fun μ3 => gd (inb (μ3.1 18 9) 696) (bd (wi μ3 22 (μ3.1 18 9).toNatClampNeg a4) (fun μ4 => gd (inb (μ4.1 18 9) 696) (bd (wi μ4 24 (μ4.1 18 9).toNatClampNeg a5) (fun μ5 => bd (wi μ5 18 9 ((μ5.1 18 9) + (1 : Int32))) (fun μ6 => some μ6)))))))))))) else (some μ))
set_option maxHeartbeats 4000000 in
set_option maxRecDepth 100000 in
theorem w_Lattice_put {p : Program} {l : Launch} {e : Env} {s : State} {m : MethodId} {args : Array Value} {below : List Frame} {meth : Method} {c : Code} {D : va_G} {g : Nat → ClassId} {ad : Nat → Nat} {dr : Nat → Option Nat} {pl : va_W} {μ' : Mem} {A : Nat → Prop} {n : Nat} {μ : Mem} {a1 : Int32} {a2 : Int32} {a3 : Int32} {a4 : Int32} {a5 : Int32} {ls : Array Slot} {H : Heap} {locs : List Loc} (X : Cx p s m args meth c b_Lattice_put 6 R_Lattice none D CL (TY g)) (hDA : ∀ μ : Mem, va_D A (WX g ad dr pl μ)) (hP : va_P D CL (WX g ad dr pl μ) H) (hS : va_S A s.heap H locs) (hl : lv_has ls 6 [(0, .ref (ad 18)), (1, .int a1), (2, .int a2), (3, .int a3), (4, .int a4), (5, .int a5)]) (hf : f_Lattice_put n μ a1 a2 a3 a4 a5 = some μ') : WU p l e rm_Lattice_put s m args below meth c H locs D (WX g ad dr pl μ') A none (F0 m 0 ls []) := by
  obtain ⟨S, hr, hlk, hK⟩ := id X
  obtain ⟨hx, hb, hml, hown, hts⟩ := id S
  rw [f_Lattice_put] at hf
  refine lv_aload_n hx hb d_Lattice_put_0 rfl (lv_at hl 0 rfl) ?_
  refine xg_18_9 hx hb hts hown hK hP q_126 d_Lattice_put_1 ?_
  refine lv_sipush (v := 696) hx hb d_Lattice_put_4 (by decide) ?_
  refine lv_icmp_lt (tgt := 11) hx hb d_Lattice_put_7 rfl (fun hc => ?_) (fun hc => ?_)
  · replace hf := br_p hc hf
    refine lv_aload_n hx hb d_Lattice_put_11 rfl (lv_at hl 0 rfl) ?_
    refine xg_18_3 hx hb hts hown hK hP q_120 d_Lattice_put_12 ?_
    refine lv_aload_n hx hb d_Lattice_put_15 rfl (lv_at hl 0 rfl) ?_
    refine xg_18_9 hx hb hts hown hK hP q_126 d_Lattice_put_16 ?_
    refine lv_iload_n hx hb d_Lattice_put_19 rfl (lv_at hl 1 rfl) ?_
    obtain ⟨hi, hf⟩ := gd_x hf
    obtain ⟨μ1, hμ1, hf⟩ := bd_x hf
    refine xs_19 hx hb hK (hDA _) hP hS (inb_in hi) d_Lattice_put_20 hμ1 (fun H locs hP hS => ?_)
    refine lv_aload_n hx hb d_Lattice_put_21 rfl (lv_at hl 0 rfl) ?_
    refine xg_18_4 hx hb hts hown hK hP q_121 d_Lattice_put_22 ?_
    refine lv_aload_n hx hb d_Lattice_put_25 rfl (lv_at hl 0 rfl) ?_
    refine xg_18_9 hx hb hts hown hK hP q_126 d_Lattice_put_26 ?_
    refine lv_iload_n hx hb d_Lattice_put_29 rfl (lv_at hl 2 rfl) ?_
    obtain ⟨hi, hf⟩ := gd_x hf
    obtain ⟨μ2, hμ2, hf⟩ := bd_x hf
    refine xs_20 hx hb hK (hDA _) hP hS (inb_in hi) d_Lattice_put_30 hμ2 (fun H locs hP hS => ?_)
    refine lv_aload_n hx hb d_Lattice_put_31 rfl (lv_at hl 0 rfl) ?_
    refine xg_18_5 hx hb hts hown hK hP q_122 d_Lattice_put_32 ?_
    refine lv_aload_n hx hb d_Lattice_put_35 rfl (lv_at hl 0 rfl) ?_
    refine xg_18_9 hx hb hts hown hK hP q_126 d_Lattice_put_36 ?_
    refine lv_iload_n hx hb d_Lattice_put_39 rfl (lv_at hl 3 rfl) ?_
    obtain ⟨hi, hf⟩ := gd_x hf
    obtain ⟨μ3, hμ3, hf⟩ := bd_x hf
    refine xs_21 hx hb hK (hDA _) hP hS (inb_in hi) d_Lattice_put_40 hμ3 (fun H locs hP hS => ?_)
    refine lv_aload_n hx hb d_Lattice_put_41 rfl (lv_at hl 0 rfl) ?_
    refine xg_18_6 hx hb hts hown hK hP q_123 d_Lattice_put_42 ?_
    refine lv_aload_n hx hb d_Lattice_put_45 rfl (lv_at hl 0 rfl) ?_
    refine xg_18_9 hx hb hts hown hK hP q_126 d_Lattice_put_46 ?_
    refine lv_iload hx hb d_Lattice_put_49 (lv_at hl 4 rfl) ?_
    obtain ⟨hi, hf⟩ := gd_x hf
    obtain ⟨μ4, hμ4, hf⟩ := bd_x hf
    refine xs_22 hx hb hK (hDA _) hP hS (inb_in hi) d_Lattice_put_51 hμ4 (fun H locs hP hS => ?_)
    refine lv_aload_n hx hb d_Lattice_put_52 rfl (lv_at hl 0 rfl) ?_
    refine xg_18_8 hx hb hts hown hK hP q_125 d_Lattice_put_53 ?_
    refine lv_aload_n hx hb d_Lattice_put_56 rfl (lv_at hl 0 rfl) ?_
    refine xg_18_9 hx hb hts hown hK hP q_126 d_Lattice_put_57 ?_
    refine lv_iload hx hb d_Lattice_put_60 (lv_at hl 5 rfl) ?_
    obtain ⟨hi, hf⟩ := gd_x hf
    obtain ⟨μ5, hμ5, hf⟩ := bd_x hf
    refine xs_24 hx hb hK (hDA _) hP hS (inb_in hi) d_Lattice_put_62 hμ5 (fun H locs hP hS => ?_)
    refine lv_aload_n hx hb d_Lattice_put_63 rfl (lv_at hl 0 rfl) ?_
    refine lv_dup hx hb d_Lattice_put_64 rfl ?_
    refine xg_18_9 hx hb hts hown hK hP q_126 d_Lattice_put_65 ?_
    refine lv_iconst (v := 1) hx hb d_Lattice_put_68 (by decide) ?_
    refine lv_iadd hx hb d_Lattice_put_69 ?_
    obtain ⟨μ6, hμ6, hf⟩ := bd_x hf
    refine xp_18_9 hx hb hts hown hK (hDA _) hP hS q_126 d_Lattice_put_70 hμ6 (fun H locs hP hS => ?_)
    obtain rfl := Option.some.inj hf
    exact W.vret hx hb hr (fun t ht _ => ⟨rfl, by rw [ht]; exact hP, hS.F ht⟩) hS.2.2 d_Lattice_put_73
  · replace hf := br_n hc hf
    obtain rfl := Option.some.inj hf
    exact W.vret hx hb hr (fun t ht _ => ⟨rfl, by rw [ht]; exact hP, hS.F ht⟩) hS.2.2 d_Lattice_put_10
theorem c_Lattice_put {l : Launch} {D : va_G} {g : Nat → ClassId} {ad : Nat → Nat} {dr : Nat → Option Nat} {pl : va_W} {μ : Mem} {μ' : Mem} {A : Nat → Prop} {n : Nat} {a1 : Int32} {a2 : Int32} {a3 : Int32} {a4 : Int32} {a5 : Int32} (hDA : ∀ μ : Mem, va_D A (WX g ad dr pl μ)) (hf : f_Lattice_put n μ a1 a2 a3 a4 a5 = some μ') : Met l y_Lattice_put (Cond.code y_Lattice_put b_Lattice_put 6 none :: ww) rm_Lattice_put (RP D CL (TY g) (WX g ad dr pl μ) [.ref (ad 18), .int a1, .int a2, .int a3, .int a4, .int a5]) (QW D CL (WX g ad dr pl μ') A none) 0 0 A := by
  refine met_of (by decide) (Nat.le_of_ble_eq_true rfl) ?_
  intro p e s m below meth c ls X hP hl
  have hl : lv_has ls 6 [(0, .ref (ad 18)), (1, .int a1), (2, .int a2), (3, .int a3), (4, .int a4), (5, .int a5)] := hl
  exact w_Lattice_put X hDA hP va_S.rf hl hf
theorem d_Lattice_putKnown_0 : decode b_Lattice_putKnown 0 = .ok (.aload_n 0, 1) := by decide +kernel
theorem d_Lattice_putKnown_1 : decode b_Lattice_putKnown 1 = .ok (.getfield 9, 3) := by decide +kernel
theorem d_Lattice_putKnown_4 : decode b_Lattice_putKnown 4 = .ok (.iload_n 1, 1) := by decide +kernel
theorem d_Lattice_putKnown_5 : decode b_Lattice_putKnown 5 = .ok (.bipush 8, 2) := by decide +kernel
theorem d_Lattice_putKnown_7 : decode b_Lattice_putKnown 7 = .ok (.invokevirtual 68, 3) := by decide +kernel
theorem d_Lattice_putKnown_10 : decode b_Lattice_putKnown 10 = .ok (.lstore_n 2, 1) := by decide +kernel
theorem d_Lattice_putKnown_11 : decode b_Lattice_putKnown 11 = .ok (.iconst 0, 1) := by decide +kernel
theorem d_Lattice_putKnown_12 : decode b_Lattice_putKnown 12 = .ok (.istore 4, 2) := by decide +kernel
theorem d_Lattice_putKnown_14 : decode b_Lattice_putKnown 14 = .ok (.iload 4, 2) := by decide +kernel
theorem d_Lattice_putKnown_16 : decode b_Lattice_putKnown 16 = .ok (.aload_n 0, 1) := by decide +kernel
theorem d_Lattice_putKnown_17 : decode b_Lattice_putKnown 17 = .ok (.getfield 15, 3) := by decide +kernel
theorem d_Lattice_putKnown_20 : decode b_Lattice_putKnown 20 = .ok (.invokevirtual 72, 3) := by decide +kernel
theorem d_Lattice_putKnown_23 : decode b_Lattice_putKnown 23 = .ok (.if_icmp .ge 56, 3) := by decide +kernel
theorem d_Lattice_putKnown_26 : decode b_Lattice_putKnown 26 = .ok (.aload_n 0, 1) := by decide +kernel
theorem d_Lattice_putKnown_27 : decode b_Lattice_putKnown 27 = .ok (.getfield 15, 3) := by decide +kernel
theorem d_Lattice_putKnown_30 : decode b_Lattice_putKnown 30 = .ok (.iload 4, 2) := by decide +kernel
theorem d_Lattice_putKnown_32 : decode b_Lattice_putKnown 32 = .ok (.lload_n 2, 1) := by decide +kernel
theorem d_Lattice_putKnown_33 : decode b_Lattice_putKnown 33 = .ok (.invokevirtual 76, 3) := by decide +kernel
theorem d_Lattice_putKnown_36 : decode b_Lattice_putKnown 36 = .ok (.ifCond .eq 37, 3) := by decide +kernel
theorem d_Lattice_putKnown_39 : decode b_Lattice_putKnown 39 = .ok (.aload_n 0, 1) := by decide +kernel
theorem d_Lattice_putKnown_40 : decode b_Lattice_putKnown 40 = .ok (.iload_n 1, 1) := by decide +kernel
theorem d_Lattice_putKnown_41 : decode b_Lattice_putKnown 41 = .ok (.aload_n 0, 1) := by decide +kernel
theorem d_Lattice_putKnown_42 : decode b_Lattice_putKnown 42 = .ok (.getfield 15, 3) := by decide +kernel
theorem d_Lattice_putKnown_45 : decode b_Lattice_putKnown 45 = .ok (.iload 4, 2) := by decide +kernel
theorem d_Lattice_putKnown_47 : decode b_Lattice_putKnown 47 = .ok (.invokevirtual 79, 3) := by decide +kernel
theorem d_Lattice_putKnown_50 : decode b_Lattice_putKnown 50 = .ok (.aload_n 0, 1) := by decide +kernel
theorem d_Lattice_putKnown_51 : decode b_Lattice_putKnown 51 = .ok (.getfield 15, 3) := by decide +kernel
theorem d_Lattice_putKnown_54 : decode b_Lattice_putKnown 54 = .ok (.iload 4, 2) := by decide +kernel
theorem d_Lattice_putKnown_56 : decode b_Lattice_putKnown 56 = .ok (.invokevirtual 81, 3) := by decide +kernel
theorem d_Lattice_putKnown_59 : decode b_Lattice_putKnown 59 = .ok (.aload_n 0, 1) := by decide +kernel
theorem d_Lattice_putKnown_60 : decode b_Lattice_putKnown 60 = .ok (.getfield 15, 3) := by decide +kernel
theorem d_Lattice_putKnown_63 : decode b_Lattice_putKnown 63 = .ok (.iload 4, 2) := by decide +kernel
theorem d_Lattice_putKnown_65 : decode b_Lattice_putKnown 65 = .ok (.invokevirtual 84, 3) := by decide +kernel
theorem d_Lattice_putKnown_68 : decode b_Lattice_putKnown 68 = .ok (.iload 4, 2) := by decide +kernel
theorem d_Lattice_putKnown_70 : decode b_Lattice_putKnown 70 = .ok (.invokevirtual 87, 3) := by decide +kernel
theorem d_Lattice_putKnown_73 : decode b_Lattice_putKnown 73 = .ok (.iinc 4 1, 3) := by decide +kernel
theorem d_Lattice_putKnown_76 : decode b_Lattice_putKnown 76 = .ok (.goto (-62), 3) := by decide +kernel
theorem d_Lattice_putKnown_79 : decode b_Lattice_putKnown 79 = .ok (.return_, 1) := by decide +kernel
abbrev rm_Lattice_putKnown : Room := { frames := 2, cells := 0, slots := 0, locals := 47 }
def f_Lattice_putKnown_73 (κ14 : Mem → Int32 → Int64 → Int32 → Option Mem) (n : Nat) (μ : Mem) (x1 : Int32) (x2 : Int64) (x4 : Int32) : Option Mem := bd (x4 + 1) (fun v1 => κ14 μ x1 x2 v1)
set_option maxHeartbeats 4000000 in
set_option maxRecDepth 100000 in
theorem w_Lattice_putKnown_73 {p : Program} {l : Launch} {e : Env} {s : State} {m : MethodId} {args : Array Value} {below : List Frame} {meth : Method} {c : Code} {D : va_G} {g : Nat → ClassId} {ad : Nat → Nat} {dr : Nat → Option Nat} {pl : va_W} {μ' : Mem} {A : Nat → Prop} {κ14 : Mem → Int32 → Int64 → Int32 → Option Mem} {n : Nat} {μ : Mem} {x1 : Int32} {x2 : Int64} {x4 : Int32} {ls : Array Slot} {H : Heap} {locs : List Loc} (X : Cx p s m args meth c b_Lattice_putKnown 5 R_Lattice none D CL (TY g)) (hDA : ∀ μ : Mem, va_D A (WX g ad dr pl μ)) (hκ14 : ∀ (μ : Mem) (x1 : Int32) (x2 : Int64) (x4 : Int32) (ls : Array Slot) (H : Heap) (locs : List Loc), va_P D CL (WX g ad dr pl μ) H → va_S A s.heap H locs → lv_has ls 5 [(0, .ref (ad 18)), (1, .int x1), (2, .long x2), (4, .int x4)] → κ14 μ x1 x2 x4 = some μ' → WU p l e rm_Lattice_putKnown s m args below meth c H locs D (WX g ad dr pl μ') A none (F0 m 14 ls [])) (hP : va_P D CL (WX g ad dr pl μ) H) (hS : va_S A s.heap H locs) (hl : lv_has ls 5 [(0, .ref (ad 18)), (1, .int x1), (2, .long x2), (4, .int x4)]) (hf : f_Lattice_putKnown_73 κ14 n μ x1 x2 x4 = some μ') : WU p l e rm_Lattice_putKnown s m args below meth c H locs D (WX g ad dr pl μ') A none (F0 m 73 ls []) := by
  obtain ⟨S, hr, hlk, hK⟩ := id X
  obtain ⟨hx, hb, hml, hown, hts⟩ := id S
  rw [f_Lattice_putKnown_73] at hf
  obtain ⟨v1, hv1, hf⟩ := bd_x hf
  refine lv_iinc (lv' := [(4, .int v1), (0, .ref (ad 18)), (1, .int x1), (2, .long x2)]) hx hb d_Lattice_putKnown_73 hl (k := 3) rfl (show x4 + Int32.ofInt (1) = v1 from hv1) (Nat.le_of_ble_eq_true rfl) rfl (fun ls hl => ?_)
  refine lv_goto (tgt := 14) hx hb d_Lattice_putKnown_76 rfl ?_
  exact hκ14 _ _ _ _ _ _ _ hP hS (lv_sub (l' := [(0, .ref (ad 18)), (1, .int x1), (2, .long x2), (4, .int v1)]) hl [1, 2, 3, 0] rfl) hf
def f_Lattice_putKnown_14 : Nat → Mem → Int32 → Int64 → Int32 → Option Mem
  | 0, _, _, _, _ => none
  | n + 1, μ, x1, x2, x4 => cl (f_Lexicon_count n μ) (fun v1 => (if v1 ≤ x4 then (some μ) else (cl (f_Lexicon_begins n μ x4 x2) (fun v2 => (if (bz v2) = 0 then (f_Lattice_putKnown_73 (f_Lattice_putKnown_14 n) n μ x1 x2 x4) else (cl (f_Lexicon_size n μ x4) (fun v3 => cl (f_Lexicon_part n μ x4) (fun v4 => cl (f_Lexicon_price n μ x4) (fun v5 => cl (f_Lattice_put n μ x1 v3 v4 v5 x4) (fun μ7 => f_Lattice_putKnown_73 (f_Lattice_putKnown_14 n) n μ7 x1 x2 x4))))))))))
set_option maxHeartbeats 4000000 in
set_option maxRecDepth 100000 in
theorem w_Lattice_putKnown_14 {p : Program} {l : Launch} {e : Env} {s : State} {m : MethodId} {args : Array Value} {below : List Frame} {meth : Method} {c : Code} {D : va_G} {g : Nat → ClassId} {ad : Nat → Nat} {dr : Nat → Option Nat} {pl : va_W} {μ' : Mem} {A : Nat → Prop} (X : Cx p s m args meth c b_Lattice_putKnown 5 R_Lattice none D CL (TY g)) (hDA : ∀ μ : Mem, va_D A (WX g ad dr pl μ)) : ∀ (n : Nat) (μ : Mem) (x1 : Int32) (x2 : Int64) (x4 : Int32) (ls : Array Slot) (H : Heap) (locs : List Loc), va_P D CL (WX g ad dr pl μ) H → va_S A s.heap H locs → lv_has ls 5 [(0, .ref (ad 18)), (1, .int x1), (2, .long x2), (4, .int x4)] → f_Lattice_putKnown_14 n μ x1 x2 x4 = some μ' → WU p l e rm_Lattice_putKnown s m args below meth c H locs D (WX g ad dr pl μ') A none (F0 m 14 ls []) := by
  intro n
  induction n with
  | zero => intro μ x1 x2 x4 ls H locs hP hS hl hf; rw [f_Lattice_putKnown_14] at hf; cases hf
  | succ n ih =>
    intro μ x1 x2 x4 ls H locs hP hS hl hf
    obtain ⟨S, hr, hlk, hK⟩ := id X
    obtain ⟨hx, hb, hml, hown, hts⟩ := id S
    rw [f_Lattice_putKnown_14] at hf
    refine lv_iload hx hb d_Lattice_putKnown_14 (lv_at hl 3 rfl) ?_
    refine lv_aload_n hx hb d_Lattice_putKnown_16 rfl (lv_at hl 0 rfl) ?_
    refine xg_18_1 hx hb hts hown hK hP q_118 d_Lattice_putKnown_17 ?_
    obtain ⟨v1, hv1, hf⟩ := cl_x hf
    refine rdV (As := []) (rest := [.int x4]) S K_Lexicon_count q_392 (c_Lexicon_count hv1) hK hP ⟨rfl, rfl⟩ ⟨Nat.le_of_ble_eq_true rfl, Nat.le_of_ble_eq_true rfl⟩ (xr_3 hK hP) rfl hl.1 rfl (Nat.le_of_ble_eq_true rfl) d_Lattice_putKnown_20 ⟨Nat.le_refl _, Nat.le_refl _⟩ ?_
    refine lv_icmp_ge (tgt := 79) hx hb d_Lattice_putKnown_23 rfl (fun hc => ?_) (fun hc => ?_)
    · replace hf := br_p hc hf
      obtain rfl := Option.some.inj hf
      exact W.vret hx hb hr (fun t ht _ => ⟨rfl, by rw [ht]; exact hP, hS.F ht⟩) hS.2.2 d_Lattice_putKnown_79
    · replace hf := br_n hc hf
      refine lv_aload_n hx hb d_Lattice_putKnown_26 rfl (lv_at hl 0 rfl) ?_
      refine xg_18_1 hx hb hts hown hK hP q_118 d_Lattice_putKnown_27 ?_
      refine lv_iload hx hb d_Lattice_putKnown_30 (lv_at hl 3 rfl) ?_
      refine lv_lload_n hx hb d_Lattice_putKnown_32 rfl (lv_at hl 2 rfl) ?_
      obtain ⟨v2, hv2, hf⟩ := cl_x hf
      refine rdV (As := [.int x4, .long x2]) (rest := []) S K_Lexicon_begins q_396 (c_Lexicon_begins hv2) hK hP ⟨rfl, rfl⟩ ⟨Nat.le_of_ble_eq_true rfl, Nat.le_of_ble_eq_true rfl⟩ (xr_3 hK hP) rfl hl.1 rfl (Nat.le_of_ble_eq_true rfl) d_Lattice_putKnown_33 ⟨Nat.le_refl _, Nat.le_refl _⟩ ?_
      refine lv_if_eq (tgt := 73) hx hb d_Lattice_putKnown_36 rfl (fun hc => ?_) (fun hc => ?_)
      · replace hf := br_p hc hf
        exact w_Lattice_putKnown_73 X hDA ih hP hS (lv_sub (l' := [(0, .ref (ad 18)), (1, .int x1), (2, .long x2), (4, .int x4)]) hl [0, 1, 2, 3] rfl) hf
      · replace hf := br_n hc hf
        refine lv_aload_n hx hb d_Lattice_putKnown_39 rfl (lv_at hl 0 rfl) ?_
        refine lv_iload_n hx hb d_Lattice_putKnown_40 rfl (lv_at hl 1 rfl) ?_
        refine lv_aload_n hx hb d_Lattice_putKnown_41 rfl (lv_at hl 0 rfl) ?_
        refine xg_18_1 hx hb hts hown hK hP q_118 d_Lattice_putKnown_42 ?_
        refine lv_iload hx hb d_Lattice_putKnown_45 (lv_at hl 3 rfl) ?_
        obtain ⟨v3, hv3, hf⟩ := cl_x hf
        refine rdV (As := [.int x4]) (rest := [.int x1, .ref (ad 18)]) S K_Lexicon_size q_403 (c_Lexicon_size hv3) hK hP ⟨rfl, rfl⟩ ⟨Nat.le_of_ble_eq_true rfl, Nat.le_of_ble_eq_true rfl⟩ (xr_3 hK hP) rfl hl.1 rfl (Nat.le_of_ble_eq_true rfl) d_Lattice_putKnown_47 ⟨Nat.le_refl _, Nat.le_refl _⟩ ?_
        refine lv_aload_n hx hb d_Lattice_putKnown_50 rfl (lv_at hl 0 rfl) ?_
        refine xg_18_1 hx hb hts hown hK hP q_118 d_Lattice_putKnown_51 ?_
        refine lv_iload hx hb d_Lattice_putKnown_54 (lv_at hl 3 rfl) ?_
        obtain ⟨v4, hv4, hf⟩ := cl_x hf
        refine rdV (As := [.int x4]) (rest := [.int v3, .int x1, .ref (ad 18)]) S K_Lexicon_part q_407 (c_Lexicon_part hv4) hK hP ⟨rfl, rfl⟩ ⟨Nat.le_of_ble_eq_true rfl, Nat.le_of_ble_eq_true rfl⟩ (xr_3 hK hP) rfl hl.1 rfl (Nat.le_of_ble_eq_true rfl) d_Lattice_putKnown_56 ⟨Nat.le_refl _, Nat.le_refl _⟩ ?_
        refine lv_aload_n hx hb d_Lattice_putKnown_59 rfl (lv_at hl 0 rfl) ?_
        refine xg_18_1 hx hb hts hown hK hP q_118 d_Lattice_putKnown_60 ?_
        refine lv_iload hx hb d_Lattice_putKnown_63 (lv_at hl 3 rfl) ?_
        obtain ⟨v5, hv5, hf⟩ := cl_x hf
        refine rdV (As := [.int x4]) (rest := [.int v4, .int v3, .int x1, .ref (ad 18)]) S K_Lexicon_price q_411 (c_Lexicon_price hv5) hK hP ⟨rfl, rfl⟩ ⟨Nat.le_of_ble_eq_true rfl, Nat.le_of_ble_eq_true rfl⟩ (xr_3 hK hP) rfl hl.1 rfl (Nat.le_of_ble_eq_true rfl) d_Lattice_putKnown_65 ⟨Nat.le_refl _, Nat.le_refl _⟩ ?_
        refine lv_iload hx hb d_Lattice_putKnown_68 (lv_at hl 3 rfl) ?_
        obtain ⟨μ7, hv6, hf⟩ := cl_x hf
        refine wrV (As := [.int x1, .int v3, .int v4, .int v5, .int x4]) (rest := []) S K_Lattice_put q_415 (c_Lattice_put hDA hv6) hK hP hS ⟨rfl, rfl⟩ ⟨Nat.le_of_ble_eq_true rfl, Nat.le_of_ble_eq_true rfl⟩ (xr_18 hK hP) rfl hl.1 rfl (Nat.le_of_ble_eq_true rfl) d_Lattice_putKnown_70 ⟨Nat.le_refl _, Nat.le_refl _⟩ (fun H locs hP hS => ?_)
        exact w_Lattice_putKnown_73 X hDA ih hP hS (lv_sub (l' := [(0, .ref (ad 18)), (1, .int x1), (2, .long x2), (4, .int x4)]) hl [0, 1, 2, 3] rfl) hf
def f_Lattice_putKnown (n : Nat) (μ : Mem) (a1 : Int32) : Option Mem := cl (f_Draft_text n μ a1 (8 : Int32)) (fun v1 => f_Lattice_putKnown_14 n μ a1 v1 (0 : Int32))
set_option maxHeartbeats 4000000 in
set_option maxRecDepth 100000 in
theorem w_Lattice_putKnown {p : Program} {l : Launch} {e : Env} {s : State} {m : MethodId} {args : Array Value} {below : List Frame} {meth : Method} {c : Code} {D : va_G} {g : Nat → ClassId} {ad : Nat → Nat} {dr : Nat → Option Nat} {pl : va_W} {μ' : Mem} {A : Nat → Prop} {n : Nat} {μ : Mem} {a1 : Int32} {ls : Array Slot} {H : Heap} {locs : List Loc} (X : Cx p s m args meth c b_Lattice_putKnown 5 R_Lattice none D CL (TY g)) (hDA : ∀ μ : Mem, va_D A (WX g ad dr pl μ)) (hP : va_P D CL (WX g ad dr pl μ) H) (hS : va_S A s.heap H locs) (hl : lv_has ls 5 [(0, .ref (ad 18)), (1, .int a1)]) (hf : f_Lattice_putKnown n μ a1 = some μ') : WU p l e rm_Lattice_putKnown s m args below meth c H locs D (WX g ad dr pl μ') A none (F0 m 0 ls []) := by
  obtain ⟨S, hr, hlk, hK⟩ := id X
  obtain ⟨hx, hb, hml, hown, hts⟩ := id S
  rw [f_Lattice_putKnown] at hf
  refine lv_aload_n hx hb d_Lattice_putKnown_0 rfl (lv_at hl 0 rfl) ?_
  refine xg_18_0 hx hb hts hown hK hP q_117 d_Lattice_putKnown_1 ?_
  refine lv_iload_n hx hb d_Lattice_putKnown_4 rfl (lv_at hl 1 rfl) ?_
  refine lv_bipush (v := 8) hx hb d_Lattice_putKnown_5 (by decide) ?_
  obtain ⟨v1, hv1, hf⟩ := cl_x hf
  refine rdV (As := [.int a1, .int (8 : Int32)]) (rest := []) S K_Draft_text q_391 (c_Draft_text hv1) hK hP ⟨rfl, rfl⟩ ⟨Nat.le_of_ble_eq_true rfl, Nat.le_of_ble_eq_true rfl⟩ (xr_1 hK hP) rfl hl.1 rfl (Nat.le_of_ble_eq_true rfl) d_Lattice_putKnown_7 ⟨Nat.le_refl _, Nat.le_refl _⟩ ?_
  refine lv_lstore_n (lv' := [(2, .long v1), (0, .ref (ad 18)), (1, .int a1)]) hx hb d_Lattice_putKnown_10 rfl hl (Nat.le_of_ble_eq_true rfl) rfl (fun ls hl => ?_)
  refine lv_iconst (v := 0) hx hb d_Lattice_putKnown_11 (by decide) ?_
  refine lv_istore (lv' := [(4, .int (0 : Int32)), (2, .long v1), (0, .ref (ad 18)), (1, .int a1)]) hx hb d_Lattice_putKnown_12 hl (Nat.le_of_ble_eq_true rfl) rfl (fun ls hl => ?_)
  exact w_Lattice_putKnown_14 X hDA _ _ _ _ _ _ _ _ hP hS (lv_sub (l' := [(0, .ref (ad 18)), (1, .int a1), (2, .long v1), (4, .int (0 : Int32))]) hl [2, 3, 1, 0] rfl) hf
theorem c_Lattice_putKnown {l : Launch} {D : va_G} {g : Nat → ClassId} {ad : Nat → Nat} {dr : Nat → Option Nat} {pl : va_W} {μ : Mem} {μ' : Mem} {A : Nat → Prop} {n : Nat} {a1 : Int32} (hDA : ∀ μ : Mem, va_D A (WX g ad dr pl μ)) (hf : f_Lattice_putKnown n μ a1 = some μ') : Met l y_Lattice_putKnown (Cond.code y_Lattice_putKnown b_Lattice_putKnown 5 none :: ww) rm_Lattice_putKnown (RP D CL (TY g) (WX g ad dr pl μ) [.ref (ad 18), .int a1]) (QW D CL (WX g ad dr pl μ') A none) 0 0 A := by
  refine met_of (by decide) (Nat.le_of_ble_eq_true rfl) ?_
  intro p e s m below meth c ls X hP hl
  have hl : lv_has ls 5 [(0, .ref (ad 18)), (1, .int a1)] := hl
  exact w_Lattice_putKnown X hDA hP va_S.rf hl hf
theorem d_Lattice_putUnknownOf_0 : decode b_Lattice_putUnknownOf 0 = .ok (.aload_n 0, 1) := by decide +kernel
theorem d_Lattice_putUnknownOf_1 : decode b_Lattice_putUnknownOf 1 = .ok (.getfield 9, 3) := by decide +kernel
theorem d_Lattice_putUnknownOf_4 : decode b_Lattice_putUnknownOf 4 = .ok (.iload_n 1, 1) := by decide +kernel
theorem d_Lattice_putUnknownOf_5 : decode b_Lattice_putUnknownOf 5 = .ok (.invokevirtual 91, 3) := by decide +kernel
theorem d_Lattice_putUnknownOf_8 : decode b_Lattice_putUnknownOf 8 = .ok (.istore_n 3, 1) := by decide +kernel
theorem d_Lattice_putUnknownOf_9 : decode b_Lattice_putUnknownOf 9 = .ok (.aload_n 0, 1) := by decide +kernel
theorem d_Lattice_putUnknownOf_10 : decode b_Lattice_putUnknownOf 10 = .ok (.iload_n 1, 1) := by decide +kernel
theorem d_Lattice_putUnknownOf_11 : decode b_Lattice_putUnknownOf 11 = .ok (.iload_n 2, 1) := by decide +kernel
theorem d_Lattice_putUnknownOf_12 : decode b_Lattice_putUnknownOf 12 = .ok (.aload_n 0, 1) := by decide +kernel
theorem d_Lattice_putUnknownOf_13 : decode b_Lattice_putUnknownOf 13 = .ok (.getfield 19, 3) := by decide +kernel
theorem d_Lattice_putUnknownOf_16 : decode b_Lattice_putUnknownOf 16 = .ok (.iload_n 3, 1) := by decide +kernel
theorem d_Lattice_putUnknownOf_17 : decode b_Lattice_putUnknownOf 17 = .ok (.invokevirtual 114, 3) := by decide +kernel
theorem d_Lattice_putUnknownOf_20 : decode b_Lattice_putUnknownOf 20 = .ok (.aload_n 0, 1) := by decide +kernel
theorem d_Lattice_putUnknownOf_21 : decode b_Lattice_putUnknownOf 21 = .ok (.getfield 19, 3) := by decide +kernel
theorem d_Lattice_putUnknownOf_24 : decode b_Lattice_putUnknownOf 24 = .ok (.iload_n 3, 1) := by decide +kernel
theorem d_Lattice_putUnknownOf_25 : decode b_Lattice_putUnknownOf 25 = .ok (.invokevirtual 117, 3) := by decide +kernel
theorem d_Lattice_putUnknownOf_28 : decode b_Lattice_putUnknownOf 28 = .ok (.iconst (-1), 1) := by decide +kernel
theorem d_Lattice_putUnknownOf_29 : decode b_Lattice_putUnknownOf 29 = .ok (.invokevirtual 87, 3) := by decide +kernel
theorem d_Lattice_putUnknownOf_32 : decode b_Lattice_putUnknownOf 32 = .ok (.return_, 1) := by decide +kernel
abbrev rm_Lattice_putUnknownOf : Room := { frames := 2, cells := 0, slots := 0, locals := 41 }
def f_Lattice_putUnknownOf (n : Nat) (μ : Mem) (a1 : Int32) (a2 : Int32) : Option Mem := cl (f_Draft_classAt n μ a1) (fun v1 => cl (f_Grammar_unknownPart n μ v1) (fun v2 => cl (f_Grammar_unknownPrice n μ v1) (fun v3 => cl (f_Lattice_put n μ a1 a2 v2 v3 (-1 : Int32)) (fun μ5 => some μ5))))
set_option maxHeartbeats 4000000 in
set_option maxRecDepth 100000 in
theorem w_Lattice_putUnknownOf {p : Program} {l : Launch} {e : Env} {s : State} {m : MethodId} {args : Array Value} {below : List Frame} {meth : Method} {c : Code} {D : va_G} {g : Nat → ClassId} {ad : Nat → Nat} {dr : Nat → Option Nat} {pl : va_W} {μ' : Mem} {A : Nat → Prop} {n : Nat} {μ : Mem} {a1 : Int32} {a2 : Int32} {ls : Array Slot} {H : Heap} {locs : List Loc} (X : Cx p s m args meth c b_Lattice_putUnknownOf 4 R_Lattice none D CL (TY g)) (hDA : ∀ μ : Mem, va_D A (WX g ad dr pl μ)) (hP : va_P D CL (WX g ad dr pl μ) H) (hS : va_S A s.heap H locs) (hl : lv_has ls 4 [(0, .ref (ad 18)), (1, .int a1), (2, .int a2)]) (hf : f_Lattice_putUnknownOf n μ a1 a2 = some μ') : WU p l e rm_Lattice_putUnknownOf s m args below meth c H locs D (WX g ad dr pl μ') A none (F0 m 0 ls []) := by
  obtain ⟨S, hr, hlk, hK⟩ := id X
  obtain ⟨hx, hb, hml, hown, hts⟩ := id S
  rw [f_Lattice_putUnknownOf] at hf
  refine lv_aload_n hx hb d_Lattice_putUnknownOf_0 rfl (lv_at hl 0 rfl) ?_
  refine xg_18_0 hx hb hts hown hK hP q_117 d_Lattice_putUnknownOf_1 ?_
  refine lv_iload_n hx hb d_Lattice_putUnknownOf_4 rfl (lv_at hl 1 rfl) ?_
  obtain ⟨v1, hv1, hf⟩ := cl_x hf
  refine rdV (As := [.int a1]) (rest := []) S K_Draft_classAt q_423 (c_Draft_classAt hv1) hK hP ⟨rfl, rfl⟩ ⟨Nat.le_of_ble_eq_true rfl, Nat.le_of_ble_eq_true rfl⟩ (xr_1 hK hP) rfl hl.1 rfl (Nat.le_of_ble_eq_true rfl) d_Lattice_putUnknownOf_5 ⟨Nat.le_refl _, Nat.le_refl _⟩ ?_
  refine lv_istore_n (lv' := [(3, .int v1), (0, .ref (ad 18)), (1, .int a1), (2, .int a2)]) hx hb d_Lattice_putUnknownOf_8 rfl hl (Nat.le_of_ble_eq_true rfl) rfl (fun ls hl => ?_)
  refine lv_aload_n hx hb d_Lattice_putUnknownOf_9 rfl (lv_at hl 1 rfl) ?_
  refine lv_iload_n hx hb d_Lattice_putUnknownOf_10 rfl (lv_at hl 2 rfl) ?_
  refine lv_iload_n hx hb d_Lattice_putUnknownOf_11 rfl (lv_at hl 3 rfl) ?_
  refine lv_aload_n hx hb d_Lattice_putUnknownOf_12 rfl (lv_at hl 1 rfl) ?_
  refine xg_18_2 hx hb hts hown hK hP q_119 d_Lattice_putUnknownOf_13 ?_
  refine lv_iload_n hx hb d_Lattice_putUnknownOf_16 rfl (lv_at hl 0 rfl) ?_
  obtain ⟨v2, hv2, hf⟩ := cl_x hf
  refine rdV (As := [.int v1]) (rest := [.int a2, .int a1, .ref (ad 18)]) S K_Grammar_unknownPart q_448 (c_Grammar_unknownPart hv2) hK hP ⟨rfl, rfl⟩ ⟨Nat.le_of_ble_eq_true rfl, Nat.le_of_ble_eq_true rfl⟩ (xr_10 hK hP) rfl hl.1 rfl (Nat.le_of_ble_eq_true rfl) d_Lattice_putUnknownOf_17 ⟨Nat.le_refl _, Nat.le_refl _⟩ ?_
  refine lv_aload_n hx hb d_Lattice_putUnknownOf_20 rfl (lv_at hl 1 rfl) ?_
  refine xg_18_2 hx hb hts hown hK hP q_119 d_Lattice_putUnknownOf_21 ?_
  refine lv_iload_n hx hb d_Lattice_putUnknownOf_24 rfl (lv_at hl 0 rfl) ?_
  obtain ⟨v3, hv3, hf⟩ := cl_x hf
  refine rdV (As := [.int v1]) (rest := [.int v2, .int a2, .int a1, .ref (ad 18)]) S K_Grammar_unknownPrice q_452 (c_Grammar_unknownPrice hv3) hK hP ⟨rfl, rfl⟩ ⟨Nat.le_of_ble_eq_true rfl, Nat.le_of_ble_eq_true rfl⟩ (xr_10 hK hP) rfl hl.1 rfl (Nat.le_of_ble_eq_true rfl) d_Lattice_putUnknownOf_25 ⟨Nat.le_refl _, Nat.le_refl _⟩ ?_
  refine lv_iconst (v := -1) hx hb d_Lattice_putUnknownOf_28 (by decide) ?_
  obtain ⟨μ5, hv4, hf⟩ := cl_x hf
  refine wrV (As := [.int a1, .int a2, .int v2, .int v3, .int (-1 : Int32)]) (rest := []) S K_Lattice_put q_415 (c_Lattice_put hDA hv4) hK hP hS ⟨rfl, rfl⟩ ⟨Nat.le_of_ble_eq_true rfl, Nat.le_of_ble_eq_true rfl⟩ (xr_18 hK hP) rfl hl.1 rfl (Nat.le_of_ble_eq_true rfl) d_Lattice_putUnknownOf_29 ⟨Nat.le_refl _, Nat.le_refl _⟩ (fun H locs hP hS => ?_)
  obtain rfl := Option.some.inj hf
  exact W.vret hx hb hr (fun t ht _ => ⟨rfl, by rw [ht]; exact hP, hS.F ht⟩) hS.2.2 d_Lattice_putUnknownOf_32
theorem c_Lattice_putUnknownOf {l : Launch} {D : va_G} {g : Nat → ClassId} {ad : Nat → Nat} {dr : Nat → Option Nat} {pl : va_W} {μ : Mem} {μ' : Mem} {A : Nat → Prop} {n : Nat} {a1 : Int32} {a2 : Int32} (hDA : ∀ μ : Mem, va_D A (WX g ad dr pl μ)) (hf : f_Lattice_putUnknownOf n μ a1 a2 = some μ') : Met l y_Lattice_putUnknownOf (Cond.code y_Lattice_putUnknownOf b_Lattice_putUnknownOf 4 none :: ww) rm_Lattice_putUnknownOf (RP D CL (TY g) (WX g ad dr pl μ) [.ref (ad 18), .int a1, .int a2]) (QW D CL (WX g ad dr pl μ') A none) 0 0 A := by
  refine met_of (by decide) (Nat.le_of_ble_eq_true rfl) ?_
  intro p e s m below meth c ls X hP hl
  have hl : lv_has ls 4 [(0, .ref (ad 18)), (1, .int a1), (2, .int a2)] := hl
  exact w_Lattice_putUnknownOf X hDA hP va_S.rf hl hf
theorem d_Lattice_putUnknown_0 : decode b_Lattice_putUnknown 0 = .ok (.aload_n 0, 1) := by decide +kernel
theorem d_Lattice_putUnknown_1 : decode b_Lattice_putUnknown 1 = .ok (.getfield 9, 3) := by decide +kernel
theorem d_Lattice_putUnknown_4 : decode b_Lattice_putUnknown 4 = .ok (.iload_n 1, 1) := by decide +kernel
theorem d_Lattice_putUnknown_5 : decode b_Lattice_putUnknown 5 = .ok (.invokevirtual 91, 3) := by decide +kernel
theorem d_Lattice_putUnknown_8 : decode b_Lattice_putUnknown 8 = .ok (.istore_n 3, 1) := by decide +kernel
theorem d_Lattice_putUnknown_9 : decode b_Lattice_putUnknown 9 = .ok (.iload_n 2, 1) := by decide +kernel
theorem d_Lattice_putUnknown_10 : decode b_Lattice_putUnknown 10 = .ok (.ifCond .eq 15, 3) := by decide +kernel
theorem d_Lattice_putUnknown_13 : decode b_Lattice_putUnknown 13 = .ok (.aload_n 0, 1) := by decide +kernel
theorem d_Lattice_putUnknown_14 : decode b_Lattice_putUnknown 14 = .ok (.getfield 19, 3) := by decide +kernel
theorem d_Lattice_putUnknown_17 : decode b_Lattice_putUnknown 17 = .ok (.iload_n 3, 1) := by decide +kernel
theorem d_Lattice_putUnknown_18 : decode b_Lattice_putUnknown 18 = .ok (.invokevirtual 94, 3) := by decide +kernel
theorem d_Lattice_putUnknown_21 : decode b_Lattice_putUnknown 21 = .ok (.ifCond .ne 4, 3) := by decide +kernel
theorem d_Lattice_putUnknown_24 : decode b_Lattice_putUnknown 24 = .ok (.return_, 1) := by decide +kernel
theorem d_Lattice_putUnknown_25 : decode b_Lattice_putUnknown 25 = .ok (.aload_n 0, 1) := by decide +kernel
theorem d_Lattice_putUnknown_26 : decode b_Lattice_putUnknown 26 = .ok (.getfield 9, 3) := by decide +kernel
theorem d_Lattice_putUnknown_29 : decode b_Lattice_putUnknown 29 = .ok (.iload_n 1, 1) := by decide +kernel
theorem d_Lattice_putUnknown_30 : decode b_Lattice_putUnknown 30 = .ok (.invokevirtual 100, 3) := by decide +kernel
theorem d_Lattice_putUnknown_33 : decode b_Lattice_putUnknown 33 = .ok (.istore 4, 2) := by decide +kernel
theorem d_Lattice_putUnknown_35 : decode b_Lattice_putUnknown 35 = .ok (.aload_n 0, 1) := by decide +kernel
theorem d_Lattice_putUnknown_36 : decode b_Lattice_putUnknown 36 = .ok (.getfield 19, 3) := by decide +kernel
theorem d_Lattice_putUnknown_39 : decode b_Lattice_putUnknown 39 = .ok (.iload_n 3, 1) := by decide +kernel
theorem d_Lattice_putUnknown_40 : decode b_Lattice_putUnknown 40 = .ok (.invokevirtual 103, 3) := by decide +kernel
theorem d_Lattice_putUnknown_43 : decode b_Lattice_putUnknown 43 = .ok (.iload 4, 2) := by decide +kernel
theorem d_Lattice_putUnknown_45 : decode b_Lattice_putUnknown 45 = .ok (.invokestatic 105, 3) := by decide +kernel
theorem d_Lattice_putUnknown_48 : decode b_Lattice_putUnknown 48 = .ok (.istore 5, 2) := by decide +kernel
theorem d_Lattice_putUnknown_50 : decode b_Lattice_putUnknown 50 = .ok (.iconst 1, 1) := by decide +kernel
theorem d_Lattice_putUnknown_51 : decode b_Lattice_putUnknown 51 = .ok (.istore 6, 2) := by decide +kernel
theorem d_Lattice_putUnknown_53 : decode b_Lattice_putUnknown 53 = .ok (.iload 6, 2) := by decide +kernel
theorem d_Lattice_putUnknown_55 : decode b_Lattice_putUnknown 55 = .ok (.iload 5, 2) := by decide +kernel
theorem d_Lattice_putUnknown_57 : decode b_Lattice_putUnknown 57 = .ok (.if_icmp .gt 16, 3) := by decide +kernel
theorem d_Lattice_putUnknown_60 : decode b_Lattice_putUnknown 60 = .ok (.aload_n 0, 1) := by decide +kernel
theorem d_Lattice_putUnknown_61 : decode b_Lattice_putUnknown 61 = .ok (.iload_n 1, 1) := by decide +kernel
theorem d_Lattice_putUnknown_62 : decode b_Lattice_putUnknown 62 = .ok (.iload 6, 2) := by decide +kernel
theorem d_Lattice_putUnknown_64 : decode b_Lattice_putUnknown 64 = .ok (.invokevirtual 60, 3) := by decide +kernel
theorem d_Lattice_putUnknown_67 : decode b_Lattice_putUnknown 67 = .ok (.iinc 6 1, 3) := by decide +kernel
theorem d_Lattice_putUnknown_70 : decode b_Lattice_putUnknown 70 = .ok (.goto (-17), 3) := by decide +kernel
theorem d_Lattice_putUnknown_73 : decode b_Lattice_putUnknown 73 = .ok (.aload_n 0, 1) := by decide +kernel
theorem d_Lattice_putUnknown_74 : decode b_Lattice_putUnknown 74 = .ok (.getfield 19, 3) := by decide +kernel
theorem d_Lattice_putUnknown_77 : decode b_Lattice_putUnknown 77 = .ok (.iload_n 3, 1) := by decide +kernel
theorem d_Lattice_putUnknown_78 : decode b_Lattice_putUnknown 78 = .ok (.invokevirtual 111, 3) := by decide +kernel
theorem d_Lattice_putUnknown_81 : decode b_Lattice_putUnknown 81 = .ok (.ifCond .eq 17, 3) := by decide +kernel
theorem d_Lattice_putUnknown_84 : decode b_Lattice_putUnknown 84 = .ok (.iload 4, 2) := by decide +kernel
theorem d_Lattice_putUnknown_86 : decode b_Lattice_putUnknown 86 = .ok (.iload 5, 2) := by decide +kernel
theorem d_Lattice_putUnknown_88 : decode b_Lattice_putUnknown 88 = .ok (.if_icmp .le 10, 3) := by decide +kernel
theorem d_Lattice_putUnknown_91 : decode b_Lattice_putUnknown 91 = .ok (.aload_n 0, 1) := by decide +kernel
theorem d_Lattice_putUnknown_92 : decode b_Lattice_putUnknown 92 = .ok (.iload_n 1, 1) := by decide +kernel
theorem d_Lattice_putUnknown_93 : decode b_Lattice_putUnknown 93 = .ok (.iload 4, 2) := by decide +kernel
theorem d_Lattice_putUnknown_95 : decode b_Lattice_putUnknown 95 = .ok (.invokevirtual 60, 3) := by decide +kernel
theorem d_Lattice_putUnknown_98 : decode b_Lattice_putUnknown 98 = .ok (.return_, 1) := by decide +kernel
abbrev rm_Lattice_putUnknown : Room := { frames := 3, cells := 0, slots := 0, locals := 64 }
def f_Lattice_putUnknown_53 : Nat → Mem → Int32 → Int32 → Int32 → Int32 → Int32 → Option Mem
  | 0, _, _, _, _, _, _ => none
  | n + 1, μ, x1, x3, x4, x5, x6 => (if x5 < x6 then (cl (f_Grammar_groups n μ x3) (fun v1 => (if (bz v1) = 0 then (some μ) else (if x4 ≤ x5 then (some μ) else (cl (f_Lattice_putUnknownOf n μ x1 x4) (fun μ3 => some μ3)))))) else (cl (f_Lattice_putUnknownOf n μ x1 x6) (fun μ5 => bd (x6 + 1) (fun v6 => (f_Lattice_putUnknown_53 n) μ5 x1 x3 x4 x5 v6))))
set_option maxHeartbeats 4000000 in
set_option maxRecDepth 100000 in
theorem w_Lattice_putUnknown_53 {p : Program} {l : Launch} {e : Env} {s : State} {m : MethodId} {args : Array Value} {below : List Frame} {meth : Method} {c : Code} {D : va_G} {g : Nat → ClassId} {ad : Nat → Nat} {dr : Nat → Option Nat} {pl : va_W} {μ' : Mem} {A : Nat → Prop} (X : Cx p s m args meth c b_Lattice_putUnknown 7 R_Lattice none D CL (TY g)) (hDA : ∀ μ : Mem, va_D A (WX g ad dr pl μ)) : ∀ (n : Nat) (μ : Mem) (x1 : Int32) (x3 : Int32) (x4 : Int32) (x5 : Int32) (x6 : Int32) (ls : Array Slot) (H : Heap) (locs : List Loc), va_P D CL (WX g ad dr pl μ) H → va_S A s.heap H locs → lv_has ls 7 [(0, .ref (ad 18)), (1, .int x1), (3, .int x3), (4, .int x4), (5, .int x5), (6, .int x6)] → f_Lattice_putUnknown_53 n μ x1 x3 x4 x5 x6 = some μ' → WU p l e rm_Lattice_putUnknown s m args below meth c H locs D (WX g ad dr pl μ') A none (F0 m 53 ls []) := by
  intro n
  induction n with
  | zero => intro μ x1 x3 x4 x5 x6 ls H locs hP hS hl hf; rw [f_Lattice_putUnknown_53] at hf; cases hf
  | succ n ih =>
    intro μ x1 x3 x4 x5 x6 ls H locs hP hS hl hf
    obtain ⟨S, hr, hlk, hK⟩ := id X
    obtain ⟨hx, hb, hml, hown, hts⟩ := id S
    rw [f_Lattice_putUnknown_53] at hf
    refine lv_iload hx hb d_Lattice_putUnknown_53 (lv_at hl 5 rfl) ?_
    refine lv_iload hx hb d_Lattice_putUnknown_55 (lv_at hl 4 rfl) ?_
    refine lv_icmp_gt (tgt := 73) hx hb d_Lattice_putUnknown_57 rfl (fun hc => ?_) (fun hc => ?_)
    · replace hf := br_p hc hf
      refine lv_aload_n hx hb d_Lattice_putUnknown_73 rfl (lv_at hl 0 rfl) ?_
      refine xg_18_2 hx hb hts hown hK hP q_119 d_Lattice_putUnknown_74 ?_
      refine lv_iload_n hx hb d_Lattice_putUnknown_77 rfl (lv_at hl 2 rfl) ?_
      obtain ⟨v1, hv1, hf⟩ := cl_x hf
      refine rdV (As := [.int x3]) (rest := []) S K_Grammar_groups q_456 (c_Grammar_groups hv1) hK hP ⟨rfl, rfl⟩ ⟨Nat.le_of_ble_eq_true rfl, Nat.le_of_ble_eq_true rfl⟩ (xr_10 hK hP) rfl hl.1 rfl (Nat.le_of_ble_eq_true rfl) d_Lattice_putUnknown_78 ⟨Nat.le_refl _, Nat.le_refl _⟩ ?_
      refine lv_if_eq (tgt := 98) hx hb d_Lattice_putUnknown_81 rfl (fun hc => ?_) (fun hc => ?_)
      · replace hf := br_p hc hf
        obtain rfl := Option.some.inj hf
        exact W.vret hx hb hr (fun t ht _ => ⟨rfl, by rw [ht]; exact hP, hS.F ht⟩) hS.2.2 d_Lattice_putUnknown_98
      · replace hf := br_n hc hf
        refine lv_iload hx hb d_Lattice_putUnknown_84 (lv_at hl 3 rfl) ?_
        refine lv_iload hx hb d_Lattice_putUnknown_86 (lv_at hl 4 rfl) ?_
        refine lv_icmp_le (tgt := 98) hx hb d_Lattice_putUnknown_88 rfl (fun hc => ?_) (fun hc => ?_)
        · replace hf := br_p hc hf
          obtain rfl := Option.some.inj hf
          exact W.vret hx hb hr (fun t ht _ => ⟨rfl, by rw [ht]; exact hP, hS.F ht⟩) hS.2.2 d_Lattice_putUnknown_98
        · replace hf := br_n hc hf
          refine lv_aload_n hx hb d_Lattice_putUnknown_91 rfl (lv_at hl 0 rfl) ?_
          refine lv_iload_n hx hb d_Lattice_putUnknown_92 rfl (lv_at hl 1 rfl) ?_
          refine lv_iload hx hb d_Lattice_putUnknown_93 (lv_at hl 3 rfl) ?_
          obtain ⟨μ3, hv2, hf⟩ := cl_x hf
          refine wrV (As := [.int x1, .int x4]) (rest := []) S K_Lattice_putUnknownOf q_444 (c_Lattice_putUnknownOf hDA hv2) hK hP hS ⟨rfl, rfl⟩ ⟨Nat.le_of_ble_eq_true rfl, Nat.le_of_ble_eq_true rfl⟩ (xr_18 hK hP) rfl hl.1 rfl (Nat.le_of_ble_eq_true rfl) d_Lattice_putUnknown_95 ⟨Nat.le_refl _, Nat.le_refl _⟩ (fun H locs hP hS => ?_)
          obtain rfl := Option.some.inj hf
          exact W.vret hx hb hr (fun t ht _ => ⟨rfl, by rw [ht]; exact hP, hS.F ht⟩) hS.2.2 d_Lattice_putUnknown_98
    · replace hf := br_n hc hf
      refine lv_aload_n hx hb d_Lattice_putUnknown_60 rfl (lv_at hl 0 rfl) ?_
      refine lv_iload_n hx hb d_Lattice_putUnknown_61 rfl (lv_at hl 1 rfl) ?_
      refine lv_iload hx hb d_Lattice_putUnknown_62 (lv_at hl 5 rfl) ?_
      obtain ⟨μ5, hv4, hf⟩ := cl_x hf
      refine wrV (As := [.int x1, .int x6]) (rest := []) S K_Lattice_putUnknownOf q_444 (c_Lattice_putUnknownOf hDA hv4) hK hP hS ⟨rfl, rfl⟩ ⟨Nat.le_of_ble_eq_true rfl, Nat.le_of_ble_eq_true rfl⟩ (xr_18 hK hP) rfl hl.1 rfl (Nat.le_of_ble_eq_true rfl) d_Lattice_putUnknown_64 ⟨Nat.le_refl _, Nat.le_refl _⟩ (fun H locs hP hS => ?_)
      obtain ⟨v6, hv6, hf⟩ := bd_x hf
      refine lv_iinc (lv' := [(6, .int v6), (0, .ref (ad 18)), (1, .int x1), (3, .int x3), (4, .int x4), (5, .int x5)]) hx hb d_Lattice_putUnknown_67 hl (k := 5) rfl (show x6 + Int32.ofInt (1) = v6 from hv6) (Nat.le_of_ble_eq_true rfl) rfl (fun ls hl => ?_)
      refine lv_goto (tgt := 53) hx hb d_Lattice_putUnknown_70 rfl ?_
      exact ih _ _ _ _ _ _ _ _ _ hP hS (lv_sub (l' := [(0, .ref (ad 18)), (1, .int x1), (3, .int x3), (4, .int x4), (5, .int x5), (6, .int v6)]) hl [1, 2, 3, 4, 5, 0] rfl) hf
def f_Lattice_putUnknown_25 (n : Nat) (μ : Mem) (x1 : Int32) (x3 : Int32) : Option Mem := cl (f_Draft_runAt n μ x1) (fun v1 => cl (f_Grammar_lengths n μ x3) (fun v2 => bd ((if v1 < v2 then v1 else v2)) (fun v3 => f_Lattice_putUnknown_53 n μ x1 x3 v1 v3 (1 : Int32))))
set_option maxHeartbeats 4000000 in
set_option maxRecDepth 100000 in
theorem w_Lattice_putUnknown_25 {p : Program} {l : Launch} {e : Env} {s : State} {m : MethodId} {args : Array Value} {below : List Frame} {meth : Method} {c : Code} {D : va_G} {g : Nat → ClassId} {ad : Nat → Nat} {dr : Nat → Option Nat} {pl : va_W} {μ' : Mem} {A : Nat → Prop} {n : Nat} {μ : Mem} {x1 : Int32} {x3 : Int32} {ls : Array Slot} {H : Heap} {locs : List Loc} (X : Cx p s m args meth c b_Lattice_putUnknown 7 R_Lattice none D CL (TY g)) (hDA : ∀ μ : Mem, va_D A (WX g ad dr pl μ)) (hP : va_P D CL (WX g ad dr pl μ) H) (hS : va_S A s.heap H locs) (hl : lv_has ls 7 [(0, .ref (ad 18)), (1, .int x1), (3, .int x3)]) (hf : f_Lattice_putUnknown_25 n μ x1 x3 = some μ') : WU p l e rm_Lattice_putUnknown s m args below meth c H locs D (WX g ad dr pl μ') A none (F0 m 25 ls []) := by
  obtain ⟨S, hr, hlk, hK⟩ := id X
  obtain ⟨hx, hb, hml, hown, hts⟩ := id S
  rw [f_Lattice_putUnknown_25] at hf
  refine lv_aload_n hx hb d_Lattice_putUnknown_25 rfl (lv_at hl 0 rfl) ?_
  refine xg_18_0 hx hb hts hown hK hP q_117 d_Lattice_putUnknown_26 ?_
  refine lv_iload_n hx hb d_Lattice_putUnknown_29 rfl (lv_at hl 1 rfl) ?_
  obtain ⟨v1, hv1, hf⟩ := cl_x hf
  refine rdV (As := [.int x1]) (rest := []) S K_Draft_runAt q_434 (c_Draft_runAt hv1) hK hP ⟨rfl, rfl⟩ ⟨Nat.le_of_ble_eq_true rfl, Nat.le_of_ble_eq_true rfl⟩ (xr_1 hK hP) rfl hl.1 rfl (Nat.le_of_ble_eq_true rfl) d_Lattice_putUnknown_30 ⟨Nat.le_refl _, Nat.le_refl _⟩ ?_
  refine lv_istore (lv' := [(4, .int v1), (0, .ref (ad 18)), (1, .int x1), (3, .int x3)]) hx hb d_Lattice_putUnknown_33 hl (Nat.le_of_ble_eq_true rfl) rfl (fun ls hl => ?_)
  refine lv_aload_n hx hb d_Lattice_putUnknown_35 rfl (lv_at hl 1 rfl) ?_
  refine xg_18_2 hx hb hts hown hK hP q_119 d_Lattice_putUnknown_36 ?_
  refine lv_iload_n hx hb d_Lattice_putUnknown_39 rfl (lv_at hl 3 rfl) ?_
  obtain ⟨v2, hv2, hf⟩ := cl_x hf
  refine rdV (As := [.int x3]) (rest := []) S K_Grammar_lengths q_439 (c_Grammar_lengths hv2) hK hP ⟨rfl, rfl⟩ ⟨Nat.le_of_ble_eq_true rfl, Nat.le_of_ble_eq_true rfl⟩ (xr_10 hK hP) rfl hl.1 rfl (Nat.le_of_ble_eq_true rfl) d_Lattice_putUnknown_40 ⟨Nat.le_refl _, Nat.le_refl _⟩ ?_
  refine lv_iload hx hb d_Lattice_putUnknown_43 (lv_at hl 0 rfl) ?_
  refine va_mmin hx hb (hml.trans hl.1.symm) hown (hts _ q_443) (hts _ q_324) (hts _ q_13) (hts _ q_325) (Nat.le_of_ble_eq_true rfl) (Nat.le_of_ble_eq_true rfl) (Nat.le_refl _) (Nat.le_refl _) d_Lattice_putUnknown_45 ?_
  obtain ⟨v3, hv3, hf⟩ := bd_x hf
  refine top_i hv3 ?_
  refine lv_istore (lv' := [(5, .int v3), (4, .int v1), (0, .ref (ad 18)), (1, .int x1), (3, .int x3)]) hx hb d_Lattice_putUnknown_48 hl (Nat.le_of_ble_eq_true rfl) rfl (fun ls hl => ?_)
  refine lv_iconst (v := 1) hx hb d_Lattice_putUnknown_50 (by decide) ?_
  refine lv_istore (lv' := [(6, .int (1 : Int32)), (5, .int v3), (4, .int v1), (0, .ref (ad 18)), (1, .int x1), (3, .int x3)]) hx hb d_Lattice_putUnknown_51 hl (Nat.le_of_ble_eq_true rfl) rfl (fun ls hl => ?_)
  exact w_Lattice_putUnknown_53 X hDA _ _ _ _ _ _ _ _ _ _ hP hS (lv_sub (l' := [(0, .ref (ad 18)), (1, .int x1), (3, .int x3), (4, .int v1), (5, .int v3), (6, .int (1 : Int32))]) hl [3, 4, 5, 2, 1, 0] rfl) hf
def f_Lattice_putUnknown (n : Nat) (μ : Mem) (a1 : Int32) (a2 : Int32) : Option Mem := cl (f_Draft_classAt n μ a1) (fun v1 => (if a2 = 0 then (f_Lattice_putUnknown_25 n μ a1 v1) else (cl (f_Grammar_invokes n μ v1) (fun v2 => (if (bz v2) = 0 then (some μ) else (f_Lattice_putUnknown_25 n μ a1 v1))))))
set_option maxHeartbeats 4000000 in
set_option maxRecDepth 100000 in
theorem w_Lattice_putUnknown {p : Program} {l : Launch} {e : Env} {s : State} {m : MethodId} {args : Array Value} {below : List Frame} {meth : Method} {c : Code} {D : va_G} {g : Nat → ClassId} {ad : Nat → Nat} {dr : Nat → Option Nat} {pl : va_W} {μ' : Mem} {A : Nat → Prop} {n : Nat} {μ : Mem} {a1 : Int32} {a2 : Int32} {ls : Array Slot} {H : Heap} {locs : List Loc} (X : Cx p s m args meth c b_Lattice_putUnknown 7 R_Lattice none D CL (TY g)) (hDA : ∀ μ : Mem, va_D A (WX g ad dr pl μ)) (hP : va_P D CL (WX g ad dr pl μ) H) (hS : va_S A s.heap H locs) (hl : lv_has ls 7 [(0, .ref (ad 18)), (1, .int a1), (2, .int a2)]) (hf : f_Lattice_putUnknown n μ a1 a2 = some μ') : WU p l e rm_Lattice_putUnknown s m args below meth c H locs D (WX g ad dr pl μ') A none (F0 m 0 ls []) := by
  obtain ⟨S, hr, hlk, hK⟩ := id X
  obtain ⟨hx, hb, hml, hown, hts⟩ := id S
  rw [f_Lattice_putUnknown] at hf
  refine lv_aload_n hx hb d_Lattice_putUnknown_0 rfl (lv_at hl 0 rfl) ?_
  refine xg_18_0 hx hb hts hown hK hP q_117 d_Lattice_putUnknown_1 ?_
  refine lv_iload_n hx hb d_Lattice_putUnknown_4 rfl (lv_at hl 1 rfl) ?_
  obtain ⟨v1, hv1, hf⟩ := cl_x hf
  refine rdV (As := [.int a1]) (rest := []) S K_Draft_classAt q_423 (c_Draft_classAt hv1) hK hP ⟨rfl, rfl⟩ ⟨Nat.le_of_ble_eq_true rfl, Nat.le_of_ble_eq_true rfl⟩ (xr_1 hK hP) rfl hl.1 rfl (Nat.le_of_ble_eq_true rfl) d_Lattice_putUnknown_5 ⟨Nat.le_refl _, Nat.le_refl _⟩ ?_
  refine lv_istore_n (lv' := [(3, .int v1), (0, .ref (ad 18)), (1, .int a1), (2, .int a2)]) hx hb d_Lattice_putUnknown_8 rfl hl (Nat.le_of_ble_eq_true rfl) rfl (fun ls hl => ?_)
  refine lv_iload_n hx hb d_Lattice_putUnknown_9 rfl (lv_at hl 3 rfl) ?_
  refine lv_if_eq (tgt := 25) hx hb d_Lattice_putUnknown_10 rfl (fun hc => ?_) (fun hc => ?_)
  · replace hf := br_p hc hf
    exact w_Lattice_putUnknown_25 X hDA hP hS (lv_sub (l' := [(0, .ref (ad 18)), (1, .int a1), (3, .int v1)]) hl [1, 2, 0] rfl) hf
  · replace hf := br_n hc hf
    refine lv_aload_n hx hb d_Lattice_putUnknown_13 rfl (lv_at hl 1 rfl) ?_
    refine xg_18_2 hx hb hts hown hK hP q_119 d_Lattice_putUnknown_14 ?_
    refine lv_iload_n hx hb d_Lattice_putUnknown_17 rfl (lv_at hl 0 rfl) ?_
    obtain ⟨v2, hv2, hf⟩ := cl_x hf
    refine rdV (As := [.int v1]) (rest := []) S K_Grammar_invokes q_430 (c_Grammar_invokes hv2) hK hP ⟨rfl, rfl⟩ ⟨Nat.le_of_ble_eq_true rfl, Nat.le_of_ble_eq_true rfl⟩ (xr_10 hK hP) rfl hl.1 rfl (Nat.le_of_ble_eq_true rfl) d_Lattice_putUnknown_18 ⟨Nat.le_refl _, Nat.le_refl _⟩ ?_
    refine lv_if_ne (tgt := 25) hx hb d_Lattice_putUnknown_21 rfl (fun hc => ?_) (fun hc => ?_)
    · replace hf := br_n hc hf
      exact w_Lattice_putUnknown_25 X hDA hP hS (lv_sub (l' := [(0, .ref (ad 18)), (1, .int a1), (3, .int v1)]) hl [1, 2, 0] rfl) hf
    · replace hf := br_p hc hf
      obtain rfl := Option.some.inj hf
      exact W.vret hx hb hr (fun t ht _ => ⟨rfl, by rw [ht]; exact hP, hS.F ht⟩) hS.2.2 d_Lattice_putUnknown_24
theorem c_Lattice_putUnknown {l : Launch} {D : va_G} {g : Nat → ClassId} {ad : Nat → Nat} {dr : Nat → Option Nat} {pl : va_W} {μ : Mem} {μ' : Mem} {A : Nat → Prop} {n : Nat} {a1 : Int32} {a2 : Int32} (hDA : ∀ μ : Mem, va_D A (WX g ad dr pl μ)) (hf : f_Lattice_putUnknown n μ a1 a2 = some μ') : Met l y_Lattice_putUnknown (Cond.code y_Lattice_putUnknown b_Lattice_putUnknown 7 none :: ww) rm_Lattice_putUnknown (RP D CL (TY g) (WX g ad dr pl μ) [.ref (ad 18), .int a1, .int a2]) (QW D CL (WX g ad dr pl μ') A none) 0 0 A := by
  refine met_of (by decide) (Nat.le_of_ble_eq_true rfl) ?_
  intro p e s m below meth c ls X hP hl
  have hl : lv_has ls 7 [(0, .ref (ad 18)), (1, .int a1), (2, .int a2)] := hl
  exact w_Lattice_putUnknown X hDA hP va_S.rf hl hf
theorem d_Lattice_charge_0 : decode b_Lattice_charge 0 = .ok (.aload_n 0, 1) := by decide +kernel
theorem d_Lattice_charge_1 : decode b_Lattice_charge 1 = .ok (.getfield 15, 3) := by decide +kernel
theorem d_Lattice_charge_4 : decode b_Lattice_charge 4 = .ok (.aload_n 0, 1) := by decide +kernel
theorem d_Lattice_charge_5 : decode b_Lattice_charge 5 = .ok (.getfield 39, 3) := by decide +kernel
theorem d_Lattice_charge_8 : decode b_Lattice_charge 8 = .ok (.iload_n 1, 1) := by decide +kernel
theorem d_Lattice_charge_9 : decode b_Lattice_charge 9 = .ok (.iaload, 1) := by decide +kernel
theorem d_Lattice_charge_10 : decode b_Lattice_charge 10 = .ok (.invokevirtual 120, 3) := by decide +kernel
theorem d_Lattice_charge_13 : decode b_Lattice_charge 13 = .ok (.ifCond .eq 5, 3) := by decide +kernel
theorem d_Lattice_charge_16 : decode b_Lattice_charge 16 = .ok (.iconst 0, 1) := by decide +kernel
theorem d_Lattice_charge_17 : decode b_Lattice_charge 17 = .ok (.ireturn, 1) := by decide +kernel
theorem d_Lattice_charge_18 : decode b_Lattice_charge 18 = .ok (.aload_n 0, 1) := by decide +kernel
theorem d_Lattice_charge_19 : decode b_Lattice_charge 19 = .ok (.getfield 27, 3) := by decide +kernel
theorem d_Lattice_charge_22 : decode b_Lattice_charge 22 = .ok (.iload_n 1, 1) := by decide +kernel
theorem d_Lattice_charge_23 : decode b_Lattice_charge 23 = .ok (.iaload, 1) := by decide +kernel
theorem d_Lattice_charge_24 : decode b_Lattice_charge 24 = .ok (.istore_n 2, 1) := by decide +kernel
theorem d_Lattice_charge_25 : decode b_Lattice_charge 25 = .ok (.aload_n 0, 1) := by decide +kernel
theorem d_Lattice_charge_26 : decode b_Lattice_charge 26 = .ok (.getfield 9, 3) := by decide +kernel
theorem d_Lattice_charge_29 : decode b_Lattice_charge 29 = .ok (.aload_n 0, 1) := by decide +kernel
theorem d_Lattice_charge_30 : decode b_Lattice_charge 30 = .ok (.getfield 23, 3) := by decide +kernel
theorem d_Lattice_charge_33 : decode b_Lattice_charge 33 = .ok (.iload_n 1, 1) := by decide +kernel
theorem d_Lattice_charge_34 : decode b_Lattice_charge 34 = .ok (.iaload, 1) := by decide +kernel
theorem d_Lattice_charge_35 : decode b_Lattice_charge 35 = .ok (.iload_n 2, 1) := by decide +kernel
theorem d_Lattice_charge_36 : decode b_Lattice_charge 36 = .ok (.invokevirtual 68, 3) := by decide +kernel
theorem d_Lattice_charge_39 : decode b_Lattice_charge 39 = .ok (.lstore_n 3, 1) := by decide +kernel
theorem d_Lattice_charge_40 : decode b_Lattice_charge 40 = .ok (.aload_n 0, 1) := by decide +kernel
theorem d_Lattice_charge_41 : decode b_Lattice_charge 41 = .ok (.getfield 19, 3) := by decide +kernel
theorem d_Lattice_charge_44 : decode b_Lattice_charge 44 = .ok (.iload_n 2, 1) := by decide +kernel
theorem d_Lattice_charge_45 : decode b_Lattice_charge 45 = .ok (.iconst 1, 1) := by decide +kernel
theorem d_Lattice_charge_46 : decode b_Lattice_charge 46 = .ok (.lload_n 3, 1) := by decide +kernel
theorem d_Lattice_charge_47 : decode b_Lattice_charge 47 = .ok (.iload_n 2, 1) := by decide +kernel
theorem d_Lattice_charge_48 : decode b_Lattice_charge 48 = .ok (.invokestatic 123, 3) := by decide +kernel
theorem d_Lattice_charge_51 : decode b_Lattice_charge 51 = .ok (.invokevirtual 129, 3) := by decide +kernel
theorem d_Lattice_charge_54 : decode b_Lattice_charge 54 = .ok (.ireturn, 1) := by decide +kernel
abbrev rm_Lattice_charge : Room := { frames := 2, cells := 0, slots := 0, locals := 47 }
def f_Lattice_charge (n : Nat) (μ : Mem) (a1 : Int32) : Option Int32 := gd (inb a1 696) (cl (f_Lexicon_cuts n μ (μ.1 24 a1.toNatClampNeg)) (fun v1 => (if v1 = 0 then (gd (inb a1 696) (bd (μ.1 20 a1.toNatClampNeg) (fun v2 => gd (inb a1 696) (cl (f_Draft_text n μ (μ.1 19 a1.toNatClampNeg) v2) (fun v3 => cl (f_Texts_isAllOf n (1 : Int32) v3 v2) (fun v4 => cl (f_Grammar_charge n μ v2 (bz v4)) (fun v5 => some v5))))))) else (some (0 : Int32)))))
set_option maxHeartbeats 4000000 in
set_option maxRecDepth 100000 in
theorem w_Lattice_charge {p : Program} {l : Launch} {e : Env} {s : State} {m : MethodId} {args : Array Value} {below : List Frame} {meth : Method} {c : Code} {D : va_G} {g : Nat → ClassId} {ad : Nat → Nat} {dr : Nat → Option Nat} {pl : va_W} {μ : Mem} {r : Int32} {n : Nat} {a1 : Int32} {ls : Array Slot} (X : Cx p s m args meth c b_Lattice_charge 5 R_Lattice (some .int) D CL (TY g)) (hP : va_P D CL (WX g ad dr pl μ) s.heap) (hl : lv_has ls 5 [(0, .ref (ad 18)), (1, .int a1)]) (hf : f_Lattice_charge n μ a1 = some r) : WR p l e rm_Lattice_charge s m args below meth c (.int r) (F0 m 0 ls []) := by
  obtain ⟨S, hr, hlk, hK⟩ := id X
  obtain ⟨hx, hb, hml, hown, hts⟩ := id S
  rw [f_Lattice_charge] at hf
  refine lv_aload_n hx hb d_Lattice_charge_0 rfl (lv_at hl 0 rfl) ?_
  refine xg_18_1 hx hb hts hown hK hP q_118 d_Lattice_charge_1 ?_
  refine lv_aload_n hx hb d_Lattice_charge_4 rfl (lv_at hl 0 rfl) ?_
  refine xg_18_8 hx hb hts hown hK hP q_125 d_Lattice_charge_5 ?_
  refine lv_iload_n hx hb d_Lattice_charge_8 rfl (lv_at hl 1 rfl) ?_
  obtain ⟨hi, hf⟩ := gd_x hf
  refine xl_24 hx hb hK hP (inb_in hi) d_Lattice_charge_9 ?_
  obtain ⟨v1, hv1, hf⟩ := cl_x hf
  refine rdV (As := [.int (μ.1 24 a1.toNatClampNeg)]) (rest := []) S K_Lexicon_cuts q_464 (c_Lexicon_cuts hv1) hK hP ⟨rfl, rfl⟩ ⟨Nat.le_of_ble_eq_true rfl, Nat.le_of_ble_eq_true rfl⟩ (xr_3 hK hP) rfl hl.1 rfl (Nat.le_of_ble_eq_true rfl) d_Lattice_charge_10 ⟨Nat.le_refl _, Nat.le_refl _⟩ ?_
  refine lv_if_eq (tgt := 18) hx hb d_Lattice_charge_13 rfl (fun hc => ?_) (fun hc => ?_)
  · replace hf := br_p hc hf
    refine lv_aload_n hx hb d_Lattice_charge_18 rfl (lv_at hl 0 rfl) ?_
    refine xg_18_4 hx hb hts hown hK hP q_121 d_Lattice_charge_19 ?_
    refine lv_iload_n hx hb d_Lattice_charge_22 rfl (lv_at hl 1 rfl) ?_
    obtain ⟨hi, hf⟩ := gd_x hf
    refine xl_20 hx hb hK hP (inb_in hi) d_Lattice_charge_23 ?_
    obtain ⟨v2, hv2, hf⟩ := bd_x hf
    refine top_i hv2 ?_
    refine lv_istore_n (lv' := [(2, .int v2), (0, .ref (ad 18)), (1, .int a1)]) hx hb d_Lattice_charge_24 rfl hl (Nat.le_of_ble_eq_true rfl) rfl (fun ls hl => ?_)
    refine lv_aload_n hx hb d_Lattice_charge_25 rfl (lv_at hl 1 rfl) ?_
    refine xg_18_0 hx hb hts hown hK hP q_117 d_Lattice_charge_26 ?_
    refine lv_aload_n hx hb d_Lattice_charge_29 rfl (lv_at hl 1 rfl) ?_
    refine xg_18_3 hx hb hts hown hK hP q_120 d_Lattice_charge_30 ?_
    refine lv_iload_n hx hb d_Lattice_charge_33 rfl (lv_at hl 2 rfl) ?_
    obtain ⟨hi, hf⟩ := gd_x hf
    refine xl_19 hx hb hK hP (inb_in hi) d_Lattice_charge_34 ?_
    refine lv_iload_n hx hb d_Lattice_charge_35 rfl (lv_at hl 0 rfl) ?_
    obtain ⟨v3, hv3, hf⟩ := cl_x hf
    refine rdV (As := [.int (μ.1 19 a1.toNatClampNeg), .int v2]) (rest := []) S K_Draft_text q_391 (c_Draft_text hv3) hK hP ⟨rfl, rfl⟩ ⟨Nat.le_of_ble_eq_true rfl, Nat.le_of_ble_eq_true rfl⟩ (xr_1 hK hP) rfl hl.1 rfl (Nat.le_of_ble_eq_true rfl) d_Lattice_charge_36 ⟨Nat.le_refl _, Nat.le_refl _⟩ ?_
    refine lv_lstore_n (lv' := [(3, .long v3), (2, .int v2), (0, .ref (ad 18)), (1, .int a1)]) hx hb d_Lattice_charge_39 rfl hl (Nat.le_of_ble_eq_true rfl) rfl (fun ls hl => ?_)
    refine lv_aload_n hx hb d_Lattice_charge_40 rfl (lv_at hl 2 rfl) ?_
    refine xg_18_2 hx hb hts hown hK hP q_119 d_Lattice_charge_41 ?_
    refine lv_iload_n hx hb d_Lattice_charge_44 rfl (lv_at hl 1 rfl) ?_
    refine lv_iconst (v := 1) hx hb d_Lattice_charge_45 (by decide) ?_
    refine lv_lload_n hx hb d_Lattice_charge_46 rfl (lv_at hl 0 rfl) ?_
    refine lv_iload_n hx hb d_Lattice_charge_47 rfl (lv_at hl 1 rfl) ?_
    obtain ⟨v4, hv4, hf⟩ := cl_x hf
    refine rdS (As := [.int (1 : Int32), .long v3, .int v2]) (rest := [.int v2, .ref (ad 10)]) S K_Texts_isAllOf q_468 (c_Texts_isAllOf (w := (WX g ad dr pl μ)) hv4) hK hP ⟨rfl, rfl⟩ ⟨Nat.le_of_ble_eq_true rfl, Nat.le_of_ble_eq_true rfl⟩ rfl hl.1 rfl (Nat.le_of_ble_eq_true rfl) d_Lattice_charge_48 ⟨Nat.le_refl _, Nat.le_refl _⟩ ?_
    obtain ⟨v5, hv5, hf⟩ := cl_x hf
    refine rdV (As := [.int v2, .int (bz v4)]) (rest := []) S K_Grammar_charge q_472 (c_Grammar_charge hv5) hK hP ⟨rfl, rfl⟩ ⟨Nat.le_of_ble_eq_true rfl, Nat.le_of_ble_eq_true rfl⟩ (xr_10 hK hP) rfl hl.1 rfl (Nat.le_of_ble_eq_true rfl) d_Lattice_charge_51 ⟨Nat.le_refl _, Nat.le_refl _⟩ ?_
    have h1 := Option.some.inj hf
    subst h1
    exact W.iret hx hb hr (fun t ht _ => ⟨rfl, ht⟩) (fun _ h => by cases h) d_Lattice_charge_54
  · replace hf := br_n hc hf
    refine lv_iconst (v := 0) hx hb d_Lattice_charge_16 (by decide) ?_
    have h1 := Option.some.inj hf
    subst h1
    exact W.iret hx hb hr (fun t ht _ => ⟨rfl, ht⟩) (fun _ h => by cases h) d_Lattice_charge_17
theorem c_Lattice_charge {l : Launch} {D : va_G} {g : Nat → ClassId} {ad : Nat → Nat} {dr : Nat → Option Nat} {pl : va_W} {μ : Mem} {r : Int32} {n : Nat} {a1 : Int32} (hf : f_Lattice_charge n μ a1 = some r) : Met l y_Lattice_charge (Cond.code y_Lattice_charge b_Lattice_charge 5 (some .int) :: ww) rm_Lattice_charge (RP D CL (TY g) (WX g ad dr pl μ) [.ref (ad 18), .int a1]) (k2_QcV (.int r)) 0 0 (fun _ => False) := by
  refine met_of (by decide) (Nat.le_of_ble_eq_true rfl) ?_
  intro p e s m below meth c ls X hP hl
  have hl : lv_has ls 5 [(0, .ref (ad 18)), (1, .int a1)] := hl
  exact w_Lattice_charge X hP hl hf
theorem d_Lattice_rebuild_0 : decode b_Lattice_rebuild 0 = .ok (.aload_n 0, 1) := by decide +kernel
theorem d_Lattice_rebuild_1 : decode b_Lattice_rebuild 1 = .ok (.iconst 0, 1) := by decide +kernel
theorem d_Lattice_rebuild_2 : decode b_Lattice_rebuild 2 = .ok (.putfield 42, 3) := by decide +kernel
theorem d_Lattice_rebuild_5 : decode b_Lattice_rebuild 5 = .ok (.iconst 0, 1) := by decide +kernel
theorem d_Lattice_rebuild_6 : decode b_Lattice_rebuild 6 = .ok (.istore_n 1, 1) := by decide +kernel
theorem d_Lattice_rebuild_7 : decode b_Lattice_rebuild 7 = .ok (.iload_n 1, 1) := by decide +kernel
theorem d_Lattice_rebuild_8 : decode b_Lattice_rebuild 8 = .ok (.aload_n 0, 1) := by decide +kernel
theorem d_Lattice_rebuild_9 : decode b_Lattice_rebuild 9 = .ok (.getfield 9, 3) := by decide +kernel
theorem d_Lattice_rebuild_12 : decode b_Lattice_rebuild 12 = .ok (.invokevirtual 46, 3) := by decide +kernel
theorem d_Lattice_rebuild_15 : decode b_Lattice_rebuild 15 = .ok (.if_icmp .ge 51, 3) := by decide +kernel
theorem d_Lattice_rebuild_18 : decode b_Lattice_rebuild 18 = .ok (.aload_n 0, 1) := by decide +kernel
theorem d_Lattice_rebuild_19 : decode b_Lattice_rebuild 19 = .ok (.getfield 42, 3) := by decide +kernel
theorem d_Lattice_rebuild_22 : decode b_Lattice_rebuild 22 = .ok (.istore_n 2, 1) := by decide +kernel
theorem d_Lattice_rebuild_23 : decode b_Lattice_rebuild 23 = .ok (.aload_n 0, 1) := by decide +kernel
theorem d_Lattice_rebuild_24 : decode b_Lattice_rebuild 24 = .ok (.iload_n 1, 1) := by decide +kernel
theorem d_Lattice_rebuild_25 : decode b_Lattice_rebuild 25 = .ok (.invokevirtual 52, 3) := by decide +kernel
theorem d_Lattice_rebuild_28 : decode b_Lattice_rebuild 28 = .ok (.aload_n 0, 1) := by decide +kernel
theorem d_Lattice_rebuild_29 : decode b_Lattice_rebuild 29 = .ok (.iload_n 1, 1) := by decide +kernel
theorem d_Lattice_rebuild_30 : decode b_Lattice_rebuild 30 = .ok (.aload_n 0, 1) := by decide +kernel
theorem d_Lattice_rebuild_31 : decode b_Lattice_rebuild 31 = .ok (.getfield 42, 3) := by decide +kernel
theorem d_Lattice_rebuild_34 : decode b_Lattice_rebuild 34 = .ok (.iload_n 2, 1) := by decide +kernel
theorem d_Lattice_rebuild_35 : decode b_Lattice_rebuild 35 = .ok (.if_icmp .le 7, 3) := by decide +kernel
theorem d_Lattice_rebuild_38 : decode b_Lattice_rebuild 38 = .ok (.iconst 1, 1) := by decide +kernel
theorem d_Lattice_rebuild_39 : decode b_Lattice_rebuild 39 = .ok (.goto 4, 3) := by decide +kernel
theorem d_Lattice_rebuild_42 : decode b_Lattice_rebuild 42 = .ok (.iconst 0, 1) := by decide +kernel
theorem d_Lattice_rebuild_43 : decode b_Lattice_rebuild 43 = .ok (.invokevirtual 56, 3) := by decide +kernel
theorem d_Lattice_rebuild_46 : decode b_Lattice_rebuild 46 = .ok (.aload_n 0, 1) := by decide +kernel
theorem d_Lattice_rebuild_47 : decode b_Lattice_rebuild 47 = .ok (.getfield 42, 3) := by decide +kernel
theorem d_Lattice_rebuild_50 : decode b_Lattice_rebuild 50 = .ok (.iload_n 2, 1) := by decide +kernel
theorem d_Lattice_rebuild_51 : decode b_Lattice_rebuild 51 = .ok (.if_icmp .ne 9, 3) := by decide +kernel
theorem d_Lattice_rebuild_54 : decode b_Lattice_rebuild 54 = .ok (.aload_n 0, 1) := by decide +kernel
theorem d_Lattice_rebuild_55 : decode b_Lattice_rebuild 55 = .ok (.iload_n 1, 1) := by decide +kernel
theorem d_Lattice_rebuild_56 : decode b_Lattice_rebuild 56 = .ok (.iconst 1, 1) := by decide +kernel
theorem d_Lattice_rebuild_57 : decode b_Lattice_rebuild 57 = .ok (.invokevirtual 60, 3) := by decide +kernel
theorem d_Lattice_rebuild_60 : decode b_Lattice_rebuild 60 = .ok (.iinc 1 1, 3) := by decide +kernel
theorem d_Lattice_rebuild_63 : decode b_Lattice_rebuild 63 = .ok (.goto (-56), 3) := by decide +kernel
theorem d_Lattice_rebuild_66 : decode b_Lattice_rebuild 66 = .ok (.iconst 0, 1) := by decide +kernel
theorem d_Lattice_rebuild_67 : decode b_Lattice_rebuild 67 = .ok (.istore_n 1, 1) := by decide +kernel
theorem d_Lattice_rebuild_68 : decode b_Lattice_rebuild 68 = .ok (.iload_n 1, 1) := by decide +kernel
theorem d_Lattice_rebuild_69 : decode b_Lattice_rebuild 69 = .ok (.aload_n 0, 1) := by decide +kernel
theorem d_Lattice_rebuild_70 : decode b_Lattice_rebuild 70 = .ok (.getfield 42, 3) := by decide +kernel
theorem d_Lattice_rebuild_73 : decode b_Lattice_rebuild 73 = .ok (.if_icmp .ge 20, 3) := by decide +kernel
theorem d_Lattice_rebuild_76 : decode b_Lattice_rebuild 76 = .ok (.aload_n 0, 1) := by decide +kernel
theorem d_Lattice_rebuild_77 : decode b_Lattice_rebuild 77 = .ok (.getfield 36, 3) := by decide +kernel
theorem d_Lattice_rebuild_80 : decode b_Lattice_rebuild 80 = .ok (.iload_n 1, 1) := by decide +kernel
theorem d_Lattice_rebuild_81 : decode b_Lattice_rebuild 81 = .ok (.aload_n 0, 1) := by decide +kernel
theorem d_Lattice_rebuild_82 : decode b_Lattice_rebuild 82 = .ok (.iload_n 1, 1) := by decide +kernel
theorem d_Lattice_rebuild_83 : decode b_Lattice_rebuild 83 = .ok (.invokevirtual 64, 3) := by decide +kernel
theorem d_Lattice_rebuild_86 : decode b_Lattice_rebuild 86 = .ok (.iastore, 1) := by decide +kernel
theorem d_Lattice_rebuild_87 : decode b_Lattice_rebuild 87 = .ok (.iinc 1 1, 3) := by decide +kernel
theorem d_Lattice_rebuild_90 : decode b_Lattice_rebuild 90 = .ok (.goto (-22), 3) := by decide +kernel
theorem d_Lattice_rebuild_93 : decode b_Lattice_rebuild 93 = .ok (.return_, 1) := by decide +kernel
abbrev rm_Lattice_rebuild : Room := { frames := 4, cells := 0, slots := 0, locals := 90 }
def f_Lattice_rebuild_68 : Nat → Mem → Int32 → Option Mem
  | 0, _, _ => none
  | n + 1, μ, x1 => (if (μ.1 18 9) ≤ x1 then (some μ) else (cl (f_Lattice_charge n μ x1) (fun v1 => gd (inb x1 696) (bd (wi μ 23 x1.toNatClampNeg v1) (fun μ2 => bd (x1 + 1) (fun v3 => (f_Lattice_rebuild_68 n) μ2 v3))))))
set_option maxHeartbeats 4000000 in
set_option maxRecDepth 100000 in
theorem w_Lattice_rebuild_68 {p : Program} {l : Launch} {e : Env} {s : State} {m : MethodId} {args : Array Value} {below : List Frame} {meth : Method} {c : Code} {D : va_G} {g : Nat → ClassId} {ad : Nat → Nat} {dr : Nat → Option Nat} {pl : va_W} {μ' : Mem} {A : Nat → Prop} (X : Cx p s m args meth c b_Lattice_rebuild 3 R_Lattice none D CL (TY g)) (hDA : ∀ μ : Mem, va_D A (WX g ad dr pl μ)) : ∀ (n : Nat) (μ : Mem) (x1 : Int32) (ls : Array Slot) (H : Heap) (locs : List Loc), va_P D CL (WX g ad dr pl μ) H → va_S A s.heap H locs → lv_has ls 3 [(0, .ref (ad 18)), (1, .int x1)] → f_Lattice_rebuild_68 n μ x1 = some μ' → WU p l e rm_Lattice_rebuild s m args below meth c H locs D (WX g ad dr pl μ') A none (F0 m 68 ls []) := by
  intro n
  induction n with
  | zero => intro μ x1 ls H locs hP hS hl hf; rw [f_Lattice_rebuild_68] at hf; cases hf
  | succ n ih =>
    intro μ x1 ls H locs hP hS hl hf
    obtain ⟨S, hr, hlk, hK⟩ := id X
    obtain ⟨hx, hb, hml, hown, hts⟩ := id S
    rw [f_Lattice_rebuild_68] at hf
    refine lv_iload_n hx hb d_Lattice_rebuild_68 rfl (lv_at hl 1 rfl) ?_
    refine lv_aload_n hx hb d_Lattice_rebuild_69 rfl (lv_at hl 0 rfl) ?_
    refine xg_18_9 hx hb hts hown hK hP q_126 d_Lattice_rebuild_70 ?_
    refine lv_icmp_ge (tgt := 93) hx hb d_Lattice_rebuild_73 rfl (fun hc => ?_) (fun hc => ?_)
    · replace hf := br_p hc hf
      obtain rfl := Option.some.inj hf
      exact W.vret hx hb hr (fun t ht _ => ⟨rfl, by rw [ht]; exact hP, hS.F ht⟩) hS.2.2 d_Lattice_rebuild_93
    · replace hf := br_n hc hf
      refine lv_aload_n hx hb d_Lattice_rebuild_76 rfl (lv_at hl 0 rfl) ?_
      refine xg_18_7 hx hb hts hown hK hP q_124 d_Lattice_rebuild_77 ?_
      refine lv_iload_n hx hb d_Lattice_rebuild_80 rfl (lv_at hl 1 rfl) ?_
      refine lv_aload_n hx hb d_Lattice_rebuild_81 rfl (lv_at hl 0 rfl) ?_
      refine lv_iload_n hx hb d_Lattice_rebuild_82 rfl (lv_at hl 1 rfl) ?_
      obtain ⟨v1, hv1, hf⟩ := cl_x hf
      refine rdV (As := [.int x1]) (rest := [.int x1, .ref (ad 23)]) S K_Lattice_charge q_460 (c_Lattice_charge hv1) hK hP ⟨rfl, rfl⟩ ⟨Nat.le_of_ble_eq_true rfl, Nat.le_of_ble_eq_true rfl⟩ (xr_18 hK hP) rfl hl.1 rfl (Nat.le_of_ble_eq_true rfl) d_Lattice_rebuild_83 ⟨Nat.le_refl _, Nat.le_refl _⟩ ?_
      obtain ⟨hi, hf⟩ := gd_x hf
      obtain ⟨μ2, hμ2, hf⟩ := bd_x hf
      refine xs_23 hx hb hK (hDA _) hP hS (inb_in hi) d_Lattice_rebuild_86 hμ2 (fun H locs hP hS => ?_)
      obtain ⟨v3, hv3, hf⟩ := bd_x hf
      refine lv_iinc (lv' := [(1, .int v3), (0, .ref (ad 18))]) hx hb d_Lattice_rebuild_87 hl (k := 1) rfl (show x1 + Int32.ofInt (1) = v3 from hv3) (Nat.le_of_ble_eq_true rfl) rfl (fun ls hl => ?_)
      refine lv_goto (tgt := 68) hx hb d_Lattice_rebuild_90 rfl ?_
      exact ih _ _ _ _ _ hP hS (lv_sub (l' := [(0, .ref (ad 18)), (1, .int v3)]) hl [1, 0] rfl) hf
def f_Lattice_rebuild_60 (κ7 : Mem → Int32 → Option Mem) (n : Nat) (μ : Mem) (x1 : Int32) : Option Mem := bd (x1 + 1) (fun v1 => κ7 μ v1)
set_option maxHeartbeats 4000000 in
set_option maxRecDepth 100000 in
theorem w_Lattice_rebuild_60 {p : Program} {l : Launch} {e : Env} {s : State} {m : MethodId} {args : Array Value} {below : List Frame} {meth : Method} {c : Code} {D : va_G} {g : Nat → ClassId} {ad : Nat → Nat} {dr : Nat → Option Nat} {pl : va_W} {μ' : Mem} {A : Nat → Prop} {κ7 : Mem → Int32 → Option Mem} {n : Nat} {μ : Mem} {x1 : Int32} {ls : Array Slot} {H : Heap} {locs : List Loc} (X : Cx p s m args meth c b_Lattice_rebuild 3 R_Lattice none D CL (TY g)) (hDA : ∀ μ : Mem, va_D A (WX g ad dr pl μ)) (hκ7 : ∀ (μ : Mem) (x1 : Int32) (ls : Array Slot) (H : Heap) (locs : List Loc), va_P D CL (WX g ad dr pl μ) H → va_S A s.heap H locs → lv_has ls 3 [(0, .ref (ad 18)), (1, .int x1)] → κ7 μ x1 = some μ' → WU p l e rm_Lattice_rebuild s m args below meth c H locs D (WX g ad dr pl μ') A none (F0 m 7 ls [])) (hP : va_P D CL (WX g ad dr pl μ) H) (hS : va_S A s.heap H locs) (hl : lv_has ls 3 [(0, .ref (ad 18)), (1, .int x1)]) (hf : f_Lattice_rebuild_60 κ7 n μ x1 = some μ') : WU p l e rm_Lattice_rebuild s m args below meth c H locs D (WX g ad dr pl μ') A none (F0 m 60 ls []) := by
  obtain ⟨S, hr, hlk, hK⟩ := id X
  obtain ⟨hx, hb, hml, hown, hts⟩ := id S
  rw [f_Lattice_rebuild_60] at hf
  obtain ⟨v1, hv1, hf⟩ := bd_x hf
  refine lv_iinc (lv' := [(1, .int v1), (0, .ref (ad 18))]) hx hb d_Lattice_rebuild_60 hl (k := 1) rfl (show x1 + Int32.ofInt (1) = v1 from hv1) (Nat.le_of_ble_eq_true rfl) rfl (fun ls hl => ?_)
  refine lv_goto (tgt := 7) hx hb d_Lattice_rebuild_63 rfl ?_
  exact hκ7 _ _ _ _ _ hP hS (lv_sub (l' := [(0, .ref (ad 18)), (1, .int v1)]) hl [1, 0] rfl) hf
def f_Lattice_rebuild_43 (κ7 : Mem → Int32 → Option Mem) (n : Nat) (μ : Mem) (x1 : Int32) (x2 : Int32) (s1 : Int32) (s2 : Bool) : Option Mem := cl (f_Lattice_putUnknown n μ s1 (bz s2)) (fun μ2 => (if (μ2.1 18 9) = x2 then (cl (f_Lattice_putUnknownOf n μ2 x1 (1 : Int32)) (fun μ4 => f_Lattice_rebuild_60 κ7 n μ4 x1)) else (f_Lattice_rebuild_60 κ7 n μ2 x1)))
set_option maxHeartbeats 4000000 in
set_option maxRecDepth 100000 in
theorem w_Lattice_rebuild_43 {p : Program} {l : Launch} {e : Env} {s : State} {m : MethodId} {args : Array Value} {below : List Frame} {meth : Method} {c : Code} {D : va_G} {g : Nat → ClassId} {ad : Nat → Nat} {dr : Nat → Option Nat} {pl : va_W} {μ' : Mem} {A : Nat → Prop} {κ7 : Mem → Int32 → Option Mem} {n : Nat} {μ : Mem} {x1 : Int32} {x2 : Int32} {s1 : Int32} {s2 : Bool} {ls : Array Slot} {H : Heap} {locs : List Loc} (X : Cx p s m args meth c b_Lattice_rebuild 3 R_Lattice none D CL (TY g)) (hDA : ∀ μ : Mem, va_D A (WX g ad dr pl μ)) (hκ7 : ∀ (μ : Mem) (x1 : Int32) (ls : Array Slot) (H : Heap) (locs : List Loc), va_P D CL (WX g ad dr pl μ) H → va_S A s.heap H locs → lv_has ls 3 [(0, .ref (ad 18)), (1, .int x1)] → κ7 μ x1 = some μ' → WU p l e rm_Lattice_rebuild s m args below meth c H locs D (WX g ad dr pl μ') A none (F0 m 7 ls [])) (hP : va_P D CL (WX g ad dr pl μ) H) (hS : va_S A s.heap H locs) (hl : lv_has ls 3 [(0, .ref (ad 18)), (1, .int x1), (2, .int x2)]) (hf : f_Lattice_rebuild_43 κ7 n μ x1 x2 s1 s2 = some μ') : WU p l e rm_Lattice_rebuild s m args below meth c H locs D (WX g ad dr pl μ') A none (F0 m 43 ls [.int (bz s2), .int s1, .ref (ad 18)]) := by
  obtain ⟨S, hr, hlk, hK⟩ := id X
  obtain ⟨hx, hb, hml, hown, hts⟩ := id S
  rw [f_Lattice_rebuild_43] at hf
  obtain ⟨μ2, hv1, hf⟩ := cl_x hf
  refine wrV (As := [.int s1, .int (bz s2)]) (rest := []) S K_Lattice_putUnknown q_419 (c_Lattice_putUnknown hDA hv1) hK hP hS ⟨rfl, rfl⟩ ⟨Nat.le_of_ble_eq_true rfl, Nat.le_of_ble_eq_true rfl⟩ (xr_18 hK hP) rfl hl.1 rfl (Nat.le_of_ble_eq_true rfl) d_Lattice_rebuild_43 ⟨Nat.le_refl _, Nat.le_refl _⟩ (fun H locs hP hS => ?_)
  refine lv_aload_n hx hb d_Lattice_rebuild_46 rfl (lv_at hl 0 rfl) ?_
  refine xg_18_9 hx hb hts hown hK hP q_126 d_Lattice_rebuild_47 ?_
  refine lv_iload_n hx hb d_Lattice_rebuild_50 rfl (lv_at hl 2 rfl) ?_
  refine lv_icmp_ne (tgt := 60) hx hb d_Lattice_rebuild_51 rfl (fun hc => ?_) (fun hc => ?_)
  · replace hf := br_n hc hf
    exact w_Lattice_rebuild_60 X hDA hκ7 hP hS (lv_sub (l' := [(0, .ref (ad 18)), (1, .int x1)]) hl [0, 1] rfl) hf
  · replace hf := br_p hc hf
    refine lv_aload_n hx hb d_Lattice_rebuild_54 rfl (lv_at hl 0 rfl) ?_
    refine lv_iload_n hx hb d_Lattice_rebuild_55 rfl (lv_at hl 1 rfl) ?_
    refine lv_iconst (v := 1) hx hb d_Lattice_rebuild_56 (by decide) ?_
    obtain ⟨μ4, hv3, hf⟩ := cl_x hf
    refine wrV (As := [.int x1, .int (1 : Int32)]) (rest := []) S K_Lattice_putUnknownOf q_444 (c_Lattice_putUnknownOf hDA hv3) hK hP hS ⟨rfl, rfl⟩ ⟨Nat.le_of_ble_eq_true rfl, Nat.le_of_ble_eq_true rfl⟩ (xr_18 hK hP) rfl hl.1 rfl (Nat.le_of_ble_eq_true rfl) d_Lattice_rebuild_57 ⟨Nat.le_refl _, Nat.le_refl _⟩ (fun H locs hP hS => ?_)
    exact w_Lattice_rebuild_60 X hDA hκ7 hP hS (lv_sub (l' := [(0, .ref (ad 18)), (1, .int x1)]) hl [0, 1] rfl) hf
def f_Lattice_rebuild_7 : Nat → Mem → Int32 → Option Mem
  | 0, _, _ => none
  | n + 1, μ, x1 => cl (f_Draft_size n μ) (fun v1 => (if v1 ≤ x1 then (f_Lattice_rebuild_68 n μ (0 : Int32)) else (bd (μ.1 18 9) (fun v2 => cl (f_Lattice_putKnown n μ x1) (fun μ4 => (if (μ4.1 18 9) ≤ v2 then (f_Lattice_rebuild_43 (f_Lattice_rebuild_7 n) n μ4 x1 v2 x1 false) else (f_Lattice_rebuild_43 (f_Lattice_rebuild_7 n) n μ4 x1 v2 x1 true)))))))
set_option maxHeartbeats 4000000 in
set_option maxRecDepth 100000 in
theorem w_Lattice_rebuild_7 {p : Program} {l : Launch} {e : Env} {s : State} {m : MethodId} {args : Array Value} {below : List Frame} {meth : Method} {c : Code} {D : va_G} {g : Nat → ClassId} {ad : Nat → Nat} {dr : Nat → Option Nat} {pl : va_W} {μ' : Mem} {A : Nat → Prop} (X : Cx p s m args meth c b_Lattice_rebuild 3 R_Lattice none D CL (TY g)) (hDA : ∀ μ : Mem, va_D A (WX g ad dr pl μ)) : ∀ (n : Nat) (μ : Mem) (x1 : Int32) (ls : Array Slot) (H : Heap) (locs : List Loc), va_P D CL (WX g ad dr pl μ) H → va_S A s.heap H locs → lv_has ls 3 [(0, .ref (ad 18)), (1, .int x1)] → f_Lattice_rebuild_7 n μ x1 = some μ' → WU p l e rm_Lattice_rebuild s m args below meth c H locs D (WX g ad dr pl μ') A none (F0 m 7 ls []) := by
  intro n
  induction n with
  | zero => intro μ x1 ls H locs hP hS hl hf; rw [f_Lattice_rebuild_7] at hf; cases hf
  | succ n ih =>
    intro μ x1 ls H locs hP hS hl hf
    obtain ⟨S, hr, hlk, hK⟩ := id X
    obtain ⟨hx, hb, hml, hown, hts⟩ := id S
    rw [f_Lattice_rebuild_7] at hf
    refine lv_iload_n hx hb d_Lattice_rebuild_7 rfl (lv_at hl 1 rfl) ?_
    refine lv_aload_n hx hb d_Lattice_rebuild_8 rfl (lv_at hl 0 rfl) ?_
    refine xg_18_0 hx hb hts hown hK hP q_117 d_Lattice_rebuild_9 ?_
    obtain ⟨v1, hv1, hf⟩ := cl_x hf
    refine rdV (As := []) (rest := [.int x1]) S K_Draft_size q_386 (c_Draft_size hv1) hK hP ⟨rfl, rfl⟩ ⟨Nat.le_of_ble_eq_true rfl, Nat.le_of_ble_eq_true rfl⟩ (xr_1 hK hP) rfl hl.1 rfl (Nat.le_of_ble_eq_true rfl) d_Lattice_rebuild_12 ⟨Nat.le_refl _, Nat.le_refl _⟩ ?_
    refine lv_icmp_ge (tgt := 66) hx hb d_Lattice_rebuild_15 rfl (fun hc => ?_) (fun hc => ?_)
    · replace hf := br_p hc hf
      refine lv_iconst (v := 0) hx hb d_Lattice_rebuild_66 (by decide) ?_
      refine lv_istore_n (lv' := [(1, .int (0 : Int32)), (0, .ref (ad 18))]) hx hb d_Lattice_rebuild_67 rfl hl (Nat.le_of_ble_eq_true rfl) rfl (fun ls hl => ?_)
      exact w_Lattice_rebuild_68 X hDA _ _ _ _ _ _ hP hS (lv_sub (l' := [(0, .ref (ad 18)), (1, .int (0 : Int32))]) hl [1, 0] rfl) hf
    · replace hf := br_n hc hf
      refine lv_aload_n hx hb d_Lattice_rebuild_18 rfl (lv_at hl 0 rfl) ?_
      refine xg_18_9 hx hb hts hown hK hP q_126 d_Lattice_rebuild_19 ?_
      obtain ⟨v2, hv2, hf⟩ := bd_x hf
      refine top_i hv2 ?_
      refine lv_istore_n (lv' := [(2, .int v2), (0, .ref (ad 18)), (1, .int x1)]) hx hb d_Lattice_rebuild_22 rfl hl (Nat.le_of_ble_eq_true rfl) rfl (fun ls hl => ?_)
      refine lv_aload_n hx hb d_Lattice_rebuild_23 rfl (lv_at hl 1 rfl) ?_
      refine lv_iload_n hx hb d_Lattice_rebuild_24 rfl (lv_at hl 2 rfl) ?_
      obtain ⟨μ4, hv3, hf⟩ := cl_x hf
      refine wrV (As := [.int x1]) (rest := []) S K_Lattice_putKnown q_387 (c_Lattice_putKnown hDA hv3) hK hP hS ⟨rfl, rfl⟩ ⟨Nat.le_of_ble_eq_true rfl, Nat.le_of_ble_eq_true rfl⟩ (xr_18 hK hP) rfl hl.1 rfl (Nat.le_of_ble_eq_true rfl) d_Lattice_rebuild_25 ⟨Nat.le_refl _, Nat.le_refl _⟩ (fun H locs hP hS => ?_)
      refine lv_aload_n hx hb d_Lattice_rebuild_28 rfl (lv_at hl 1 rfl) ?_
      refine lv_iload_n hx hb d_Lattice_rebuild_29 rfl (lv_at hl 2 rfl) ?_
      refine lv_aload_n hx hb d_Lattice_rebuild_30 rfl (lv_at hl 1 rfl) ?_
      refine xg_18_9 hx hb hts hown hK hP q_126 d_Lattice_rebuild_31 ?_
      refine lv_iload_n hx hb d_Lattice_rebuild_34 rfl (lv_at hl 0 rfl) ?_
      refine lv_icmp_le (tgt := 42) hx hb d_Lattice_rebuild_35 rfl (fun hc => ?_) (fun hc => ?_)
      · replace hf := br_p hc hf
        refine lv_iconst (v := 0) hx hb d_Lattice_rebuild_42 (by decide) ?_
        refine top_i (z := bz false) (by decide) ?_
        exact w_Lattice_rebuild_43 X hDA ih hP hS (lv_sub (l' := [(0, .ref (ad 18)), (1, .int x1), (2, .int v2)]) hl [1, 2, 0] rfl) hf
      · replace hf := br_n hc hf
        refine lv_iconst (v := 1) hx hb d_Lattice_rebuild_38 (by decide) ?_
        refine lv_goto (tgt := 43) hx hb d_Lattice_rebuild_39 rfl ?_
        refine top_i (z := bz true) (by decide) ?_
        exact w_Lattice_rebuild_43 X hDA ih hP hS (lv_sub (l' := [(0, .ref (ad 18)), (1, .int x1), (2, .int v2)]) hl [1, 2, 0] rfl) hf
def f_Lattice_rebuild (n : Nat) (μ : Mem) : Option Mem := bd (wi μ 18 9 (0 : Int32)) (fun μ1 => f_Lattice_rebuild_7 n μ1 (0 : Int32))
set_option maxHeartbeats 4000000 in
set_option maxRecDepth 100000 in
theorem w_Lattice_rebuild {p : Program} {l : Launch} {e : Env} {s : State} {m : MethodId} {args : Array Value} {below : List Frame} {meth : Method} {c : Code} {D : va_G} {g : Nat → ClassId} {ad : Nat → Nat} {dr : Nat → Option Nat} {pl : va_W} {μ' : Mem} {A : Nat → Prop} {n : Nat} {μ : Mem} {ls : Array Slot} {H : Heap} {locs : List Loc} (X : Cx p s m args meth c b_Lattice_rebuild 3 R_Lattice none D CL (TY g)) (hDA : ∀ μ : Mem, va_D A (WX g ad dr pl μ)) (hP : va_P D CL (WX g ad dr pl μ) H) (hS : va_S A s.heap H locs) (hl : lv_has ls 3 [(0, .ref (ad 18))]) (hf : f_Lattice_rebuild n μ = some μ') : WU p l e rm_Lattice_rebuild s m args below meth c H locs D (WX g ad dr pl μ') A none (F0 m 0 ls []) := by
  obtain ⟨S, hr, hlk, hK⟩ := id X
  obtain ⟨hx, hb, hml, hown, hts⟩ := id S
  rw [f_Lattice_rebuild] at hf
  refine lv_aload_n hx hb d_Lattice_rebuild_0 rfl (lv_at hl 0 rfl) ?_
  refine lv_iconst (v := 0) hx hb d_Lattice_rebuild_1 (by decide) ?_
  obtain ⟨μ1, hμ1, hf⟩ := bd_x hf
  refine xp_18_9 hx hb hts hown hK (hDA _) hP hS q_126 d_Lattice_rebuild_2 hμ1 (fun H locs hP hS => ?_)
  refine lv_iconst (v := 0) hx hb d_Lattice_rebuild_5 (by decide) ?_
  refine lv_istore_n (lv' := [(1, .int (0 : Int32)), (0, .ref (ad 18))]) hx hb d_Lattice_rebuild_6 rfl hl (Nat.le_of_ble_eq_true rfl) rfl (fun ls hl => ?_)
  exact w_Lattice_rebuild_7 X hDA _ _ _ _ _ _ hP hS (lv_sub (l' := [(0, .ref (ad 18)), (1, .int (0 : Int32))]) hl [1, 0] rfl) hf
theorem c_Lattice_rebuild {l : Launch} {D : va_G} {g : Nat → ClassId} {ad : Nat → Nat} {dr : Nat → Option Nat} {pl : va_W} {μ : Mem} {μ' : Mem} {A : Nat → Prop} {n : Nat} (hDA : ∀ μ : Mem, va_D A (WX g ad dr pl μ)) (hf : f_Lattice_rebuild n μ = some μ') : Met l y_Lattice_rebuild (Cond.code y_Lattice_rebuild b_Lattice_rebuild 3 none :: ww) rm_Lattice_rebuild (RP D CL (TY g) (WX g ad dr pl μ) [.ref (ad 18)]) (QW D CL (WX g ad dr pl μ') A none) 0 0 A := by
  refine met_of (by decide) (Nat.le_of_ble_eq_true rfl) ?_
  intro p e s m below meth c ls X hP hl
  have hl : lv_has ls 3 [(0, .ref (ad 18))] := hl
  exact w_Lattice_rebuild X hDA hP va_S.rf hl hf
theorem d_Lattice_count_0 : decode b_Lattice_count 0 = .ok (.aload_n 0, 1) := by decide +kernel
theorem d_Lattice_count_1 : decode b_Lattice_count 1 = .ok (.getfield 42, 3) := by decide +kernel
theorem d_Lattice_count_4 : decode b_Lattice_count 4 = .ok (.ireturn, 1) := by decide +kernel
abbrev rm_Lattice_count : Room := { frames := 0, cells := 0, slots := 0, locals := 0 }
def f_Lattice_count (n : Nat) (μ : Mem) : Option Int32 := some (μ.1 18 9)
set_option maxHeartbeats 4000000 in
set_option maxRecDepth 100000 in
theorem w_Lattice_count {p : Program} {l : Launch} {e : Env} {s : State} {m : MethodId} {args : Array Value} {below : List Frame} {meth : Method} {c : Code} {D : va_G} {g : Nat → ClassId} {ad : Nat → Nat} {dr : Nat → Option Nat} {pl : va_W} {μ : Mem} {r : Int32} {n : Nat} {ls : Array Slot} (X : Cx p s m args meth c b_Lattice_count 1 R_Lattice (some .int) D CL (TY g)) (hP : va_P D CL (WX g ad dr pl μ) s.heap) (hl : lv_has ls 1 [(0, .ref (ad 18))]) (hf : f_Lattice_count n μ = some r) : WR p l e rm_Lattice_count s m args below meth c (.int r) (F0 m 0 ls []) := by
  obtain ⟨S, hr, hlk, hK⟩ := id X
  obtain ⟨hx, hb, hml, hown, hts⟩ := id S
  rw [f_Lattice_count] at hf
  refine lv_aload_n hx hb d_Lattice_count_0 rfl (lv_at hl 0 rfl) ?_
  refine xg_18_9 hx hb hts hown hK hP q_126 d_Lattice_count_1 ?_
  have h1 := Option.some.inj hf
  subst h1
  exact W.iret hx hb hr (fun t ht _ => ⟨rfl, ht⟩) (fun _ h => by cases h) d_Lattice_count_4
theorem c_Lattice_count {l : Launch} {D : va_G} {g : Nat → ClassId} {ad : Nat → Nat} {dr : Nat → Option Nat} {pl : va_W} {μ : Mem} {r : Int32} {n : Nat} (hf : f_Lattice_count n μ = some r) : Met l y_Lattice_count (Cond.code y_Lattice_count b_Lattice_count 1 (some .int) :: ww) rm_Lattice_count (RP D CL (TY g) (WX g ad dr pl μ) [.ref (ad 18)]) (k2_QcV (.int r)) 0 0 (fun _ => False) := by
  refine met_of (by decide) (Nat.le_of_ble_eq_true rfl) ?_
  intro p e s m below meth c ls X hP hl
  have hl : lv_has ls 1 [(0, .ref (ad 18))] := hl
  exact w_Lattice_count X hP hl hf
theorem d_Lattice_draftSize_0 : decode b_Lattice_draftSize 0 = .ok (.aload_n 0, 1) := by decide +kernel
theorem d_Lattice_draftSize_1 : decode b_Lattice_draftSize 1 = .ok (.getfield 9, 3) := by decide +kernel
theorem d_Lattice_draftSize_4 : decode b_Lattice_draftSize 4 = .ok (.invokevirtual 46, 3) := by decide +kernel
theorem d_Lattice_draftSize_7 : decode b_Lattice_draftSize 7 = .ok (.ireturn, 1) := by decide +kernel
abbrev rm_Lattice_draftSize : Room := { frames := 1, cells := 0, slots := 0, locals := 20 }
def f_Lattice_draftSize (n : Nat) (μ : Mem) : Option Int32 := cl (f_Draft_size n μ) (fun v1 => some v1)
set_option maxHeartbeats 4000000 in
set_option maxRecDepth 100000 in
theorem w_Lattice_draftSize {p : Program} {l : Launch} {e : Env} {s : State} {m : MethodId} {args : Array Value} {below : List Frame} {meth : Method} {c : Code} {D : va_G} {g : Nat → ClassId} {ad : Nat → Nat} {dr : Nat → Option Nat} {pl : va_W} {μ : Mem} {r : Int32} {n : Nat} {ls : Array Slot} (X : Cx p s m args meth c b_Lattice_draftSize 1 R_Lattice (some .int) D CL (TY g)) (hP : va_P D CL (WX g ad dr pl μ) s.heap) (hl : lv_has ls 1 [(0, .ref (ad 18))]) (hf : f_Lattice_draftSize n μ = some r) : WR p l e rm_Lattice_draftSize s m args below meth c (.int r) (F0 m 0 ls []) := by
  obtain ⟨S, hr, hlk, hK⟩ := id X
  obtain ⟨hx, hb, hml, hown, hts⟩ := id S
  rw [f_Lattice_draftSize] at hf
  refine lv_aload_n hx hb d_Lattice_draftSize_0 rfl (lv_at hl 0 rfl) ?_
  refine xg_18_0 hx hb hts hown hK hP q_117 d_Lattice_draftSize_1 ?_
  obtain ⟨v1, hv1, hf⟩ := cl_x hf
  refine rdV (As := []) (rest := []) S K_Draft_size q_386 (c_Draft_size hv1) hK hP ⟨rfl, rfl⟩ ⟨Nat.le_of_ble_eq_true rfl, Nat.le_of_ble_eq_true rfl⟩ (xr_1 hK hP) rfl hl.1 rfl (Nat.le_of_ble_eq_true rfl) d_Lattice_draftSize_4 ⟨Nat.le_refl _, Nat.le_refl _⟩ ?_
  have h1 := Option.some.inj hf
  subst h1
  exact W.iret hx hb hr (fun t ht _ => ⟨rfl, ht⟩) (fun _ h => by cases h) d_Lattice_draftSize_7
theorem c_Lattice_draftSize {l : Launch} {D : va_G} {g : Nat → ClassId} {ad : Nat → Nat} {dr : Nat → Option Nat} {pl : va_W} {μ : Mem} {r : Int32} {n : Nat} (hf : f_Lattice_draftSize n μ = some r) : Met l y_Lattice_draftSize (Cond.code y_Lattice_draftSize b_Lattice_draftSize 1 (some .int) :: ww) rm_Lattice_draftSize (RP D CL (TY g) (WX g ad dr pl μ) [.ref (ad 18)]) (k2_QcV (.int r)) 0 0 (fun _ => False) := by
  refine met_of (by decide) (Nat.le_of_ble_eq_true rfl) ?_
  intro p e s m below meth c ls X hP hl
  have hl : lv_has ls 1 [(0, .ref (ad 18))] := hl
  exact w_Lattice_draftSize X hP hl hf
theorem d_Lattice_begin_0 : decode b_Lattice_begin 0 = .ok (.aload_n 0, 1) := by decide +kernel
theorem d_Lattice_begin_1 : decode b_Lattice_begin 1 = .ok (.getfield 23, 3) := by decide +kernel
theorem d_Lattice_begin_4 : decode b_Lattice_begin 4 = .ok (.iload_n 1, 1) := by decide +kernel
theorem d_Lattice_begin_5 : decode b_Lattice_begin 5 = .ok (.iaload, 1) := by decide +kernel
theorem d_Lattice_begin_6 : decode b_Lattice_begin 6 = .ok (.ireturn, 1) := by decide +kernel
abbrev rm_Lattice_begin : Room := { frames := 0, cells := 0, slots := 0, locals := 0 }
def f_Lattice_begin (n : Nat) (μ : Mem) (a1 : Int32) : Option Int32 := gd (inb a1 696) (some (μ.1 19 a1.toNatClampNeg))
set_option maxHeartbeats 4000000 in
set_option maxRecDepth 100000 in
theorem w_Lattice_begin {p : Program} {l : Launch} {e : Env} {s : State} {m : MethodId} {args : Array Value} {below : List Frame} {meth : Method} {c : Code} {D : va_G} {g : Nat → ClassId} {ad : Nat → Nat} {dr : Nat → Option Nat} {pl : va_W} {μ : Mem} {r : Int32} {n : Nat} {a1 : Int32} {ls : Array Slot} (X : Cx p s m args meth c b_Lattice_begin 2 R_Lattice (some .int) D CL (TY g)) (hP : va_P D CL (WX g ad dr pl μ) s.heap) (hl : lv_has ls 2 [(0, .ref (ad 18)), (1, .int a1)]) (hf : f_Lattice_begin n μ a1 = some r) : WR p l e rm_Lattice_begin s m args below meth c (.int r) (F0 m 0 ls []) := by
  obtain ⟨S, hr, hlk, hK⟩ := id X
  obtain ⟨hx, hb, hml, hown, hts⟩ := id S
  rw [f_Lattice_begin] at hf
  refine lv_aload_n hx hb d_Lattice_begin_0 rfl (lv_at hl 0 rfl) ?_
  refine xg_18_3 hx hb hts hown hK hP q_120 d_Lattice_begin_1 ?_
  refine lv_iload_n hx hb d_Lattice_begin_4 rfl (lv_at hl 1 rfl) ?_
  obtain ⟨hi, hf⟩ := gd_x hf
  refine xl_19 hx hb hK hP (inb_in hi) d_Lattice_begin_5 ?_
  have h1 := Option.some.inj hf
  subst h1
  exact W.iret hx hb hr (fun t ht _ => ⟨rfl, ht⟩) (fun _ h => by cases h) d_Lattice_begin_6
theorem c_Lattice_begin {l : Launch} {D : va_G} {g : Nat → ClassId} {ad : Nat → Nat} {dr : Nat → Option Nat} {pl : va_W} {μ : Mem} {r : Int32} {n : Nat} {a1 : Int32} (hf : f_Lattice_begin n μ a1 = some r) : Met l y_Lattice_begin (Cond.code y_Lattice_begin b_Lattice_begin 2 (some .int) :: ww) rm_Lattice_begin (RP D CL (TY g) (WX g ad dr pl μ) [.ref (ad 18), .int a1]) (k2_QcV (.int r)) 0 0 (fun _ => False) := by
  refine met_of (by decide) (Nat.le_of_ble_eq_true rfl) ?_
  intro p e s m below meth c ls X hP hl
  have hl : lv_has ls 2 [(0, .ref (ad 18)), (1, .int a1)] := hl
  exact w_Lattice_begin X hP hl hf
theorem d_Lattice_length_0 : decode b_Lattice_length 0 = .ok (.aload_n 0, 1) := by decide +kernel
theorem d_Lattice_length_1 : decode b_Lattice_length 1 = .ok (.getfield 27, 3) := by decide +kernel
theorem d_Lattice_length_4 : decode b_Lattice_length 4 = .ok (.iload_n 1, 1) := by decide +kernel
theorem d_Lattice_length_5 : decode b_Lattice_length 5 = .ok (.iaload, 1) := by decide +kernel
theorem d_Lattice_length_6 : decode b_Lattice_length 6 = .ok (.ireturn, 1) := by decide +kernel
abbrev rm_Lattice_length : Room := { frames := 0, cells := 0, slots := 0, locals := 0 }
def f_Lattice_length (n : Nat) (μ : Mem) (a1 : Int32) : Option Int32 := gd (inb a1 696) (some (μ.1 20 a1.toNatClampNeg))
set_option maxHeartbeats 4000000 in
set_option maxRecDepth 100000 in
theorem w_Lattice_length {p : Program} {l : Launch} {e : Env} {s : State} {m : MethodId} {args : Array Value} {below : List Frame} {meth : Method} {c : Code} {D : va_G} {g : Nat → ClassId} {ad : Nat → Nat} {dr : Nat → Option Nat} {pl : va_W} {μ : Mem} {r : Int32} {n : Nat} {a1 : Int32} {ls : Array Slot} (X : Cx p s m args meth c b_Lattice_length 2 R_Lattice (some .int) D CL (TY g)) (hP : va_P D CL (WX g ad dr pl μ) s.heap) (hl : lv_has ls 2 [(0, .ref (ad 18)), (1, .int a1)]) (hf : f_Lattice_length n μ a1 = some r) : WR p l e rm_Lattice_length s m args below meth c (.int r) (F0 m 0 ls []) := by
  obtain ⟨S, hr, hlk, hK⟩ := id X
  obtain ⟨hx, hb, hml, hown, hts⟩ := id S
  rw [f_Lattice_length] at hf
  refine lv_aload_n hx hb d_Lattice_length_0 rfl (lv_at hl 0 rfl) ?_
  refine xg_18_4 hx hb hts hown hK hP q_121 d_Lattice_length_1 ?_
  refine lv_iload_n hx hb d_Lattice_length_4 rfl (lv_at hl 1 rfl) ?_
  obtain ⟨hi, hf⟩ := gd_x hf
  refine xl_20 hx hb hK hP (inb_in hi) d_Lattice_length_5 ?_
  have h1 := Option.some.inj hf
  subst h1
  exact W.iret hx hb hr (fun t ht _ => ⟨rfl, ht⟩) (fun _ h => by cases h) d_Lattice_length_6
theorem c_Lattice_length {l : Launch} {D : va_G} {g : Nat → ClassId} {ad : Nat → Nat} {dr : Nat → Option Nat} {pl : va_W} {μ : Mem} {r : Int32} {n : Nat} {a1 : Int32} (hf : f_Lattice_length n μ a1 = some r) : Met l y_Lattice_length (Cond.code y_Lattice_length b_Lattice_length 2 (some .int) :: ww) rm_Lattice_length (RP D CL (TY g) (WX g ad dr pl μ) [.ref (ad 18), .int a1]) (k2_QcV (.int r)) 0 0 (fun _ => False) := by
  refine met_of (by decide) (Nat.le_of_ble_eq_true rfl) ?_
  intro p e s m below meth c ls X hP hl
  have hl : lv_has ls 2 [(0, .ref (ad 18)), (1, .int a1)] := hl
  exact w_Lattice_length X hP hl hf
theorem d_Lattice_end_0 : decode b_Lattice_end 0 = .ok (.aload_n 0, 1) := by decide +kernel
theorem d_Lattice_end_1 : decode b_Lattice_end 1 = .ok (.getfield 23, 3) := by decide +kernel
theorem d_Lattice_end_4 : decode b_Lattice_end 4 = .ok (.iload_n 1, 1) := by decide +kernel
theorem d_Lattice_end_5 : decode b_Lattice_end 5 = .ok (.iaload, 1) := by decide +kernel
theorem d_Lattice_end_6 : decode b_Lattice_end 6 = .ok (.aload_n 0, 1) := by decide +kernel
theorem d_Lattice_end_7 : decode b_Lattice_end 7 = .ok (.getfield 27, 3) := by decide +kernel
theorem d_Lattice_end_10 : decode b_Lattice_end 10 = .ok (.iload_n 1, 1) := by decide +kernel
theorem d_Lattice_end_11 : decode b_Lattice_end 11 = .ok (.iaload, 1) := by decide +kernel
theorem d_Lattice_end_12 : decode b_Lattice_end 12 = .ok (.iadd, 1) := by decide +kernel
theorem d_Lattice_end_13 : decode b_Lattice_end 13 = .ok (.ireturn, 1) := by decide +kernel
abbrev rm_Lattice_end : Room := { frames := 0, cells := 0, slots := 0, locals := 0 }
def f_Lattice_end (n : Nat) (μ : Mem) (a1 : Int32) : Option Int32 := gd (inb a1 696) (gd (inb a1 696) (some ((μ.1 19 a1.toNatClampNeg) + (μ.1 20 a1.toNatClampNeg))))
set_option maxHeartbeats 4000000 in
set_option maxRecDepth 100000 in
theorem w_Lattice_end {p : Program} {l : Launch} {e : Env} {s : State} {m : MethodId} {args : Array Value} {below : List Frame} {meth : Method} {c : Code} {D : va_G} {g : Nat → ClassId} {ad : Nat → Nat} {dr : Nat → Option Nat} {pl : va_W} {μ : Mem} {r : Int32} {n : Nat} {a1 : Int32} {ls : Array Slot} (X : Cx p s m args meth c b_Lattice_end 2 R_Lattice (some .int) D CL (TY g)) (hP : va_P D CL (WX g ad dr pl μ) s.heap) (hl : lv_has ls 2 [(0, .ref (ad 18)), (1, .int a1)]) (hf : f_Lattice_end n μ a1 = some r) : WR p l e rm_Lattice_end s m args below meth c (.int r) (F0 m 0 ls []) := by
  obtain ⟨S, hr, hlk, hK⟩ := id X
  obtain ⟨hx, hb, hml, hown, hts⟩ := id S
  rw [f_Lattice_end] at hf
  refine lv_aload_n hx hb d_Lattice_end_0 rfl (lv_at hl 0 rfl) ?_
  refine xg_18_3 hx hb hts hown hK hP q_120 d_Lattice_end_1 ?_
  refine lv_iload_n hx hb d_Lattice_end_4 rfl (lv_at hl 1 rfl) ?_
  obtain ⟨hi, hf⟩ := gd_x hf
  refine xl_19 hx hb hK hP (inb_in hi) d_Lattice_end_5 ?_
  refine lv_aload_n hx hb d_Lattice_end_6 rfl (lv_at hl 0 rfl) ?_
  refine xg_18_4 hx hb hts hown hK hP q_121 d_Lattice_end_7 ?_
  refine lv_iload_n hx hb d_Lattice_end_10 rfl (lv_at hl 1 rfl) ?_
  obtain ⟨hi, hf⟩ := gd_x hf
  refine xl_20 hx hb hK hP (inb_in hi) d_Lattice_end_11 ?_
  refine lv_iadd hx hb d_Lattice_end_12 ?_
  have h1 := Option.some.inj hf
  subst h1
  exact W.iret hx hb hr (fun t ht _ => ⟨rfl, ht⟩) (fun _ h => by cases h) d_Lattice_end_13
theorem c_Lattice_end {l : Launch} {D : va_G} {g : Nat → ClassId} {ad : Nat → Nat} {dr : Nat → Option Nat} {pl : va_W} {μ : Mem} {r : Int32} {n : Nat} {a1 : Int32} (hf : f_Lattice_end n μ a1 = some r) : Met l y_Lattice_end (Cond.code y_Lattice_end b_Lattice_end 2 (some .int) :: ww) rm_Lattice_end (RP D CL (TY g) (WX g ad dr pl μ) [.ref (ad 18), .int a1]) (k2_QcV (.int r)) 0 0 (fun _ => False) := by
  refine met_of (by decide) (Nat.le_of_ble_eq_true rfl) ?_
  intro p e s m below meth c ls X hP hl
  have hl : lv_has ls 2 [(0, .ref (ad 18)), (1, .int a1)] := hl
  exact w_Lattice_end X hP hl hf
theorem d_Lattice_part_0 : decode b_Lattice_part 0 = .ok (.aload_n 0, 1) := by decide +kernel
theorem d_Lattice_part_1 : decode b_Lattice_part 1 = .ok (.getfield 30, 3) := by decide +kernel
theorem d_Lattice_part_4 : decode b_Lattice_part 4 = .ok (.iload_n 1, 1) := by decide +kernel
theorem d_Lattice_part_5 : decode b_Lattice_part 5 = .ok (.iaload, 1) := by decide +kernel
theorem d_Lattice_part_6 : decode b_Lattice_part 6 = .ok (.ireturn, 1) := by decide +kernel
abbrev rm_Lattice_part : Room := { frames := 0, cells := 0, slots := 0, locals := 0 }
def f_Lattice_part (n : Nat) (μ : Mem) (a1 : Int32) : Option Int32 := gd (inb a1 696) (some (μ.1 21 a1.toNatClampNeg))
set_option maxHeartbeats 4000000 in
set_option maxRecDepth 100000 in
theorem w_Lattice_part {p : Program} {l : Launch} {e : Env} {s : State} {m : MethodId} {args : Array Value} {below : List Frame} {meth : Method} {c : Code} {D : va_G} {g : Nat → ClassId} {ad : Nat → Nat} {dr : Nat → Option Nat} {pl : va_W} {μ : Mem} {r : Int32} {n : Nat} {a1 : Int32} {ls : Array Slot} (X : Cx p s m args meth c b_Lattice_part 2 R_Lattice (some .int) D CL (TY g)) (hP : va_P D CL (WX g ad dr pl μ) s.heap) (hl : lv_has ls 2 [(0, .ref (ad 18)), (1, .int a1)]) (hf : f_Lattice_part n μ a1 = some r) : WR p l e rm_Lattice_part s m args below meth c (.int r) (F0 m 0 ls []) := by
  obtain ⟨S, hr, hlk, hK⟩ := id X
  obtain ⟨hx, hb, hml, hown, hts⟩ := id S
  rw [f_Lattice_part] at hf
  refine lv_aload_n hx hb d_Lattice_part_0 rfl (lv_at hl 0 rfl) ?_
  refine xg_18_5 hx hb hts hown hK hP q_122 d_Lattice_part_1 ?_
  refine lv_iload_n hx hb d_Lattice_part_4 rfl (lv_at hl 1 rfl) ?_
  obtain ⟨hi, hf⟩ := gd_x hf
  refine xl_21 hx hb hK hP (inb_in hi) d_Lattice_part_5 ?_
  have h1 := Option.some.inj hf
  subst h1
  exact W.iret hx hb hr (fun t ht _ => ⟨rfl, ht⟩) (fun _ h => by cases h) d_Lattice_part_6
theorem c_Lattice_part {l : Launch} {D : va_G} {g : Nat → ClassId} {ad : Nat → Nat} {dr : Nat → Option Nat} {pl : va_W} {μ : Mem} {r : Int32} {n : Nat} {a1 : Int32} (hf : f_Lattice_part n μ a1 = some r) : Met l y_Lattice_part (Cond.code y_Lattice_part b_Lattice_part 2 (some .int) :: ww) rm_Lattice_part (RP D CL (TY g) (WX g ad dr pl μ) [.ref (ad 18), .int a1]) (k2_QcV (.int r)) 0 0 (fun _ => False) := by
  refine met_of (by decide) (Nat.le_of_ble_eq_true rfl) ?_
  intro p e s m below meth c ls X hP hl
  have hl : lv_has ls 2 [(0, .ref (ad 18)), (1, .int a1)] := hl
  exact w_Lattice_part X hP hl hf
theorem d_Lattice_entry_0 : decode b_Lattice_entry 0 = .ok (.aload_n 0, 1) := by decide +kernel
theorem d_Lattice_entry_1 : decode b_Lattice_entry 1 = .ok (.getfield 39, 3) := by decide +kernel
theorem d_Lattice_entry_4 : decode b_Lattice_entry 4 = .ok (.iload_n 1, 1) := by decide +kernel
theorem d_Lattice_entry_5 : decode b_Lattice_entry 5 = .ok (.iaload, 1) := by decide +kernel
theorem d_Lattice_entry_6 : decode b_Lattice_entry 6 = .ok (.ireturn, 1) := by decide +kernel
abbrev rm_Lattice_entry : Room := { frames := 0, cells := 0, slots := 0, locals := 0 }
def f_Lattice_entry (n : Nat) (μ : Mem) (a1 : Int32) : Option Int32 := gd (inb a1 696) (some (μ.1 24 a1.toNatClampNeg))
set_option maxHeartbeats 4000000 in
set_option maxRecDepth 100000 in
theorem w_Lattice_entry {p : Program} {l : Launch} {e : Env} {s : State} {m : MethodId} {args : Array Value} {below : List Frame} {meth : Method} {c : Code} {D : va_G} {g : Nat → ClassId} {ad : Nat → Nat} {dr : Nat → Option Nat} {pl : va_W} {μ : Mem} {r : Int32} {n : Nat} {a1 : Int32} {ls : Array Slot} (X : Cx p s m args meth c b_Lattice_entry 2 R_Lattice (some .int) D CL (TY g)) (hP : va_P D CL (WX g ad dr pl μ) s.heap) (hl : lv_has ls 2 [(0, .ref (ad 18)), (1, .int a1)]) (hf : f_Lattice_entry n μ a1 = some r) : WR p l e rm_Lattice_entry s m args below meth c (.int r) (F0 m 0 ls []) := by
  obtain ⟨S, hr, hlk, hK⟩ := id X
  obtain ⟨hx, hb, hml, hown, hts⟩ := id S
  rw [f_Lattice_entry] at hf
  refine lv_aload_n hx hb d_Lattice_entry_0 rfl (lv_at hl 0 rfl) ?_
  refine xg_18_8 hx hb hts hown hK hP q_125 d_Lattice_entry_1 ?_
  refine lv_iload_n hx hb d_Lattice_entry_4 rfl (lv_at hl 1 rfl) ?_
  obtain ⟨hi, hf⟩ := gd_x hf
  refine xl_24 hx hb hK hP (inb_in hi) d_Lattice_entry_5 ?_
  have h1 := Option.some.inj hf
  subst h1
  exact W.iret hx hb hr (fun t ht _ => ⟨rfl, ht⟩) (fun _ h => by cases h) d_Lattice_entry_6
theorem c_Lattice_entry {l : Launch} {D : va_G} {g : Nat → ClassId} {ad : Nat → Nat} {dr : Nat → Option Nat} {pl : va_W} {μ : Mem} {r : Int32} {n : Nat} {a1 : Int32} (hf : f_Lattice_entry n μ a1 = some r) : Met l y_Lattice_entry (Cond.code y_Lattice_entry b_Lattice_entry 2 (some .int) :: ww) rm_Lattice_entry (RP D CL (TY g) (WX g ad dr pl μ) [.ref (ad 18), .int a1]) (k2_QcV (.int r)) 0 0 (fun _ => False) := by
  refine met_of (by decide) (Nat.le_of_ble_eq_true rfl) ?_
  intro p e s m below meth c ls X hP hl
  have hl : lv_has ls 2 [(0, .ref (ad 18)), (1, .int a1)] := hl
  exact w_Lattice_entry X hP hl hf
theorem d_Lattice_price_0 : decode b_Lattice_price 0 = .ok (.iload_n 2, 1) := by decide +kernel
theorem d_Lattice_price_1 : decode b_Lattice_price 1 = .ok (.ifCond .eq 19, 3) := by decide +kernel
theorem d_Lattice_price_4 : decode b_Lattice_price 4 = .ok (.aload_n 0, 1) := by decide +kernel
theorem d_Lattice_price_5 : decode b_Lattice_price 5 = .ok (.getfield 33, 3) := by decide +kernel
theorem d_Lattice_price_8 : decode b_Lattice_price 8 = .ok (.iload_n 1, 1) := by decide +kernel
theorem d_Lattice_price_9 : decode b_Lattice_price 9 = .ok (.iaload, 1) := by decide +kernel
theorem d_Lattice_price_10 : decode b_Lattice_price 10 = .ok (.aload_n 0, 1) := by decide +kernel
theorem d_Lattice_price_11 : decode b_Lattice_price 11 = .ok (.getfield 36, 3) := by decide +kernel
theorem d_Lattice_price_14 : decode b_Lattice_price 14 = .ok (.iload_n 1, 1) := by decide +kernel
theorem d_Lattice_price_15 : decode b_Lattice_price 15 = .ok (.iaload, 1) := by decide +kernel
theorem d_Lattice_price_16 : decode b_Lattice_price 16 = .ok (.iadd, 1) := by decide +kernel
theorem d_Lattice_price_17 : decode b_Lattice_price 17 = .ok (.goto 9, 3) := by decide +kernel
theorem d_Lattice_price_20 : decode b_Lattice_price 20 = .ok (.aload_n 0, 1) := by decide +kernel
theorem d_Lattice_price_21 : decode b_Lattice_price 21 = .ok (.getfield 33, 3) := by decide +kernel
theorem d_Lattice_price_24 : decode b_Lattice_price 24 = .ok (.iload_n 1, 1) := by decide +kernel
theorem d_Lattice_price_25 : decode b_Lattice_price 25 = .ok (.iaload, 1) := by decide +kernel
theorem d_Lattice_price_26 : decode b_Lattice_price 26 = .ok (.ireturn, 1) := by decide +kernel
abbrev rm_Lattice_price : Room := { frames := 0, cells := 0, slots := 0, locals := 0 }
def f_Lattice_price (n : Nat) (μ : Mem) (a1 : Int32) (a2 : Int32) : Option Int32 := (if a2 = 0 then (gd (inb a1 696) (some (μ.1 22 a1.toNatClampNeg))) else (gd (inb a1 696) (gd (inb a1 696) (some ((μ.1 22 a1.toNatClampNeg) + (μ.1 23 a1.toNatClampNeg))))))
set_option maxHeartbeats 4000000 in
set_option maxRecDepth 100000 in
theorem w_Lattice_price {p : Program} {l : Launch} {e : Env} {s : State} {m : MethodId} {args : Array Value} {below : List Frame} {meth : Method} {c : Code} {D : va_G} {g : Nat → ClassId} {ad : Nat → Nat} {dr : Nat → Option Nat} {pl : va_W} {μ : Mem} {r : Int32} {n : Nat} {a1 : Int32} {a2 : Int32} {ls : Array Slot} (X : Cx p s m args meth c b_Lattice_price 3 R_Lattice (some .int) D CL (TY g)) (hP : va_P D CL (WX g ad dr pl μ) s.heap) (hl : lv_has ls 3 [(0, .ref (ad 18)), (1, .int a1), (2, .int a2)]) (hf : f_Lattice_price n μ a1 a2 = some r) : WR p l e rm_Lattice_price s m args below meth c (.int r) (F0 m 0 ls []) := by
  obtain ⟨S, hr, hlk, hK⟩ := id X
  obtain ⟨hx, hb, hml, hown, hts⟩ := id S
  rw [f_Lattice_price] at hf
  refine lv_iload_n hx hb d_Lattice_price_0 rfl (lv_at hl 2 rfl) ?_
  refine lv_if_eq (tgt := 20) hx hb d_Lattice_price_1 rfl (fun hc => ?_) (fun hc => ?_)
  · replace hf := br_p hc hf
    refine lv_aload_n hx hb d_Lattice_price_20 rfl (lv_at hl 0 rfl) ?_
    refine xg_18_6 hx hb hts hown hK hP q_123 d_Lattice_price_21 ?_
    refine lv_iload_n hx hb d_Lattice_price_24 rfl (lv_at hl 1 rfl) ?_
    obtain ⟨hi, hf⟩ := gd_x hf
    refine xl_22 hx hb hK hP (inb_in hi) d_Lattice_price_25 ?_
    have h1 := Option.some.inj hf
    subst h1
    exact W.iret hx hb hr (fun t ht _ => ⟨rfl, ht⟩) (fun _ h => by cases h) d_Lattice_price_26
  · replace hf := br_n hc hf
    refine lv_aload_n hx hb d_Lattice_price_4 rfl (lv_at hl 0 rfl) ?_
    refine xg_18_6 hx hb hts hown hK hP q_123 d_Lattice_price_5 ?_
    refine lv_iload_n hx hb d_Lattice_price_8 rfl (lv_at hl 1 rfl) ?_
    obtain ⟨hi, hf⟩ := gd_x hf
    refine xl_22 hx hb hK hP (inb_in hi) d_Lattice_price_9 ?_
    refine lv_aload_n hx hb d_Lattice_price_10 rfl (lv_at hl 0 rfl) ?_
    refine xg_18_7 hx hb hts hown hK hP q_124 d_Lattice_price_11 ?_
    refine lv_iload_n hx hb d_Lattice_price_14 rfl (lv_at hl 1 rfl) ?_
    obtain ⟨hi, hf⟩ := gd_x hf
    refine xl_23 hx hb hK hP (inb_in hi) d_Lattice_price_15 ?_
    refine lv_iadd hx hb d_Lattice_price_16 ?_
    refine lv_goto (tgt := 26) hx hb d_Lattice_price_17 rfl ?_
    have h1 := Option.some.inj hf
    subst h1
    exact W.iret hx hb hr (fun t ht _ => ⟨rfl, ht⟩) (fun _ h => by cases h) d_Lattice_price_26
theorem c_Lattice_price {l : Launch} {D : va_G} {g : Nat → ClassId} {ad : Nat → Nat} {dr : Nat → Option Nat} {pl : va_W} {μ : Mem} {r : Int32} {n : Nat} {a1 : Int32} {a2 : Int32} (hf : f_Lattice_price n μ a1 a2 = some r) : Met l y_Lattice_price (Cond.code y_Lattice_price b_Lattice_price 3 (some .int) :: ww) rm_Lattice_price (RP D CL (TY g) (WX g ad dr pl μ) [.ref (ad 18), .int a1, .int a2]) (k2_QcV (.int r)) 0 0 (fun _ => False) := by
  refine met_of (by decide) (Nat.le_of_ble_eq_true rfl) ?_
  intro p e s m below meth c ls X hP hl
  have hl : lv_has ls 3 [(0, .ref (ad 18)), (1, .int a1), (2, .int a2)] := hl
  exact w_Lattice_price X hP hl hf
