abbrev rm_Arrays_fill_AJJ_V_c33 : Room := { frames := 0, cells := 0, slots := 0, locals := 0 }
def f_Arrays_fill_AJJ_V_c33_6 : Nat → Mem → Int64 → Int32 → Int32 → Option Mem
  | 0, _, _, _, _ => none
  | n + 1, μ, x1, x3, x4 => (if x4 ≤ x3 then (some μ) else (gd (inb x3 200) (bd (wl μ 33 x3.toNatClampNeg x1) (fun μ1 => bd (x3 + 1) (fun v2 => (f_Arrays_fill_AJJ_V_c33_6 n) μ1 x1 v2 x4)))))
set_option maxHeartbeats 4000000 in
set_option maxRecDepth 100000 in
theorem w_Arrays_fill_AJJ_V_c33_6 {p : Program} {l : Launch} {e : Env} {s : State} {m : MethodId} {args : Array Value} {below : List Frame} {meth : Method} {c : Code} {D : va_G} {g : Nat → ClassId} {ad : Nat → Nat} {dr : Nat → Option Nat} {pl : va_W} {μ' : Mem} {A : Nat → Prop} (X : Cx p s m args meth c b_Arrays_fill_AJJ_V 5 R_Arrays none D CL (TY g)) (hDA : ∀ μ : Mem, va_D A (WX g ad dr pl μ)) : ∀ (n : Nat) (μ : Mem) (x1 : Int64) (x3 : Int32) (x4 : Int32) (ls : Array Slot) (H : Heap) (locs : List Loc), va_P D CL (WX g ad dr pl μ) H → va_S A s.heap H locs → lv_has ls 5 [(0, .ref (ad 33)), (1, .long x1), (3, .int x3), (4, .int x4)] → f_Arrays_fill_AJJ_V_c33_6 n μ x1 x3 x4 = some μ' → WU p l e rm_Arrays_fill_AJJ_V_c33 s m args below meth c H locs D (WX g ad dr pl μ') A none (F0 m 6 ls []) := by
  intro n
  induction n with
  | zero => intro μ x1 x3 x4 ls H locs hP hS hl hf; rw [f_Arrays_fill_AJJ_V_c33_6] at hf; cases hf
  | succ n ih =>
    intro μ x1 x3 x4 ls H locs hP hS hl hf
    obtain ⟨S, hr, hlk, hK⟩ := id X
    obtain ⟨hx, hb, hml, hown, hts⟩ := id S
    rw [f_Arrays_fill_AJJ_V_c33_6] at hf
    refine lv_iload_n hx hb d_Arrays_fill_AJJ_V_6 rfl (lv_at hl 2 rfl) ?_
    refine lv_iload hx hb d_Arrays_fill_AJJ_V_7 (lv_at hl 3 rfl) ?_
    refine lv_icmp_ge (tgt := 22) hx hb d_Arrays_fill_AJJ_V_9 rfl (fun hc => ?_) (fun hc => ?_)
    · replace hf := br_p hc hf
      obtain rfl := Option.some.inj hf
      exact W.vret hx hb hr (fun t ht _ => ⟨rfl, by rw [ht]; exact hP, hS.F ht⟩) hS.2.2 d_Arrays_fill_AJJ_V_22
    · replace hf := br_n hc hf
      refine lv_aload_n hx hb d_Arrays_fill_AJJ_V_12 rfl (lv_at hl 0 rfl) ?_
      refine lv_iload_n hx hb d_Arrays_fill_AJJ_V_13 rfl (lv_at hl 2 rfl) ?_
      refine lv_lload_n hx hb d_Arrays_fill_AJJ_V_14 rfl (lv_at hl 1 rfl) ?_
      obtain ⟨hi, hf⟩ := gd_x hf
      obtain ⟨μ1, hμ1, hf⟩ := bd_x hf
      refine xs_33 hx hb hK (hDA _) hP hS (inb_in hi) d_Arrays_fill_AJJ_V_15 hμ1 (fun H locs hP hS => ?_)
      obtain ⟨v2, hv2, hf⟩ := bd_x hf
      refine lv_iinc (lv' := [(3, .int v2), (0, .ref (ad 33)), (1, .long x1), (4, .int x4)]) hx hb d_Arrays_fill_AJJ_V_16 hl (k := 2) rfl (show x3 + Int32.ofInt (1) = v2 from hv2) (Nat.le_of_ble_eq_true rfl) rfl (fun ls hl => ?_)
      refine lv_goto (tgt := 6) hx hb d_Arrays_fill_AJJ_V_19 rfl ?_
      exact ih _ _ _ _ _ _ _ hP hS (lv_sub (l' := [(0, .ref (ad 33)), (1, .long x1), (3, .int v2), (4, .int x4)]) hl [1, 2, 0, 3] rfl) hf
def f_Arrays_fill_AJJ_V_c33 (n : Nat) (μ : Mem) (a1 : Int64) : Option Mem := f_Arrays_fill_AJJ_V_c33_6 n μ a1 (0 : Int32) (200 : Int32)
set_option maxHeartbeats 4000000 in
set_option maxRecDepth 100000 in
theorem w_Arrays_fill_AJJ_V_c33 {p : Program} {l : Launch} {e : Env} {s : State} {m : MethodId} {args : Array Value} {below : List Frame} {meth : Method} {c : Code} {D : va_G} {g : Nat → ClassId} {ad : Nat → Nat} {dr : Nat → Option Nat} {pl : va_W} {μ' : Mem} {A : Nat → Prop} {n : Nat} {μ : Mem} {a1 : Int64} {ls : Array Slot} {H : Heap} {locs : List Loc} (X : Cx p s m args meth c b_Arrays_fill_AJJ_V 5 R_Arrays none D CL (TY g)) (hDA : ∀ μ : Mem, va_D A (WX g ad dr pl μ)) (hP : va_P D CL (WX g ad dr pl μ) H) (hS : va_S A s.heap H locs) (hl : lv_has ls 5 [(0, .ref (ad 33)), (1, .long a1)]) (hf : f_Arrays_fill_AJJ_V_c33 n μ a1 = some μ') : WU p l e rm_Arrays_fill_AJJ_V_c33 s m args below meth c H locs D (WX g ad dr pl μ') A none (F0 m 0 ls []) := by
  obtain ⟨S, hr, hlk, hK⟩ := id X
  obtain ⟨hx, hb, hml, hown, hts⟩ := id S
  rw [f_Arrays_fill_AJJ_V_c33] at hf
  refine lv_iconst (v := 0) hx hb d_Arrays_fill_AJJ_V_0 (by decide) ?_
  refine lv_istore_n (lv' := [(3, .int (0 : Int32)), (0, .ref (ad 33)), (1, .long a1)]) hx hb d_Arrays_fill_AJJ_V_1 rfl hl (Nat.le_of_ble_eq_true rfl) rfl (fun ls hl => ?_)
  refine lv_aload_n hx hb d_Arrays_fill_AJJ_V_2 rfl (lv_at hl 1 rfl) ?_
  refine xn_33 hx hb hK hP d_Arrays_fill_AJJ_V_3 ?_
  refine lv_istore (lv' := [(4, .int (200 : Int32)), (3, .int (0 : Int32)), (0, .ref (ad 33)), (1, .long a1)]) hx hb d_Arrays_fill_AJJ_V_4 hl (Nat.le_of_ble_eq_true rfl) rfl (fun ls hl => ?_)
  exact w_Arrays_fill_AJJ_V_c33_6 X hDA _ _ _ _ _ _ _ _ hP hS (lv_sub (l' := [(0, .ref (ad 33)), (1, .long a1), (3, .int (0 : Int32)), (4, .int (200 : Int32))]) hl [2, 3, 1, 0] rfl) hf
theorem c_Arrays_fill_AJJ_V_c33 {l : Launch} {D : va_G} {g : Nat → ClassId} {ad : Nat → Nat} {dr : Nat → Option Nat} {pl : va_W} {μ : Mem} {μ' : Mem} {A : Nat → Prop} {n : Nat} {a1 : Int64} (hDA : ∀ μ : Mem, va_D A (WX g ad dr pl μ)) (hf : f_Arrays_fill_AJJ_V_c33 n μ a1 = some μ') : Met l y_Arrays_fill_AJJ_V (Cond.code y_Arrays_fill_AJJ_V b_Arrays_fill_AJJ_V 5 none :: ww) rm_Arrays_fill_AJJ_V_c33 (RP D CL (TY g) (WX g ad dr pl μ) [.ref (ad 33), .long a1]) (QW D CL (WX g ad dr pl μ') A none) 0 0 A := by
  refine met_of (by decide) (Nat.le_of_ble_eq_true rfl) ?_
  intro p e s m below meth c ls X hP hl
  have hl : lv_has ls 5 [(0, .ref (ad 33)), (1, .long a1)] := hl
  exact w_Arrays_fill_AJJ_V_c33 X hDA hP va_S.rf hl hf
abbrev rm_RouteP_arrive : Room := { frames := 0, cells := 0, slots := 0, locals := 0 }
def f_RouteP_arrive_31 (n : Nat) (μ : Mem) (x3 : Int32) (x4 : Int64) (x6 : Int32) : Option Mem := gd (inb x6 200) (bd (wi μ 32 x6.toNatClampNeg x3) (fun μ1 => gd (inb x6 200) (bd (wl μ1 33 x6.toNatClampNeg x4) (fun μ2 => some μ2))))
set_option maxHeartbeats 4000000 in
set_option maxRecDepth 100000 in
theorem w_RouteP_arrive_31 {p : Program} {l : Launch} {e : Env} {s : State} {m : MethodId} {args : Array Value} {below : List Frame} {meth : Method} {c : Code} {D : va_G} {g : Nat → ClassId} {ad : Nat → Nat} {dr : Nat → Option Nat} {pl : va_W} {μ' : Mem} {A : Nat → Prop} {n : Nat} {μ : Mem} {x3 : Int32} {x4 : Int64} {x6 : Int32} {ls : Array Slot} {H : Heap} {locs : List Loc} (X : Cx p s m args meth c b_Route_arrive 7 R_Route none D CL (TY g)) (hDA : ∀ μ : Mem, va_D A (WX g ad dr pl μ)) (hP : va_P D CL (WX g ad dr pl μ) H) (hS : va_S A s.heap H locs) (hl : lv_has ls 7 [(0, .ref (ad 30)), (3, .int x3), (4, .long x4), (6, .int x6)]) (hf : f_RouteP_arrive_31 n μ x3 x4 x6 = some μ') : WU p l e rm_RouteP_arrive s m args below meth c H locs D (WX g ad dr pl μ') A none (F0 m 31 ls []) := by
  obtain ⟨S, hr, hlk, hK⟩ := id X
  obtain ⟨hx, hb, hml, hown, hts⟩ := id S
  rw [f_RouteP_arrive_31] at hf
  refine lv_aload_n hx hb d_Route_arrive_31 rfl (lv_at hl 0 rfl) ?_
  refine xg_30_4 hx hb hts hown hK hP q_158 d_Route_arrive_32 ?_
  refine lv_iload hx hb d_Route_arrive_35 (lv_at hl 3 rfl) ?_
  refine lv_iload_n hx hb d_Route_arrive_37 rfl (lv_at hl 1 rfl) ?_
  obtain ⟨hi, hf⟩ := gd_x hf
  obtain ⟨μ1, hμ1, hf⟩ := bd_x hf
  refine xs_32 hx hb hK (hDA _) hP hS (inb_in hi) d_Route_arrive_38 hμ1 (fun H locs hP hS => ?_)
  refine lv_aload_n hx hb d_Route_arrive_39 rfl (lv_at hl 0 rfl) ?_
  refine xg_30_5 hx hb hts hown hK hP q_159 d_Route_arrive_40 ?_
  refine lv_iload hx hb d_Route_arrive_43 (lv_at hl 3 rfl) ?_
  refine lv_lload hx hb d_Route_arrive_45 (lv_at hl 2 rfl) ?_
  obtain ⟨hi, hf⟩ := gd_x hf
  obtain ⟨μ2, hμ2, hf⟩ := bd_x hf
  refine xs_33 hx hb hK (hDA _) hP hS (inb_in hi) d_Route_arrive_47 hμ2 (fun H locs hP hS => ?_)
  refine lv_goto (tgt := 74) hx hb d_Route_arrive_48 rfl ?_
  obtain rfl := Option.some.inj hf
  exact W.vret hx hb hr (fun t ht _ => ⟨rfl, by rw [ht]; exact hP, hS.F ht⟩) hS.2.2 d_Route_arrive_74
def f_RouteP_arrive (n : Nat) (μ : Mem) (a1 : Int32) (a2 : Int32) (a3 : Int32) (a4 : Int64) : Option Mem := bd ((a1 * (8 : Int32)) + a2) (fun v1 => gd (inb v1 200) ((if (lg_cmp (μ.2 33 v1.toNatClampNeg) (0 : Int64)) = 0 then (f_RouteP_arrive_31 n μ a3 a4 v1) else (gd (inb v1 200) ((if (μ.1 32 v1.toNatClampNeg) ≤ a3 then (gd (inb v1 200) ((if a3 = (μ.1 32 v1.toNatClampNeg) then (gd (inb v1 200) (gd (inb v1 200) (bd (wl μ 33 v1.toNatClampNeg ((μ.2 33 v1.toNatClampNeg) + a4)) (fun μ2 => some μ2)))) else (some μ)))) else (f_RouteP_arrive_31 n μ a3 a4 v1)))))))
set_option maxHeartbeats 4000000 in
set_option maxRecDepth 100000 in
theorem w_RouteP_arrive {p : Program} {l : Launch} {e : Env} {s : State} {m : MethodId} {args : Array Value} {below : List Frame} {meth : Method} {c : Code} {D : va_G} {g : Nat → ClassId} {ad : Nat → Nat} {dr : Nat → Option Nat} {pl : va_W} {μ' : Mem} {A : Nat → Prop} {n : Nat} {μ : Mem} {a1 : Int32} {a2 : Int32} {a3 : Int32} {a4 : Int64} {ls : Array Slot} {H : Heap} {locs : List Loc} (X : Cx p s m args meth c b_Route_arrive 7 R_Route none D CL (TY g)) (hDA : ∀ μ : Mem, va_D A (WX g ad dr pl μ)) (hP : va_P D CL (WX g ad dr pl μ) H) (hS : va_S A s.heap H locs) (hl : lv_has ls 7 [(0, .ref (ad 30)), (1, .int a1), (2, .int a2), (3, .int a3), (4, .long a4)]) (hf : f_RouteP_arrive n μ a1 a2 a3 a4 = some μ') : WU p l e rm_RouteP_arrive s m args below meth c H locs D (WX g ad dr pl μ') A none (F0 m 0 ls []) := by
  obtain ⟨S, hr, hlk, hK⟩ := id X
  obtain ⟨hx, hb, hml, hown, hts⟩ := id S
  rw [f_RouteP_arrive] at hf
  refine lv_iload_n hx hb d_Route_arrive_0 rfl (lv_at hl 1 rfl) ?_
  refine lv_bipush (v := 8) hx hb d_Route_arrive_1 (by decide) ?_
  refine lv_imul hx hb d_Route_arrive_3 ?_
  refine lv_iload_n hx hb d_Route_arrive_4 rfl (lv_at hl 2 rfl) ?_
  refine lv_iadd hx hb d_Route_arrive_5 ?_
  obtain ⟨v1, hv1, hf⟩ := bd_x hf
  refine top_i hv1 ?_
  refine lv_istore (lv' := [(6, .int v1), (0, .ref (ad 30)), (1, .int a1), (2, .int a2), (3, .int a3), (4, .long a4)]) hx hb d_Route_arrive_6 hl (Nat.le_of_ble_eq_true rfl) rfl (fun ls hl => ?_)
  refine lv_aload_n hx hb d_Route_arrive_8 rfl (lv_at hl 1 rfl) ?_
  refine xg_30_5 hx hb hts hown hK hP q_159 d_Route_arrive_9 ?_
  refine lv_iload hx hb d_Route_arrive_12 (lv_at hl 0 rfl) ?_
  obtain ⟨hi, hf⟩ := gd_x hf
  refine xl_33 hx hb hK hP (inb_in hi) d_Route_arrive_14 ?_
  refine lv_lconst (v := 0) hx hb d_Route_arrive_15 (by decide) ?_
  refine W.lcmp hx hb d_Route_arrive_16 ?_
  refine lv_if_eq (tgt := 31) hx hb d_Route_arrive_17 rfl (fun hc => ?_) (fun hc => ?_)
  · replace hf := br_p hc hf
    exact w_RouteP_arrive_31 X hDA hP hS (lv_sub (l' := [(0, .ref (ad 30)), (3, .int a3), (4, .long a4), (6, .int v1)]) hl [1, 4, 5, 0] rfl) hf
  · replace hf := br_n hc hf
    refine lv_iload_n hx hb d_Route_arrive_20 rfl (lv_at hl 4 rfl) ?_
    refine lv_aload_n hx hb d_Route_arrive_21 rfl (lv_at hl 1 rfl) ?_
    refine xg_30_4 hx hb hts hown hK hP q_158 d_Route_arrive_22 ?_
    refine lv_iload hx hb d_Route_arrive_25 (lv_at hl 0 rfl) ?_
    obtain ⟨hi, hf⟩ := gd_x hf
    refine xl_32 hx hb hK hP (inb_in hi) d_Route_arrive_27 ?_
    refine lv_icmp_ge (tgt := 51) hx hb d_Route_arrive_28 rfl (fun hc => ?_) (fun hc => ?_)
    · replace hf := br_p hc hf
      refine lv_iload_n hx hb d_Route_arrive_51 rfl (lv_at hl 4 rfl) ?_
      refine lv_aload_n hx hb d_Route_arrive_52 rfl (lv_at hl 1 rfl) ?_
      refine xg_30_4 hx hb hts hown hK hP q_158 d_Route_arrive_53 ?_
      refine lv_iload hx hb d_Route_arrive_56 (lv_at hl 0 rfl) ?_
      obtain ⟨hi, hf⟩ := gd_x hf
      refine xl_32 hx hb hK hP (inb_in hi) d_Route_arrive_58 ?_
      refine lv_icmp_ne (tgt := 74) hx hb d_Route_arrive_59 rfl (fun hc => ?_) (fun hc => ?_)
      · replace hf := br_n hc hf
        obtain rfl := Option.some.inj hf
        exact W.vret hx hb hr (fun t ht _ => ⟨rfl, by rw [ht]; exact hP, hS.F ht⟩) hS.2.2 d_Route_arrive_74
      · replace hf := br_p hc hf
        refine lv_aload_n hx hb d_Route_arrive_62 rfl (lv_at hl 1 rfl) ?_
        refine xg_30_5 hx hb hts hown hK hP q_159 d_Route_arrive_63 ?_
        refine lv_iload hx hb d_Route_arrive_66 (lv_at hl 0 rfl) ?_
        refine lv_dup2_11 hx hb d_Route_arrive_68 rfl rfl ?_
        obtain ⟨hi, hf⟩ := gd_x hf
        refine xl_33 hx hb hK hP (inb_in hi) d_Route_arrive_69 ?_
        refine lv_lload hx hb d_Route_arrive_70 (lv_at hl 5 rfl) ?_
        refine lv_ladd hx hb d_Route_arrive_72 ?_
        obtain ⟨hi, hf⟩ := gd_x hf
        obtain ⟨μ2, hμ2, hf⟩ := bd_x hf
        refine xs_33 hx hb hK (hDA _) hP hS (inb_in hi) d_Route_arrive_73 hμ2 (fun H locs hP hS => ?_)
        obtain rfl := Option.some.inj hf
        exact W.vret hx hb hr (fun t ht _ => ⟨rfl, by rw [ht]; exact hP, hS.F ht⟩) hS.2.2 d_Route_arrive_74
    · replace hf := br_n hc hf
      exact w_RouteP_arrive_31 X hDA hP hS (lv_sub (l' := [(0, .ref (ad 30)), (3, .int a3), (4, .long a4), (6, .int v1)]) hl [1, 4, 5, 0] rfl) hf
theorem c_RouteP_arrive {l : Launch} {D : va_G} {g : Nat → ClassId} {ad : Nat → Nat} {dr : Nat → Option Nat} {pl : va_W} {μ : Mem} {μ' : Mem} {A : Nat → Prop} {n : Nat} {a1 : Int32} {a2 : Int32} {a3 : Int32} {a4 : Int64} (hDA : ∀ μ : Mem, va_D A (WX g ad dr pl μ)) (hf : f_RouteP_arrive n μ a1 a2 a3 a4 = some μ') : Met l y_Route_arrive (Cond.code y_Route_arrive b_Route_arrive 7 none :: ww) rm_RouteP_arrive (RP D CL (TY g) (WX g ad dr pl μ) [.ref (ad 30), .int a1, .int a2, .int a3, .long a4]) (QW D CL (WX g ad dr pl μ') A none) 0 0 A := by
  refine met_of (by decide) (Nat.le_of_ble_eq_true rfl) ?_
  intro p e s m below meth c ls X hP hl
  have hl : lv_has ls 7 [(0, .ref (ad 30)), (1, .int a1), (2, .int a2), (3, .int a3), (4, .long a4)] := hl
  exact w_RouteP_arrive X hDA hP va_S.rf hl hf
abbrev rm_RouteP_costInto : Room := { frames := 1, cells := 0, slots := 0, locals := 22 }
def f_RouteP_costInto_57 (κ6 : Int32 → Int32 → Int32 → Int32 → Option Int32) (μ : Mem) (n : Nat) (x1 : Int32) (x2 : Int32) (x3 : Int32) (x4 : Int32) : Option Int32 := bd (x4 + 1) (fun v1 => κ6 x1 x2 x3 v1)
set_option maxHeartbeats 4000000 in
set_option maxRecDepth 100000 in
theorem w_RouteP_costInto_57 {p : Program} {l : Launch} {e : Env} {s : State} {m : MethodId} {args : Array Value} {below : List Frame} {meth : Method} {c : Code} {D : va_G} {g : Nat → ClassId} {ad : Nat → Nat} {dr : Nat → Option Nat} {pl : va_W} {μ : Mem} {r : Int32} {κ6 : Int32 → Int32 → Int32 → Int32 → Option Int32} {n : Nat} {x1 : Int32} {x2 : Int32} {x3 : Int32} {x4 : Int32} {ls : Array Slot} (X : Cx p s m args meth c b_Route_costInto 6 R_Route (some .int) D CL (TY g)) (hP : va_P D CL (WX g ad dr pl μ) s.heap) (hκ6 : ∀ (x1 : Int32) (x2 : Int32) (x3 : Int32) (x4 : Int32) (ls : Array Slot), lv_has ls 6 [(0, .ref (ad 30)), (1, .int x1), (2, .int x2), (3, .int x3), (4, .int x4)] → κ6 x1 x2 x3 x4 = some r → WR p l e rm_RouteP_costInto s m args below meth c (.int r) (F0 m 6 ls [])) (hl : lv_has ls 6 [(0, .ref (ad 30)), (1, .int x1), (2, .int x2), (3, .int x3), (4, .int x4)]) (hf : f_RouteP_costInto_57 κ6 μ n x1 x2 x3 x4 = some r) : WR p l e rm_RouteP_costInto s m args below meth c (.int r) (F0 m 57 ls []) := by
  obtain ⟨S, hr, hlk, hK⟩ := id X
  obtain ⟨hx, hb, hml, hown, hts⟩ := id S
  rw [f_RouteP_costInto_57] at hf
  obtain ⟨v1, hv1, hf⟩ := bd_x hf
  refine lv_iinc (lv' := [(4, .int v1), (0, .ref (ad 30)), (1, .int x1), (2, .int x2), (3, .int x3)]) hx hb d_Route_costInto_57 hl (k := 4) rfl (show x4 + Int32.ofInt (1) = v1 from hv1) (Nat.le_of_ble_eq_true rfl) rfl (fun ls hl => ?_)
  refine lv_goto (tgt := 6) hx hb d_Route_costInto_60 rfl ?_
  exact hκ6 _ _ _ _ _ (lv_sub (l' := [(0, .ref (ad 30)), (1, .int x1), (2, .int x2), (3, .int x3), (4, .int v1)]) hl [1, 2, 3, 4, 0] rfl) hf
def f_RouteP_costInto_6 (μ : Mem) : Nat → Int32 → Int32 → Int32 → Int32 → Option Int32
  | 0, _, _, _, _ => none
  | n + 1, x1, x2, x3, x4 => (if (8 : Int32) ≤ x4 then (some x3) else (bd ((x1 * (8 : Int32)) + x4) (fun v1 => gd (inb v1 200) ((if (lg_cmp (μ.2 33 v1.toNatClampNeg) (0 : Int64)) = 0 then (f_RouteP_costInto_57 (f_RouteP_costInto_6 μ n) μ n x1 x2 x3 x4) else (gd (inb v1 200) (cl (f_Grammar_linkPrice n μ x4 x2) (fun v2 => bd ((if ((μ.1 32 v1.toNatClampNeg) + v2) < x3 then ((μ.1 32 v1.toNatClampNeg) + v2) else x3)) (fun v3 => f_RouteP_costInto_57 (f_RouteP_costInto_6 μ n) μ n x1 x2 v3 x4)))))))))
set_option maxHeartbeats 4000000 in
set_option maxRecDepth 100000 in
theorem w_RouteP_costInto_6 {p : Program} {l : Launch} {e : Env} {s : State} {m : MethodId} {args : Array Value} {below : List Frame} {meth : Method} {c : Code} {D : va_G} {g : Nat → ClassId} {ad : Nat → Nat} {dr : Nat → Option Nat} {pl : va_W} {μ : Mem} {r : Int32} (X : Cx p s m args meth c b_Route_costInto 6 R_Route (some .int) D CL (TY g)) (hP : va_P D CL (WX g ad dr pl μ) s.heap) : ∀ (n : Nat) (x1 : Int32) (x2 : Int32) (x3 : Int32) (x4 : Int32) (ls : Array Slot), lv_has ls 6 [(0, .ref (ad 30)), (1, .int x1), (2, .int x2), (3, .int x3), (4, .int x4)] → f_RouteP_costInto_6 μ n x1 x2 x3 x4 = some r → WR p l e rm_RouteP_costInto s m args below meth c (.int r) (F0 m 6 ls []) := by
  intro n
  induction n with
  | zero => intro x1 x2 x3 x4 ls hl hf; rw [f_RouteP_costInto_6] at hf; cases hf
  | succ n ih =>
    intro x1 x2 x3 x4 ls hl hf
    obtain ⟨S, hr, hlk, hK⟩ := id X
    obtain ⟨hx, hb, hml, hown, hts⟩ := id S
    rw [f_RouteP_costInto_6] at hf
    refine lv_iload hx hb d_Route_costInto_6 (lv_at hl 4 rfl) ?_
    refine lv_bipush (v := 8) hx hb d_Route_costInto_8 (by decide) ?_
    refine lv_icmp_ge (tgt := 63) hx hb d_Route_costInto_10 rfl (fun hc => ?_) (fun hc => ?_)
    · replace hf := br_p hc hf
      refine lv_iload_n hx hb d_Route_costInto_63 rfl (lv_at hl 3 rfl) ?_
      have h1 := Option.some.inj hf
      subst h1
      exact W.iret hx hb hr (fun t ht _ => ⟨rfl, ht⟩) (fun _ h => by cases h) d_Route_costInto_64
    · replace hf := br_n hc hf
      refine lv_iload_n hx hb d_Route_costInto_13 rfl (lv_at hl 1 rfl) ?_
      refine lv_bipush (v := 8) hx hb d_Route_costInto_14 (by decide) ?_
      refine lv_imul hx hb d_Route_costInto_16 ?_
      refine lv_iload hx hb d_Route_costInto_17 (lv_at hl 4 rfl) ?_
      refine lv_iadd hx hb d_Route_costInto_19 ?_
      obtain ⟨v1, hv1, hf⟩ := bd_x hf
      refine top_i hv1 ?_
      refine lv_istore (lv' := [(5, .int v1), (0, .ref (ad 30)), (1, .int x1), (2, .int x2), (3, .int x3), (4, .int x4)]) hx hb d_Route_costInto_20 hl (Nat.le_of_ble_eq_true rfl) rfl (fun ls hl => ?_)
      refine lv_aload_n hx hb d_Route_costInto_22 rfl (lv_at hl 1 rfl) ?_
      refine xg_30_5 hx hb hts hown hK hP q_159 d_Route_costInto_23 ?_
      refine lv_iload hx hb d_Route_costInto_26 (lv_at hl 0 rfl) ?_
      obtain ⟨hi, hf⟩ := gd_x hf
      refine xl_33 hx hb hK hP (inb_in hi) d_Route_costInto_28 ?_
      refine lv_lconst (v := 0) hx hb d_Route_costInto_29 (by decide) ?_
      refine W.lcmp hx hb d_Route_costInto_30 ?_
      refine lv_if_eq (tgt := 57) hx hb d_Route_costInto_31 rfl (fun hc => ?_) (fun hc => ?_)
      · replace hf := br_p hc hf
        exact w_RouteP_costInto_57 X hP ih (lv_sub (l' := [(0, .ref (ad 30)), (1, .int x1), (2, .int x2), (3, .int x3), (4, .int x4)]) hl [1, 2, 3, 4, 5] rfl) hf
      · replace hf := br_n hc hf
        refine lv_iload_n hx hb d_Route_costInto_34 rfl (lv_at hl 4 rfl) ?_
        refine lv_aload_n hx hb d_Route_costInto_35 rfl (lv_at hl 1 rfl) ?_
        refine xg_30_4 hx hb hts hown hK hP q_158 d_Route_costInto_36 ?_
        refine lv_iload hx hb d_Route_costInto_39 (lv_at hl 0 rfl) ?_
        obtain ⟨hi, hf⟩ := gd_x hf
        refine xl_32 hx hb hK hP (inb_in hi) d_Route_costInto_41 ?_
        refine lv_aload_n hx hb d_Route_costInto_42 rfl (lv_at hl 1 rfl) ?_
        refine xg_30_1 hx hb hts hown hK hP q_155 d_Route_costInto_43 ?_
        refine lv_iload hx hb d_Route_costInto_46 (lv_at hl 5 rfl) ?_
        refine lv_iload_n hx hb d_Route_costInto_48 rfl (lv_at hl 3 rfl) ?_
        obtain ⟨v2, hv2, hf⟩ := cl_x hf
        refine rdV (As := [.int x4, .int x2]) (rest := [.int (μ.1 32 v1.toNatClampNeg), .int x3]) S K_Grammar_linkPrice q_508 (c_Grammar_linkPrice hv2) hK hP ⟨rfl, rfl⟩ ⟨Nat.le_of_ble_eq_true rfl, Nat.le_of_ble_eq_true rfl⟩ (xr_10 hK hP) rfl hl.1 rfl (Nat.le_of_ble_eq_true rfl) d_Route_costInto_49 ⟨Nat.le_refl _, Nat.le_refl _⟩ ?_
        refine lv_iadd hx hb d_Route_costInto_52 ?_
        refine va_mmin hx hb (hml.trans hl.1.symm) hown (hts _ q_512) (hts _ q_324) (hts _ q_13) (hts _ q_325) (Nat.le_of_ble_eq_true rfl) (Nat.le_of_ble_eq_true rfl) (Nat.le_refl _) (Nat.le_refl _) d_Route_costInto_53 ?_
        obtain ⟨v3, hv3, hf⟩ := bd_x hf
        refine top_i hv3 ?_
        refine lv_istore_n (lv' := [(3, .int v3), (5, .int v1), (0, .ref (ad 30)), (1, .int x1), (2, .int x2), (4, .int x4)]) hx hb d_Route_costInto_56 rfl hl (Nat.le_of_ble_eq_true rfl) rfl (fun ls hl => ?_)
        exact w_RouteP_costInto_57 X hP ih (lv_sub (l' := [(0, .ref (ad 30)), (1, .int x1), (2, .int x2), (3, .int v3), (4, .int x4)]) hl [2, 3, 4, 0, 5] rfl) hf
def f_RouteP_costInto (n : Nat) (μ : Mem) (a1 : Int32) (a2 : Int32) : Option Int32 := f_RouteP_costInto_6 μ n a1 a2 (1000000000 : Int32) (0 : Int32)
set_option maxHeartbeats 4000000 in
set_option maxRecDepth 100000 in
theorem w_RouteP_costInto {p : Program} {l : Launch} {e : Env} {s : State} {m : MethodId} {args : Array Value} {below : List Frame} {meth : Method} {c : Code} {D : va_G} {g : Nat → ClassId} {ad : Nat → Nat} {dr : Nat → Option Nat} {pl : va_W} {μ : Mem} {r : Int32} {n : Nat} {a1 : Int32} {a2 : Int32} {ls : Array Slot} (X : Cx p s m args meth c b_Route_costInto 6 R_Route (some .int) D CL (TY g)) (hP : va_P D CL (WX g ad dr pl μ) s.heap) (hl : lv_has ls 6 [(0, .ref (ad 30)), (1, .int a1), (2, .int a2)]) (hf : f_RouteP_costInto n μ a1 a2 = some r) : WR p l e rm_RouteP_costInto s m args below meth c (.int r) (F0 m 0 ls []) := by
  obtain ⟨S, hr, hlk, hK⟩ := id X
  obtain ⟨hx, hb, hml, hown, hts⟩ := id S
  rw [f_RouteP_costInto] at hf
  refine lv_ldc (v := 1000000000) hx hb hown (hts _ q_507) d_Route_costInto_0 ?_
  refine lv_istore_n (lv' := [(3, .int (1000000000 : Int32)), (0, .ref (ad 30)), (1, .int a1), (2, .int a2)]) hx hb d_Route_costInto_2 rfl hl (Nat.le_of_ble_eq_true rfl) rfl (fun ls hl => ?_)
  refine lv_iconst (v := 0) hx hb d_Route_costInto_3 (by decide) ?_
  refine lv_istore (lv' := [(4, .int (0 : Int32)), (3, .int (1000000000 : Int32)), (0, .ref (ad 30)), (1, .int a1), (2, .int a2)]) hx hb d_Route_costInto_4 hl (Nat.le_of_ble_eq_true rfl) rfl (fun ls hl => ?_)
  exact w_RouteP_costInto_6 X hP _ _ _ _ _ _ (lv_sub (l' := [(0, .ref (ad 30)), (1, .int a1), (2, .int a2), (3, .int (1000000000 : Int32)), (4, .int (0 : Int32))]) hl [2, 3, 4, 1, 0] rfl) hf
theorem c_RouteP_costInto {l : Launch} {D : va_G} {g : Nat → ClassId} {ad : Nat → Nat} {dr : Nat → Option Nat} {pl : va_W} {μ : Mem} {r : Int32} {n : Nat} {a1 : Int32} {a2 : Int32} (hf : f_RouteP_costInto n μ a1 a2 = some r) : Met l y_Route_costInto (Cond.code y_Route_costInto b_Route_costInto 6 (some .int) :: ww) rm_RouteP_costInto (RP D CL (TY g) (WX g ad dr pl μ) [.ref (ad 30), .int a1, .int a2]) (k2_QcV (.int r)) 0 0 (fun _ => False) := by
  refine met_of (by decide) (Nat.le_of_ble_eq_true rfl) ?_
  intro p e s m below meth c ls X hP hl
  have hl : lv_has ls 6 [(0, .ref (ad 30)), (1, .int a1), (2, .int a2)] := hl
  exact w_RouteP_costInto X hP hl hf
abbrev rm_RouteP_waysInto : Room := { frames := 1, cells := 0, slots := 0, locals := 22 }
def f_RouteP_waysInto_68 (κ6 : Int32 → Int32 → Int32 → Int64 → Int32 → Option Int64) (μ : Mem) (n : Nat) (x1 : Int32) (x2 : Int32) (x3 : Int32) (x4 : Int64) (x6 : Int32) : Option Int64 := bd (x6 + 1) (fun v1 => κ6 x1 x2 x3 x4 v1)
set_option maxHeartbeats 4000000 in
set_option maxRecDepth 100000 in
theorem w_RouteP_waysInto_68 {p : Program} {l : Launch} {e : Env} {s : State} {m : MethodId} {args : Array Value} {below : List Frame} {meth : Method} {c : Code} {D : va_G} {g : Nat → ClassId} {ad : Nat → Nat} {dr : Nat → Option Nat} {pl : va_W} {μ : Mem} {r : Int64} {κ6 : Int32 → Int32 → Int32 → Int64 → Int32 → Option Int64} {n : Nat} {x1 : Int32} {x2 : Int32} {x3 : Int32} {x4 : Int64} {x6 : Int32} {ls : Array Slot} (X : Cx p s m args meth c b_Route_waysInto 8 R_Route (some .long) D CL (TY g)) (hP : va_P D CL (WX g ad dr pl μ) s.heap) (hκ6 : ∀ (x1 : Int32) (x2 : Int32) (x3 : Int32) (x4 : Int64) (x6 : Int32) (ls : Array Slot), lv_has ls 8 [(0, .ref (ad 30)), (1, .int x1), (2, .int x2), (3, .int x3), (4, .long x4), (6, .int x6)] → κ6 x1 x2 x3 x4 x6 = some r → WR p l e rm_RouteP_waysInto s m args below meth c (.long r) (F0 m 6 ls [])) (hl : lv_has ls 8 [(0, .ref (ad 30)), (1, .int x1), (2, .int x2), (3, .int x3), (4, .long x4), (6, .int x6)]) (hf : f_RouteP_waysInto_68 κ6 μ n x1 x2 x3 x4 x6 = some r) : WR p l e rm_RouteP_waysInto s m args below meth c (.long r) (F0 m 68 ls []) := by
  obtain ⟨S, hr, hlk, hK⟩ := id X
  obtain ⟨hx, hb, hml, hown, hts⟩ := id S
  rw [f_RouteP_waysInto_68] at hf
  obtain ⟨v1, hv1, hf⟩ := bd_x hf
  refine lv_iinc (lv' := [(6, .int v1), (0, .ref (ad 30)), (1, .int x1), (2, .int x2), (3, .int x3), (4, .long x4)]) hx hb d_Route_waysInto_68 hl (k := 5) rfl (show x6 + Int32.ofInt (1) = v1 from hv1) (Nat.le_of_ble_eq_true rfl) rfl (fun ls hl => ?_)
  refine lv_goto (tgt := 6) hx hb d_Route_waysInto_71 rfl ?_
  exact hκ6 _ _ _ _ _ _ (lv_sub (l' := [(0, .ref (ad 30)), (1, .int x1), (2, .int x2), (3, .int x3), (4, .long x4), (6, .int v1)]) hl [1, 2, 3, 4, 5, 0] rfl) hf
def f_RouteP_waysInto_6 (μ : Mem) : Nat → Int32 → Int32 → Int32 → Int64 → Int32 → Option Int64
  | 0, _, _, _, _, _ => none
  | n + 1, x1, x2, x3, x4, x6 => (if (8 : Int32) ≤ x6 then (some x4) else (bd ((x1 * (8 : Int32)) + x6) (fun v1 => gd (inb v1 200) ((if (lg_cmp (μ.2 33 v1.toNatClampNeg) (0 : Int64)) = 0 then (f_RouteP_waysInto_68 (f_RouteP_waysInto_6 μ n) μ n x1 x2 x3 x4 x6) else (gd (inb v1 200) (cl (f_Grammar_linkPrice n μ x6 x2) (fun v2 => (if ((μ.1 32 v1.toNatClampNeg) + v2) = x3 then (gd (inb v1 200) (bd (x4 + (μ.2 33 v1.toNatClampNeg)) (fun v3 => f_RouteP_waysInto_68 (f_RouteP_waysInto_6 μ n) μ n x1 x2 x3 v3 x6))) else (f_RouteP_waysInto_68 (f_RouteP_waysInto_6 μ n) μ n x1 x2 x3 x4 x6))))))))))
set_option maxHeartbeats 4000000 in
set_option maxRecDepth 100000 in
theorem w_RouteP_waysInto_6 {p : Program} {l : Launch} {e : Env} {s : State} {m : MethodId} {args : Array Value} {below : List Frame} {meth : Method} {c : Code} {D : va_G} {g : Nat → ClassId} {ad : Nat → Nat} {dr : Nat → Option Nat} {pl : va_W} {μ : Mem} {r : Int64} (X : Cx p s m args meth c b_Route_waysInto 8 R_Route (some .long) D CL (TY g)) (hP : va_P D CL (WX g ad dr pl μ) s.heap) : ∀ (n : Nat) (x1 : Int32) (x2 : Int32) (x3 : Int32) (x4 : Int64) (x6 : Int32) (ls : Array Slot), lv_has ls 8 [(0, .ref (ad 30)), (1, .int x1), (2, .int x2), (3, .int x3), (4, .long x4), (6, .int x6)] → f_RouteP_waysInto_6 μ n x1 x2 x3 x4 x6 = some r → WR p l e rm_RouteP_waysInto s m args below meth c (.long r) (F0 m 6 ls []) := by
  intro n
  induction n with
  | zero => intro x1 x2 x3 x4 x6 ls hl hf; rw [f_RouteP_waysInto_6] at hf; cases hf
  | succ n ih =>
    intro x1 x2 x3 x4 x6 ls hl hf
    obtain ⟨S, hr, hlk, hK⟩ := id X
    obtain ⟨hx, hb, hml, hown, hts⟩ := id S
    rw [f_RouteP_waysInto_6] at hf
    refine lv_iload hx hb d_Route_waysInto_6 (lv_at hl 5 rfl) ?_
    refine lv_bipush (v := 8) hx hb d_Route_waysInto_8 (by decide) ?_
    refine lv_icmp_ge (tgt := 74) hx hb d_Route_waysInto_10 rfl (fun hc => ?_) (fun hc => ?_)
    · replace hf := br_p hc hf
      refine lv_lload hx hb d_Route_waysInto_74 (lv_at hl 4 rfl) ?_
      have h1 := Option.some.inj hf
      subst h1
      exact W.lret hx hb hr (fun t ht _ => ⟨rfl, ht⟩) (fun _ h => by cases h) d_Route_waysInto_76
    · replace hf := br_n hc hf
      refine lv_iload_n hx hb d_Route_waysInto_13 rfl (lv_at hl 1 rfl) ?_
      refine lv_bipush (v := 8) hx hb d_Route_waysInto_14 (by decide) ?_
      refine lv_imul hx hb d_Route_waysInto_16 ?_
      refine lv_iload hx hb d_Route_waysInto_17 (lv_at hl 5 rfl) ?_
      refine lv_iadd hx hb d_Route_waysInto_19 ?_
      obtain ⟨v1, hv1, hf⟩ := bd_x hf
      refine top_i hv1 ?_
      refine lv_istore (lv' := [(7, .int v1), (0, .ref (ad 30)), (1, .int x1), (2, .int x2), (3, .int x3), (4, .long x4), (6, .int x6)]) hx hb d_Route_waysInto_20 hl (Nat.le_of_ble_eq_true rfl) rfl (fun ls hl => ?_)
      refine lv_aload_n hx hb d_Route_waysInto_22 rfl (lv_at hl 1 rfl) ?_
      refine xg_30_5 hx hb hts hown hK hP q_159 d_Route_waysInto_23 ?_
      refine lv_iload hx hb d_Route_waysInto_26 (lv_at hl 0 rfl) ?_
      obtain ⟨hi, hf⟩ := gd_x hf
      refine xl_33 hx hb hK hP (inb_in hi) d_Route_waysInto_28 ?_
      refine lv_lconst (v := 0) hx hb d_Route_waysInto_29 (by decide) ?_
      refine W.lcmp hx hb d_Route_waysInto_30 ?_
      refine lv_if_eq (tgt := 68) hx hb d_Route_waysInto_31 rfl (fun hc => ?_) (fun hc => ?_)
      · replace hf := br_p hc hf
        exact w_RouteP_waysInto_68 X hP ih (lv_sub (l' := [(0, .ref (ad 30)), (1, .int x1), (2, .int x2), (3, .int x3), (4, .long x4), (6, .int x6)]) hl [1, 2, 3, 4, 5, 6] rfl) hf
      · replace hf := br_n hc hf
        refine lv_aload_n hx hb d_Route_waysInto_34 rfl (lv_at hl 1 rfl) ?_
        refine xg_30_4 hx hb hts hown hK hP q_158 d_Route_waysInto_35 ?_
        refine lv_iload hx hb d_Route_waysInto_38 (lv_at hl 0 rfl) ?_
        obtain ⟨hi, hf⟩ := gd_x hf
        refine xl_32 hx hb hK hP (inb_in hi) d_Route_waysInto_40 ?_
        refine lv_aload_n hx hb d_Route_waysInto_41 rfl (lv_at hl 1 rfl) ?_
        refine xg_30_1 hx hb hts hown hK hP q_155 d_Route_waysInto_42 ?_
        refine lv_iload hx hb d_Route_waysInto_45 (lv_at hl 6 rfl) ?_
        refine lv_iload_n hx hb d_Route_waysInto_47 rfl (lv_at hl 3 rfl) ?_
        obtain ⟨v2, hv2, hf⟩ := cl_x hf
        refine rdV (As := [.int x6, .int x2]) (rest := [.int (μ.1 32 v1.toNatClampNeg)]) S K_Grammar_linkPrice q_508 (c_Grammar_linkPrice hv2) hK hP ⟨rfl, rfl⟩ ⟨Nat.le_of_ble_eq_true rfl, Nat.le_of_ble_eq_true rfl⟩ (xr_10 hK hP) rfl hl.1 rfl (Nat.le_of_ble_eq_true rfl) d_Route_waysInto_48 ⟨Nat.le_refl _, Nat.le_refl _⟩ ?_
        refine lv_iadd hx hb d_Route_waysInto_51 ?_
        refine lv_iload_n hx hb d_Route_waysInto_52 rfl (lv_at hl 4 rfl) ?_
        refine lv_icmp_ne (tgt := 68) hx hb d_Route_waysInto_53 rfl (fun hc => ?_) (fun hc => ?_)
        · replace hf := br_n hc hf
          exact w_RouteP_waysInto_68 X hP ih (lv_sub (l' := [(0, .ref (ad 30)), (1, .int x1), (2, .int x2), (3, .int x3), (4, .long x4), (6, .int x6)]) hl [1, 2, 3, 4, 5, 6] rfl) hf
        · replace hf := br_p hc hf
          refine lv_lload hx hb d_Route_waysInto_56 (lv_at hl 5 rfl) ?_
          refine lv_aload_n hx hb d_Route_waysInto_58 rfl (lv_at hl 1 rfl) ?_
          refine xg_30_5 hx hb hts hown hK hP q_159 d_Route_waysInto_59 ?_
          refine lv_iload hx hb d_Route_waysInto_62 (lv_at hl 0 rfl) ?_
          obtain ⟨hi, hf⟩ := gd_x hf
          refine xl_33 hx hb hK hP (inb_in hi) d_Route_waysInto_64 ?_
          refine lv_ladd hx hb d_Route_waysInto_65 ?_
          obtain ⟨v3, hv3, hf⟩ := bd_x hf
          refine top_l hv3 ?_
          refine lv_lstore (lv' := [(4, .long v3), (7, .int v1), (0, .ref (ad 30)), (1, .int x1), (2, .int x2), (3, .int x3), (6, .int x6)]) hx hb d_Route_waysInto_66 hl (Nat.le_of_ble_eq_true rfl) rfl (fun ls hl => ?_)
          exact w_RouteP_waysInto_68 X hP ih (lv_sub (l' := [(0, .ref (ad 30)), (1, .int x1), (2, .int x2), (3, .int x3), (4, .long v3), (6, .int x6)]) hl [2, 3, 4, 5, 0, 6] rfl) hf
def f_RouteP_waysInto (n : Nat) (μ : Mem) (a1 : Int32) (a2 : Int32) (a3 : Int32) : Option Int64 := f_RouteP_waysInto_6 μ n a1 a2 a3 (0 : Int64) (0 : Int32)
set_option maxHeartbeats 4000000 in
set_option maxRecDepth 100000 in
theorem w_RouteP_waysInto {p : Program} {l : Launch} {e : Env} {s : State} {m : MethodId} {args : Array Value} {below : List Frame} {meth : Method} {c : Code} {D : va_G} {g : Nat → ClassId} {ad : Nat → Nat} {dr : Nat → Option Nat} {pl : va_W} {μ : Mem} {r : Int64} {n : Nat} {a1 : Int32} {a2 : Int32} {a3 : Int32} {ls : Array Slot} (X : Cx p s m args meth c b_Route_waysInto 8 R_Route (some .long) D CL (TY g)) (hP : va_P D CL (WX g ad dr pl μ) s.heap) (hl : lv_has ls 8 [(0, .ref (ad 30)), (1, .int a1), (2, .int a2), (3, .int a3)]) (hf : f_RouteP_waysInto n μ a1 a2 a3 = some r) : WR p l e rm_RouteP_waysInto s m args below meth c (.long r) (F0 m 0 ls []) := by
  obtain ⟨S, hr, hlk, hK⟩ := id X
  obtain ⟨hx, hb, hml, hown, hts⟩ := id S
  rw [f_RouteP_waysInto] at hf
  refine lv_lconst (v := 0) hx hb d_Route_waysInto_0 (by decide) ?_
  refine lv_lstore (lv' := [(4, .long (0 : Int64)), (0, .ref (ad 30)), (1, .int a1), (2, .int a2), (3, .int a3)]) hx hb d_Route_waysInto_1 hl (Nat.le_of_ble_eq_true rfl) rfl (fun ls hl => ?_)
  refine lv_iconst (v := 0) hx hb d_Route_waysInto_3 (by decide) ?_
  refine lv_istore (lv' := [(6, .int (0 : Int32)), (4, .long (0 : Int64)), (0, .ref (ad 30)), (1, .int a1), (2, .int a2), (3, .int a3)]) hx hb d_Route_waysInto_4 hl (Nat.le_of_ble_eq_true rfl) rfl (fun ls hl => ?_)
  exact w_RouteP_waysInto_6 X hP _ _ _ _ _ _ _ (lv_sub (l' := [(0, .ref (ad 30)), (1, .int a1), (2, .int a2), (3, .int a3), (4, .long (0 : Int64)), (6, .int (0 : Int32))]) hl [2, 3, 4, 5, 1, 0] rfl) hf
theorem c_RouteP_waysInto {l : Launch} {D : va_G} {g : Nat → ClassId} {ad : Nat → Nat} {dr : Nat → Option Nat} {pl : va_W} {μ : Mem} {r : Int64} {n : Nat} {a1 : Int32} {a2 : Int32} {a3 : Int32} (hf : f_RouteP_waysInto n μ a1 a2 a3 = some r) : Met l y_Route_waysInto (Cond.code y_Route_waysInto b_Route_waysInto 8 (some .long) :: ww) rm_RouteP_waysInto (RP D CL (TY g) (WX g ad dr pl μ) [.ref (ad 30), .int a1, .int a2, .int a3]) (k2_QcV (.long r)) 0 0 (fun _ => False) := by
  refine met_of (by decide) (Nat.le_of_ble_eq_true rfl) ?_
  intro p e s m below meth c ls X hP hl
  have hl : lv_has ls 8 [(0, .ref (ad 30)), (1, .int a1), (2, .int a2), (3, .int a3)] := hl
  exact w_RouteP_waysInto X hP hl hf
abbrev rm_RouteP_reach : Room := { frames := 2, cells := 0, slots := 0, locals := 49 }
def f_RouteP_reach (n : Nat) (μ : Mem) (a1 : Int32) : Option Mem := cl (f_Lattice_begin n μ a1) (fun v1 => cl (f_Lattice_part n μ a1) (fun v2 => cl (f_RouteP_costInto n μ v1 v2) (fun v3 => (if v3 = (1000000000 : Int32) then (gd (inb a1 696) (bd (wi μ 31 a1.toNatClampNeg (1000000000 : Int32)) (fun μ10 => some μ10))) else (cl (f_Lattice_price n μ a1 (μ.1 30 2)) (fun v4 => gd (inb a1 696) (bd (wi μ 31 a1.toNatClampNeg (v3 + v4)) (fun μ5 => cl (f_Lattice_end n μ5 a1) (fun v6 => gd (inb a1 696) (cl (f_RouteP_waysInto n μ5 v1 v2 v3) (fun v7 => cl (f_RouteP_arrive n μ5 v6 v2 (μ5.1 31 a1.toNatClampNeg) v7) (fun μ9 => some μ9))))))))))))
set_option maxHeartbeats 4000000 in
set_option maxRecDepth 100000 in
theorem w_RouteP_reach {p : Program} {l : Launch} {e : Env} {s : State} {m : MethodId} {args : Array Value} {below : List Frame} {meth : Method} {c : Code} {D : va_G} {g : Nat → ClassId} {ad : Nat → Nat} {dr : Nat → Option Nat} {pl : va_W} {μ' : Mem} {A : Nat → Prop} {n : Nat} {μ : Mem} {a1 : Int32} {ls : Array Slot} {H : Heap} {locs : List Loc} (X : Cx p s m args meth c b_Route_reach 5 R_Route none D CL (TY g)) (hDA : ∀ μ : Mem, va_D A (WX g ad dr pl μ)) (hP : va_P D CL (WX g ad dr pl μ) H) (hS : va_S A s.heap H locs) (hl : lv_has ls 5 [(0, .ref (ad 30)), (1, .int a1)]) (hf : f_RouteP_reach n μ a1 = some μ') : WU p l e rm_RouteP_reach s m args below meth c H locs D (WX g ad dr pl μ') A none (F0 m 0 ls []) := by
  obtain ⟨S, hr, hlk, hK⟩ := id X
  obtain ⟨hx, hb, hml, hown, hts⟩ := id S
  rw [f_RouteP_reach] at hf
  refine lv_aload_n hx hb d_Route_reach_0 rfl (lv_at hl 0 rfl) ?_
  refine xg_30_0 hx hb hts hown hK hP q_154 d_Route_reach_1 ?_
  refine lv_iload_n hx hb d_Route_reach_4 rfl (lv_at hl 1 rfl) ?_
  obtain ⟨v1, hv1, hf⟩ := cl_x hf
  refine rdV (As := [.int a1]) (rest := []) S K_Lattice_begin q_495 (c_Lattice_begin hv1) hK hP ⟨rfl, rfl⟩ ⟨Nat.le_of_ble_eq_true rfl, Nat.le_of_ble_eq_true rfl⟩ (xr_18 hK hP) rfl hl.1 rfl (Nat.le_of_ble_eq_true rfl) d_Route_reach_5 ⟨Nat.le_refl _, Nat.le_refl _⟩ ?_
  refine lv_istore_n (lv' := [(2, .int v1), (0, .ref (ad 30)), (1, .int a1)]) hx hb d_Route_reach_8 rfl hl (Nat.le_of_ble_eq_true rfl) rfl (fun ls hl => ?_)
  refine lv_aload_n hx hb d_Route_reach_9 rfl (lv_at hl 1 rfl) ?_
  refine xg_30_0 hx hb hts hown hK hP q_154 d_Route_reach_10 ?_
  refine lv_iload_n hx hb d_Route_reach_13 rfl (lv_at hl 2 rfl) ?_
  obtain ⟨v2, hv2, hf⟩ := cl_x hf
  refine rdV (As := [.int a1]) (rest := []) S K_Lattice_part q_499 (c_Lattice_part hv2) hK hP ⟨rfl, rfl⟩ ⟨Nat.le_of_ble_eq_true rfl, Nat.le_of_ble_eq_true rfl⟩ (xr_18 hK hP) rfl hl.1 rfl (Nat.le_of_ble_eq_true rfl) d_Route_reach_14 ⟨Nat.le_refl _, Nat.le_refl _⟩ ?_
  refine lv_istore_n (lv' := [(3, .int v2), (2, .int v1), (0, .ref (ad 30)), (1, .int a1)]) hx hb d_Route_reach_17 rfl hl (Nat.le_of_ble_eq_true rfl) rfl (fun ls hl => ?_)
  refine lv_aload_n hx hb d_Route_reach_18 rfl (lv_at hl 2 rfl) ?_
  refine lv_iload_n hx hb d_Route_reach_19 rfl (lv_at hl 1 rfl) ?_
  refine lv_iload_n hx hb d_Route_reach_20 rfl (lv_at hl 0 rfl) ?_
  obtain ⟨v3, hv3, hf⟩ := cl_x hf
  refine rdV (As := [.int v1, .int v2]) (rest := []) S K_Route_costInto q_503 (c_RouteP_costInto hv3) hK hP ⟨rfl, rfl⟩ ⟨Nat.le_of_ble_eq_true rfl, Nat.le_of_ble_eq_true rfl⟩ (xr_30 hK hP) rfl hl.1 rfl (Nat.le_of_ble_eq_true rfl) d_Route_reach_21 ⟨Nat.le_refl _, Nat.le_refl _⟩ ?_
  refine lv_istore (lv' := [(4, .int v3), (3, .int v2), (2, .int v1), (0, .ref (ad 30)), (1, .int a1)]) hx hb d_Route_reach_24 hl (Nat.le_of_ble_eq_true rfl) rfl (fun ls hl => ?_)
  refine lv_iload hx hb d_Route_reach_26 (lv_at hl 0 rfl) ?_
  refine lv_ldc (v := 1000000000) hx hb hown (hts _ q_507) d_Route_reach_28 ?_
  refine lv_icmp_ne (tgt := 42) hx hb d_Route_reach_30 rfl (fun hc => ?_) (fun hc => ?_)
  · replace hf := br_n hc hf
    refine lv_aload_n hx hb d_Route_reach_42 rfl (lv_at hl 3 rfl) ?_
    refine xg_30_3 hx hb hts hown hK hP q_157 d_Route_reach_43 ?_
    refine lv_iload_n hx hb d_Route_reach_46 rfl (lv_at hl 4 rfl) ?_
    refine lv_iload hx hb d_Route_reach_47 (lv_at hl 0 rfl) ?_
    refine lv_aload_n hx hb d_Route_reach_49 rfl (lv_at hl 3 rfl) ?_
    refine xg_30_0 hx hb hts hown hK hP q_154 d_Route_reach_50 ?_
    refine lv_iload_n hx hb d_Route_reach_53 rfl (lv_at hl 4 rfl) ?_
    refine lv_aload_n hx hb d_Route_reach_54 rfl (lv_at hl 3 rfl) ?_
    refine xg_30_2 hx hb hts hown hK hP q_156 d_Route_reach_55 ?_
    obtain ⟨v4, hv4, hf⟩ := cl_x hf
    refine rdV (As := [.int a1, .int (μ.1 30 2)]) (rest := [.int v3, .int a1, .ref (ad 31)]) S K_Lattice_price q_513 (c_Lattice_price hv4) hK hP ⟨rfl, rfl⟩ ⟨Nat.le_of_ble_eq_true rfl, Nat.le_of_ble_eq_true rfl⟩ (xr_18 hK hP) rfl hl.1 rfl (Nat.le_of_ble_eq_true rfl) d_Route_reach_58 ⟨Nat.le_refl _, Nat.le_refl _⟩ ?_
    refine lv_iadd hx hb d_Route_reach_61 ?_
    obtain ⟨hi, hf⟩ := gd_x hf
    obtain ⟨μ5, hμ5, hf⟩ := bd_x hf
    refine xs_31 hx hb hK (hDA _) hP hS (inb_in hi) d_Route_reach_62 hμ5 (fun H locs hP hS => ?_)
    refine lv_aload_n hx hb d_Route_reach_63 rfl (lv_at hl 3 rfl) ?_
    refine lv_aload_n hx hb d_Route_reach_64 rfl (lv_at hl 3 rfl) ?_
    refine xg_30_0 hx hb hts hown hK hP q_154 d_Route_reach_65 ?_
    refine lv_iload_n hx hb d_Route_reach_68 rfl (lv_at hl 4 rfl) ?_
    obtain ⟨v6, hv6, hf⟩ := cl_x hf
    refine rdV (As := [.int a1]) (rest := [.ref (ad 30)]) S K_Lattice_end q_517 (c_Lattice_end hv6) hK hP ⟨rfl, rfl⟩ ⟨Nat.le_of_ble_eq_true rfl, Nat.le_of_ble_eq_true rfl⟩ (xr_18 hK hP) rfl hl.1 rfl (Nat.le_of_ble_eq_true rfl) d_Route_reach_69 ⟨Nat.le_refl _, Nat.le_refl _⟩ ?_
    refine lv_iload_n hx hb d_Route_reach_72 rfl (lv_at hl 1 rfl) ?_
    refine lv_aload_n hx hb d_Route_reach_73 rfl (lv_at hl 3 rfl) ?_
    refine xg_30_3 hx hb hts hown hK hP q_157 d_Route_reach_74 ?_
    refine lv_iload_n hx hb d_Route_reach_77 rfl (lv_at hl 4 rfl) ?_
    obtain ⟨hi, hf⟩ := gd_x hf
    refine xl_31 hx hb hK hP (inb_in hi) d_Route_reach_78 ?_
    refine lv_aload_n hx hb d_Route_reach_79 rfl (lv_at hl 3 rfl) ?_
    refine lv_iload_n hx hb d_Route_reach_80 rfl (lv_at hl 2 rfl) ?_
    refine lv_iload_n hx hb d_Route_reach_81 rfl (lv_at hl 1 rfl) ?_
    refine lv_iload hx hb d_Route_reach_82 (lv_at hl 0 rfl) ?_
    obtain ⟨v7, hv7, hf⟩ := cl_x hf
    refine rdV (As := [.int v1, .int v2, .int v3]) (rest := [.int (μ5.1 31 a1.toNatClampNeg), .int v2, .int v6, .ref (ad 30)]) S K_Route_waysInto q_521 (c_RouteP_waysInto hv7) hK hP ⟨rfl, rfl⟩ ⟨Nat.le_of_ble_eq_true rfl, Nat.le_of_ble_eq_true rfl⟩ (xr_30 hK hP) rfl hl.1 rfl (Nat.le_of_ble_eq_true rfl) d_Route_reach_84 ⟨Nat.le_refl _, Nat.le_refl _⟩ ?_
    obtain ⟨μ9, hv8, hf⟩ := cl_x hf
    refine wrV (As := [.int v6, .int v2, .int (μ5.1 31 a1.toNatClampNeg), .long v7]) (rest := []) S K_Route_arrive q_483 (c_RouteP_arrive hDA hv8) hK hP hS ⟨rfl, rfl⟩ ⟨Nat.le_of_ble_eq_true rfl, Nat.le_of_ble_eq_true rfl⟩ (xr_30 hK hP) rfl hl.1 rfl (Nat.le_of_ble_eq_true rfl) d_Route_reach_87 ⟨Nat.le_refl _, Nat.le_refl _⟩ (fun H locs hP hS => ?_)
    obtain rfl := Option.some.inj hf
    exact W.vret hx hb hr (fun t ht _ => ⟨rfl, by rw [ht]; exact hP, hS.F ht⟩) hS.2.2 d_Route_reach_90
  · replace hf := br_p hc hf
    refine lv_aload_n hx hb d_Route_reach_33 rfl (lv_at hl 3 rfl) ?_
    refine xg_30_3 hx hb hts hown hK hP q_157 d_Route_reach_34 ?_
    refine lv_iload_n hx hb d_Route_reach_37 rfl (lv_at hl 4 rfl) ?_
    refine lv_ldc (v := 1000000000) hx hb hown (hts _ q_507) d_Route_reach_38 ?_
    obtain ⟨hi, hf⟩ := gd_x hf
    obtain ⟨μ10, hμ10, hf⟩ := bd_x hf
    refine xs_31 hx hb hK (hDA _) hP hS (inb_in hi) d_Route_reach_40 hμ10 (fun H locs hP hS => ?_)
    obtain rfl := Option.some.inj hf
    exact W.vret hx hb hr (fun t ht _ => ⟨rfl, by rw [ht]; exact hP, hS.F ht⟩) hS.2.2 d_Route_reach_41
theorem c_RouteP_reach {l : Launch} {D : va_G} {g : Nat → ClassId} {ad : Nat → Nat} {dr : Nat → Option Nat} {pl : va_W} {μ : Mem} {μ' : Mem} {A : Nat → Prop} {n : Nat} {a1 : Int32} (hDA : ∀ μ : Mem, va_D A (WX g ad dr pl μ)) (hf : f_RouteP_reach n μ a1 = some μ') : Met l y_Route_reach (Cond.code y_Route_reach b_Route_reach 5 none :: ww) rm_RouteP_reach (RP D CL (TY g) (WX g ad dr pl μ) [.ref (ad 30), .int a1]) (QW D CL (WX g ad dr pl μ') A none) 0 0 A := by
  refine met_of (by decide) (Nat.le_of_ble_eq_true rfl) ?_
  intro p e s m below meth c ls X hP hl
  have hl : lv_has ls 5 [(0, .ref (ad 30)), (1, .int a1)] := hl
  exact w_RouteP_reach X hDA hP va_S.rf hl hf
abbrev rm_RouteP_lastInto : Room := { frames := 2, cells := 0, slots := 0, locals := 47 }
def f_RouteP_lastInto_79 (κ10 : Int32 → Int32 → Int32 → Int32 → Option Int32) (μ : Mem) (n : Nat) (x1 : Int32) (x2 : Int32) (x3 : Int32) (x4 : Int32) : Option Int32 := bd (x4 + 1) (fun v1 => κ10 x1 x2 x3 v1)
set_option maxHeartbeats 4000000 in
set_option maxRecDepth 100000 in
theorem w_RouteP_lastInto_79 {p : Program} {l : Launch} {e : Env} {s : State} {m : MethodId} {args : Array Value} {below : List Frame} {meth : Method} {c : Code} {D : va_G} {g : Nat → ClassId} {ad : Nat → Nat} {dr : Nat → Option Nat} {pl : va_W} {μ : Mem} {r : Int32} {κ10 : Int32 → Int32 → Int32 → Int32 → Option Int32} {n : Nat} {x1 : Int32} {x2 : Int32} {x3 : Int32} {x4 : Int32} {ls : Array Slot} (X : Cx p s m args meth c b_Route_lastInto 5 R_Route (some .int) D CL (TY g)) (hP : va_P D CL (WX g ad dr pl μ) s.heap) (hκ10 : ∀ (x1 : Int32) (x2 : Int32) (x3 : Int32) (x4 : Int32) (ls : Array Slot), lv_has ls 5 [(0, .ref (ad 30)), (1, .int x1), (2, .int x2), (3, .int x3), (4, .int x4)] → κ10 x1 x2 x3 x4 = some r → WR p l e rm_RouteP_lastInto s m args below meth c (.int r) (F0 m 10 ls [])) (hl : lv_has ls 5 [(0, .ref (ad 30)), (1, .int x1), (2, .int x2), (3, .int x3), (4, .int x4)]) (hf : f_RouteP_lastInto_79 κ10 μ n x1 x2 x3 x4 = some r) : WR p l e rm_RouteP_lastInto s m args below meth c (.int r) (F0 m 79 ls []) := by
  obtain ⟨S, hr, hlk, hK⟩ := id X
  obtain ⟨hx, hb, hml, hown, hts⟩ := id S
  rw [f_RouteP_lastInto_79] at hf
  obtain ⟨v1, hv1, hf⟩ := bd_x hf
  refine lv_iinc (lv' := [(4, .int v1), (0, .ref (ad 30)), (1, .int x1), (2, .int x2), (3, .int x3)]) hx hb d_Route_lastInto_79 hl (k := 4) rfl (show x4 + Int32.ofInt (1) = v1 from hv1) (Nat.le_of_ble_eq_true rfl) rfl (fun ls hl => ?_)
  refine lv_goto (tgt := 10) hx hb d_Route_lastInto_82 rfl ?_
  exact hκ10 _ _ _ _ _ (lv_sub (l' := [(0, .ref (ad 30)), (1, .int x1), (2, .int x2), (3, .int x3), (4, .int v1)]) hl [1, 2, 3, 4, 0] rfl) hf
def f_RouteP_lastInto_10 (μ : Mem) : Nat → Int32 → Int32 → Int32 → Int32 → Option Int32
  | 0, _, _, _, _ => none
  | n + 1, x1, x2, x3, x4 => cl (f_Lattice_count n μ) (fun v1 => (if v1 ≤ x4 then (some (-1 : Int32)) else (cl (f_Lattice_end n μ x4) (fun v2 => (if v2 = x1 then (gd (inb x4 696) ((if (μ.1 31 x4.toNatClampNeg) = (1000000000 : Int32) then (f_RouteP_lastInto_79 (f_RouteP_lastInto_10 μ n) μ n x1 x2 x3 x4) else (gd (inb x4 696) (cl (f_Lattice_part n μ x4) (fun v3 => cl (f_Grammar_linkPrice n μ v3 x2) (fun v4 => (if ((μ.1 31 x4.toNatClampNeg) + v4) = x3 then (some x4) else (f_RouteP_lastInto_79 (f_RouteP_lastInto_10 μ n) μ n x1 x2 x3 x4))))))))) else (f_RouteP_lastInto_79 (f_RouteP_lastInto_10 μ n) μ n x1 x2 x3 x4))))))
set_option maxHeartbeats 4000000 in
set_option maxRecDepth 100000 in
theorem w_RouteP_lastInto_10 {p : Program} {l : Launch} {e : Env} {s : State} {m : MethodId} {args : Array Value} {below : List Frame} {meth : Method} {c : Code} {D : va_G} {g : Nat → ClassId} {ad : Nat → Nat} {dr : Nat → Option Nat} {pl : va_W} {μ : Mem} {r : Int32} (X : Cx p s m args meth c b_Route_lastInto 5 R_Route (some .int) D CL (TY g)) (hP : va_P D CL (WX g ad dr pl μ) s.heap) : ∀ (n : Nat) (x1 : Int32) (x2 : Int32) (x3 : Int32) (x4 : Int32) (ls : Array Slot), lv_has ls 5 [(0, .ref (ad 30)), (1, .int x1), (2, .int x2), (3, .int x3), (4, .int x4)] → f_RouteP_lastInto_10 μ n x1 x2 x3 x4 = some r → WR p l e rm_RouteP_lastInto s m args below meth c (.int r) (F0 m 10 ls []) := by
  intro n
  induction n with
  | zero => intro x1 x2 x3 x4 ls hl hf; rw [f_RouteP_lastInto_10] at hf; cases hf
  | succ n ih =>
    intro x1 x2 x3 x4 ls hl hf
    obtain ⟨S, hr, hlk, hK⟩ := id X
    obtain ⟨hx, hb, hml, hown, hts⟩ := id S
    rw [f_RouteP_lastInto_10] at hf
    refine lv_iload hx hb d_Route_lastInto_10 (lv_at hl 4 rfl) ?_
    refine lv_aload_n hx hb d_Route_lastInto_12 rfl (lv_at hl 0 rfl) ?_
    refine xg_30_0 hx hb hts hown hK hP q_154 d_Route_lastInto_13 ?_
    obtain ⟨v1, hv1, hf⟩ := cl_x hf
    refine rdV (As := []) (rest := [.int x4]) S K_Lattice_count q_487 (c_Lattice_count hv1) hK hP ⟨rfl, rfl⟩ ⟨Nat.le_of_ble_eq_true rfl, Nat.le_of_ble_eq_true rfl⟩ (xr_18 hK hP) rfl hl.1 rfl (Nat.le_of_ble_eq_true rfl) d_Route_lastInto_16 ⟨Nat.le_refl _, Nat.le_refl _⟩ ?_
    refine lv_icmp_ge (tgt := 85) hx hb d_Route_lastInto_19 rfl (fun hc => ?_) (fun hc => ?_)
    · replace hf := br_p hc hf
      refine lv_iconst (v := -1) hx hb d_Route_lastInto_85 (by decide) ?_
      have h1 := Option.some.inj hf
      subst h1
      exact W.iret hx hb hr (fun t ht _ => ⟨rfl, ht⟩) (fun _ h => by cases h) d_Route_lastInto_86
    · replace hf := br_n hc hf
      refine lv_aload_n hx hb d_Route_lastInto_22 rfl (lv_at hl 0 rfl) ?_
      refine xg_30_0 hx hb hts hown hK hP q_154 d_Route_lastInto_23 ?_
      refine lv_iload hx hb d_Route_lastInto_26 (lv_at hl 4 rfl) ?_
      obtain ⟨v2, hv2, hf⟩ := cl_x hf
      refine rdV (As := [.int x4]) (rest := []) S K_Lattice_end q_517 (c_Lattice_end hv2) hK hP ⟨rfl, rfl⟩ ⟨Nat.le_of_ble_eq_true rfl, Nat.le_of_ble_eq_true rfl⟩ (xr_18 hK hP) rfl hl.1 rfl (Nat.le_of_ble_eq_true rfl) d_Route_lastInto_28 ⟨Nat.le_refl _, Nat.le_refl _⟩ ?_
      refine lv_iload_n hx hb d_Route_lastInto_31 rfl (lv_at hl 1 rfl) ?_
      refine lv_icmp_ne (tgt := 79) hx hb d_Route_lastInto_32 rfl (fun hc => ?_) (fun hc => ?_)
      · replace hf := br_n hc hf
        exact w_RouteP_lastInto_79 X hP ih (lv_sub (l' := [(0, .ref (ad 30)), (1, .int x1), (2, .int x2), (3, .int x3), (4, .int x4)]) hl [0, 1, 2, 3, 4] rfl) hf
      · replace hf := br_p hc hf
        refine lv_aload_n hx hb d_Route_lastInto_35 rfl (lv_at hl 0 rfl) ?_
        refine xg_30_3 hx hb hts hown hK hP q_157 d_Route_lastInto_36 ?_
        refine lv_iload hx hb d_Route_lastInto_39 (lv_at hl 4 rfl) ?_
        obtain ⟨hi, hf⟩ := gd_x hf
        refine xl_31 hx hb hK hP (inb_in hi) d_Route_lastInto_41 ?_
        refine lv_ldc (v := 1000000000) hx hb hown (hts _ q_507) d_Route_lastInto_42 ?_
        refine lv_icmp_eq (tgt := 79) hx hb d_Route_lastInto_44 rfl (fun hc => ?_) (fun hc => ?_)
        · replace hf := br_p hc hf
          exact w_RouteP_lastInto_79 X hP ih (lv_sub (l' := [(0, .ref (ad 30)), (1, .int x1), (2, .int x2), (3, .int x3), (4, .int x4)]) hl [0, 1, 2, 3, 4] rfl) hf
        · replace hf := br_n hc hf
          refine lv_aload_n hx hb d_Route_lastInto_47 rfl (lv_at hl 0 rfl) ?_
          refine xg_30_3 hx hb hts hown hK hP q_157 d_Route_lastInto_48 ?_
          refine lv_iload hx hb d_Route_lastInto_51 (lv_at hl 4 rfl) ?_
          obtain ⟨hi, hf⟩ := gd_x hf
          refine xl_31 hx hb hK hP (inb_in hi) d_Route_lastInto_53 ?_
          refine lv_aload_n hx hb d_Route_lastInto_54 rfl (lv_at hl 0 rfl) ?_
          refine xg_30_1 hx hb hts hown hK hP q_155 d_Route_lastInto_55 ?_
          refine lv_aload_n hx hb d_Route_lastInto_58 rfl (lv_at hl 0 rfl) ?_
          refine xg_30_0 hx hb hts hown hK hP q_154 d_Route_lastInto_59 ?_
          refine lv_iload hx hb d_Route_lastInto_62 (lv_at hl 4 rfl) ?_
          obtain ⟨v3, hv3, hf⟩ := cl_x hf
          refine rdV (As := [.int x4]) (rest := [.ref (ad 10), .int (μ.1 31 x4.toNatClampNeg)]) S K_Lattice_part q_499 (c_Lattice_part hv3) hK hP ⟨rfl, rfl⟩ ⟨Nat.le_of_ble_eq_true rfl, Nat.le_of_ble_eq_true rfl⟩ (xr_18 hK hP) rfl hl.1 rfl (Nat.le_of_ble_eq_true rfl) d_Route_lastInto_64 ⟨Nat.le_refl _, Nat.le_refl _⟩ ?_
          refine lv_iload_n hx hb d_Route_lastInto_67 rfl (lv_at hl 2 rfl) ?_
          obtain ⟨v4, hv4, hf⟩ := cl_x hf
          refine rdV (As := [.int v3, .int x2]) (rest := [.int (μ.1 31 x4.toNatClampNeg)]) S K_Grammar_linkPrice q_508 (c_Grammar_linkPrice hv4) hK hP ⟨rfl, rfl⟩ ⟨Nat.le_of_ble_eq_true rfl, Nat.le_of_ble_eq_true rfl⟩ (xr_10 hK hP) rfl hl.1 rfl (Nat.le_of_ble_eq_true rfl) d_Route_lastInto_68 ⟨Nat.le_refl _, Nat.le_refl _⟩ ?_
          refine lv_iadd hx hb d_Route_lastInto_71 ?_
          refine lv_iload_n hx hb d_Route_lastInto_72 rfl (lv_at hl 3 rfl) ?_
          refine lv_icmp_ne (tgt := 79) hx hb d_Route_lastInto_73 rfl (fun hc => ?_) (fun hc => ?_)
          · replace hf := br_n hc hf
            exact w_RouteP_lastInto_79 X hP ih (lv_sub (l' := [(0, .ref (ad 30)), (1, .int x1), (2, .int x2), (3, .int x3), (4, .int x4)]) hl [0, 1, 2, 3, 4] rfl) hf
          · replace hf := br_p hc hf
            refine lv_iload hx hb d_Route_lastInto_76 (lv_at hl 4 rfl) ?_
            have h1 := Option.some.inj hf
            subst h1
            exact W.iret hx hb hr (fun t ht _ => ⟨rfl, ht⟩) (fun _ h => by cases h) d_Route_lastInto_78
def f_RouteP_lastInto (n : Nat) (μ : Mem) (a1 : Int32) (a2 : Int32) : Option Int32 := cl (f_RouteP_costInto n μ a1 a2) (fun v1 => f_RouteP_lastInto_10 μ n a1 a2 v1 (0 : Int32))
set_option maxHeartbeats 4000000 in
set_option maxRecDepth 100000 in
theorem w_RouteP_lastInto {p : Program} {l : Launch} {e : Env} {s : State} {m : MethodId} {args : Array Value} {below : List Frame} {meth : Method} {c : Code} {D : va_G} {g : Nat → ClassId} {ad : Nat → Nat} {dr : Nat → Option Nat} {pl : va_W} {μ : Mem} {r : Int32} {n : Nat} {a1 : Int32} {a2 : Int32} {ls : Array Slot} (X : Cx p s m args meth c b_Route_lastInto 5 R_Route (some .int) D CL (TY g)) (hP : va_P D CL (WX g ad dr pl μ) s.heap) (hl : lv_has ls 5 [(0, .ref (ad 30)), (1, .int a1), (2, .int a2)]) (hf : f_RouteP_lastInto n μ a1 a2 = some r) : WR p l e rm_RouteP_lastInto s m args below meth c (.int r) (F0 m 0 ls []) := by
  obtain ⟨S, hr, hlk, hK⟩ := id X
  obtain ⟨hx, hb, hml, hown, hts⟩ := id S
  rw [f_RouteP_lastInto] at hf
  refine lv_aload_n hx hb d_Route_lastInto_0 rfl (lv_at hl 0 rfl) ?_
  refine lv_iload_n hx hb d_Route_lastInto_1 rfl (lv_at hl 1 rfl) ?_
  refine lv_iload_n hx hb d_Route_lastInto_2 rfl (lv_at hl 2 rfl) ?_
  obtain ⟨v1, hv1, hf⟩ := cl_x hf
  refine rdV (As := [.int a1, .int a2]) (rest := []) S K_Route_costInto q_503 (c_RouteP_costInto hv1) hK hP ⟨rfl, rfl⟩ ⟨Nat.le_of_ble_eq_true rfl, Nat.le_of_ble_eq_true rfl⟩ (xr_30 hK hP) rfl hl.1 rfl (Nat.le_of_ble_eq_true rfl) d_Route_lastInto_3 ⟨Nat.le_refl _, Nat.le_refl _⟩ ?_
  refine lv_istore_n (lv' := [(3, .int v1), (0, .ref (ad 30)), (1, .int a1), (2, .int a2)]) hx hb d_Route_lastInto_6 rfl hl (Nat.le_of_ble_eq_true rfl) rfl (fun ls hl => ?_)
  refine lv_iconst (v := 0) hx hb d_Route_lastInto_7 (by decide) ?_
  refine lv_istore (lv' := [(4, .int (0 : Int32)), (3, .int v1), (0, .ref (ad 30)), (1, .int a1), (2, .int a2)]) hx hb d_Route_lastInto_8 hl (Nat.le_of_ble_eq_true rfl) rfl (fun ls hl => ?_)
  exact w_RouteP_lastInto_10 X hP _ _ _ _ _ _ (lv_sub (l' := [(0, .ref (ad 30)), (1, .int a1), (2, .int a2), (3, .int v1), (4, .int (0 : Int32))]) hl [2, 3, 4, 1, 0] rfl) hf
theorem c_RouteP_lastInto {l : Launch} {D : va_G} {g : Nat → ClassId} {ad : Nat → Nat} {dr : Nat → Option Nat} {pl : va_W} {μ : Mem} {r : Int32} {n : Nat} {a1 : Int32} {a2 : Int32} (hf : f_RouteP_lastInto n μ a1 a2 = some r) : Met l y_Route_lastInto (Cond.code y_Route_lastInto b_Route_lastInto 5 (some .int) :: ww) rm_RouteP_lastInto (RP D CL (TY g) (WX g ad dr pl μ) [.ref (ad 30), .int a1, .int a2]) (k2_QcV (.int r)) 0 0 (fun _ => False) := by
  refine met_of (by decide) (Nat.le_of_ble_eq_true rfl) ?_
  intro p e s m below meth c ls X hP hl
  have hl : lv_has ls 5 [(0, .ref (ad 30)), (1, .int a1), (2, .int a2)] := hl
  exact w_RouteP_lastInto X hP hl hf
abbrev rm_RouteP_trace : Room := { frames := 3, cells := 0, slots := 0, locals := 71 }
def f_RouteP_trace_12 : Nat → Mem → Int32 → Int32 → Int32 → Option Mem
  | 0, _, _, _, _ => none
  | n + 1, μ, x2, x3, x4 => (if (24 : Int32) ≤ x4 then (some μ) else (if x2 ≤ 0 then (some μ) else (cl (f_RouteP_lastInto n μ x2 x3) (fun v1 => (if v1 = (-1 : Int32) then (some μ) else (gd (inb (μ.1 30 7) 24) (bd (wi μ 34 (μ.1 30 7).toNatClampNeg v1) (fun μ2 => bd (wi μ2 30 7 ((μ2.1 30 7) + (1 : Int32))) (fun μ3 => cl (f_Lattice_begin n μ3 v1) (fun v4 => cl (f_Lattice_part n μ3 v1) (fun v5 => bd (x4 + 1) (fun v6 => (f_RouteP_trace_12 n) μ3 v4 v5 v6))))))))))))
set_option maxHeartbeats 4000000 in
set_option maxRecDepth 100000 in
theorem w_RouteP_trace_12 {p : Program} {l : Launch} {e : Env} {s : State} {m : MethodId} {args : Array Value} {below : List Frame} {meth : Method} {c : Code} {D : va_G} {g : Nat → ClassId} {ad : Nat → Nat} {dr : Nat → Option Nat} {pl : va_W} {μ' : Mem} {A : Nat → Prop} (X : Cx p s m args meth c b_Route_trace 6 R_Route none D CL (TY g)) (hDA : ∀ μ : Mem, va_D A (WX g ad dr pl μ)) : ∀ (n : Nat) (μ : Mem) (x2 : Int32) (x3 : Int32) (x4 : Int32) (ls : Array Slot) (H : Heap) (locs : List Loc), va_P D CL (WX g ad dr pl μ) H → va_S A s.heap H locs → lv_has ls 6 [(0, .ref (ad 30)), (2, .int x2), (3, .int x3), (4, .int x4)] → f_RouteP_trace_12 n μ x2 x3 x4 = some μ' → WU p l e rm_RouteP_trace s m args below meth c H locs D (WX g ad dr pl μ') A none (F0 m 12 ls []) := by
  intro n
  induction n with
  | zero => intro μ x2 x3 x4 ls H locs hP hS hl hf; rw [f_RouteP_trace_12] at hf; cases hf
  | succ n ih =>
    intro μ x2 x3 x4 ls H locs hP hS hl hf
    obtain ⟨S, hr, hlk, hK⟩ := id X
    obtain ⟨hx, hb, hml, hown, hts⟩ := id S
    rw [f_RouteP_trace_12] at hf
    refine lv_iload hx hb d_Route_trace_12 (lv_at hl 3 rfl) ?_
    refine lv_bipush (v := 24) hx hb d_Route_trace_14 (by decide) ?_
    refine lv_icmp_ge (tgt := 85) hx hb d_Route_trace_16 rfl (fun hc => ?_) (fun hc => ?_)
    · replace hf := br_p hc hf
      obtain rfl := Option.some.inj hf
      exact W.vret hx hb hr (fun t ht _ => ⟨rfl, by rw [ht]; exact hP, hS.F ht⟩) hS.2.2 d_Route_trace_85
    · replace hf := br_n hc hf
      refine lv_iload_n hx hb d_Route_trace_19 rfl (lv_at hl 1 rfl) ?_
      refine lv_if_le (tgt := 85) hx hb d_Route_trace_20 rfl (fun hc => ?_) (fun hc => ?_)
      · replace hf := br_p hc hf
        obtain rfl := Option.some.inj hf
        exact W.vret hx hb hr (fun t ht _ => ⟨rfl, by rw [ht]; exact hP, hS.F ht⟩) hS.2.2 d_Route_trace_85
      · replace hf := br_n hc hf
        refine lv_aload_n hx hb d_Route_trace_23 rfl (lv_at hl 0 rfl) ?_
        refine lv_iload_n hx hb d_Route_trace_24 rfl (lv_at hl 1 rfl) ?_
        refine lv_iload_n hx hb d_Route_trace_25 rfl (lv_at hl 2 rfl) ?_
        obtain ⟨v1, hv1, hf⟩ := cl_x hf
        refine rdV (As := [.int x2, .int x3]) (rest := []) S K_Route_lastInto q_533 (c_RouteP_lastInto hv1) hK hP ⟨rfl, rfl⟩ ⟨Nat.le_of_ble_eq_true rfl, Nat.le_of_ble_eq_true rfl⟩ (xr_30 hK hP) rfl hl.1 rfl (Nat.le_of_ble_eq_true rfl) d_Route_trace_26 ⟨Nat.le_refl _, Nat.le_refl _⟩ ?_
        refine lv_istore (lv' := [(5, .int v1), (0, .ref (ad 30)), (2, .int x2), (3, .int x3), (4, .int x4)]) hx hb d_Route_trace_29 hl (Nat.le_of_ble_eq_true rfl) rfl (fun ls hl => ?_)
        refine lv_iload hx hb d_Route_trace_31 (lv_at hl 0 rfl) ?_
        refine lv_iconst (v := -1) hx hb d_Route_trace_33 (by decide) ?_
        refine lv_icmp_ne (tgt := 38) hx hb d_Route_trace_34 rfl (fun hc => ?_) (fun hc => ?_)
        · replace hf := br_n hc hf
          refine lv_aload_n hx hb d_Route_trace_38 rfl (lv_at hl 1 rfl) ?_
          refine xg_30_6 hx hb hts hown hK hP q_160 d_Route_trace_39 ?_
          refine lv_aload_n hx hb d_Route_trace_42 rfl (lv_at hl 1 rfl) ?_
          refine xg_30_7 hx hb hts hown hK hP q_161 d_Route_trace_43 ?_
          refine lv_iload hx hb d_Route_trace_46 (lv_at hl 0 rfl) ?_
          obtain ⟨hi, hf⟩ := gd_x hf
          obtain ⟨μ2, hμ2, hf⟩ := bd_x hf
          refine xs_34 hx hb hK (hDA _) hP hS (inb_in hi) d_Route_trace_48 hμ2 (fun H locs hP hS => ?_)
          refine lv_aload_n hx hb d_Route_trace_49 rfl (lv_at hl 1 rfl) ?_
          refine lv_dup hx hb d_Route_trace_50 rfl ?_
          refine xg_30_7 hx hb hts hown hK hP q_161 d_Route_trace_51 ?_
          refine lv_iconst (v := 1) hx hb d_Route_trace_54 (by decide) ?_
          refine lv_iadd hx hb d_Route_trace_55 ?_
          obtain ⟨μ3, hμ3, hf⟩ := bd_x hf
          refine xp_30_7 hx hb hts hown hK (hDA _) hP hS q_161 d_Route_trace_56 hμ3 (fun H locs hP hS => ?_)
          refine lv_aload_n hx hb d_Route_trace_59 rfl (lv_at hl 1 rfl) ?_
          refine xg_30_0 hx hb hts hown hK hP q_154 d_Route_trace_60 ?_
          refine lv_iload hx hb d_Route_trace_63 (lv_at hl 0 rfl) ?_
          obtain ⟨v4, hv4, hf⟩ := cl_x hf
          refine rdV (As := [.int v1]) (rest := []) S K_Lattice_begin q_495 (c_Lattice_begin hv4) hK hP ⟨rfl, rfl⟩ ⟨Nat.le_of_ble_eq_true rfl, Nat.le_of_ble_eq_true rfl⟩ (xr_18 hK hP) rfl hl.1 rfl (Nat.le_of_ble_eq_true rfl) d_Route_trace_65 ⟨Nat.le_refl _, Nat.le_refl _⟩ ?_
          refine lv_istore_n (lv' := [(2, .int v4), (5, .int v1), (0, .ref (ad 30)), (3, .int x3), (4, .int x4)]) hx hb d_Route_trace_68 rfl hl (Nat.le_of_ble_eq_true rfl) rfl (fun ls hl => ?_)
          refine lv_aload_n hx hb d_Route_trace_69 rfl (lv_at hl 2 rfl) ?_
          refine xg_30_0 hx hb hts hown hK hP q_154 d_Route_trace_70 ?_
          refine lv_iload hx hb d_Route_trace_73 (lv_at hl 1 rfl) ?_
          obtain ⟨v5, hv5, hf⟩ := cl_x hf
          refine rdV (As := [.int v1]) (rest := []) S K_Lattice_part q_499 (c_Lattice_part hv5) hK hP ⟨rfl, rfl⟩ ⟨Nat.le_of_ble_eq_true rfl, Nat.le_of_ble_eq_true rfl⟩ (xr_18 hK hP) rfl hl.1 rfl (Nat.le_of_ble_eq_true rfl) d_Route_trace_75 ⟨Nat.le_refl _, Nat.le_refl _⟩ ?_
          refine lv_istore_n (lv' := [(3, .int v5), (2, .int v4), (5, .int v1), (0, .ref (ad 30)), (4, .int x4)]) hx hb d_Route_trace_78 rfl hl (Nat.le_of_ble_eq_true rfl) rfl (fun ls hl => ?_)
          obtain ⟨v6, hv6, hf⟩ := bd_x hf
          refine lv_iinc (lv' := [(4, .int v6), (3, .int v5), (2, .int v4), (5, .int v1), (0, .ref (ad 30))]) hx hb d_Route_trace_79 hl (k := 4) rfl (show x4 + Int32.ofInt (1) = v6 from hv6) (Nat.le_of_ble_eq_true rfl) rfl (fun ls hl => ?_)
          refine lv_goto (tgt := 12) hx hb d_Route_trace_82 rfl ?_
          exact ih _ _ _ _ _ _ _ hP hS (lv_sub (l' := [(0, .ref (ad 30)), (2, .int v4), (3, .int v5), (4, .int v6)]) hl [4, 2, 1, 0] rfl) hf
        · replace hf := br_p hc hf
          obtain rfl := Option.some.inj hf
          exact W.vret hx hb hr (fun t ht _ => ⟨rfl, by rw [ht]; exact hP, hS.F ht⟩) hS.2.2 d_Route_trace_37
def f_RouteP_trace (n : Nat) (μ : Mem) (a1 : Int32) : Option Mem := bd (wi μ 30 7 (0 : Int32)) (fun μ1 => f_RouteP_trace_12 n μ1 a1 (0 : Int32) (0 : Int32))
set_option maxHeartbeats 4000000 in
set_option maxRecDepth 100000 in
theorem w_RouteP_trace {p : Program} {l : Launch} {e : Env} {s : State} {m : MethodId} {args : Array Value} {below : List Frame} {meth : Method} {c : Code} {D : va_G} {g : Nat → ClassId} {ad : Nat → Nat} {dr : Nat → Option Nat} {pl : va_W} {μ' : Mem} {A : Nat → Prop} {n : Nat} {μ : Mem} {a1 : Int32} {ls : Array Slot} {H : Heap} {locs : List Loc} (X : Cx p s m args meth c b_Route_trace 6 R_Route none D CL (TY g)) (hDA : ∀ μ : Mem, va_D A (WX g ad dr pl μ)) (hP : va_P D CL (WX g ad dr pl μ) H) (hS : va_S A s.heap H locs) (hl : lv_has ls 6 [(0, .ref (ad 30)), (1, .int a1)]) (hf : f_RouteP_trace n μ a1 = some μ') : WU p l e rm_RouteP_trace s m args below meth c H locs D (WX g ad dr pl μ') A none (F0 m 0 ls []) := by
  obtain ⟨S, hr, hlk, hK⟩ := id X
  obtain ⟨hx, hb, hml, hown, hts⟩ := id S
  rw [f_RouteP_trace] at hf
  refine lv_aload_n hx hb d_Route_trace_0 rfl (lv_at hl 0 rfl) ?_
  refine lv_iconst (v := 0) hx hb d_Route_trace_1 (by decide) ?_
  obtain ⟨μ1, hμ1, hf⟩ := bd_x hf
  refine xp_30_7 hx hb hts hown hK (hDA _) hP hS q_161 d_Route_trace_2 hμ1 (fun H locs hP hS => ?_)
  refine lv_iload_n hx hb d_Route_trace_5 rfl (lv_at hl 1 rfl) ?_
  refine lv_istore_n (lv' := [(2, .int a1), (0, .ref (ad 30)), (1, .int a1)]) hx hb d_Route_trace_6 rfl hl (Nat.le_of_ble_eq_true rfl) rfl (fun ls hl => ?_)
  refine lv_iconst (v := 0) hx hb d_Route_trace_7 (by decide) ?_
  refine lv_istore_n (lv' := [(3, .int (0 : Int32)), (2, .int a1), (0, .ref (ad 30)), (1, .int a1)]) hx hb d_Route_trace_8 rfl hl (Nat.le_of_ble_eq_true rfl) rfl (fun ls hl => ?_)
  refine lv_iconst (v := 0) hx hb d_Route_trace_9 (by decide) ?_
  refine lv_istore (lv' := [(4, .int (0 : Int32)), (3, .int (0 : Int32)), (2, .int a1), (0, .ref (ad 30)), (1, .int a1)]) hx hb d_Route_trace_10 hl (Nat.le_of_ble_eq_true rfl) rfl (fun ls hl => ?_)
  exact w_RouteP_trace_12 X hDA _ _ _ _ _ _ _ _ hP hS (lv_sub (l' := [(0, .ref (ad 30)), (2, .int a1), (3, .int (0 : Int32)), (4, .int (0 : Int32))]) hl [3, 2, 1, 0] rfl) hf
theorem c_RouteP_trace {l : Launch} {D : va_G} {g : Nat → ClassId} {ad : Nat → Nat} {dr : Nat → Option Nat} {pl : va_W} {μ : Mem} {μ' : Mem} {A : Nat → Prop} {n : Nat} {a1 : Int32} (hDA : ∀ μ : Mem, va_D A (WX g ad dr pl μ)) (hf : f_RouteP_trace n μ a1 = some μ') : Met l y_Route_trace (Cond.code y_Route_trace b_Route_trace 6 none :: ww) rm_RouteP_trace (RP D CL (TY g) (WX g ad dr pl μ) [.ref (ad 30), .int a1]) (QW D CL (WX g ad dr pl μ') A none) 0 0 A := by
  refine met_of (by decide) (Nat.le_of_ble_eq_true rfl) ?_
  intro p e s m below meth c ls X hP hl
  have hl : lv_has ls 6 [(0, .ref (ad 30)), (1, .int a1)] := hl
  exact w_RouteP_trace X hDA hP va_S.rf hl hf
abbrev rm_RouteP_find : Room := { frames := 4, cells := 0, slots := 0, locals := 96 }
def f_RouteP_find_18 : Nat → Mem → Int32 → Option Mem
  | 0, _, _ => none
  | n + 1, μ, x1 => cl (f_Lattice_count n μ) (fun v1 => (if v1 ≤ x1 then (cl (f_Lattice_draftSize n μ) (fun v2 => cl (f_RouteP_costInto n μ v2 (0 : Int32)) (fun v3 => bd (wi μ 30 8 v3) (fun μ4 => cl (f_RouteP_waysInto n μ4 v2 (0 : Int32) (μ4.1 30 8)) (fun v5 => bd (wl μ4 30 9 v5) (fun μ6 => cl (f_RouteP_trace n μ6 v2) (fun μ8 => some μ8))))))) else (cl (f_RouteP_reach n μ x1) (fun μ10 => bd (x1 + 1) (fun v11 => (f_RouteP_find_18 n) μ10 v11)))))
set_option maxHeartbeats 4000000 in
set_option maxRecDepth 100000 in
theorem w_RouteP_find_18 {p : Program} {l : Launch} {e : Env} {s : State} {m : MethodId} {args : Array Value} {below : List Frame} {meth : Method} {c : Code} {D : va_G} {g : Nat → ClassId} {ad : Nat → Nat} {dr : Nat → Option Nat} {pl : va_W} {μ' : Mem} {A : Nat → Prop} (X : Cx p s m args meth c b_Route_find 2 R_Route none D CL (TY g)) (hDA : ∀ μ : Mem, va_D A (WX g ad dr pl μ)) : ∀ (n : Nat) (μ : Mem) (x1 : Int32) (ls : Array Slot) (H : Heap) (locs : List Loc), va_P D CL (WX g ad dr pl μ) H → va_S A s.heap H locs → lv_has ls 2 [(0, .ref (ad 30)), (1, .int x1)] → f_RouteP_find_18 n μ x1 = some μ' → WU p l e rm_RouteP_find s m args below meth c H locs D (WX g ad dr pl μ') A none (F0 m 18 ls []) := by
  intro n
  induction n with
  | zero => intro μ x1 ls H locs hP hS hl hf; rw [f_RouteP_find_18] at hf; cases hf
  | succ n ih =>
    intro μ x1 ls H locs hP hS hl hf
    obtain ⟨S, hr, hlk, hK⟩ := id X
    obtain ⟨hx, hb, hml, hown, hts⟩ := id S
    rw [f_RouteP_find_18] at hf
    refine lv_iload_n hx hb d_Route_find_18 rfl (lv_at hl 1 rfl) ?_
    refine lv_aload_n hx hb d_Route_find_19 rfl (lv_at hl 0 rfl) ?_
    refine xg_30_0 hx hb hts hown hK hP q_154 d_Route_find_20 ?_
    obtain ⟨v1, hv1, hf⟩ := cl_x hf
    refine rdV (As := []) (rest := [.int x1]) S K_Lattice_count q_487 (c_Lattice_count hv1) hK hP ⟨rfl, rfl⟩ ⟨Nat.le_of_ble_eq_true rfl, Nat.le_of_ble_eq_true rfl⟩ (xr_18 hK hP) rfl hl.1 rfl (Nat.le_of_ble_eq_true rfl) d_Route_find_23 ⟨Nat.le_refl _, Nat.le_refl _⟩ ?_
    refine lv_icmp_ge (tgt := 40) hx hb d_Route_find_26 rfl (fun hc => ?_) (fun hc => ?_)
    · replace hf := br_p hc hf
      refine lv_aload_n hx hb d_Route_find_40 rfl (lv_at hl 0 rfl) ?_
      refine xg_30_0 hx hb hts hown hK hP q_154 d_Route_find_41 ?_
      obtain ⟨v2, hv2, hf⟩ := cl_x hf
      refine rdV (As := []) (rest := []) S K_Lattice_draftSize q_525 (c_Lattice_draftSize hv2) hK hP ⟨rfl, rfl⟩ ⟨Nat.le_of_ble_eq_true rfl, Nat.le_of_ble_eq_true rfl⟩ (xr_18 hK hP) rfl hl.1 rfl (Nat.le_of_ble_eq_true rfl) d_Route_find_44 ⟨Nat.le_refl _, Nat.le_refl _⟩ ?_
      refine lv_istore_n (lv' := [(1, .int v2), (0, .ref (ad 30))]) hx hb d_Route_find_47 rfl hl (Nat.le_of_ble_eq_true rfl) rfl (fun ls hl => ?_)
      refine lv_aload_n hx hb d_Route_find_48 rfl (lv_at hl 1 rfl) ?_
      refine lv_aload_n hx hb d_Route_find_49 rfl (lv_at hl 1 rfl) ?_
      refine lv_iload_n hx hb d_Route_find_50 rfl (lv_at hl 0 rfl) ?_
      refine lv_iconst (v := 0) hx hb d_Route_find_51 (by decide) ?_
      obtain ⟨v3, hv3, hf⟩ := cl_x hf
      refine rdV (As := [.int v2, .int (0 : Int32)]) (rest := [.ref (ad 30)]) S K_Route_costInto q_503 (c_RouteP_costInto hv3) hK hP ⟨rfl, rfl⟩ ⟨Nat.le_of_ble_eq_true rfl, Nat.le_of_ble_eq_true rfl⟩ (xr_30 hK hP) rfl hl.1 rfl (Nat.le_of_ble_eq_true rfl) d_Route_find_52 ⟨Nat.le_refl _, Nat.le_refl _⟩ ?_
      obtain ⟨μ4, hμ4, hf⟩ := bd_x hf
      refine xp_30_8 hx hb hts hown hK (hDA _) hP hS q_162 d_Route_find_55 hμ4 (fun H locs hP hS => ?_)
      refine lv_aload_n hx hb d_Route_find_58 rfl (lv_at hl 1 rfl) ?_
      refine lv_aload_n hx hb d_Route_find_59 rfl (lv_at hl 1 rfl) ?_
      refine lv_iload_n hx hb d_Route_find_60 rfl (lv_at hl 0 rfl) ?_
      refine lv_iconst (v := 0) hx hb d_Route_find_61 (by decide) ?_
      refine lv_aload_n hx hb d_Route_find_62 rfl (lv_at hl 1 rfl) ?_
      refine xg_30_8 hx hb hts hown hK hP q_162 d_Route_find_63 ?_
      obtain ⟨v5, hv5, hf⟩ := cl_x hf
      refine rdV (As := [.int v2, .int (0 : Int32), .int (μ4.1 30 8)]) (rest := [.ref (ad 30)]) S K_Route_waysInto q_521 (c_RouteP_waysInto hv5) hK hP ⟨rfl, rfl⟩ ⟨Nat.le_of_ble_eq_true rfl, Nat.le_of_ble_eq_true rfl⟩ (xr_30 hK hP) rfl hl.1 rfl (Nat.le_of_ble_eq_true rfl) d_Route_find_66 ⟨Nat.le_refl _, Nat.le_refl _⟩ ?_
      obtain ⟨μ6, hμ6, hf⟩ := bd_x hf
      refine xp_30_9 hx hb hts hown hK (hDA _) hP hS q_163 d_Route_find_69 hμ6 (fun H locs hP hS => ?_)
      refine lv_aload_n hx hb d_Route_find_72 rfl (lv_at hl 1 rfl) ?_
      refine lv_iload_n hx hb d_Route_find_73 rfl (lv_at hl 0 rfl) ?_
      obtain ⟨μ8, hv7, hf⟩ := cl_x hf
      refine wrV (As := [.int v2]) (rest := []) S K_Route_trace q_529 (c_RouteP_trace hDA hv7) hK hP hS ⟨rfl, rfl⟩ ⟨Nat.le_of_ble_eq_true rfl, Nat.le_of_ble_eq_true rfl⟩ (xr_30 hK hP) rfl hl.1 rfl (Nat.le_of_ble_eq_true rfl) d_Route_find_74 ⟨Nat.le_refl _, Nat.le_refl _⟩ (fun H locs hP hS => ?_)
      obtain rfl := Option.some.inj hf
      exact W.vret hx hb hr (fun t ht _ => ⟨rfl, by rw [ht]; exact hP, hS.F ht⟩) hS.2.2 d_Route_find_77
    · replace hf := br_n hc hf
      refine lv_aload_n hx hb d_Route_find_29 rfl (lv_at hl 0 rfl) ?_
      refine lv_iload_n hx hb d_Route_find_30 rfl (lv_at hl 1 rfl) ?_
      obtain ⟨μ10, hv9, hf⟩ := cl_x hf
      refine wrV (As := [.int x1]) (rest := []) S K_Route_reach q_491 (c_RouteP_reach hDA hv9) hK hP hS ⟨rfl, rfl⟩ ⟨Nat.le_of_ble_eq_true rfl, Nat.le_of_ble_eq_true rfl⟩ (xr_30 hK hP) rfl hl.1 rfl (Nat.le_of_ble_eq_true rfl) d_Route_find_31 ⟨Nat.le_refl _, Nat.le_refl _⟩ (fun H locs hP hS => ?_)
      obtain ⟨v11, hv11, hf⟩ := bd_x hf
      refine lv_iinc (lv' := [(1, .int v11), (0, .ref (ad 30))]) hx hb d_Route_find_34 hl (k := 1) rfl (show x1 + Int32.ofInt (1) = v11 from hv11) (Nat.le_of_ble_eq_true rfl) rfl (fun ls hl => ?_)
      refine lv_goto (tgt := 18) hx hb d_Route_find_37 rfl ?_
      exact ih _ _ _ _ _ hP hS (lv_sub (l' := [(0, .ref (ad 30)), (1, .int v11)]) hl [1, 0] rfl) hf
def f_RouteP_find (n : Nat) (μ : Mem) : Option Mem := cl (f_Arrays_fill_AJJ_V_c33 n μ (0 : Int64)) (fun μ2 => cl (f_RouteP_arrive n μ2 (0 : Int32) (0 : Int32) (0 : Int32) (1 : Int64)) (fun μ4 => f_RouteP_find_18 n μ4 (0 : Int32)))
set_option maxHeartbeats 4000000 in
set_option maxRecDepth 100000 in
theorem w_RouteP_find {p : Program} {l : Launch} {e : Env} {s : State} {m : MethodId} {args : Array Value} {below : List Frame} {meth : Method} {c : Code} {D : va_G} {g : Nat → ClassId} {ad : Nat → Nat} {dr : Nat → Option Nat} {pl : va_W} {μ' : Mem} {A : Nat → Prop} {n : Nat} {μ : Mem} {ls : Array Slot} {H : Heap} {locs : List Loc} (X : Cx p s m args meth c b_Route_find 2 R_Route none D CL (TY g)) (hDA : ∀ μ : Mem, va_D A (WX g ad dr pl μ)) (hP : va_P D CL (WX g ad dr pl μ) H) (hS : va_S A s.heap H locs) (hl : lv_has ls 2 [(0, .ref (ad 30))]) (hf : f_RouteP_find n μ = some μ') : WU p l e rm_RouteP_find s m args below meth c H locs D (WX g ad dr pl μ') A none (F0 m 0 ls []) := by
  obtain ⟨S, hr, hlk, hK⟩ := id X
  obtain ⟨hx, hb, hml, hown, hts⟩ := id S
  rw [f_RouteP_find] at hf
  refine lv_aload_n hx hb d_Route_find_0 rfl (lv_at hl 0 rfl) ?_
  refine xg_30_5 hx hb hts hown hK hP q_159 d_Route_find_1 ?_
  refine lv_lconst (v := 0) hx hb d_Route_find_4 (by decide) ?_
  obtain ⟨μ2, hv1, hf⟩ := cl_x hf
  refine wrS (As := [.ref (ad 33), .long (0 : Int64)]) (rest := []) S K_Arrays_fill_AJJ_V q_480 (c_Arrays_fill_AJJ_V_c33 hDA hv1) hK hP hS ⟨rfl, rfl⟩ ⟨Nat.le_of_ble_eq_true rfl, Nat.le_of_ble_eq_true rfl⟩ rfl hl.1 rfl (Nat.le_of_ble_eq_true rfl) d_Route_find_5 ⟨Nat.le_refl _, Nat.le_refl _⟩ (fun H locs hP hS => ?_)
  refine lv_aload_n hx hb d_Route_find_8 rfl (lv_at hl 0 rfl) ?_
  refine lv_iconst (v := 0) hx hb d_Route_find_9 (by decide) ?_
  refine lv_iconst (v := 0) hx hb d_Route_find_10 (by decide) ?_
  refine lv_iconst (v := 0) hx hb d_Route_find_11 (by decide) ?_
  refine lv_lconst (v := 1) hx hb d_Route_find_12 (by decide) ?_
  obtain ⟨μ4, hv3, hf⟩ := cl_x hf
  refine wrV (As := [.int (0 : Int32), .int (0 : Int32), .int (0 : Int32), .long (1 : Int64)]) (rest := []) S K_Route_arrive q_483 (c_RouteP_arrive hDA hv3) hK hP hS ⟨rfl, rfl⟩ ⟨Nat.le_of_ble_eq_true rfl, Nat.le_of_ble_eq_true rfl⟩ (xr_30 hK hP) rfl hl.1 rfl (Nat.le_of_ble_eq_true rfl) d_Route_find_13 ⟨Nat.le_refl _, Nat.le_refl _⟩ (fun H locs hP hS => ?_)
  refine lv_iconst (v := 0) hx hb d_Route_find_16 (by decide) ?_
  refine lv_istore_n (lv' := [(1, .int (0 : Int32)), (0, .ref (ad 30))]) hx hb d_Route_find_17 rfl hl (Nat.le_of_ble_eq_true rfl) rfl (fun ls hl => ?_)
  exact w_RouteP_find_18 X hDA _ _ _ _ _ _ hP hS (lv_sub (l' := [(0, .ref (ad 30)), (1, .int (0 : Int32))]) hl [1, 0] rfl) hf
theorem c_RouteP_find {l : Launch} {D : va_G} {g : Nat → ClassId} {ad : Nat → Nat} {dr : Nat → Option Nat} {pl : va_W} {μ : Mem} {μ' : Mem} {A : Nat → Prop} {n : Nat} (hDA : ∀ μ : Mem, va_D A (WX g ad dr pl μ)) (hf : f_RouteP_find n μ = some μ') : Met l y_Route_find (Cond.code y_Route_find b_Route_find 2 none :: ww) rm_RouteP_find (RP D CL (TY g) (WX g ad dr pl μ) [.ref (ad 30)]) (QW D CL (WX g ad dr pl μ') A none) 0 0 A := by
  refine met_of (by decide) (Nat.le_of_ble_eq_true rfl) ?_
  intro p e s m below meth c ls X hP hl
  have hl : lv_has ls 2 [(0, .ref (ad 30))] := hl
  exact w_RouteP_find X hDA hP va_S.rf hl hf
abbrev rm_RouteP_leastCost : Room := { frames := 0, cells := 0, slots := 0, locals := 0 }
def f_RouteP_leastCost (n : Nat) (μ : Mem) : Option Int32 := some (μ.1 30 8)
set_option maxHeartbeats 4000000 in
set_option maxRecDepth 100000 in
theorem w_RouteP_leastCost {p : Program} {l : Launch} {e : Env} {s : State} {m : MethodId} {args : Array Value} {below : List Frame} {meth : Method} {c : Code} {D : va_G} {g : Nat → ClassId} {ad : Nat → Nat} {dr : Nat → Option Nat} {pl : va_W} {μ : Mem} {r : Int32} {n : Nat} {ls : Array Slot} (X : Cx p s m args meth c b_Route_leastCost 1 R_Route (some .int) D CL (TY g)) (hP : va_P D CL (WX g ad dr pl μ) s.heap) (hl : lv_has ls 1 [(0, .ref (ad 30))]) (hf : f_RouteP_leastCost n μ = some r) : WR p l e rm_RouteP_leastCost s m args below meth c (.int r) (F0 m 0 ls []) := by
  obtain ⟨S, hr, hlk, hK⟩ := id X
  obtain ⟨hx, hb, hml, hown, hts⟩ := id S
  rw [f_RouteP_leastCost] at hf
  refine lv_aload_n hx hb d_Route_leastCost_0 rfl (lv_at hl 0 rfl) ?_
  refine xg_30_8 hx hb hts hown hK hP q_162 d_Route_leastCost_1 ?_
  have h1 := Option.some.inj hf
  subst h1
  exact W.iret hx hb hr (fun t ht _ => ⟨rfl, ht⟩) (fun _ h => by cases h) d_Route_leastCost_4
theorem c_RouteP_leastCost {l : Launch} {D : va_G} {g : Nat → ClassId} {ad : Nat → Nat} {dr : Nat → Option Nat} {pl : va_W} {μ : Mem} {r : Int32} {n : Nat} (hf : f_RouteP_leastCost n μ = some r) : Met l y_Route_leastCost (Cond.code y_Route_leastCost b_Route_leastCost 1 (some .int) :: ww) rm_RouteP_leastCost (RP D CL (TY g) (WX g ad dr pl μ) [.ref (ad 30)]) (k2_QcV (.int r)) 0 0 (fun _ => False) := by
  refine met_of (by decide) (Nat.le_of_ble_eq_true rfl) ?_
  intro p e s m below meth c ls X hP hl
  have hl : lv_has ls 1 [(0, .ref (ad 30))] := hl
  exact w_RouteP_leastCost X hP hl hf
abbrev rm_RouteP_leastCount : Room := { frames := 0, cells := 0, slots := 0, locals := 0 }
def f_RouteP_leastCount (n : Nat) (μ : Mem) : Option Int64 := some (μ.2 30 9)
set_option maxHeartbeats 4000000 in
set_option maxRecDepth 100000 in
theorem w_RouteP_leastCount {p : Program} {l : Launch} {e : Env} {s : State} {m : MethodId} {args : Array Value} {below : List Frame} {meth : Method} {c : Code} {D : va_G} {g : Nat → ClassId} {ad : Nat → Nat} {dr : Nat → Option Nat} {pl : va_W} {μ : Mem} {r : Int64} {n : Nat} {ls : Array Slot} (X : Cx p s m args meth c b_Route_leastCount 1 R_Route (some .long) D CL (TY g)) (hP : va_P D CL (WX g ad dr pl μ) s.heap) (hl : lv_has ls 1 [(0, .ref (ad 30))]) (hf : f_RouteP_leastCount n μ = some r) : WR p l e rm_RouteP_leastCount s m args below meth c (.long r) (F0 m 0 ls []) := by
  obtain ⟨S, hr, hlk, hK⟩ := id X
  obtain ⟨hx, hb, hml, hown, hts⟩ := id S
  rw [f_RouteP_leastCount] at hf
  refine lv_aload_n hx hb d_Route_leastCount_0 rfl (lv_at hl 0 rfl) ?_
  refine xg_30_9 hx hb hts hown hK hP q_163 d_Route_leastCount_1 ?_
  have h1 := Option.some.inj hf
  subst h1
  exact W.lret hx hb hr (fun t ht _ => ⟨rfl, ht⟩) (fun _ h => by cases h) d_Route_leastCount_4
theorem c_RouteP_leastCount {l : Launch} {D : va_G} {g : Nat → ClassId} {ad : Nat → Nat} {dr : Nat → Option Nat} {pl : va_W} {μ : Mem} {r : Int64} {n : Nat} (hf : f_RouteP_leastCount n μ = some r) : Met l y_Route_leastCount (Cond.code y_Route_leastCount b_Route_leastCount 1 (some .long) :: ww) rm_RouteP_leastCount (RP D CL (TY g) (WX g ad dr pl μ) [.ref (ad 30)]) (k2_QcV (.long r)) 0 0 (fun _ => False) := by
  refine met_of (by decide) (Nat.le_of_ble_eq_true rfl) ?_
  intro p e s m below meth c ls X hP hl
  have hl : lv_has ls 1 [(0, .ref (ad 30))] := hl
  exact w_RouteP_leastCount X hP hl hf
abbrev rm_RouteP_length : Room := { frames := 0, cells := 0, slots := 0, locals := 0 }
def f_RouteP_length (n : Nat) (μ : Mem) : Option Int32 := some (μ.1 30 7)
set_option maxHeartbeats 4000000 in
set_option maxRecDepth 100000 in
theorem w_RouteP_length {p : Program} {l : Launch} {e : Env} {s : State} {m : MethodId} {args : Array Value} {below : List Frame} {meth : Method} {c : Code} {D : va_G} {g : Nat → ClassId} {ad : Nat → Nat} {dr : Nat → Option Nat} {pl : va_W} {μ : Mem} {r : Int32} {n : Nat} {ls : Array Slot} (X : Cx p s m args meth c b_Route_length 1 R_Route (some .int) D CL (TY g)) (hP : va_P D CL (WX g ad dr pl μ) s.heap) (hl : lv_has ls 1 [(0, .ref (ad 30))]) (hf : f_RouteP_length n μ = some r) : WR p l e rm_RouteP_length s m args below meth c (.int r) (F0 m 0 ls []) := by
  obtain ⟨S, hr, hlk, hK⟩ := id X
  obtain ⟨hx, hb, hml, hown, hts⟩ := id S
  rw [f_RouteP_length] at hf
  refine lv_aload_n hx hb d_Route_length_0 rfl (lv_at hl 0 rfl) ?_
  refine xg_30_7 hx hb hts hown hK hP q_161 d_Route_length_1 ?_
  have h1 := Option.some.inj hf
  subst h1
  exact W.iret hx hb hr (fun t ht _ => ⟨rfl, ht⟩) (fun _ h => by cases h) d_Route_length_4
theorem c_RouteP_length {l : Launch} {D : va_G} {g : Nat → ClassId} {ad : Nat → Nat} {dr : Nat → Option Nat} {pl : va_W} {μ : Mem} {r : Int32} {n : Nat} (hf : f_RouteP_length n μ = some r) : Met l y_Route_length (Cond.code y_Route_length b_Route_length 1 (some .int) :: ww) rm_RouteP_length (RP D CL (TY g) (WX g ad dr pl μ) [.ref (ad 30)]) (k2_QcV (.int r)) 0 0 (fun _ => False) := by
  refine met_of (by decide) (Nat.le_of_ble_eq_true rfl) ?_
  intro p e s m below meth c ls X hP hl
  have hl : lv_has ls 1 [(0, .ref (ad 30))] := hl
  exact w_RouteP_length X hP hl hf
abbrev rm_RouteP_node : Room := { frames := 0, cells := 0, slots := 0, locals := 0 }
def f_RouteP_node (n : Nat) (μ : Mem) (a1 : Int32) : Option Int32 := gd (inb (((μ.1 30 7) - (1 : Int32)) - a1) 24) (some (μ.1 34 (((μ.1 30 7) - (1 : Int32)) - a1).toNatClampNeg))
set_option maxHeartbeats 4000000 in
set_option maxRecDepth 100000 in
theorem w_RouteP_node {p : Program} {l : Launch} {e : Env} {s : State} {m : MethodId} {args : Array Value} {below : List Frame} {meth : Method} {c : Code} {D : va_G} {g : Nat → ClassId} {ad : Nat → Nat} {dr : Nat → Option Nat} {pl : va_W} {μ : Mem} {r : Int32} {n : Nat} {a1 : Int32} {ls : Array Slot} (X : Cx p s m args meth c b_Route_node 2 R_Route (some .int) D CL (TY g)) (hP : va_P D CL (WX g ad dr pl μ) s.heap) (hl : lv_has ls 2 [(0, .ref (ad 30)), (1, .int a1)]) (hf : f_RouteP_node n μ a1 = some r) : WR p l e rm_RouteP_node s m args below meth c (.int r) (F0 m 0 ls []) := by
  obtain ⟨S, hr, hlk, hK⟩ := id X
  obtain ⟨hx, hb, hml, hown, hts⟩ := id S
  rw [f_RouteP_node] at hf
  refine lv_aload_n hx hb d_Route_node_0 rfl (lv_at hl 0 rfl) ?_
  refine xg_30_6 hx hb hts hown hK hP q_160 d_Route_node_1 ?_
  refine lv_aload_n hx hb d_Route_node_4 rfl (lv_at hl 0 rfl) ?_
  refine xg_30_7 hx hb hts hown hK hP q_161 d_Route_node_5 ?_
  refine lv_iconst (v := 1) hx hb d_Route_node_8 (by decide) ?_
  refine lv_isub hx hb d_Route_node_9 ?_
  refine lv_iload_n hx hb d_Route_node_10 rfl (lv_at hl 1 rfl) ?_
  refine lv_isub hx hb d_Route_node_11 ?_
  obtain ⟨hi, hf⟩ := gd_x hf
  refine xl_34 hx hb hK hP (inb_in hi) d_Route_node_12 ?_
  have h1 := Option.some.inj hf
  subst h1
  exact W.iret hx hb hr (fun t ht _ => ⟨rfl, ht⟩) (fun _ h => by cases h) d_Route_node_13
theorem c_RouteP_node {l : Launch} {D : va_G} {g : Nat → ClassId} {ad : Nat → Nat} {dr : Nat → Option Nat} {pl : va_W} {μ : Mem} {r : Int32} {n : Nat} {a1 : Int32} (hf : f_RouteP_node n μ a1 = some r) : Met l y_Route_node (Cond.code y_Route_node b_Route_node 2 (some .int) :: ww) rm_RouteP_node (RP D CL (TY g) (WX g ad dr pl μ) [.ref (ad 30), .int a1]) (k2_QcV (.int r)) 0 0 (fun _ => False) := by
  refine met_of (by decide) (Nat.le_of_ble_eq_true rfl) ?_
  intro p e s m below meth c ls X hP hl
  have hl : lv_has ls 2 [(0, .ref (ad 30)), (1, .int a1)] := hl
  exact w_RouteP_node X hP hl hf
