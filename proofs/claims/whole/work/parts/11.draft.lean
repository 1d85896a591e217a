theorem d_Draft_size_0 : decode b_Draft_size 0 = .ok (.aload_n 0, 1) := by decide +kernel
theorem d_Draft_size_1 : decode b_Draft_size 1 = .ok (.getfield 15, 3) := by decide +kernel
theorem d_Draft_size_4 : decode b_Draft_size 4 = .ok (.ireturn, 1) := by decide +kernel
abbrev rm_Draft_size : Room := { frames := 0, cells := 0, slots := 0, locals := 0 }
def f_Draft_size (n : Nat) (μ : Mem) : Option Int32 := some (μ.1 1 1)
set_option maxHeartbeats 4000000 in
set_option maxRecDepth 100000 in
theorem w_Draft_size {p : Program} {l : Launch} {e : Env} {s : State} {m : MethodId} {args : Array Value} {below : List Frame} {meth : Method} {c : Code} {D : va_G} {g : Nat → ClassId} {ad : Nat → Nat} {dr : Nat → Option Nat} {pl : va_W} {μ : Mem} {r : Int32} {n : Nat} {ls : Array Slot} (X : Cx p s m args meth c b_Draft_size 1 R_Draft (some .int) D CL (TY g)) (hP : va_P D CL (WX g ad dr pl μ) s.heap) (hl : lv_has ls 1 [(0, .ref (ad 1))]) (hf : f_Draft_size n μ = some r) : WR p l e rm_Draft_size s m args below meth c (.int r) (F0 m 0 ls []) := by
  obtain ⟨S, hr, hlk, hK⟩ := id X
  obtain ⟨hx, hb, hml, hown, hts⟩ := id S
  rw [f_Draft_size] at hf
  refine lv_aload_n hx hb d_Draft_size_0 rfl (lv_at hl 0 rfl) ?_
  refine xg_1_1 hx hb hts hown hK hP q_31 d_Draft_size_1 ?_
  have h1 := Option.some.inj hf
  subst h1
  exact W.iret hx hb hr (fun t ht _ => ⟨rfl, ht⟩) (fun _ h => by cases h) d_Draft_size_4
theorem c_Draft_size {l : Launch} {D : va_G} {g : Nat → ClassId} {ad : Nat → Nat} {dr : Nat → Option Nat} {pl : va_W} {μ : Mem} {r : Int32} {n : Nat} (hf : f_Draft_size n μ = some r) : Met l y_Draft_size (Cond.code y_Draft_size b_Draft_size 1 (some .int) :: ww) rm_Draft_size (RP D CL (TY g) (WX g ad dr pl μ) [.ref (ad 1)]) (k2_QcV (.int r)) 0 0 (fun _ => False) := by
  refine met_of (by decide) (Nat.le_of_ble_eq_true rfl) ?_
  intro p e s m below meth c ls X hP hl
  have hl : lv_has ls 1 [(0, .ref (ad 1))] := hl
  exact w_Draft_size X hP hl hf
theorem d_Draft_clear_0 : decode b_Draft_clear 0 = .ok (.aload_n 0, 1) := by decide +kernel
theorem d_Draft_clear_1 : decode b_Draft_clear 1 = .ok (.iconst 0, 1) := by decide +kernel
theorem d_Draft_clear_2 : decode b_Draft_clear 2 = .ok (.putfield 15, 3) := by decide +kernel
theorem d_Draft_clear_5 : decode b_Draft_clear 5 = .ok (.return_, 1) := by decide +kernel
abbrev rm_Draft_clear : Room := { frames := 0, cells := 0, slots := 0, locals := 0 }
def f_Draft_clear (n : Nat) (μ : Mem) : Option Mem := bd (wi μ 1 1 (0 : Int32)) (fun μ1 => some μ1)
set_option maxHeartbeats 4000000 in
set_option maxRecDepth 100000 in
theorem w_Draft_clear {p : Program} {l : Launch} {e : Env} {s : State} {m : MethodId} {args : Array Value} {below : List Frame} {meth : Method} {c : Code} {D : va_G} {g : Nat → ClassId} {ad : Nat → Nat} {dr : Nat → Option Nat} {pl : va_W} {μ' : Mem} {A : Nat → Prop} {n : Nat} {μ : Mem} {ls : Array Slot} {H : Heap} {locs : List Loc} (X : Cx p s m args meth c b_Draft_clear 1 R_Draft none D CL (TY g)) (hDA : ∀ μ : Mem, va_D A (WX g ad dr pl μ)) (hP : va_P D CL (WX g ad dr pl μ) H) (hS : va_S A s.heap H locs) (hl : lv_has ls 1 [(0, .ref (ad 1))]) (hf : f_Draft_clear n μ = some μ') : WU p l e rm_Draft_clear s m args below meth c H locs D (WX g ad dr pl μ') A none (F0 m 0 ls []) := by
  obtain ⟨S, hr, hlk, hK⟩ := id X
  obtain ⟨hx, hb, hml, hown, hts⟩ := id S
  rw [f_Draft_clear] at hf
  refine lv_aload_n hx hb d_Draft_clear_0 rfl (lv_at hl 0 rfl) ?_
  refine lv_iconst (v := 0) hx hb d_Draft_clear_1 (by decide) ?_
  obtain ⟨μ1, hμ1, hf⟩ := bd_x hf
  refine xp_1_1 hx hb hts hown hK (hDA _) hP hS q_31 d_Draft_clear_2 hμ1 (fun H locs hP hS => ?_)
  obtain rfl := Option.some.inj hf
  exact W.vret hx hb hr (fun t ht _ => ⟨rfl, by rw [ht]; exact hP, hS.F ht⟩) hS.2.2 d_Draft_clear_5
theorem c_Draft_clear {l : Launch} {D : va_G} {g : Nat → ClassId} {ad : Nat → Nat} {dr : Nat → Option Nat} {pl : va_W} {μ : Mem} {μ' : Mem} {A : Nat → Prop} {n : Nat} (hDA : ∀ μ : Mem, va_D A (WX g ad dr pl μ)) (hf : f_Draft_clear n μ = some μ') : Met l y_Draft_clear (Cond.code y_Draft_clear b_Draft_clear 1 none :: ww) rm_Draft_clear (RP D CL (TY g) (WX g ad dr pl μ) [.ref (ad 1)]) (QW D CL (WX g ad dr pl μ') A none) 0 0 A := by
  refine met_of (by decide) (Nat.le_of_ble_eq_true rfl) ?_
  intro p e s m below meth c ls X hP hl
  have hl : lv_has ls 1 [(0, .ref (ad 1))] := hl
  exact w_Draft_clear X hDA hP va_S.rf hl hf
theorem d_Draft_append_0 : decode b_Draft_append 0 = .ok (.lload_n 1, 1) := by decide +kernel
theorem d_Draft_append_1 : decode b_Draft_append 1 = .ok (.invokestatic 19, 3) := by decide +kernel
theorem d_Draft_append_4 : decode b_Draft_append 4 = .ok (.istore_n 3, 1) := by decide +kernel
theorem d_Draft_append_5 : decode b_Draft_append 5 = .ok (.iload_n 3, 1) := by decide +kernel
theorem d_Draft_append_6 : decode b_Draft_append 6 = .ok (.ifCond .eq 14, 3) := by decide +kernel
theorem d_Draft_append_9 : decode b_Draft_append 9 = .ok (.aload_n 0, 1) := by decide +kernel
theorem d_Draft_append_10 : decode b_Draft_append 10 = .ok (.getfield 15, 3) := by decide +kernel
theorem d_Draft_append_13 : decode b_Draft_append 13 = .ok (.iload_n 3, 1) := by decide +kernel
theorem d_Draft_append_14 : decode b_Draft_append 14 = .ok (.iadd, 1) := by decide +kernel
theorem d_Draft_append_15 : decode b_Draft_append 15 = .ok (.bipush 24, 2) := by decide +kernel
theorem d_Draft_append_17 : decode b_Draft_append 17 = .ok (.if_icmp .le 5, 3) := by decide +kernel
theorem d_Draft_append_20 : decode b_Draft_append 20 = .ok (.iconst 0, 1) := by decide +kernel
theorem d_Draft_append_21 : decode b_Draft_append 21 = .ok (.ireturn, 1) := by decide +kernel
theorem d_Draft_append_22 : decode b_Draft_append 22 = .ok (.iconst 0, 1) := by decide +kernel
theorem d_Draft_append_23 : decode b_Draft_append 23 = .ok (.istore 4, 2) := by decide +kernel
theorem d_Draft_append_25 : decode b_Draft_append 25 = .ok (.iload 4, 2) := by decide +kernel
theorem d_Draft_append_27 : decode b_Draft_append 27 = .ok (.iload_n 3, 1) := by decide +kernel
theorem d_Draft_append_28 : decode b_Draft_append 28 = .ok (.if_icmp .ge 27, 3) := by decide +kernel
theorem d_Draft_append_31 : decode b_Draft_append 31 = .ok (.aload_n 0, 1) := by decide +kernel
theorem d_Draft_append_32 : decode b_Draft_append 32 = .ok (.getfield 9, 3) := by decide +kernel
theorem d_Draft_append_35 : decode b_Draft_append 35 = .ok (.aload_n 0, 1) := by decide +kernel
theorem d_Draft_append_36 : decode b_Draft_append 36 = .ok (.getfield 15, 3) := by decide +kernel
theorem d_Draft_append_39 : decode b_Draft_append 39 = .ok (.iload 4, 2) := by decide +kernel
theorem d_Draft_append_41 : decode b_Draft_append 41 = .ok (.iadd, 1) := by decide +kernel
theorem d_Draft_append_42 : decode b_Draft_append 42 = .ok (.lload_n 1, 1) := by decide +kernel
theorem d_Draft_append_43 : decode b_Draft_append 43 = .ok (.iload 4, 2) := by decide +kernel
theorem d_Draft_append_45 : decode b_Draft_append 45 = .ok (.invokestatic 24, 3) := by decide +kernel
theorem d_Draft_append_48 : decode b_Draft_append 48 = .ok (.iastore, 1) := by decide +kernel
theorem d_Draft_append_49 : decode b_Draft_append 49 = .ok (.iinc 4 1, 3) := by decide +kernel
theorem d_Draft_append_52 : decode b_Draft_append 52 = .ok (.goto (-27), 3) := by decide +kernel
theorem d_Draft_append_55 : decode b_Draft_append 55 = .ok (.aload_n 0, 1) := by decide +kernel
theorem d_Draft_append_56 : decode b_Draft_append 56 = .ok (.dup, 1) := by decide +kernel
theorem d_Draft_append_57 : decode b_Draft_append 57 = .ok (.getfield 15, 3) := by decide +kernel
theorem d_Draft_append_60 : decode b_Draft_append 60 = .ok (.iload_n 3, 1) := by decide +kernel
theorem d_Draft_append_61 : decode b_Draft_append 61 = .ok (.iadd, 1) := by decide +kernel
theorem d_Draft_append_62 : decode b_Draft_append 62 = .ok (.putfield 15, 3) := by decide +kernel
theorem d_Draft_append_65 : decode b_Draft_append 65 = .ok (.iconst 1, 1) := by decide +kernel
theorem d_Draft_append_66 : decode b_Draft_append 66 = .ok (.ireturn, 1) := by decide +kernel
abbrev rm_Draft_append : Room := { frames := 2, cells := 0, slots := 0, locals := 44 }
def f_Draft_append_25 : Nat → Mem → Int64 → Int32 → Int32 → Option (Bool × Mem)
  | 0, _, _, _, _ => none
  | n + 1, μ, x1, x3, x4 => (if x3 ≤ x4 then (bd (wi μ 1 1 ((μ.1 1 1) + x3)) (fun μ1 => some (true, μ1))) else (cl (f_Texts_character n x1 x4) (fun v2 => gd (inb ((μ.1 1 1) + x4) 24) (bd (wi μ 2 ((μ.1 1 1) + x4).toNatClampNeg v2) (fun μ3 => bd (x4 + 1) (fun v4 => (f_Draft_append_25 n) μ3 x1 x3 v4))))))
set_option maxHeartbeats 4000000 in
set_option maxRecDepth 100000 in
theorem w_Draft_append_25 {p : Program} {l : Launch} {e : Env} {s : State} {m : MethodId} {args : Array Value} {below : List Frame} {meth : Method} {c : Code} {D : va_G} {g : Nat → ClassId} {ad : Nat → Nat} {dr : Nat → Option Nat} {pl : va_W} {r : Bool} {μ' : Mem} {A : Nat → Prop} (X : Cx p s m args meth c b_Draft_append 5 R_Draft (some .boolean) D CL (TY g)) (hDA : ∀ μ : Mem, va_D A (WX g ad dr pl μ)) : ∀ (n : Nat) (μ : Mem) (x1 : Int64) (x3 : Int32) (x4 : Int32) (ls : Array Slot) (H : Heap) (locs : List Loc), va_P D CL (WX g ad dr pl μ) H → va_S A s.heap H locs → lv_has ls 5 [(0, .ref (ad 1)), (1, .long x1), (3, .int x3), (4, .int x4)] → f_Draft_append_25 n μ x1 x3 x4 = some (r, μ') → WU p l e rm_Draft_append s m args below meth c H locs D (WX g ad dr pl μ') A (some (.int (bz r))) (F0 m 25 ls []) := by
  intro n
  induction n with
  | zero => intro μ x1 x3 x4 ls H locs hP hS hl hf; rw [f_Draft_append_25] at hf; cases hf
  | succ n ih =>
    intro μ x1 x3 x4 ls H locs hP hS hl hf
    obtain ⟨S, hr, hlk, hK⟩ := id X
    obtain ⟨hx, hb, hml, hown, hts⟩ := id S
    rw [f_Draft_append_25] at hf
    refine lv_iload hx hb d_Draft_append_25 (lv_at hl 3 rfl) ?_
    refine lv_iload_n hx hb d_Draft_append_27 rfl (lv_at hl 2 rfl) ?_
    refine lv_icmp_ge (tgt := 55) hx hb d_Draft_append_28 rfl (fun hc => ?_) (fun hc => ?_)
    · replace hf := br_p hc hf
      refine lv_aload_n hx hb d_Draft_append_55 rfl (lv_at hl 0 rfl) ?_
      refine lv_dup hx hb d_Draft_append_56 rfl ?_
      refine xg_1_1 hx hb hts hown hK hP q_31 d_Draft_append_57 ?_
      refine lv_iload_n hx hb d_Draft_append_60 rfl (lv_at hl 2 rfl) ?_
      refine lv_iadd hx hb d_Draft_append_61 ?_
      obtain ⟨μ1, hμ1, hf⟩ := bd_x hf
      refine xp_1_1 hx hb hts hown hK (hDA _) hP hS q_31 d_Draft_append_62 hμ1 (fun H locs hP hS => ?_)
      refine lv_iconst (v := 1) hx hb d_Draft_append_65 (by decide) ?_
      obtain ⟨h1, h2⟩ := Prod.mk.inj (Option.some.inj hf)
      subst h1; subst h2
      exact W.zret hx hb hr (by first | rfl | exact bz_nar _) (fun t ht _ => ⟨rfl, by rw [ht]; exact hP, hS.F ht⟩) hS.2.2 d_Draft_append_66
    · replace hf := br_n hc hf
      refine lv_aload_n hx hb d_Draft_append_31 rfl (lv_at hl 0 rfl) ?_
      refine xg_1_0 hx hb hts hown hK hP q_30 d_Draft_append_32 ?_
      refine lv_aload_n hx hb d_Draft_append_35 rfl (lv_at hl 0 rfl) ?_
      refine xg_1_1 hx hb hts hown hK hP q_31 d_Draft_append_36 ?_
      refine lv_iload hx hb d_Draft_append_39 (lv_at hl 3 rfl) ?_
      refine lv_iadd hx hb d_Draft_append_41 ?_
      refine lv_lload_n hx hb d_Draft_append_42 rfl (lv_at hl 1 rfl) ?_
      refine lv_iload hx hb d_Draft_append_43 (lv_at hl 3 rfl) ?_
      obtain ⟨v2, hv2, hf⟩ := cl_x hf
      refine rdS (As := [.long x1, .int x4]) (rest := [.int ((μ.1 1 1) + x4), .ref (ad 2)]) S K_Texts_character q_298 (c_Texts_character (w := (WX g ad dr pl μ)) hv2) hK hP ⟨rfl, rfl⟩ ⟨Nat.le_of_ble_eq_true rfl, Nat.le_of_ble_eq_true rfl⟩ rfl hl.1 rfl (Nat.le_of_ble_eq_true rfl) d_Draft_append_45 ⟨Nat.le_refl _, Nat.le_refl _⟩ ?_
      obtain ⟨hi, hf⟩ := gd_x hf
      obtain ⟨μ3, hμ3, hf⟩ := bd_x hf
      refine xs_2 hx hb hK (hDA _) hP hS (inb_in hi) d_Draft_append_48 hμ3 (fun H locs hP hS => ?_)
      obtain ⟨v4, hv4, hf⟩ := bd_x hf
      refine lv_iinc (lv' := [(4, .int v4), (0, .ref (ad 1)), (1, .long x1), (3, .int x3)]) hx hb d_Draft_append_49 hl (k := 3) rfl (show x4 + Int32.ofInt (1) = v4 from hv4) (Nat.le_of_ble_eq_true rfl) rfl (fun ls hl => ?_)
      refine lv_goto (tgt := 25) hx hb d_Draft_append_52 rfl ?_
      exact ih _ _ _ _ _ _ _ hP hS (lv_sub (l' := [(0, .ref (ad 1)), (1, .long x1), (3, .int x3), (4, .int v4)]) hl [1, 2, 3, 0] rfl) hf
def f_Draft_append (n : Nat) (μ : Mem) (a1 : Int64) : Option (Bool × Mem) := cl (f_Texts_size n a1) (fun v1 => (if v1 = 0 then (some (false, μ)) else (if ((μ.1 1 1) + v1) ≤ (24 : Int32) then (f_Draft_append_25 n μ a1 v1 (0 : Int32)) else (some (false, μ)))))
set_option maxHeartbeats 4000000 in
set_option maxRecDepth 100000 in
theorem w_Draft_append {p : Program} {l : Launch} {e : Env} {s : State} {m : MethodId} {args : Array Value} {below : List Frame} {meth : Method} {c : Code} {D : va_G} {g : Nat → ClassId} {ad : Nat → Nat} {dr : Nat → Option Nat} {pl : va_W} {r : Bool} {μ' : Mem} {A : Nat → Prop} {n : Nat} {μ : Mem} {a1 : Int64} {ls : Array Slot} {H : Heap} {locs : List Loc} (X : Cx p s m args meth c b_Draft_append 5 R_Draft (some .boolean) D CL (TY g)) (hDA : ∀ μ : Mem, va_D A (WX g ad dr pl μ)) (hP : va_P D CL (WX g ad dr pl μ) H) (hS : va_S A s.heap H locs) (hl : lv_has ls 5 [(0, .ref (ad 1)), (1, .long a1)]) (hf : f_Draft_append n μ a1 = some (r, μ')) : WU p l e rm_Draft_append s m args below meth c H locs D (WX g ad dr pl μ') A (some (.int (bz r))) (F0 m 0 ls []) := by
  obtain ⟨S, hr, hlk, hK⟩ := id X
  obtain ⟨hx, hb, hml, hown, hts⟩ := id S
  rw [f_Draft_append] at hf
  refine lv_lload_n hx hb d_Draft_append_0 rfl (lv_at hl 1 rfl) ?_
  obtain ⟨v1, hv1, hf⟩ := cl_x hf
  refine rdS (As := [.long a1]) (rest := []) S K_Texts_size q_292 (c_Texts_size (w := (WX g ad dr pl μ)) hv1) hK hP ⟨rfl, rfl⟩ ⟨Nat.le_of_ble_eq_true rfl, Nat.le_of_ble_eq_true rfl⟩ rfl hl.1 rfl (Nat.le_of_ble_eq_true rfl) d_Draft_append_1 ⟨Nat.le_refl _, Nat.le_refl _⟩ ?_
  refine lv_istore_n (lv' := [(3, .int v1), (0, .ref (ad 1)), (1, .long a1)]) hx hb d_Draft_append_4 rfl hl (Nat.le_of_ble_eq_true rfl) rfl (fun ls hl => ?_)
  refine lv_iload_n hx hb d_Draft_append_5 rfl (lv_at hl 0 rfl) ?_
  refine lv_if_eq (tgt := 20) hx hb d_Draft_append_6 rfl (fun hc => ?_) (fun hc => ?_)
  · replace hf := br_p hc hf
    refine lv_iconst (v := 0) hx hb d_Draft_append_20 (by decide) ?_
    obtain ⟨h1, h2⟩ := Prod.mk.inj (Option.some.inj hf)
    subst h1; subst h2
    exact W.zret hx hb hr (by first | rfl | exact bz_nar _) (fun t ht _ => ⟨rfl, by rw [ht]; exact hP, hS.F ht⟩) hS.2.2 d_Draft_append_21
  · replace hf := br_n hc hf
    refine lv_aload_n hx hb d_Draft_append_9 rfl (lv_at hl 1 rfl) ?_
    refine xg_1_1 hx hb hts hown hK hP q_31 d_Draft_append_10 ?_
    refine lv_iload_n hx hb d_Draft_append_13 rfl (lv_at hl 0 rfl) ?_
    refine lv_iadd hx hb d_Draft_append_14 ?_
    refine lv_bipush (v := 24) hx hb d_Draft_append_15 (by decide) ?_
    refine lv_icmp_le (tgt := 22) hx hb d_Draft_append_17 rfl (fun hc => ?_) (fun hc => ?_)
    · replace hf := br_p hc hf
      refine lv_iconst (v := 0) hx hb d_Draft_append_22 (by decide) ?_
      refine lv_istore (lv' := [(4, .int (0 : Int32)), (3, .int v1), (0, .ref (ad 1)), (1, .long a1)]) hx hb d_Draft_append_23 hl (Nat.le_of_ble_eq_true rfl) rfl (fun ls hl => ?_)
      exact w_Draft_append_25 X hDA _ _ _ _ _ _ _ _ hP hS (lv_sub (l' := [(0, .ref (ad 1)), (1, .long a1), (3, .int v1), (4, .int (0 : Int32))]) hl [2, 3, 1, 0] rfl) hf
    · replace hf := br_n hc hf
      refine lv_iconst (v := 0) hx hb d_Draft_append_20 (by decide) ?_
      obtain ⟨h1, h2⟩ := Prod.mk.inj (Option.some.inj hf)
      subst h1; subst h2
      exact W.zret hx hb hr (by first | rfl | exact bz_nar _) (fun t ht _ => ⟨rfl, by rw [ht]; exact hP, hS.F ht⟩) hS.2.2 d_Draft_append_21
theorem c_Draft_append {l : Launch} {D : va_G} {g : Nat → ClassId} {ad : Nat → Nat} {dr : Nat → Option Nat} {pl : va_W} {μ : Mem} {r : Bool} {μ' : Mem} {A : Nat → Prop} {n : Nat} {a1 : Int64} (hDA : ∀ μ : Mem, va_D A (WX g ad dr pl μ)) (hf : f_Draft_append n μ a1 = some (r, μ')) : Met l y_Draft_append (Cond.code y_Draft_append b_Draft_append 5 (some .boolean) :: ww) rm_Draft_append (RP D CL (TY g) (WX g ad dr pl μ) [.ref (ad 1), .long a1]) (QW D CL (WX g ad dr pl μ') A (some (.int (bz r)))) 0 0 A := by
  refine met_of (by decide) (Nat.le_of_ble_eq_true rfl) ?_
  intro p e s m below meth c ls X hP hl
  have hl : lv_has ls 5 [(0, .ref (ad 1)), (1, .long a1)] := hl
  exact w_Draft_append X hDA hP va_S.rf hl hf
theorem d_Draft_text_0 : decode b_Draft_text 0 = .ok (.iload_n 2, 1) := by decide +kernel
theorem d_Draft_text_1 : decode b_Draft_text 1 = .ok (.bipush 8, 2) := by decide +kernel
theorem d_Draft_text_3 : decode b_Draft_text 3 = .ok (.invokestatic 28, 3) := by decide +kernel
theorem d_Draft_text_6 : decode b_Draft_text 6 = .ok (.aload_n 0, 1) := by decide +kernel
theorem d_Draft_text_7 : decode b_Draft_text 7 = .ok (.getfield 15, 3) := by decide +kernel
theorem d_Draft_text_10 : decode b_Draft_text 10 = .ok (.iload_n 1, 1) := by decide +kernel
theorem d_Draft_text_11 : decode b_Draft_text 11 = .ok (.isub, 1) := by decide +kernel
theorem d_Draft_text_12 : decode b_Draft_text 12 = .ok (.invokestatic 28, 3) := by decide +kernel
theorem d_Draft_text_15 : decode b_Draft_text 15 = .ok (.istore_n 3, 1) := by decide +kernel
theorem d_Draft_text_16 : decode b_Draft_text 16 = .ok (.lconst 0, 1) := by decide +kernel
theorem d_Draft_text_17 : decode b_Draft_text 17 = .ok (.lstore 4, 2) := by decide +kernel
theorem d_Draft_text_19 : decode b_Draft_text 19 = .ok (.iconst 0, 1) := by decide +kernel
theorem d_Draft_text_20 : decode b_Draft_text 20 = .ok (.istore 6, 2) := by decide +kernel
theorem d_Draft_text_22 : decode b_Draft_text 22 = .ok (.iload 6, 2) := by decide +kernel
theorem d_Draft_text_24 : decode b_Draft_text 24 = .ok (.iload_n 3, 1) := by decide +kernel
theorem d_Draft_text_25 : decode b_Draft_text 25 = .ok (.if_icmp .ge 30, 3) := by decide +kernel
theorem d_Draft_text_28 : decode b_Draft_text 28 = .ok (.lload 4, 2) := by decide +kernel
theorem d_Draft_text_30 : decode b_Draft_text 30 = .ok (.aload_n 0, 1) := by decide +kernel
theorem d_Draft_text_31 : decode b_Draft_text 31 = .ok (.getfield 9, 3) := by decide +kernel
theorem d_Draft_text_34 : decode b_Draft_text 34 = .ok (.iload_n 1, 1) := by decide +kernel
theorem d_Draft_text_35 : decode b_Draft_text 35 = .ok (.iload 6, 2) := by decide +kernel
theorem d_Draft_text_37 : decode b_Draft_text 37 = .ok (.iadd, 1) := by decide +kernel
theorem d_Draft_text_38 : decode b_Draft_text 38 = .ok (.iaload, 1) := by decide +kernel
theorem d_Draft_text_39 : decode b_Draft_text 39 = .ok (.i2l, 1) := by decide +kernel
theorem d_Draft_text_40 : decode b_Draft_text 40 = .ok (.bipush 8, 2) := by decide +kernel
theorem d_Draft_text_42 : decode b_Draft_text 42 = .ok (.iload 6, 2) := by decide +kernel
theorem d_Draft_text_44 : decode b_Draft_text 44 = .ok (.imul, 1) := by decide +kernel
theorem d_Draft_text_45 : decode b_Draft_text 45 = .ok (.lshl, 1) := by decide +kernel
theorem d_Draft_text_46 : decode b_Draft_text 46 = .ok (.lor, 1) := by decide +kernel
theorem d_Draft_text_47 : decode b_Draft_text 47 = .ok (.lstore 4, 2) := by decide +kernel
theorem d_Draft_text_49 : decode b_Draft_text 49 = .ok (.iinc 6 1, 3) := by decide +kernel
theorem d_Draft_text_52 : decode b_Draft_text 52 = .ok (.goto (-30), 3) := by decide +kernel
theorem d_Draft_text_55 : decode b_Draft_text 55 = .ok (.lload 4, 2) := by decide +kernel
theorem d_Draft_text_57 : decode b_Draft_text 57 = .ok (.lreturn, 1) := by decide +kernel
abbrev rm_Draft_text : Room := { frames := 1, cells := 0, slots := 0, locals := 21 }
def f_Draft_text_22 (μ : Mem) : Nat → Int32 → Int32 → Int64 → Int32 → Option Int64
  | 0, _, _, _, _ => none
  | n + 1, x1, x3, x4, x6 => (if x3 ≤ x6 then (some x4) else (gd (inb (x1 + x6) 24) (bd (x4 ||| (((μ.1 2 (x1 + x6).toNatClampNeg : Int32).toInt64) <<< (((8 : Int32) * x6 : Int32).toInt64 &&& 63))) (fun v1 => bd (x6 + 1) (fun v2 => (f_Draft_text_22 μ n) x1 x3 v1 v2)))))
set_option maxHeartbeats 4000000 in
set_option maxRecDepth 100000 in
theorem w_Draft_text_22 {p : Program} {l : Launch} {e : Env} {s : State} {m : MethodId} {args : Array Value} {below : List Frame} {meth : Method} {c : Code} {D : va_G} {g : Nat → ClassId} {ad : Nat → Nat} {dr : Nat → Option Nat} {pl : va_W} {μ : Mem} {r : Int64} (X : Cx p s m args meth c b_Draft_text 7 R_Draft (some .long) D CL (TY g)) (hP : va_P D CL (WX g ad dr pl μ) s.heap) : ∀ (n : Nat) (x1 : Int32) (x3 : Int32) (x4 : Int64) (x6 : Int32) (ls : Array Slot), lv_has ls 7 [(0, .ref (ad 1)), (1, .int x1), (3, .int x3), (4, .long x4), (6, .int x6)] → f_Draft_text_22 μ n x1 x3 x4 x6 = some r → WR p l e rm_Draft_text s m args below meth c (.long r) (F0 m 22 ls []) := by
  intro n
  induction n with
  | zero => intro x1 x3 x4 x6 ls hl hf; rw [f_Draft_text_22] at hf; cases hf
  | succ n ih =>
    intro x1 x3 x4 x6 ls hl hf
    obtain ⟨S, hr, hlk, hK⟩ := id X
    obtain ⟨hx, hb, hml, hown, hts⟩ := id S
    rw [f_Draft_text_22] at hf
    refine lv_iload hx hb d_Draft_text_22 (lv_at hl 4 rfl) ?_
    refine lv_iload_n hx hb d_Draft_text_24 rfl (lv_at hl 2 rfl) ?_
    refine lv_icmp_ge (tgt := 55) hx hb d_Draft_text_25 rfl (fun hc => ?_) (fun hc => ?_)
    · replace hf := br_p hc hf
      refine lv_lload hx hb d_Draft_text_55 (lv_at hl 3 rfl) ?_
      have h1 := Option.some.inj hf
      subst h1
      exact W.lret hx hb hr (fun t ht _ => ⟨rfl, ht⟩) (fun _ h => by cases h) d_Draft_text_57
    · replace hf := br_n hc hf
      refine lv_lload hx hb d_Draft_text_28 (lv_at hl 3 rfl) ?_
      refine lv_aload_n hx hb d_Draft_text_30 rfl (lv_at hl 0 rfl) ?_
      refine xg_1_0 hx hb hts hown hK hP q_30 d_Draft_text_31 ?_
      refine lv_iload_n hx hb d_Draft_text_34 rfl (lv_at hl 1 rfl) ?_
      refine lv_iload hx hb d_Draft_text_35 (lv_at hl 4 rfl) ?_
      refine lv_iadd hx hb d_Draft_text_37 ?_
      obtain ⟨hi, hf⟩ := gd_x hf
      refine xl_2 hx hb hK hP (inb_in hi) d_Draft_text_38 ?_
      refine lv_i2l (v := (μ.1 2 (x1 + x6).toNatClampNeg : Int32).toInt64) hx hb d_Draft_text_39 rfl ?_
      refine lv_bipush (v := 8) hx hb d_Draft_text_40 (by decide) ?_
      refine lv_iload hx hb d_Draft_text_42 (lv_at hl 4 rfl) ?_
      refine lv_imul hx hb d_Draft_text_44 ?_
      refine lv_lshl (v := ((μ.1 2 (x1 + x6).toNatClampNeg : Int32).toInt64) <<< (((8 : Int32) * x6 : Int32).toInt64 &&& 63)) hx hb d_Draft_text_45 rfl ?_
      refine lv_lor hx hb d_Draft_text_46 ?_
      obtain ⟨v1, hv1, hf⟩ := bd_x hf
      refine top_l hv1 ?_
      refine lv_lstore (lv' := [(4, .long v1), (0, .ref (ad 1)), (1, .int x1), (3, .int x3), (6, .int x6)]) hx hb d_Draft_text_47 hl (Nat.le_of_ble_eq_true rfl) rfl (fun ls hl => ?_)
      obtain ⟨v2, hv2, hf⟩ := bd_x hf
      refine lv_iinc (lv' := [(6, .int v2), (4, .long v1), (0, .ref (ad 1)), (1, .int x1), (3, .int x3)]) hx hb d_Draft_text_49 hl (k := 4) rfl (show x6 + Int32.ofInt (1) = v2 from hv2) (Nat.le_of_ble_eq_true rfl) rfl (fun ls hl => ?_)
      refine lv_goto (tgt := 22) hx hb d_Draft_text_52 rfl ?_
      exact ih _ _ _ _ _ (lv_sub (l' := [(0, .ref (ad 1)), (1, .int x1), (3, .int x3), (4, .long v1), (6, .int v2)]) hl [2, 3, 4, 1, 0] rfl) hf
def f_Draft_text (n : Nat) (μ : Mem) (a1 : Int32) (a2 : Int32) : Option Int64 := bd ((if (8 : Int32) < a2 then (8 : Int32) else a2)) (fun v1 => bd ((if ((μ.1 1 1) - a1) < v1 then ((μ.1 1 1) - a1) else v1)) (fun v2 => f_Draft_text_22 μ n a1 v2 (0 : Int64) (0 : Int32)))
set_option maxHeartbeats 4000000 in
set_option maxRecDepth 100000 in
theorem w_Draft_text {p : Program} {l : Launch} {e : Env} {s : State} {m : MethodId} {args : Array Value} {below : List Frame} {meth : Method} {c : Code} {D : va_G} {g : Nat → ClassId} {ad : Nat → Nat} {dr : Nat → Option Nat} {pl : va_W} {μ : Mem} {r : Int64} {n : Nat} {a1 : Int32} {a2 : Int32} {ls : Array Slot} (X : Cx p s m args meth c b_Draft_text 7 R_Draft (some .long) D CL (TY g)) (hP : va_P D CL (WX g ad dr pl μ) s.heap) (hl : lv_has ls 7 [(0, .ref (ad 1)), (1, .int a1), (2, .int a2)]) (hf : f_Draft_text n μ a1 a2 = some r) : WR p l e rm_Draft_text s m args below meth c (.long r) (F0 m 0 ls []) := by
  obtain ⟨S, hr, hlk, hK⟩ := id X
  obtain ⟨hx, hb, hml, hown, hts⟩ := id S
  rw [f_Draft_text] at hf
  refine lv_iload_n hx hb d_Draft_text_0 rfl (lv_at hl 2 rfl) ?_
  refine lv_bipush (v := 8) hx hb d_Draft_text_1 (by decide) ?_
  refine va_mmin hx hb (hml.trans hl.1.symm) hown (hts _ q_323) (hts _ q_324) (hts _ q_13) (hts _ q_325) (Nat.le_of_ble_eq_true rfl) (Nat.le_of_ble_eq_true rfl) (Nat.le_refl _) (Nat.le_refl _) d_Draft_text_3 ?_
  obtain ⟨v1, hv1, hf⟩ := bd_x hf
  refine top_i hv1 ?_
  refine lv_aload_n hx hb d_Draft_text_6 rfl (lv_at hl 0 rfl) ?_
  refine xg_1_1 hx hb hts hown hK hP q_31 d_Draft_text_7 ?_
  refine lv_iload_n hx hb d_Draft_text_10 rfl (lv_at hl 1 rfl) ?_
  refine lv_isub hx hb d_Draft_text_11 ?_
  refine va_mmin hx hb (hml.trans hl.1.symm) hown (hts _ q_323) (hts _ q_324) (hts _ q_13) (hts _ q_325) (Nat.le_of_ble_eq_true rfl) (Nat.le_of_ble_eq_true rfl) (Nat.le_refl _) (Nat.le_refl _) d_Draft_text_12 ?_
  obtain ⟨v2, hv2, hf⟩ := bd_x hf
  refine top_i hv2 ?_
  refine lv_istore_n (lv' := [(3, .int v2), (0, .ref (ad 1)), (1, .int a1), (2, .int a2)]) hx hb d_Draft_text_15 rfl hl (Nat.le_of_ble_eq_true rfl) rfl (fun ls hl => ?_)
  refine lv_lconst (v := 0) hx hb d_Draft_text_16 (by decide) ?_
  refine lv_lstore (lv' := [(4, .long (0 : Int64)), (3, .int v2), (0, .ref (ad 1)), (1, .int a1), (2, .int a2)]) hx hb d_Draft_text_17 hl (Nat.le_of_ble_eq_true rfl) rfl (fun ls hl => ?_)
  refine lv_iconst (v := 0) hx hb d_Draft_text_19 (by decide) ?_
  refine lv_istore (lv' := [(6, .int (0 : Int32)), (4, .long (0 : Int64)), (3, .int v2), (0, .ref (ad 1)), (1, .int a1), (2, .int a2)]) hx hb d_Draft_text_20 hl (Nat.le_of_ble_eq_true rfl) rfl (fun ls hl => ?_)
  exact w_Draft_text_22 X hP _ _ _ _ _ _ (lv_sub (l' := [(0, .ref (ad 1)), (1, .int a1), (3, .int v2), (4, .long (0 : Int64)), (6, .int (0 : Int32))]) hl [3, 4, 2, 1, 0] rfl) hf
theorem c_Draft_text {l : Launch} {D : va_G} {g : Nat → ClassId} {ad : Nat → Nat} {dr : Nat → Option Nat} {pl : va_W} {μ : Mem} {r : Int64} {n : Nat} {a1 : Int32} {a2 : Int32} (hf : f_Draft_text n μ a1 a2 = some r) : Met l y_Draft_text (Cond.code y_Draft_text b_Draft_text 7 (some .long) :: ww) rm_Draft_text (RP D CL (TY g) (WX g ad dr pl μ) [.ref (ad 1), .int a1, .int a2]) (k2_QcV (.long r)) 0 0 (fun _ => False) := by
  refine met_of (by decide) (Nat.le_of_ble_eq_true rfl) ?_
  intro p e s m below meth c ls X hP hl
  have hl : lv_has ls 7 [(0, .ref (ad 1)), (1, .int a1), (2, .int a2)] := hl
  exact w_Draft_text X hP hl hf
theorem d_Draft_classAt_0 : decode b_Draft_classAt 0 = .ok (.aload_n 0, 1) := by decide +kernel
theorem d_Draft_classAt_1 : decode b_Draft_classAt 1 = .ok (.getfield 9, 3) := by decide +kernel
theorem d_Draft_classAt_4 : decode b_Draft_classAt 4 = .ok (.iload_n 1, 1) := by decide +kernel
theorem d_Draft_classAt_5 : decode b_Draft_classAt 5 = .ok (.iaload, 1) := by decide +kernel
theorem d_Draft_classAt_6 : decode b_Draft_classAt 6 = .ok (.invokestatic 34, 3) := by decide +kernel
theorem d_Draft_classAt_9 : decode b_Draft_classAt 9 = .ok (.ireturn, 1) := by decide +kernel
abbrev rm_Draft_classAt : Room := { frames := 1, cells := 0, slots := 0, locals := 20 }
def f_Draft_classAt (n : Nat) (μ : Mem) (a1 : Int32) : Option Int32 := gd (inb a1 24) (cl (f_Texts_classOf n (μ.1 2 a1.toNatClampNeg)) (fun v1 => some v1))
set_option maxHeartbeats 4000000 in
set_option maxRecDepth 100000 in
theorem w_Draft_classAt {p : Program} {l : Launch} {e : Env} {s : State} {m : MethodId} {args : Array Value} {below : List Frame} {meth : Method} {c : Code} {D : va_G} {g : Nat → ClassId} {ad : Nat → Nat} {dr : Nat → Option Nat} {pl : va_W} {μ : Mem} {r : Int32} {n : Nat} {a1 : Int32} {ls : Array Slot} (X : Cx p s m args meth c b_Draft_classAt 2 R_Draft (some .int) D CL (TY g)) (hP : va_P D CL (WX g ad dr pl μ) s.heap) (hl : lv_has ls 2 [(0, .ref (ad 1)), (1, .int a1)]) (hf : f_Draft_classAt n μ a1 = some r) : WR p l e rm_Draft_classAt s m args below meth c (.int r) (F0 m 0 ls []) := by
  obtain ⟨S, hr, hlk, hK⟩ := id X
  obtain ⟨hx, hb, hml, hown, hts⟩ := id S
  rw [f_Draft_classAt] at hf
  refine lv_aload_n hx hb d_Draft_classAt_0 rfl (lv_at hl 0 rfl) ?_
  refine xg_1_0 hx hb hts hown hK hP q_30 d_Draft_classAt_1 ?_
  refine lv_iload_n hx hb d_Draft_classAt_4 rfl (lv_at hl 1 rfl) ?_
  obtain ⟨hi, hf⟩ := gd_x hf
  refine xl_2 hx hb hK hP (inb_in hi) d_Draft_classAt_5 ?_
  obtain ⟨v1, hv1, hf⟩ := cl_x hf
  refine rdS (As := [.int (μ.1 2 a1.toNatClampNeg)]) (rest := []) S K_Texts_classOf q_427 (c_Texts_classOf (w := (WX g ad dr pl μ)) hv1) hK hP ⟨rfl, rfl⟩ ⟨Nat.le_of_ble_eq_true rfl, Nat.le_of_ble_eq_true rfl⟩ rfl hl.1 rfl (Nat.le_of_ble_eq_true rfl) d_Draft_classAt_6 ⟨Nat.le_refl _, Nat.le_refl _⟩ ?_
  have h1 := Option.some.inj hf
  subst h1
  exact W.iret hx hb hr (fun t ht _ => ⟨rfl, ht⟩) (fun _ h => by cases h) d_Draft_classAt_9
theorem c_Draft_classAt {l : Launch} {D : va_G} {g : Nat → ClassId} {ad : Nat → Nat} {dr : Nat → Option Nat} {pl : va_W} {μ : Mem} {r : Int32} {n : Nat} {a1 : Int32} (hf : f_Draft_classAt n μ a1 = some r) : Met l y_Draft_classAt (Cond.code y_Draft_classAt b_Draft_classAt 2 (some .int) :: ww) rm_Draft_classAt (RP D CL (TY g) (WX g ad dr pl μ) [.ref (ad 1), .int a1]) (k2_QcV (.int r)) 0 0 (fun _ => False) := by
  refine met_of (by decide) (Nat.le_of_ble_eq_true rfl) ?_
  intro p e s m below meth c ls X hP hl
  have hl : lv_has ls 2 [(0, .ref (ad 1)), (1, .int a1)] := hl
  exact w_Draft_classAt X hP hl hf
theorem d_Draft_runAt_0 : decode b_Draft_runAt 0 = .ok (.bipush 8, 2) := by decide +kernel
theorem d_Draft_runAt_2 : decode b_Draft_runAt 2 = .ok (.aload_n 0, 1) := by decide +kernel
theorem d_Draft_runAt_3 : decode b_Draft_runAt 3 = .ok (.getfield 15, 3) := by decide +kernel
theorem d_Draft_runAt_6 : decode b_Draft_runAt 6 = .ok (.iload_n 1, 1) := by decide +kernel
theorem d_Draft_runAt_7 : decode b_Draft_runAt 7 = .ok (.isub, 1) := by decide +kernel
theorem d_Draft_runAt_8 : decode b_Draft_runAt 8 = .ok (.invokestatic 28, 3) := by decide +kernel
theorem d_Draft_runAt_11 : decode b_Draft_runAt 11 = .ok (.istore_n 2, 1) := by decide +kernel
theorem d_Draft_runAt_12 : decode b_Draft_runAt 12 = .ok (.iconst 1, 1) := by decide +kernel
theorem d_Draft_runAt_13 : decode b_Draft_runAt 13 = .ok (.istore_n 3, 1) := by decide +kernel
theorem d_Draft_runAt_14 : decode b_Draft_runAt 14 = .ok (.iload_n 3, 1) := by decide +kernel
theorem d_Draft_runAt_15 : decode b_Draft_runAt 15 = .ok (.iload_n 2, 1) := by decide +kernel
theorem d_Draft_runAt_16 : decode b_Draft_runAt 16 = .ok (.if_icmp .ge 24, 3) := by decide +kernel
theorem d_Draft_runAt_19 : decode b_Draft_runAt 19 = .ok (.aload_n 0, 1) := by decide +kernel
theorem d_Draft_runAt_20 : decode b_Draft_runAt 20 = .ok (.iload_n 1, 1) := by decide +kernel
theorem d_Draft_runAt_21 : decode b_Draft_runAt 21 = .ok (.iload_n 3, 1) := by decide +kernel
theorem d_Draft_runAt_22 : decode b_Draft_runAt 22 = .ok (.iadd, 1) := by decide +kernel
theorem d_Draft_runAt_23 : decode b_Draft_runAt 23 = .ok (.invokevirtual 38, 3) := by decide +kernel
theorem d_Draft_runAt_26 : decode b_Draft_runAt 26 = .ok (.aload_n 0, 1) := by decide +kernel
theorem d_Draft_runAt_27 : decode b_Draft_runAt 27 = .ok (.iload_n 1, 1) := by decide +kernel
theorem d_Draft_runAt_28 : decode b_Draft_runAt 28 = .ok (.invokevirtual 38, 3) := by decide +kernel
theorem d_Draft_runAt_31 : decode b_Draft_runAt 31 = .ok (.if_icmp .ne 9, 3) := by decide +kernel
theorem d_Draft_runAt_34 : decode b_Draft_runAt 34 = .ok (.iinc 3 1, 3) := by decide +kernel
theorem d_Draft_runAt_37 : decode b_Draft_runAt 37 = .ok (.goto (-23), 3) := by decide +kernel
theorem d_Draft_runAt_40 : decode b_Draft_runAt 40 = .ok (.iload_n 3, 1) := by decide +kernel
theorem d_Draft_runAt_41 : decode b_Draft_runAt 41 = .ok (.ireturn, 1) := by decide +kernel
abbrev rm_Draft_runAt : Room := { frames := 2, cells := 0, slots := 0, locals := 41 }
def f_Draft_runAt_14 (μ : Mem) : Nat → Int32 → Int32 → Int32 → Option Int32
  | 0, _, _, _ => none
  | n + 1, x1, x2, x3 => (if x2 ≤ x3 then (some x3) else (cl (f_Draft_classAt n μ (x1 + x3)) (fun v1 => cl (f_Draft_classAt n μ x1) (fun v2 => (if v1 = v2 then (bd (x3 + 1) (fun v3 => (f_Draft_runAt_14 μ n) x1 x2 v3)) else (some x3))))))
set_option maxHeartbeats 4000000 in
set_option maxRecDepth 100000 in
theorem w_Draft_runAt_14 {p : Program} {l : Launch} {e : Env} {s : State} {m : MethodId} {args : Array Value} {below : List Frame} {meth : Method} {c : Code} {D : va_G} {g : Nat → ClassId} {ad : Nat → Nat} {dr : Nat → Option Nat} {pl : va_W} {μ : Mem} {r : Int32} (X : Cx p s m args meth c b_Draft_runAt 4 R_Draft (some .int) D CL (TY g)) (hP : va_P D CL (WX g ad dr pl μ) s.heap) : ∀ (n : Nat) (x1 : Int32) (x2 : Int32) (x3 : Int32) (ls : Array Slot), lv_has ls 4 [(0, .ref (ad 1)), (1, .int x1), (2, .int x2), (3, .int x3)] → f_Draft_runAt_14 μ n x1 x2 x3 = some r → WR p l e rm_Draft_runAt s m args below meth c (.int r) (F0 m 14 ls []) := by
  intro n
  induction n with
  | zero => intro x1 x2 x3 ls hl hf; rw [f_Draft_runAt_14] at hf; cases hf
  | succ n ih =>
    intro x1 x2 x3 ls hl hf
    obtain ⟨S, hr, hlk, hK⟩ := id X
    obtain ⟨hx, hb, hml, hown, hts⟩ := id S
    rw [f_Draft_runAt_14] at hf
    refine lv_iload_n hx hb d_Draft_runAt_14 rfl (lv_at hl 3 rfl) ?_
    refine lv_iload_n hx hb d_Draft_runAt_15 rfl (lv_at hl 2 rfl) ?_
    refine lv_icmp_ge (tgt := 40) hx hb d_Draft_runAt_16 rfl (fun hc => ?_) (fun hc => ?_)
    · replace hf := br_p hc hf
      refine lv_iload_n hx hb d_Draft_runAt_40 rfl (lv_at hl 3 rfl) ?_
      have h1 := Option.some.inj hf
      subst h1
      exact W.iret hx hb hr (fun t ht _ => ⟨rfl, ht⟩) (fun _ h => by cases h) d_Draft_runAt_41
    · replace hf := br_n hc hf
      refine lv_aload_n hx hb d_Draft_runAt_19 rfl (lv_at hl 0 rfl) ?_
      refine lv_iload_n hx hb d_Draft_runAt_20 rfl (lv_at hl 1 rfl) ?_
      refine lv_iload_n hx hb d_Draft_runAt_21 rfl (lv_at hl 3 rfl) ?_
      refine lv_iadd hx hb d_Draft_runAt_22 ?_
      obtain ⟨v1, hv1, hf⟩ := cl_x hf
      refine rdV (As := [.int (x1 + x3)]) (rest := []) S K_Draft_classAt q_438 (c_Draft_classAt hv1) hK hP ⟨rfl, rfl⟩ ⟨Nat.le_of_ble_eq_true rfl, Nat.le_of_ble_eq_true rfl⟩ (xr_1 hK hP) rfl hl.1 rfl (Nat.le_of_ble_eq_true rfl) d_Draft_runAt_23 ⟨Nat.le_refl _, Nat.le_refl _⟩ ?_
      refine lv_aload_n hx hb d_Draft_runAt_26 rfl (lv_at hl 0 rfl) ?_
      refine lv_iload_n hx hb d_Draft_runAt_27 rfl (lv_at hl 1 rfl) ?_
      obtain ⟨v2, hv2, hf⟩ := cl_x hf
      refine rdV (As := [.int x1]) (rest := [.int v1]) S K_Draft_classAt q_438 (c_Draft_classAt hv2) hK hP ⟨rfl, rfl⟩ ⟨Nat.le_of_ble_eq_true rfl, Nat.le_of_ble_eq_true rfl⟩ (xr_1 hK hP) rfl hl.1 rfl (Nat.le_of_ble_eq_true rfl) d_Draft_runAt_28 ⟨Nat.le_refl _, Nat.le_refl _⟩ ?_
      refine lv_icmp_ne (tgt := 40) hx hb d_Draft_runAt_31 rfl (fun hc => ?_) (fun hc => ?_)
      · replace hf := br_n hc hf
        refine lv_iload_n hx hb d_Draft_runAt_40 rfl (lv_at hl 3 rfl) ?_
        have h1 := Option.some.inj hf
        subst h1
        exact W.iret hx hb hr (fun t ht _ => ⟨rfl, ht⟩) (fun _ h => by cases h) d_Draft_runAt_41
      · replace hf := br_p hc hf
        obtain ⟨v3, hv3, hf⟩ := bd_x hf
        refine lv_iinc (lv' := [(3, .int v3), (0, .ref (ad 1)), (1, .int x1), (2, .int x2)]) hx hb d_Draft_runAt_34 hl (k := 3) rfl (show x3 + Int32.ofInt (1) = v3 from hv3) (Nat.le_of_ble_eq_true rfl) rfl (fun ls hl => ?_)
        refine lv_goto (tgt := 14) hx hb d_Draft_runAt_37 rfl ?_
        exact ih _ _ _ _ (lv_sub (l' := [(0, .ref (ad 1)), (1, .int x1), (2, .int x2), (3, .int v3)]) hl [1, 2, 3, 0] rfl) hf
def f_Draft_runAt (n : Nat) (μ : Mem) (a1 : Int32) : Option Int32 := bd ((if ((μ.1 1 1) - a1) < (8 : Int32) then ((μ.1 1 1) - a1) else (8 : Int32))) (fun v1 => f_Draft_runAt_14 μ n a1 v1 (1 : Int32))
set_option maxHeartbeats 4000000 in
set_option maxRecDepth 100000 in
theorem w_Draft_runAt {p : Program} {l : Launch} {e : Env} {s : State} {m : MethodId} {args : Array Value} {below : List Frame} {meth : Method} {c : Code} {D : va_G} {g : Nat → ClassId} {ad : Nat → Nat} {dr : Nat → Option Nat} {pl : va_W} {μ : Mem} {r : Int32} {n : Nat} {a1 : Int32} {ls : Array Slot} (X : Cx p s m args meth c b_Draft_runAt 4 R_Draft (some .int) D CL (TY g)) (hP : va_P D CL (WX g ad dr pl μ) s.heap) (hl : lv_has ls 4 [(0, .ref (ad 1)), (1, .int a1)]) (hf : f_Draft_runAt n μ a1 = some r) : WR p l e rm_Draft_runAt s m args below meth c (.int r) (F0 m 0 ls []) := by
  obtain ⟨S, hr, hlk, hK⟩ := id X
  obtain ⟨hx, hb, hml, hown, hts⟩ := id S
  rw [f_Draft_runAt] at hf
  refine lv_bipush (v := 8) hx hb d_Draft_runAt_0 (by decide) ?_
  refine lv_aload_n hx hb d_Draft_runAt_2 rfl (lv_at hl 0 rfl) ?_
  refine xg_1_1 hx hb hts hown hK hP q_31 d_Draft_runAt_3 ?_
  refine lv_iload_n hx hb d_Draft_runAt_6 rfl (lv_at hl 1 rfl) ?_
  refine lv_isub hx hb d_Draft_runAt_7 ?_
  refine va_mmin hx hb (hml.trans hl.1.symm) hown (hts _ q_323) (hts _ q_324) (hts _ q_13) (hts _ q_325) (Nat.le_of_ble_eq_true rfl) (Nat.le_of_ble_eq_true rfl) (Nat.le_refl _) (Nat.le_refl _) d_Draft_runAt_8 ?_
  obtain ⟨v1, hv1, hf⟩ := bd_x hf
  refine top_i hv1 ?_
  refine lv_istore_n (lv' := [(2, .int v1), (0, .ref (ad 1)), (1, .int a1)]) hx hb d_Draft_runAt_11 rfl hl (Nat.le_of_ble_eq_true rfl) rfl (fun ls hl => ?_)
  refine lv_iconst (v := 1) hx hb d_Draft_runAt_12 (by decide) ?_
  refine lv_istore_n (lv' := [(3, .int (1 : Int32)), (2, .int v1), (0, .ref (ad 1)), (1, .int a1)]) hx hb d_Draft_runAt_13 rfl hl (Nat.le_of_ble_eq_true rfl) rfl (fun ls hl => ?_)
  exact w_Draft_runAt_14 X hP _ _ _ _ _ (lv_sub (l' := [(0, .ref (ad 1)), (1, .int a1), (2, .int v1), (3, .int (1 : Int32))]) hl [2, 3, 1, 0] rfl) hf
theorem c_Draft_runAt {l : Launch} {D : va_G} {g : Nat → ClassId} {ad : Nat → Nat} {dr : Nat → Option Nat} {pl : va_W} {μ : Mem} {r : Int32} {n : Nat} {a1 : Int32} (hf : f_Draft_runAt n μ a1 = some r) : Met l y_Draft_runAt (Cond.code y_Draft_runAt b_Draft_runAt 4 (some .int) :: ww) rm_Draft_runAt (RP D CL (TY g) (WX g ad dr pl μ) [.ref (ad 1), .int a1]) (k2_QcV (.int r)) 0 0 (fun _ => False) := by
  refine met_of (by decide) (Nat.le_of_ble_eq_true rfl) ?_
  intro p e s m below meth c ls X hP hl
  have hl : lv_has ls 4 [(0, .ref (ad 1)), (1, .int a1)] := hl
  exact w_Draft_runAt X hP hl hf
