theorem d_Document_post_0 : decode b_Document_post 0 = .ok (.iload_n 1, 1) := by decide +kernel
theorem d_Document_post_1 : decode b_Document_post 1 = .ok (.ifCond .lt 12, 3) := by decide +kernel
theorem d_Document_post_4 : decode b_Document_post 4 = .ok (.iload_n 1, 1) := by decide +kernel
theorem d_Document_post_5 : decode b_Document_post 5 = .ok (.aload_n 0, 1) := by decide +kernel
theorem d_Document_post_6 : decode b_Document_post 6 = .ok (.getfield 7, 3) := by decide +kernel
theorem d_Document_post_9 : decode b_Document_post 9 = .ok (.arraylength, 1) := by decide +kernel
theorem d_Document_post_10 : decode b_Document_post 10 = .ok (.if_icmp .lt 4, 3) := by decide +kernel
theorem d_Document_post_13 : decode b_Document_post 13 = .ok (.return_, 1) := by decide +kernel
theorem d_Document_post_14 : decode b_Document_post 14 = .ok (.aload_n 0, 1) := by decide +kernel
theorem d_Document_post_15 : decode b_Document_post 15 = .ok (.getfield 7, 3) := by decide +kernel
theorem d_Document_post_18 : decode b_Document_post 18 = .ok (.iload_n 1, 1) := by decide +kernel
theorem d_Document_post_19 : decode b_Document_post 19 = .ok (.lload_n 2, 1) := by decide +kernel
theorem d_Document_post_20 : decode b_Document_post 20 = .ok (.lastore, 1) := by decide +kernel
theorem d_Document_post_21 : decode b_Document_post 21 = .ok (.lload_n 2, 1) := by decide +kernel
theorem d_Document_post_22 : decode b_Document_post 22 = .ok (.lconst 0, 1) := by decide +kernel
theorem d_Document_post_23 : decode b_Document_post 23 = .ok (.lcmp, 1) := by decide +kernel
theorem d_Document_post_24 : decode b_Document_post 24 = .ok (.ifCond .eq 13, 3) := by decide +kernel
theorem d_Document_post_27 : decode b_Document_post 27 = .ok (.aload_n 0, 1) := by decide +kernel
theorem d_Document_post_28 : decode b_Document_post 28 = .ok (.dup, 1) := by decide +kernel
theorem d_Document_post_29 : decode b_Document_post 29 = .ok (.getfield 16, 3) := by decide +kernel
theorem d_Document_post_32 : decode b_Document_post 32 = .ok (.iconst 1, 1) := by decide +kernel
theorem d_Document_post_33 : decode b_Document_post 33 = .ok (.iadd, 1) := by decide +kernel
theorem d_Document_post_34 : decode b_Document_post 34 = .ok (.putfield 16, 3) := by decide +kernel
theorem d_Document_post_37 : decode b_Document_post 37 = .ok (.lload 4, 2) := by decide +kernel
theorem d_Document_post_39 : decode b_Document_post 39 = .ok (.lconst 0, 1) := by decide +kernel
theorem d_Document_post_40 : decode b_Document_post 40 = .ok (.lcmp, 1) := by decide +kernel
theorem d_Document_post_41 : decode b_Document_post 41 = .ok (.ifCond .eq 28, 3) := by decide +kernel
theorem d_Document_post_44 : decode b_Document_post 44 = .ok (.lload 4, 2) := by decide +kernel
theorem d_Document_post_46 : decode b_Document_post 46 = .ok (.lload_n 2, 1) := by decide +kernel
theorem d_Document_post_47 : decode b_Document_post 47 = .ok (.lcmp, 1) := by decide +kernel
theorem d_Document_post_48 : decode b_Document_post 48 = .ok (.ifCond .eq 21, 3) := by decide +kernel
theorem d_Document_post_51 : decode b_Document_post 51 = .ok (.aload_n 0, 1) := by decide +kernel
theorem d_Document_post_52 : decode b_Document_post 52 = .ok (.getfield 13, 3) := by decide +kernel
theorem d_Document_post_55 : decode b_Document_post 55 = .ok (.iload_n 1, 1) := by decide +kernel
theorem d_Document_post_56 : decode b_Document_post 56 = .ok (.lload 4, 2) := by decide +kernel
theorem d_Document_post_58 : decode b_Document_post 58 = .ok (.lastore, 1) := by decide +kernel
theorem d_Document_post_59 : decode b_Document_post 59 = .ok (.aload_n 0, 1) := by decide +kernel
theorem d_Document_post_60 : decode b_Document_post 60 = .ok (.dup, 1) := by decide +kernel
theorem d_Document_post_61 : decode b_Document_post 61 = .ok (.getfield 16, 3) := by decide +kernel
theorem d_Document_post_64 : decode b_Document_post 64 = .ok (.iconst 1, 1) := by decide +kernel
theorem d_Document_post_65 : decode b_Document_post 65 = .ok (.iadd, 1) := by decide +kernel
theorem d_Document_post_66 : decode b_Document_post 66 = .ok (.putfield 16, 3) := by decide +kernel
theorem d_Document_post_69 : decode b_Document_post 69 = .ok (.return_, 1) := by decide +kernel
abbrev rm_Document_post : Room := { frames := 0, cells := 0, slots := 0, locals := 0 }
def f_Document_post_37 (L : Nat) (n : Nat) (μ : Mem) (x1 : Int32) (x2 : Int64) (x4 : Int64) : Option Mem := (if (lg_cmp x4 (0 : Int64)) = 0 then (some μ) else (if (lg_cmp x4 x2) = 0 then (some μ) else (gd (inb x1 L) (bd (wl μ 2 x1.toNatClampNeg x4) (fun μ1 => bd (wi μ1 0 2 ((μ1.1 0 2) + (1 : Int32))) (fun μ2 => some μ2))))))
set_option maxHeartbeats 4000000 in
set_option maxRecDepth 100000 in
theorem w_Document_post_37 {p : Program} {l : Launch} {e : Env} {s : State} {m : MethodId} {args : Array Value} {below : List Frame} {meth : Method} {c : Code} {D : va_G} {g : Nat → ClassId} {ad : Nat → Nat} {L : Nat} {μ' : Mem} {A : Nat → Prop} {n : Nat} {μ : Mem} {x1 : Int32} {x2 : Int64} {x4 : Int64} {ls : Array Slot} {H : Heap} {locs : List Loc} (X : Cx p s m args meth c b_Document_post 6 R_Document none D CL (TY g)) (hDA : ∀ μ : Mem, va_D A (WD g ad L μ)) (hP : va_P D CL (WD g ad L μ) H) (hS : va_S A s.heap H locs) (hl : lv_has ls 6 [(0, .ref (ad 0)), (1, .int x1), (2, .long x2), (4, .long x4)]) (hf : f_Document_post_37 L n μ x1 x2 x4 = some μ') : WU p l e rm_Document_post s m args below meth c H locs D (WD g ad L μ') A none (F0 m 37 ls []) := by
  obtain ⟨S, hr, hlk, hK⟩ := id X
  obtain ⟨hx, hb, hml, hown, hts⟩ := id S
  rw [f_Document_post_37] at hf
  refine lv_lload hx hb d_Document_post_37 (lv_at hl 3 rfl) ?_
  refine lv_lconst (v := 0) hx hb d_Document_post_39 (by decide) ?_
  refine W.lcmp hx hb d_Document_post_40 ?_
  refine lv_if_eq (tgt := 69) hx hb d_Document_post_41 rfl (fun hc => ?_) (fun hc => ?_)
  · replace hf := br_p hc hf
    obtain rfl := Option.some.inj hf
    exact W.vret hx hb hr (fun t ht _ => ⟨rfl, by rw [ht]; exact hP, hS.F ht⟩) hS.2.2 d_Document_post_69
  · replace hf := br_n hc hf
    refine lv_lload hx hb d_Document_post_44 (lv_at hl 3 rfl) ?_
    refine lv_lload_n hx hb d_Document_post_46 rfl (lv_at hl 2 rfl) ?_
    refine W.lcmp hx hb d_Document_post_47 ?_
    refine lv_if_eq (tgt := 69) hx hb d_Document_post_48 rfl (fun hc => ?_) (fun hc => ?_)
    · replace hf := br_p hc hf
      obtain rfl := Option.some.inj hf
      exact W.vret hx hb hr (fun t ht _ => ⟨rfl, by rw [ht]; exact hP, hS.F ht⟩) hS.2.2 d_Document_post_69
    · replace hf := br_n hc hf
      refine lv_aload_n hx hb d_Document_post_51 rfl (lv_at hl 0 rfl) ?_
      refine og_0_1 hx hb hts hown hK hP q_691 d_Document_post_52 ?_
      refine lv_iload_n hx hb d_Document_post_55 rfl (lv_at hl 1 rfl) ?_
      refine lv_lload hx hb d_Document_post_56 (lv_at hl 3 rfl) ?_
      obtain ⟨hi, hf⟩ := gd_x hf
      obtain ⟨μ1, hμ1, hf⟩ := bd_x hf
      refine os_2 hx hb hK (hDA _) hP hS (inb_in hi) d_Document_post_58 hμ1 (fun H locs hP hS => ?_)
      refine lv_aload_n hx hb d_Document_post_59 rfl (lv_at hl 0 rfl) ?_
      refine lv_dup hx hb d_Document_post_60 rfl ?_
      refine og_0_2 hx hb hts hown hK hP q_692 d_Document_post_61 ?_
      refine lv_iconst (v := 1) hx hb d_Document_post_64 (by decide) ?_
      refine lv_iadd hx hb d_Document_post_65 ?_
      obtain ⟨μ2, hμ2, hf⟩ := bd_x hf
      refine op_0_2 hx hb hts hown hK (hDA _) hP hS q_692 d_Document_post_66 hμ2 (fun H locs hP hS => ?_)
      obtain rfl := Option.some.inj hf
      exact W.vret hx hb hr (fun t ht _ => ⟨rfl, by rw [ht]; exact hP, hS.F ht⟩) hS.2.2 d_Document_post_69
def f_Document_post (n : Nat) (L : Nat) (μ : Mem) (a1 : Int32) (a2 : Int64) (a4 : Int64) : Option Mem := (if a1 < 0 then (some μ) else (if a1 < (Int32.ofNat L) then (gd (inb a1 L) (bd (wl μ 1 a1.toNatClampNeg a2) (fun μ1 => (if (lg_cmp a2 (0 : Int64)) = 0 then (f_Document_post_37 L n μ1 a1 a2 a4) else (bd (wi μ1 0 2 ((μ1.1 0 2) + (1 : Int32))) (fun μ2 => f_Document_post_37 L n μ2 a1 a2 a4)))))) else (some μ)))
set_option maxHeartbeats 4000000 in
set_option maxRecDepth 100000 in
theorem w_Document_post {p : Program} {l : Launch} {e : Env} {s : State} {m : MethodId} {args : Array Value} {below : List Frame} {meth : Method} {c : Code} {D : va_G} {g : Nat → ClassId} {ad : Nat → Nat} {L : Nat} {μ' : Mem} {A : Nat → Prop} {n : Nat} {μ : Mem} {a1 : Int32} {a2 : Int64} {a4 : Int64} {ls : Array Slot} {H : Heap} {locs : List Loc} (X : Cx p s m args meth c b_Document_post 6 R_Document none D CL (TY g)) (hDA : ∀ μ : Mem, va_D A (WD g ad L μ)) (hP : va_P D CL (WD g ad L μ) H) (hS : va_S A s.heap H locs) (hl : lv_has ls 6 [(0, .ref (ad 0)), (1, .int a1), (2, .long a2), (4, .long a4)]) (hf : f_Document_post n L μ a1 a2 a4 = some μ') : WU p l e rm_Document_post s m args below meth c H locs D (WD g ad L μ') A none (F0 m 0 ls []) := by
  obtain ⟨S, hr, hlk, hK⟩ := id X
  obtain ⟨hx, hb, hml, hown, hts⟩ := id S
  rw [f_Document_post] at hf
  refine lv_iload_n hx hb d_Document_post_0 rfl (lv_at hl 1 rfl) ?_
  refine lv_if_lt (tgt := 13) hx hb d_Document_post_1 rfl (fun hc => ?_) (fun hc => ?_)
  · replace hf := br_p hc hf
    obtain rfl := Option.some.inj hf
    exact W.vret hx hb hr (fun t ht _ => ⟨rfl, by rw [ht]; exact hP, hS.F ht⟩) hS.2.2 d_Document_post_13
  · replace hf := br_n hc hf
    refine lv_iload_n hx hb d_Document_post_4 rfl (lv_at hl 1 rfl) ?_
    refine lv_aload_n hx hb d_Document_post_5 rfl (lv_at hl 0 rfl) ?_
    refine og_0_0 hx hb hts hown hK hP q_690 d_Document_post_6 ?_
    refine on_1 hx hb hK hP d_Document_post_9 ?_
    refine lv_icmp_lt (tgt := 14) hx hb d_Document_post_10 rfl (fun hc => ?_) (fun hc => ?_)
    · replace hf := br_p hc hf
      refine lv_aload_n hx hb d_Document_post_14 rfl (lv_at hl 0 rfl) ?_
      refine og_0_0 hx hb hts hown hK hP q_690 d_Document_post_15 ?_
      refine lv_iload_n hx hb d_Document_post_18 rfl (lv_at hl 1 rfl) ?_
      refine lv_lload_n hx hb d_Document_post_19 rfl (lv_at hl 2 rfl) ?_
      obtain ⟨hi, hf⟩ := gd_x hf
      obtain ⟨μ1, hμ1, hf⟩ := bd_x hf
      refine os_1 hx hb hK (hDA _) hP hS (inb_in hi) d_Document_post_20 hμ1 (fun H locs hP hS => ?_)
      refine lv_lload_n hx hb d_Document_post_21 rfl (lv_at hl 2 rfl) ?_
      refine lv_lconst (v := 0) hx hb d_Document_post_22 (by decide) ?_
      refine W.lcmp hx hb d_Document_post_23 ?_
      refine lv_if_eq (tgt := 37) hx hb d_Document_post_24 rfl (fun hc => ?_) (fun hc => ?_)
      · replace hf := br_p hc hf
        exact w_Document_post_37 X hDA hP hS (lv_sub (l' := [(0, .ref (ad 0)), (1, .int a1), (2, .long a2), (4, .long a4)]) hl [0, 1, 2, 3] rfl) hf
      · replace hf := br_n hc hf
        refine lv_aload_n hx hb d_Document_post_27 rfl (lv_at hl 0 rfl) ?_
        refine lv_dup hx hb d_Document_post_28 rfl ?_
        refine og_0_2 hx hb hts hown hK hP q_692 d_Document_post_29 ?_
        refine lv_iconst (v := 1) hx hb d_Document_post_32 (by decide) ?_
        refine lv_iadd hx hb d_Document_post_33 ?_
        obtain ⟨μ2, hμ2, hf⟩ := bd_x hf
        refine op_0_2 hx hb hts hown hK (hDA _) hP hS q_692 d_Document_post_34 hμ2 (fun H locs hP hS => ?_)
        exact w_Document_post_37 X hDA hP hS (lv_sub (l' := [(0, .ref (ad 0)), (1, .int a1), (2, .long a2), (4, .long a4)]) hl [0, 1, 2, 3] rfl) hf
    · replace hf := br_n hc hf
      obtain rfl := Option.some.inj hf
      exact W.vret hx hb hr (fun t ht _ => ⟨rfl, by rw [ht]; exact hP, hS.F ht⟩) hS.2.2 d_Document_post_13
theorem c_Document_post {l : Launch} {D : va_G} {g : Nat → ClassId} {ad : Nat → Nat} {L : Nat} {μ : Mem} {μ' : Mem} {A : Nat → Prop} {n : Nat} {a1 : Int32} {a2 : Int64} {a4 : Int64} (hDA : ∀ μ : Mem, va_D A (WD g ad L μ)) (hf : f_Document_post n L μ a1 a2 a4 = some μ') : Met l y_Document_post (Cond.code y_Document_post b_Document_post 6 none :: ww) rm_Document_post (RP D CL (TY g) (WD g ad L μ) [.ref (ad 0), .int a1, .long a2, .long a4]) (QW D CL (WD g ad L μ') A none) 0 0 A := by
  refine met_of (by decide) (Nat.le_of_ble_eq_true rfl) ?_
  intro p e s m below meth c ls X hP hl
  have hl : lv_has ls 6 [(0, .ref (ad 0)), (1, .int a1), (2, .long a2), (4, .long a4)] := hl
  exact w_Document_post X hDA hP va_S.rf hl hf
theorem d_Document_postings_0 : decode b_Document_postings 0 = .ok (.aload_n 0, 1) := by decide +kernel
theorem d_Document_postings_1 : decode b_Document_postings 1 = .ok (.getfield 16, 3) := by decide +kernel
theorem d_Document_postings_4 : decode b_Document_postings 4 = .ok (.ireturn, 1) := by decide +kernel
abbrev rm_Document_postings : Room := { frames := 0, cells := 0, slots := 0, locals := 0 }
def f_Document_postings (n : Nat) (L : Nat) (μ : Mem) : Option Int32 := some (μ.1 0 2)
set_option maxHeartbeats 4000000 in
set_option maxRecDepth 100000 in
theorem w_Document_postings {p : Program} {l : Launch} {e : Env} {s : State} {m : MethodId} {args : Array Value} {below : List Frame} {meth : Method} {c : Code} {D : va_G} {g : Nat → ClassId} {ad : Nat → Nat} {L : Nat} {μ : Mem} {r : Int32} {n : Nat} {ls : Array Slot} (X : Cx p s m args meth c b_Document_postings 1 R_Document (some .int) D CL (TY g)) (hP : va_P D CL (WD g ad L μ) s.heap) (hl : lv_has ls 1 [(0, .ref (ad 0))]) (hf : f_Document_postings n L μ = some r) : WR p l e rm_Document_postings s m args below meth c (.int r) (F0 m 0 ls []) := by
  obtain ⟨S, hr, hlk, hK⟩ := id X
  obtain ⟨hx, hb, hml, hown, hts⟩ := id S
  rw [f_Document_postings] at hf
  refine lv_aload_n hx hb d_Document_postings_0 rfl (lv_at hl 0 rfl) ?_
  refine og_0_2 hx hb hts hown hK hP q_692 d_Document_postings_1 ?_
  have h1 := Option.some.inj hf
  subst h1
  exact W.iret hx hb hr (fun t ht _ => ⟨rfl, ht⟩) (fun _ h => by cases h) d_Document_postings_4
theorem c_Document_postings {l : Launch} {D : va_G} {g : Nat → ClassId} {ad : Nat → Nat} {L : Nat} {μ : Mem} {r : Int32} {n : Nat} (hf : f_Document_postings n L μ = some r) : Met l y_Document_postings (Cond.code y_Document_postings b_Document_postings 1 (some .int) :: ww) rm_Document_postings (RP D CL (TY g) (WD g ad L μ) [.ref (ad 0)]) (k2_QcV (.int r)) 0 0 (fun _ => False) := by
  refine met_of (by decide) (Nat.le_of_ble_eq_true rfl) ?_
  intro p e s m below meth c ls X hP hl
  have hl : lv_has ls 1 [(0, .ref (ad 0))] := hl
  exact w_Document_postings X hP hl hf
theorem d_Document_has_0 : decode b_Document_has 0 = .ok (.iload_n 3, 1) := by decide +kernel
theorem d_Document_has_1 : decode b_Document_has 1 = .ok (.ifCond .lt 12, 3) := by decide +kernel
theorem d_Document_has_4 : decode b_Document_has 4 = .ok (.iload_n 3, 1) := by decide +kernel
theorem d_Document_has_5 : decode b_Document_has 5 = .ok (.aload_n 0, 1) := by decide +kernel
theorem d_Document_has_6 : decode b_Document_has 6 = .ok (.getfield 7, 3) := by decide +kernel
theorem d_Document_has_9 : decode b_Document_has 9 = .ok (.arraylength, 1) := by decide +kernel
theorem d_Document_has_10 : decode b_Document_has 10 = .ok (.if_icmp .lt 5, 3) := by decide +kernel
theorem d_Document_has_13 : decode b_Document_has 13 = .ok (.iconst 0, 1) := by decide +kernel
theorem d_Document_has_14 : decode b_Document_has 14 = .ok (.ireturn, 1) := by decide +kernel
theorem d_Document_has_15 : decode b_Document_has 15 = .ok (.aload_n 0, 1) := by decide +kernel
theorem d_Document_has_16 : decode b_Document_has 16 = .ok (.getfield 7, 3) := by decide +kernel
theorem d_Document_has_19 : decode b_Document_has 19 = .ok (.iload_n 3, 1) := by decide +kernel
theorem d_Document_has_20 : decode b_Document_has 20 = .ok (.laload, 1) := by decide +kernel
theorem d_Document_has_21 : decode b_Document_has 21 = .ok (.lload_n 1, 1) := by decide +kernel
theorem d_Document_has_22 : decode b_Document_has 22 = .ok (.lcmp, 1) := by decide +kernel
theorem d_Document_has_23 : decode b_Document_has 23 = .ok (.ifCond .eq 14, 3) := by decide +kernel
theorem d_Document_has_26 : decode b_Document_has 26 = .ok (.aload_n 0, 1) := by decide +kernel
theorem d_Document_has_27 : decode b_Document_has 27 = .ok (.getfield 13, 3) := by decide +kernel
theorem d_Document_has_30 : decode b_Document_has 30 = .ok (.iload_n 3, 1) := by decide +kernel
theorem d_Document_has_31 : decode b_Document_has 31 = .ok (.laload, 1) := by decide +kernel
theorem d_Document_has_32 : decode b_Document_has 32 = .ok (.lload_n 1, 1) := by decide +kernel
theorem d_Document_has_33 : decode b_Document_has 33 = .ok (.lcmp, 1) := by decide +kernel
theorem d_Document_has_34 : decode b_Document_has 34 = .ok (.ifCond .ne 7, 3) := by decide +kernel
theorem d_Document_has_37 : decode b_Document_has 37 = .ok (.iconst 1, 1) := by decide +kernel
theorem d_Document_has_38 : decode b_Document_has 38 = .ok (.goto 4, 3) := by decide +kernel
theorem d_Document_has_41 : decode b_Document_has 41 = .ok (.iconst 0, 1) := by decide +kernel
theorem d_Document_has_42 : decode b_Document_has 42 = .ok (.ireturn, 1) := by decide +kernel
abbrev rm_Document_has : Room := { frames := 0, cells := 0, slots := 0, locals := 0 }
def f_Document_has_37 (L : Nat) (μ : Mem) (n : Nat) : Option Bool := some true
set_option maxHeartbeats 4000000 in
set_option maxRecDepth 100000 in
theorem w_Document_has_37 {p : Program} {l : Launch} {e : Env} {s : State} {m : MethodId} {args : Array Value} {below : List Frame} {meth : Method} {c : Code} {D : va_G} {g : Nat → ClassId} {ad : Nat → Nat} {L : Nat} {μ : Mem} {r : Bool} {n : Nat} {ls : Array Slot} (X : Cx p s m args meth c b_Document_has 4 R_Document (some .boolean) D CL (TY g)) (hP : va_P D CL (WD g ad L μ) s.heap) (hl : lv_has ls 4 []) (hf : f_Document_has_37 L μ n = some r) : WR p l e rm_Document_has s m args below meth c (.int (bz r)) (F0 m 37 ls []) := by
  obtain ⟨S, hr, hlk, hK⟩ := id X
  obtain ⟨hx, hb, hml, hown, hts⟩ := id S
  rw [f_Document_has_37] at hf
  refine lv_iconst (v := 1) hx hb d_Document_has_37 (by decide) ?_
  refine lv_goto (tgt := 42) hx hb d_Document_has_38 rfl ?_
  have h1 := Option.some.inj hf
  subst h1
  exact W.zret hx hb hr (by first | rfl | exact bz_nar _) (fun t ht _ => ⟨rfl, ht⟩) (fun _ h => by cases h) d_Document_has_42
def f_Document_has (n : Nat) (L : Nat) (μ : Mem) (a1 : Int64) (a3 : Int32) : Option Bool := (if a3 < 0 then (some false) else (if a3 < (Int32.ofNat L) then (gd (inb a3 L) ((if (lg_cmp (μ.2 1 a3.toNatClampNeg) a1) = 0 then (f_Document_has_37 L μ n) else (gd (inb a3 L) ((if (lg_cmp (μ.2 2 a3.toNatClampNeg) a1) = 0 then (f_Document_has_37 L μ n) else (some false))))))) else (some false)))
set_option maxHeartbeats 4000000 in
set_option maxRecDepth 100000 in
theorem w_Document_has {p : Program} {l : Launch} {e : Env} {s : State} {m : MethodId} {args : Array Value} {below : List Frame} {meth : Method} {c : Code} {D : va_G} {g : Nat → ClassId} {ad : Nat → Nat} {L : Nat} {μ : Mem} {r : Bool} {n : Nat} {a1 : Int64} {a3 : Int32} {ls : Array Slot} (X : Cx p s m args meth c b_Document_has 4 R_Document (some .boolean) D CL (TY g)) (hP : va_P D CL (WD g ad L μ) s.heap) (hl : lv_has ls 4 [(0, .ref (ad 0)), (1, .long a1), (3, .int a3)]) (hf : f_Document_has n L μ a1 a3 = some r) : WR p l e rm_Document_has s m args below meth c (.int (bz r)) (F0 m 0 ls []) := by
  obtain ⟨S, hr, hlk, hK⟩ := id X
  obtain ⟨hx, hb, hml, hown, hts⟩ := id S
  rw [f_Document_has] at hf
  refine lv_iload_n hx hb d_Document_has_0 rfl (lv_at hl 2 rfl) ?_
  refine lv_if_lt (tgt := 13) hx hb d_Document_has_1 rfl (fun hc => ?_) (fun hc => ?_)
  · replace hf := br_p hc hf
    refine lv_iconst (v := 0) hx hb d_Document_has_13 (by decide) ?_
    have h1 := Option.some.inj hf
    subst h1
    exact W.zret hx hb hr (by first | rfl | exact bz_nar _) (fun t ht _ => ⟨rfl, ht⟩) (fun _ h => by cases h) d_Document_has_14
  · replace hf := br_n hc hf
    refine lv_iload_n hx hb d_Document_has_4 rfl (lv_at hl 2 rfl) ?_
    refine lv_aload_n hx hb d_Document_has_5 rfl (lv_at hl 0 rfl) ?_
    refine og_0_0 hx hb hts hown hK hP q_690 d_Document_has_6 ?_
    refine on_1 hx hb hK hP d_Document_has_9 ?_
    refine lv_icmp_lt (tgt := 15) hx hb d_Document_has_10 rfl (fun hc => ?_) (fun hc => ?_)
    · replace hf := br_p hc hf
      refine lv_aload_n hx hb d_Document_has_15 rfl (lv_at hl 0 rfl) ?_
      refine og_0_0 hx hb hts hown hK hP q_690 d_Document_has_16 ?_
      refine lv_iload_n hx hb d_Document_has_19 rfl (lv_at hl 2 rfl) ?_
      obtain ⟨hi, hf⟩ := gd_x hf
      refine ol_1 hx hb hK hP (inb_in hi) d_Document_has_20 ?_
      refine lv_lload_n hx hb d_Document_has_21 rfl (lv_at hl 1 rfl) ?_
      refine W.lcmp hx hb d_Document_has_22 ?_
      refine lv_if_eq (tgt := 37) hx hb d_Document_has_23 rfl (fun hc => ?_) (fun hc => ?_)
      · replace hf := br_p hc hf
        exact w_Document_has_37 X hP (lv_sub (l' := []) hl [] rfl) hf
      · replace hf := br_n hc hf
        refine lv_aload_n hx hb d_Document_has_26 rfl (lv_at hl 0 rfl) ?_
        refine og_0_1 hx hb hts hown hK hP q_691 d_Document_has_27 ?_
        refine lv_iload_n hx hb d_Document_has_30 rfl (lv_at hl 2 rfl) ?_
        obtain ⟨hi, hf⟩ := gd_x hf
        refine ol_2 hx hb hK hP (inb_in hi) d_Document_has_31 ?_
        refine lv_lload_n hx hb d_Document_has_32 rfl (lv_at hl 1 rfl) ?_
        refine W.lcmp hx hb d_Document_has_33 ?_
        refine lv_if_ne (tgt := 41) hx hb d_Document_has_34 rfl (fun hc => ?_) (fun hc => ?_)
        · replace hf := br_n hc hf
          refine lv_iconst (v := 0) hx hb d_Document_has_41 (by decide) ?_
          have h1 := Option.some.inj hf
          subst h1
          exact W.zret hx hb hr (by first | rfl | exact bz_nar _) (fun t ht _ => ⟨rfl, ht⟩) (fun _ h => by cases h) d_Document_has_42
        · replace hf := br_p hc hf
          exact w_Document_has_37 X hP (lv_sub (l' := []) hl [] rfl) hf
    · replace hf := br_n hc hf
      refine lv_iconst (v := 0) hx hb d_Document_has_13 (by decide) ?_
      have h1 := Option.some.inj hf
      subst h1
      exact W.zret hx hb hr (by first | rfl | exact bz_nar _) (fun t ht _ => ⟨rfl, ht⟩) (fun _ h => by cases h) d_Document_has_14
theorem c_Document_has {l : Launch} {D : va_G} {g : Nat → ClassId} {ad : Nat → Nat} {L : Nat} {μ : Mem} {r : Bool} {n : Nat} {a1 : Int64} {a3 : Int32} (hf : f_Document_has n L μ a1 a3 = some r) : Met l y_Document_has (Cond.code y_Document_has b_Document_has 4 (some .boolean) :: ww) rm_Document_has (RP D CL (TY g) (WD g ad L μ) [.ref (ad 0), .long a1, .int a3]) (k2_QcV (.int (bz r))) 0 0 (fun _ => False) := by
  refine met_of (by decide) (Nat.le_of_ble_eq_true rfl) ?_
  intro p e s m below meth c ls X hP hl
  have hl : lv_has ls 4 [(0, .ref (ad 0)), (1, .long a1), (3, .int a3)] := hl
  exact w_Document_has X hP hl hf
theorem d_Document_occursAt_0 : decode b_Document_occursAt 0 = .ok (.iconst 0, 1) := by decide +kernel
theorem d_Document_occursAt_1 : decode b_Document_occursAt 1 = .ok (.istore 4, 2) := by decide +kernel
theorem d_Document_occursAt_3 : decode b_Document_occursAt 3 = .ok (.iload 4, 2) := by decide +kernel
theorem d_Document_occursAt_5 : decode b_Document_occursAt 5 = .ok (.iload_n 3, 1) := by decide +kernel
theorem d_Document_occursAt_6 : decode b_Document_occursAt 6 = .ok (.if_icmp .ge 35, 3) := by decide +kernel
theorem d_Document_occursAt_9 : decode b_Document_occursAt 9 = .ok (.aload_n 2, 1) := by decide +kernel
theorem d_Document_occursAt_10 : decode b_Document_occursAt 10 = .ok (.iload 4, 2) := by decide +kernel
theorem d_Document_occursAt_12 : decode b_Document_occursAt 12 = .ok (.laload, 1) := by decide +kernel
theorem d_Document_occursAt_13 : decode b_Document_occursAt 13 = .ok (.lconst 0, 1) := by decide +kernel
theorem d_Document_occursAt_14 : decode b_Document_occursAt 14 = .ok (.lcmp, 1) := by decide +kernel
theorem d_Document_occursAt_15 : decode b_Document_occursAt 15 = .ok (.ifCond .eq 20, 3) := by decide +kernel
theorem d_Document_occursAt_18 : decode b_Document_occursAt 18 = .ok (.aload_n 0, 1) := by decide +kernel
theorem d_Document_occursAt_19 : decode b_Document_occursAt 19 = .ok (.aload_n 2, 1) := by decide +kernel
theorem d_Document_occursAt_20 : decode b_Document_occursAt 20 = .ok (.iload 4, 2) := by decide +kernel
theorem d_Document_occursAt_22 : decode b_Document_occursAt 22 = .ok (.laload, 1) := by decide +kernel
theorem d_Document_occursAt_23 : decode b_Document_occursAt 23 = .ok (.iload 4, 2) := by decide +kernel
theorem d_Document_occursAt_25 : decode b_Document_occursAt 25 = .ok (.iload_n 1, 1) := by decide +kernel
theorem d_Document_occursAt_26 : decode b_Document_occursAt 26 = .ok (.iadd, 1) := by decide +kernel
theorem d_Document_occursAt_27 : decode b_Document_occursAt 27 = .ok (.invokevirtual 24, 3) := by decide +kernel
theorem d_Document_occursAt_30 : decode b_Document_occursAt 30 = .ok (.ifCond .ne 5, 3) := by decide +kernel
theorem d_Document_occursAt_33 : decode b_Document_occursAt 33 = .ok (.iconst 0, 1) := by decide +kernel
theorem d_Document_occursAt_34 : decode b_Document_occursAt 34 = .ok (.ireturn, 1) := by decide +kernel
theorem d_Document_occursAt_35 : decode b_Document_occursAt 35 = .ok (.iinc 4 1, 3) := by decide +kernel
theorem d_Document_occursAt_38 : decode b_Document_occursAt 38 = .ok (.goto (-35), 3) := by decide +kernel
theorem d_Document_occursAt_41 : decode b_Document_occursAt 41 = .ok (.iconst 1, 1) := by decide +kernel
theorem d_Document_occursAt_42 : decode b_Document_occursAt 42 = .ok (.ireturn, 1) := by decide +kernel
abbrev rm_Document_occursAt : Room := { frames := 1, cells := 0, slots := 0, locals := 23 }
def f_Document_occursAt_35 (κ3 : Int32 → Int32 → Int32 → Option Bool) (L : Nat) (μ : Mem) (n : Nat) (x1 : Int32) (x3 : Int32) (x4 : Int32) : Option Bool := bd (x4 + 1) (fun v1 => κ3 x1 x3 v1)
set_option maxHeartbeats 4000000 in
set_option maxRecDepth 100000 in
theorem w_Document_occursAt_35 {p : Program} {l : Launch} {e : Env} {s : State} {m : MethodId} {args : Array Value} {below : List Frame} {meth : Method} {c : Code} {D : va_G} {g : Nat → ClassId} {ad : Nat → Nat} {L : Nat} {μ : Mem} {r : Bool} {κ3 : Int32 → Int32 → Int32 → Option Bool} {n : Nat} {x1 : Int32} {x3 : Int32} {x4 : Int32} {ls : Array Slot} (X : Cx p s m args meth c b_Document_occursAt 5 R_Document (some .boolean) D CL (TY g)) (hP : va_P D CL (WD g ad L μ) s.heap) (hκ3 : ∀ (x1 : Int32) (x3 : Int32) (x4 : Int32) (ls : Array Slot), lv_has ls 5 [(0, .ref (ad 0)), (1, .int x1), (2, .ref (ad 3)), (3, .int x3), (4, .int x4)] → κ3 x1 x3 x4 = some r → WR p l e rm_Document_occursAt s m args below meth c (.int (bz r)) (F0 m 3 ls [])) (hl : lv_has ls 5 [(0, .ref (ad 0)), (1, .int x1), (2, .ref (ad 3)), (3, .int x3), (4, .int x4)]) (hf : f_Document_occursAt_35 κ3 L μ n x1 x3 x4 = some r) : WR p l e rm_Document_occursAt s m args below meth c (.int (bz r)) (F0 m 35 ls []) := by
  obtain ⟨S, hr, hlk, hK⟩ := id X
  obtain ⟨hx, hb, hml, hown, hts⟩ := id S
  rw [f_Document_occursAt_35] at hf
  obtain ⟨v1, hv1, hf⟩ := bd_x hf
  refine lv_iinc (lv' := [(4, .int v1), (0, .ref (ad 0)), (1, .int x1), (2, .ref (ad 3)), (3, .int x3)]) hx hb d_Document_occursAt_35 hl (k := 4) rfl (show x4 + Int32.ofInt (1) = v1 from hv1) (Nat.le_of_ble_eq_true rfl) rfl (fun ls hl => ?_)
  refine lv_goto (tgt := 3) hx hb d_Document_occursAt_38 rfl ?_
  exact hκ3 _ _ _ _ (lv_sub (l' := [(0, .ref (ad 0)), (1, .int x1), (2, .ref (ad 3)), (3, .int x3), (4, .int v1)]) hl [1, 2, 3, 4, 0] rfl) hf
def f_Document_occursAt_3 (L : Nat) (μ : Mem) : Nat → Int32 → Int32 → Int32 → Option Bool
  | 0, _, _, _ => none
  | n + 1, x1, x3, x4 => (if x3 ≤ x4 then (some true) else (gd (inb x4 24) ((if (lg_cmp (μ.2 3 x4.toNatClampNeg) (0 : Int64)) = 0 then (f_Document_occursAt_35 (f_Document_occursAt_3 L μ n) L μ n x1 x3 x4) else (gd (inb x4 24) (cl (f_Document_has n L μ (μ.2 3 x4.toNatClampNeg) (x4 + x1)) (fun v1 => (if (bz v1) = 0 then (some false) else (f_Document_occursAt_35 (f_Document_occursAt_3 L μ n) L μ n x1 x3 x4)))))))))
set_option maxHeartbeats 4000000 in
set_option maxRecDepth 100000 in
theorem w_Document_occursAt_3 {p : Program} {l : Launch} {e : Env} {s : State} {m : MethodId} {args : Array Value} {below : List Frame} {meth : Method} {c : Code} {D : va_G} {g : Nat → ClassId} {ad : Nat → Nat} {L : Nat} {μ : Mem} {r : Bool} (X : Cx p s m args meth c b_Document_occursAt 5 R_Document (some .boolean) D CL (TY g)) (hP : va_P D CL (WD g ad L μ) s.heap) : ∀ (n : Nat) (x1 : Int32) (x3 : Int32) (x4 : Int32) (ls : Array Slot), lv_has ls 5 [(0, .ref (ad 0)), (1, .int x1), (2, .ref (ad 3)), (3, .int x3), (4, .int x4)] → f_Document_occursAt_3 L μ n x1 x3 x4 = some r → WR p l e rm_Document_occursAt s m args below meth c (.int (bz r)) (F0 m 3 ls []) := by
  intro n
  induction n with
  | zero => intro x1 x3 x4 ls hl hf; rw [f_Document_occursAt_3] at hf; cases hf
  | succ n ih =>
    intro x1 x3 x4 ls hl hf
    obtain ⟨S, hr, hlk, hK⟩ := id X
    obtain ⟨hx, hb, hml, hown, hts⟩ := id S
    rw [f_Document_occursAt_3] at hf
    refine lv_iload hx hb d_Document_occursAt_3 (lv_at hl 4 rfl) ?_
    refine lv_iload_n hx hb d_Document_occursAt_5 rfl (lv_at hl 3 rfl) ?_
    refine lv_icmp_ge (tgt := 41) hx hb d_Document_occursAt_6 rfl (fun hc => ?_) (fun hc => ?_)
    · replace hf := br_p hc hf
      refine lv_iconst (v := 1) hx hb d_Document_occursAt_41 (by decide) ?_
      have h1 := Option.some.inj hf
      subst h1
      exact W.zret hx hb hr (by first | rfl | exact bz_nar _) (fun t ht _ => ⟨rfl, ht⟩) (fun _ h => by cases h) d_Document_occursAt_42
    · replace hf := br_n hc hf
      refine lv_aload_n hx hb d_Document_occursAt_9 rfl (lv_at hl 2 rfl) ?_
      refine lv_iload hx hb d_Document_occursAt_10 (lv_at hl 4 rfl) ?_
      obtain ⟨hi, hf⟩ := gd_x hf
      refine ol_3 hx hb hK hP (inb_in hi) d_Document_occursAt_12 ?_
      refine lv_lconst (v := 0) hx hb d_Document_occursAt_13 (by decide) ?_
      refine W.lcmp hx hb d_Document_occursAt_14 ?_
      refine lv_if_eq (tgt := 35) hx hb d_Document_occursAt_15 rfl (fun hc => ?_) (fun hc => ?_)
      · replace hf := br_p hc hf
        exact w_Document_occursAt_35 X hP ih (lv_sub (l' := [(0, .ref (ad 0)), (1, .int x1), (2, .ref (ad 3)), (3, .int x3), (4, .int x4)]) hl [0, 1, 2, 3, 4] rfl) hf
      · replace hf := br_n hc hf
        refine lv_aload_n hx hb d_Document_occursAt_18 rfl (lv_at hl 0 rfl) ?_
        refine lv_aload_n hx hb d_Document_occursAt_19 rfl (lv_at hl 2 rfl) ?_
        refine lv_iload hx hb d_Document_occursAt_20 (lv_at hl 4 rfl) ?_
        obtain ⟨hi, hf⟩ := gd_x hf
        refine ol_3 hx hb hK hP (inb_in hi) d_Document_occursAt_22 ?_
        refine lv_iload hx hb d_Document_occursAt_23 (lv_at hl 4 rfl) ?_
        refine lv_iload_n hx hb d_Document_occursAt_25 rfl (lv_at hl 1 rfl) ?_
        refine lv_iadd hx hb d_Document_occursAt_26 ?_
        obtain ⟨v1, hv1, hf⟩ := cl_x hf
        refine rdV (As := [.long (μ.2 3 x4.toNatClampNeg), .int (x4 + x1)]) (rest := []) S K_Document_has q_804 (c_Document_has hv1) hK hP ⟨rfl, rfl⟩ ⟨Nat.le_of_ble_eq_true rfl, Nat.le_of_ble_eq_true rfl⟩ (or_0 hK hP) rfl hl.1 rfl (Nat.le_of_ble_eq_true rfl) d_Document_occursAt_27 ⟨Nat.le_refl _, Nat.le_refl _⟩ ?_
        refine lv_if_ne (tgt := 35) hx hb d_Document_occursAt_30 rfl (fun hc => ?_) (fun hc => ?_)
        · replace hf := br_n hc hf
          exact w_Document_occursAt_35 X hP ih (lv_sub (l' := [(0, .ref (ad 0)), (1, .int x1), (2, .ref (ad 3)), (3, .int x3), (4, .int x4)]) hl [0, 1, 2, 3, 4] rfl) hf
        · replace hf := br_p hc hf
          refine lv_iconst (v := 0) hx hb d_Document_occursAt_33 (by decide) ?_
          have h1 := Option.some.inj hf
          subst h1
          exact W.zret hx hb hr (by first | rfl | exact bz_nar _) (fun t ht _ => ⟨rfl, ht⟩) (fun _ h => by cases h) d_Document_occursAt_34
def f_Document_occursAt (n : Nat) (L : Nat) (μ : Mem) (a1 : Int32) (a3 : Int32) : Option Bool := f_Document_occursAt_3 L μ n a1 a3 (0 : Int32)
set_option maxHeartbeats 4000000 in
set_option maxRecDepth 100000 in
theorem w_Document_occursAt {p : Program} {l : Launch} {e : Env} {s : State} {m : MethodId} {args : Array Value} {below : List Frame} {meth : Method} {c : Code} {D : va_G} {g : Nat → ClassId} {ad : Nat → Nat} {L : Nat} {μ : Mem} {r : Bool} {n : Nat} {a1 : Int32} {a3 : Int32} {ls : Array Slot} (X : Cx p s m args meth c b_Document_occursAt 5 R_Document (some .boolean) D CL (TY g)) (hP : va_P D CL (WD g ad L μ) s.heap) (hl : lv_has ls 5 [(0, .ref (ad 0)), (1, .int a1), (2, .ref (ad 3)), (3, .int a3)]) (hf : f_Document_occursAt n L μ a1 a3 = some r) : WR p l e rm_Document_occursAt s m args below meth c (.int (bz r)) (F0 m 0 ls []) := by
  obtain ⟨S, hr, hlk, hK⟩ := id X
  obtain ⟨hx, hb, hml, hown, hts⟩ := id S
  rw [f_Document_occursAt] at hf
  refine lv_iconst (v := 0) hx hb d_Document_occursAt_0 (by decide) ?_
  refine lv_istore (lv' := [(4, .int (0 : Int32)), (0, .ref (ad 0)), (1, .int a1), (2, .ref (ad 3)), (3, .int a3)]) hx hb d_Document_occursAt_1 hl (Nat.le_of_ble_eq_true rfl) rfl (fun ls hl => ?_)
  exact w_Document_occursAt_3 X hP _ _ _ _ _ (lv_sub (l' := [(0, .ref (ad 0)), (1, .int a1), (2, .ref (ad 3)), (3, .int a3), (4, .int (0 : Int32))]) hl [1, 2, 3, 4, 0] rfl) hf
theorem c_Document_occursAt {l : Launch} {D : va_G} {g : Nat → ClassId} {ad : Nat → Nat} {L : Nat} {μ : Mem} {r : Bool} {n : Nat} {a1 : Int32} {a3 : Int32} (hf : f_Document_occursAt n L μ a1 a3 = some r) : Met l y_Document_occursAt (Cond.code y_Document_occursAt b_Document_occursAt 5 (some .boolean) :: ww) rm_Document_occursAt (RP D CL (TY g) (WD g ad L μ) [.ref (ad 0), .int a1, .ref (ad 3), .int a3]) (k2_QcV (.int (bz r))) 0 0 (fun _ => False) := by
  refine met_of (by decide) (Nat.le_of_ble_eq_true rfl) ?_
  intro p e s m below meth c ls X hP hl
  have hl : lv_has ls 5 [(0, .ref (ad 0)), (1, .int a1), (2, .ref (ad 3)), (3, .int a3)] := hl
  exact w_Document_occursAt X hP hl hf
theorem d_Document_occurrences_0 : decode b_Document_occurrences 0 = .ok (.iconst 0, 1) := by decide +kernel
theorem d_Document_occurrences_1 : decode b_Document_occurrences 1 = .ok (.istore_n 3, 1) := by decide +kernel
theorem d_Document_occurrences_2 : decode b_Document_occurrences 2 = .ok (.iload_n 3, 1) := by decide +kernel
theorem d_Document_occurrences_3 : decode b_Document_occurrences 3 = .ok (.iload_n 2, 1) := by decide +kernel
theorem d_Document_occurrences_4 : decode b_Document_occurrences 4 = .ok (.if_icmp .ge 17, 3) := by decide +kernel
theorem d_Document_occurrences_7 : decode b_Document_occurrences 7 = .ok (.aload_n 1, 1) := by decide +kernel
theorem d_Document_occurrences_8 : decode b_Document_occurrences 8 = .ok (.iload_n 3, 1) := by decide +kernel
theorem d_Document_occurrences_9 : decode b_Document_occurrences 9 = .ok (.laload, 1) := by decide +kernel
theorem d_Document_occurrences_10 : decode b_Document_occurrences 10 = .ok (.lconst 0, 1) := by decide +kernel
theorem d_Document_occurrences_11 : decode b_Document_occurrences 11 = .ok (.lcmp, 1) := by decide +kernel
theorem d_Document_occurrences_12 : decode b_Document_occurrences 12 = .ok (.ifCond .ne 9, 3) := by decide +kernel
theorem d_Document_occurrences_15 : decode b_Document_occurrences 15 = .ok (.iinc 3 1, 3) := by decide +kernel
theorem d_Document_occurrences_18 : decode b_Document_occurrences 18 = .ok (.goto (-16), 3) := by decide +kernel
theorem d_Document_occurrences_21 : decode b_Document_occurrences 21 = .ok (.iload_n 3, 1) := by decide +kernel
theorem d_Document_occurrences_22 : decode b_Document_occurrences 22 = .ok (.iload_n 2, 1) := by decide +kernel
theorem d_Document_occurrences_23 : decode b_Document_occurrences 23 = .ok (.if_icmp .lt 5, 3) := by decide +kernel
theorem d_Document_occurrences_26 : decode b_Document_occurrences 26 = .ok (.iconst 0, 1) := by decide +kernel
theorem d_Document_occurrences_27 : decode b_Document_occurrences 27 = .ok (.ireturn, 1) := by decide +kernel
theorem d_Document_occurrences_28 : decode b_Document_occurrences 28 = .ok (.iconst 0, 1) := by decide +kernel
theorem d_Document_occurrences_29 : decode b_Document_occurrences 29 = .ok (.istore 4, 2) := by decide +kernel
theorem d_Document_occurrences_31 : decode b_Document_occurrences 31 = .ok (.iconst 0, 1) := by decide +kernel
theorem d_Document_occurrences_32 : decode b_Document_occurrences 32 = .ok (.istore 5, 2) := by decide +kernel
theorem d_Document_occurrences_34 : decode b_Document_occurrences 34 = .ok (.iload 5, 2) := by decide +kernel
theorem d_Document_occurrences_36 : decode b_Document_occurrences 36 = .ok (.aload_n 0, 1) := by decide +kernel
theorem d_Document_occurrences_37 : decode b_Document_occurrences 37 = .ok (.getfield 7, 3) := by decide +kernel
theorem d_Document_occurrences_40 : decode b_Document_occurrences 40 = .ok (.arraylength, 1) := by decide +kernel
theorem d_Document_occurrences_41 : decode b_Document_occurrences 41 = .ok (.if_icmp .ge 25, 3) := by decide +kernel
theorem d_Document_occurrences_44 : decode b_Document_occurrences 44 = .ok (.aload_n 0, 1) := by decide +kernel
theorem d_Document_occurrences_45 : decode b_Document_occurrences 45 = .ok (.iload 5, 2) := by decide +kernel
theorem d_Document_occurrences_47 : decode b_Document_occurrences 47 = .ok (.iload_n 3, 1) := by decide +kernel
theorem d_Document_occurrences_48 : decode b_Document_occurrences 48 = .ok (.isub, 1) := by decide +kernel
theorem d_Document_occurrences_49 : decode b_Document_occurrences 49 = .ok (.aload_n 1, 1) := by decide +kernel
theorem d_Document_occurrences_50 : decode b_Document_occurrences 50 = .ok (.iload_n 2, 1) := by decide +kernel
theorem d_Document_occurrences_51 : decode b_Document_occurrences 51 = .ok (.invokevirtual 20, 3) := by decide +kernel
theorem d_Document_occurrences_54 : decode b_Document_occurrences 54 = .ok (.ifCond .eq 6, 3) := by decide +kernel
theorem d_Document_occurrences_57 : decode b_Document_occurrences 57 = .ok (.iinc 4 1, 3) := by decide +kernel
theorem d_Document_occurrences_60 : decode b_Document_occurrences 60 = .ok (.iinc 5 1, 3) := by decide +kernel
theorem d_Document_occurrences_63 : decode b_Document_occurrences 63 = .ok (.goto (-29), 3) := by decide +kernel
theorem d_Document_occurrences_66 : decode b_Document_occurrences 66 = .ok (.iload 4, 2) := by decide +kernel
theorem d_Document_occurrences_68 : decode b_Document_occurrences 68 = .ok (.ireturn, 1) := by decide +kernel
abbrev rm_Document_occurrences : Room := { frames := 2, cells := 0, slots := 0, locals := 47 }
def f_Document_occurrences_60 (κ34 : Int32 → Int32 → Int32 → Int32 → Option Int32) (L : Nat) (μ : Mem) (n : Nat) (x2 : Int32) (x3 : Int32) (x4 : Int32) (x5 : Int32) : Option Int32 := bd (x5 + 1) (fun v1 => κ34 x2 x3 x4 v1)
set_option maxHeartbeats 4000000 in
set_option maxRecDepth 100000 in
theorem w_Document_occurrences_60 {p : Program} {l : Launch} {e : Env} {s : State} {m : MethodId} {args : Array Value} {below : List Frame} {meth : Method} {c : Code} {D : va_G} {g : Nat → ClassId} {ad : Nat → Nat} {L : Nat} {μ : Mem} {r : Int32} {κ34 : Int32 → Int32 → Int32 → Int32 → Option Int32} {n : Nat} {x2 : Int32} {x3 : Int32} {x4 : Int32} {x5 : Int32} {ls : Array Slot} (X : Cx p s m args meth c b_Document_occurrences 6 R_Document (some .int) D CL (TY g)) (hP : va_P D CL (WD g ad L μ) s.heap) (hκ34 : ∀ (x2 : Int32) (x3 : Int32) (x4 : Int32) (x5 : Int32) (ls : Array Slot), lv_has ls 6 [(0, .ref (ad 0)), (1, .ref (ad 3)), (2, .int x2), (3, .int x3), (4, .int x4), (5, .int x5)] → κ34 x2 x3 x4 x5 = some r → WR p l e rm_Document_occurrences s m args below meth c (.int r) (F0 m 34 ls [])) (hl : lv_has ls 6 [(0, .ref (ad 0)), (1, .ref (ad 3)), (2, .int x2), (3, .int x3), (4, .int x4), (5, .int x5)]) (hf : f_Document_occurrences_60 κ34 L μ n x2 x3 x4 x5 = some r) : WR p l e rm_Document_occurrences s m args below meth c (.int r) (F0 m 60 ls []) := by
  obtain ⟨S, hr, hlk, hK⟩ := id X
  obtain ⟨hx, hb, hml, hown, hts⟩ := id S
  rw [f_Document_occurrences_60] at hf
  obtain ⟨v1, hv1, hf⟩ := bd_x hf
  refine lv_iinc (lv' := [(5, .int v1), (0, .ref (ad 0)), (1, .ref (ad 3)), (2, .int x2), (3, .int x3), (4, .int x4)]) hx hb d_Document_occurrences_60 hl (k := 5) rfl (show x5 + Int32.ofInt (1) = v1 from hv1) (Nat.le_of_ble_eq_true rfl) rfl (fun ls hl => ?_)
  refine lv_goto (tgt := 34) hx hb d_Document_occurrences_63 rfl ?_
  exact hκ34 _ _ _ _ _ (lv_sub (l' := [(0, .ref (ad 0)), (1, .ref (ad 3)), (2, .int x2), (3, .int x3), (4, .int x4), (5, .int v1)]) hl [1, 2, 3, 4, 5, 0] rfl) hf
def f_Document_occurrences_34 (L : Nat) (μ : Mem) : Nat → Int32 → Int32 → Int32 → Int32 → Option Int32
  | 0, _, _, _, _ => none
  | n + 1, x2, x3, x4, x5 => (if (Int32.ofNat L) ≤ x5 then (some x4) else (cl (f_Document_occursAt n L μ (x5 - x3) x2) (fun v1 => (if (bz v1) = 0 then (f_Document_occurrences_60 (f_Document_occurrences_34 L μ n) L μ n x2 x3 x4 x5) else (bd (x4 + 1) (fun v2 => f_Document_occurrences_60 (f_Document_occurrences_34 L μ n) L μ n x2 x3 v2 x5))))))
set_option maxHeartbeats 4000000 in
set_option maxRecDepth 100000 in
theorem w_Document_occurrences_34 {p : Program} {l : Launch} {e : Env} {s : State} {m : MethodId} {args : Array Value} {below : List Frame} {meth : Method} {c : Code} {D : va_G} {g : Nat → ClassId} {ad : Nat → Nat} {L : Nat} {μ : Mem} {r : Int32} (X : Cx p s m args meth c b_Document_occurrences 6 R_Document (some .int) D CL (TY g)) (hP : va_P D CL (WD g ad L μ) s.heap) : ∀ (n : Nat) (x2 : Int32) (x3 : Int32) (x4 : Int32) (x5 : Int32) (ls : Array Slot), lv_has ls 6 [(0, .ref (ad 0)), (1, .ref (ad 3)), (2, .int x2), (3, .int x3), (4, .int x4), (5, .int x5)] → f_Document_occurrences_34 L μ n x2 x3 x4 x5 = some r → WR p l e rm_Document_occurrences s m args below meth c (.int r) (F0 m 34 ls []) := by
  intro n
  induction n with
  | zero => intro x2 x3 x4 x5 ls hl hf; rw [f_Document_occurrences_34] at hf; cases hf
  | succ n ih =>
    intro x2 x3 x4 x5 ls hl hf
    obtain ⟨S, hr, hlk, hK⟩ := id X
    obtain ⟨hx, hb, hml, hown, hts⟩ := id S
    rw [f_Document_occurrences_34] at hf
    refine lv_iload hx hb d_Document_occurrences_34 (lv_at hl 5 rfl) ?_
    refine lv_aload_n hx hb d_Document_occurrences_36 rfl (lv_at hl 0 rfl) ?_
    refine og_0_0 hx hb hts hown hK hP q_690 d_Document_occurrences_37 ?_
    refine on_1 hx hb hK hP d_Document_occurrences_40 ?_
    refine lv_icmp_ge (tgt := 66) hx hb d_Document_occurrences_41 rfl (fun hc => ?_) (fun hc => ?_)
    · replace hf := br_p hc hf
      refine lv_iload hx hb d_Document_occurrences_66 (lv_at hl 4 rfl) ?_
      have h1 := Option.some.inj hf
      subst h1
      exact W.iret hx hb hr (fun t ht _ => ⟨rfl, ht⟩) (fun _ h => by cases h) d_Document_occurrences_68
    · replace hf := br_n hc hf
      refine lv_aload_n hx hb d_Document_occurrences_44 rfl (lv_at hl 0 rfl) ?_
      refine lv_iload hx hb d_Document_occurrences_45 (lv_at hl 5 rfl) ?_
      refine lv_iload_n hx hb d_Document_occurrences_47 rfl (lv_at hl 3 rfl) ?_
      refine lv_isub hx hb d_Document_occurrences_48 ?_
      refine lv_aload_n hx hb d_Document_occurrences_49 rfl (lv_at hl 1 rfl) ?_
      refine lv_iload_n hx hb d_Document_occurrences_50 rfl (lv_at hl 2 rfl) ?_
      obtain ⟨v1, hv1, hf⟩ := cl_x hf
      refine rdV (As := [.int (x5 - x3), .ref (ad 3), .int x2]) (rest := []) S K_Document_occursAt q_800 (c_Document_occursAt hv1) hK hP ⟨rfl, rfl⟩ ⟨Nat.le_of_ble_eq_true rfl, Nat.le_of_ble_eq_true rfl⟩ (or_0 hK hP) rfl hl.1 rfl (Nat.le_of_ble_eq_true rfl) d_Document_occurrences_51 ⟨Nat.le_refl _, Nat.le_refl _⟩ ?_
      refine lv_if_eq (tgt := 60) hx hb d_Document_occurrences_54 rfl (fun hc => ?_) (fun hc => ?_)
      · replace hf := br_p hc hf
        exact w_Document_occurrences_60 X hP ih (lv_sub (l' := [(0, .ref (ad 0)), (1, .ref (ad 3)), (2, .int x2), (3, .int x3), (4, .int x4), (5, .int x5)]) hl [0, 1, 2, 3, 4, 5] rfl) hf
      · replace hf := br_n hc hf
        obtain ⟨v2, hv2, hf⟩ := bd_x hf
        refine lv_iinc (lv' := [(4, .int v2), (0, .ref (ad 0)), (1, .ref (ad 3)), (2, .int x2), (3, .int x3), (5, .int x5)]) hx hb d_Document_occurrences_57 hl (k := 4) rfl (show x4 + Int32.ofInt (1) = v2 from hv2) (Nat.le_of_ble_eq_true rfl) rfl (fun ls hl => ?_)
        exact w_Document_occurrences_60 X hP ih (lv_sub (l' := [(0, .ref (ad 0)), (1, .ref (ad 3)), (2, .int x2), (3, .int x3), (4, .int v2), (5, .int x5)]) hl [1, 2, 3, 4, 0, 5] rfl) hf
def f_Document_occurrences_21 (L : Nat) (μ : Mem) (n : Nat) (x2 : Int32) (x3 : Int32) : Option Int32 := (if x3 < x2 then (f_Document_occurrences_34 L μ n x2 x3 (0 : Int32) (0 : Int32)) else (some (0 : Int32)))
set_option maxHeartbeats 4000000 in
set_option maxRecDepth 100000 in
theorem w_Document_occurrences_21 {p : Program} {l : Launch} {e : Env} {s : State} {m : MethodId} {args : Array Value} {below : List Frame} {meth : Method} {c : Code} {D : va_G} {g : Nat → ClassId} {ad : Nat → Nat} {L : Nat} {μ : Mem} {r : Int32} {n : Nat} {x2 : Int32} {x3 : Int32} {ls : Array Slot} (X : Cx p s m args meth c b_Document_occurrences 6 R_Document (some .int) D CL (TY g)) (hP : va_P D CL (WD g ad L μ) s.heap) (hl : lv_has ls 6 [(0, .ref (ad 0)), (1, .ref (ad 3)), (2, .int x2), (3, .int x3)]) (hf : f_Document_occurrences_21 L μ n x2 x3 = some r) : WR p l e rm_Document_occurrences s m args below meth c (.int r) (F0 m 21 ls []) := by
  obtain ⟨S, hr, hlk, hK⟩ := id X
  obtain ⟨hx, hb, hml, hown, hts⟩ := id S
  rw [f_Document_occurrences_21] at hf
  refine lv_iload_n hx hb d_Document_occurrences_21 rfl (lv_at hl 3 rfl) ?_
  refine lv_iload_n hx hb d_Document_occurrences_22 rfl (lv_at hl 2 rfl) ?_
  refine lv_icmp_lt (tgt := 28) hx hb d_Document_occurrences_23 rfl (fun hc => ?_) (fun hc => ?_)
  · replace hf := br_p hc hf
    refine lv_iconst (v := 0) hx hb d_Document_occurrences_28 (by decide) ?_
    refine lv_istore (lv' := [(4, .int (0 : Int32)), (0, .ref (ad 0)), (1, .ref (ad 3)), (2, .int x2), (3, .int x3)]) hx hb d_Document_occurrences_29 hl (Nat.le_of_ble_eq_true rfl) rfl (fun ls hl => ?_)
    refine lv_iconst (v := 0) hx hb d_Document_occurrences_31 (by decide) ?_
    refine lv_istore (lv' := [(5, .int (0 : Int32)), (4, .int (0 : Int32)), (0, .ref (ad 0)), (1, .ref (ad 3)), (2, .int x2), (3, .int x3)]) hx hb d_Document_occurrences_32 hl (Nat.le_of_ble_eq_true rfl) rfl (fun ls hl => ?_)
    exact w_Document_occurrences_34 X hP _ _ _ _ _ _ (lv_sub (l' := [(0, .ref (ad 0)), (1, .ref (ad 3)), (2, .int x2), (3, .int x3), (4, .int (0 : Int32)), (5, .int (0 : Int32))]) hl [2, 3, 4, 5, 1, 0] rfl) hf
  · replace hf := br_n hc hf
    refine lv_iconst (v := 0) hx hb d_Document_occurrences_26 (by decide) ?_
    have h1 := Option.some.inj hf
    subst h1
    exact W.iret hx hb hr (fun t ht _ => ⟨rfl, ht⟩) (fun _ h => by cases h) d_Document_occurrences_27
def f_Document_occurrences_2 (L : Nat) (μ : Mem) : Nat → Int32 → Int32 → Option Int32
  | 0, _, _ => none
  | n + 1, x2, x3 => (if x2 ≤ x3 then (f_Document_occurrences_21 L μ n x2 x3) else (gd (inb x3 24) ((if (lg_cmp (μ.2 3 x3.toNatClampNeg) (0 : Int64)) = 0 then (bd (x3 + 1) (fun v1 => (f_Document_occurrences_2 L μ n) x2 v1)) else (f_Document_occurrences_21 L μ n x2 x3)))))
set_option maxHeartbeats 4000000 in
set_option maxRecDepth 100000 in
theorem w_Document_occurrences_2 {p : Program} {l : Launch} {e : Env} {s : State} {m : MethodId} {args : Array Value} {below : List Frame} {meth : Method} {c : Code} {D : va_G} {g : Nat → ClassId} {ad : Nat → Nat} {L : Nat} {μ : Mem} {r : Int32} (X : Cx p s m args meth c b_Document_occurrences 6 R_Document (some .int) D CL (TY g)) (hP : va_P D CL (WD g ad L μ) s.heap) : ∀ (n : Nat) (x2 : Int32) (x3 : Int32) (ls : Array Slot), lv_has ls 6 [(0, .ref (ad 0)), (1, .ref (ad 3)), (2, .int x2), (3, .int x3)] → f_Document_occurrences_2 L μ n x2 x3 = some r → WR p l e rm_Document_occurrences s m args below meth c (.int r) (F0 m 2 ls []) := by
  intro n
  induction n with
  | zero => intro x2 x3 ls hl hf; rw [f_Document_occurrences_2] at hf; cases hf
  | succ n ih =>
    intro x2 x3 ls hl hf
    obtain ⟨S, hr, hlk, hK⟩ := id X
    obtain ⟨hx, hb, hml, hown, hts⟩ := id S
    rw [f_Document_occurrences_2] at hf
    refine lv_iload_n hx hb d_Document_occurrences_2 rfl (lv_at hl 3 rfl) ?_
    refine lv_iload_n hx hb d_Document_occurrences_3 rfl (lv_at hl 2 rfl) ?_
    refine lv_icmp_ge (tgt := 21) hx hb d_Document_occurrences_4 rfl (fun hc => ?_) (fun hc => ?_)
    · replace hf := br_p hc hf
      exact w_Document_occurrences_21 X hP (lv_sub (l' := [(0, .ref (ad 0)), (1, .ref (ad 3)), (2, .int x2), (3, .int x3)]) hl [0, 1, 2, 3] rfl) hf
    · replace hf := br_n hc hf
      refine lv_aload_n hx hb d_Document_occurrences_7 rfl (lv_at hl 1 rfl) ?_
      refine lv_iload_n hx hb d_Document_occurrences_8 rfl (lv_at hl 3 rfl) ?_
      obtain ⟨hi, hf⟩ := gd_x hf
      refine ol_3 hx hb hK hP (inb_in hi) d_Document_occurrences_9 ?_
      refine lv_lconst (v := 0) hx hb d_Document_occurrences_10 (by decide) ?_
      refine W.lcmp hx hb d_Document_occurrences_11 ?_
      refine lv_if_ne (tgt := 21) hx hb d_Document_occurrences_12 rfl (fun hc => ?_) (fun hc => ?_)
      · replace hf := br_n hc hf
        exact w_Document_occurrences_21 X hP (lv_sub (l' := [(0, .ref (ad 0)), (1, .ref (ad 3)), (2, .int x2), (3, .int x3)]) hl [0, 1, 2, 3] rfl) hf
      · replace hf := br_p hc hf
        obtain ⟨v1, hv1, hf⟩ := bd_x hf
        refine lv_iinc (lv' := [(3, .int v1), (0, .ref (ad 0)), (1, .ref (ad 3)), (2, .int x2)]) hx hb d_Document_occurrences_15 hl (k := 3) rfl (show x3 + Int32.ofInt (1) = v1 from hv1) (Nat.le_of_ble_eq_true rfl) rfl (fun ls hl => ?_)
        refine lv_goto (tgt := 2) hx hb d_Document_occurrences_18 rfl ?_
        exact ih _ _ _ (lv_sub (l' := [(0, .ref (ad 0)), (1, .ref (ad 3)), (2, .int x2), (3, .int v1)]) hl [1, 2, 3, 0] rfl) hf
def f_Document_occurrences (n : Nat) (L : Nat) (μ : Mem) (a2 : Int32) : Option Int32 := f_Document_occurrences_2 L μ n a2 (0 : Int32)
set_option maxHeartbeats 4000000 in
set_option maxRecDepth 100000 in
theorem w_Document_occurrences {p : Program} {l : Launch} {e : Env} {s : State} {m : MethodId} {args : Array Value} {below : List Frame} {meth : Method} {c : Code} {D : va_G} {g : Nat → ClassId} {ad : Nat → Nat} {L : Nat} {μ : Mem} {r : Int32} {n : Nat} {a2 : Int32} {ls : Array Slot} (X : Cx p s m args meth c b_Document_occurrences 6 R_Document (some .int) D CL (TY g)) (hP : va_P D CL (WD g ad L μ) s.heap) (hl : lv_has ls 6 [(0, .ref (ad 0)), (1, .ref (ad 3)), (2, .int a2)]) (hf : f_Document_occurrences n L μ a2 = some r) : WR p l e rm_Document_occurrences s m args below meth c (.int r) (F0 m 0 ls []) := by
  obtain ⟨S, hr, hlk, hK⟩ := id X
  obtain ⟨hx, hb, hml, hown, hts⟩ := id S
  rw [f_Document_occurrences] at hf
  refine lv_iconst (v := 0) hx hb d_Document_occurrences_0 (by decide) ?_
  refine lv_istore_n (lv' := [(3, .int (0 : Int32)), (0, .ref (ad 0)), (1, .ref (ad 3)), (2, .int a2)]) hx hb d_Document_occurrences_1 rfl hl (Nat.le_of_ble_eq_true rfl) rfl (fun ls hl => ?_)
  exact w_Document_occurrences_2 X hP _ _ _ _ (lv_sub (l' := [(0, .ref (ad 0)), (1, .ref (ad 3)), (2, .int a2), (3, .int (0 : Int32))]) hl [1, 2, 3, 0] rfl) hf
theorem c_Document_occurrences {l : Launch} {D : va_G} {g : Nat → ClassId} {ad : Nat → Nat} {L : Nat} {μ : Mem} {r : Int32} {n : Nat} {a2 : Int32} (hf : f_Document_occurrences n L μ a2 = some r) : Met l y_Document_occurrences (Cond.code y_Document_occurrences b_Document_occurrences 6 (some .int) :: ww) rm_Document_occurrences (RP D CL (TY g) (WD g ad L μ) [.ref (ad 0), .ref (ad 3), .int a2]) (k2_QcV (.int r)) 0 0 (fun _ => False) := by
  refine met_of (by decide) (Nat.le_of_ble_eq_true rfl) ?_
  intro p e s m below meth c ls X hP hl
  have hl : lv_has ls 6 [(0, .ref (ad 0)), (1, .ref (ad 3)), (2, .int a2)] := hl
  exact w_Document_occurrences X hP hl hf
