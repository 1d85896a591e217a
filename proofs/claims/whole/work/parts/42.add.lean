def WE (g : Nat → ClassId) (ad : Nat → Nat) (L : Nat) (μ : Mem) : va_W := [(ad 0, .inr (9, [.ref (ad 1), .ref (ad 2), .int (μ.1 0 2)])),
  (ad 1, .inl (g 1, L, .inr (.inl (μ.2 1)))),
  (ad 2, .inl (g 1, L, .inr (.inl (μ.2 2))))]
section eROWS
variable {p : Program} {l : Launch} {e : Env} {R : Room} {s : State} {m : MethodId} {args : Array Value} {below : List Frame} {meth : Method} {c : Code} {H : Heap} {locs : List Loc} {cells slots : Nat} {Q : State → Prop} {cc : ByteArray} {pc index : Nat} {own : String} {ls : Array Slot} {rest : List Value} {D : va_G} {g : Nat → ClassId} {ad : Nat → Nat} {L : Nat} {μ μ1 : Mem} {A : Nat → Prop}
theorem er_0 (hK : va_K D CL (TY g) s) (hP : va_P D CL (WE g ad L μ) H) : ∃ cell : Cell, H[ad 0]? = some cell ∧ cell.vm.isStatics = false ∧ s.vm.findClass R_Document = some cell.cls := va_recv (q0 := 0) (ci := 9) (q := (R_Document, T_Document, 3)) hK hP rfl rfl
theorem eg_0_0 (hx : p.tables.exec = Jvm.exec) (hb : c.code = cc) (hts : ∀ w ∈ ww, w.before args s = true) (hown : s.vm.findClass own = some m.cls) (hK : va_K D CL (TY g) s) (hP : va_P D CL (WE g ad L μ) H) (hl : Cond.fieldLink own index R_Document "tokenTerms" "[J" ∈ ww) (hdg : decode cc pc = .ok (.getfield index, 3)) (kk : W p l e R s m args below meth c H locs cells slots Q (F0 m (pc + 3) ls (.ref (ad 1) :: rest))) : W p l e R s m args below meth c H locs cells slots Q (F0 m pc ls (.ref (ad 0) :: rest)) := va_get (v := .ref (ad 1)) (ci := 9) (C := R_Document) (T := T_Document) (N := 3) hx hb hts u_Document hown hK hP 0 rfl rfl 0 (by decide) (hts _ hl) (fun _ h => h) rfl hdg kk
theorem eg_0_1 (hx : p.tables.exec = Jvm.exec) (hb : c.code = cc) (hts : ∀ w ∈ ww, w.before args s = true) (hown : s.vm.findClass own = some m.cls) (hK : va_K D CL (TY g) s) (hP : va_P D CL (WE g ad L μ) H) (hl : Cond.fieldLink own index R_Document "compoundTerms" "[J" ∈ ww) (hdg : decode cc pc = .ok (.getfield index, 3)) (kk : W p l e R s m args below meth c H locs cells slots Q (F0 m (pc + 3) ls (.ref (ad 2) :: rest))) : W p l e R s m args below meth c H locs cells slots Q (F0 m pc ls (.ref (ad 0) :: rest)) := va_get (v := .ref (ad 2)) (ci := 9) (C := R_Document) (T := T_Document) (N := 3) hx hb hts u_Document hown hK hP 0 rfl rfl 1 (by decide) (hts _ hl) (fun _ h => h) rfl hdg kk
theorem eg_0_2 (hx : p.tables.exec = Jvm.exec) (hb : c.code = cc) (hts : ∀ w ∈ ww, w.before args s = true) (hown : s.vm.findClass own = some m.cls) (hK : va_K D CL (TY g) s) (hP : va_P D CL (WE g ad L μ) H) (hl : Cond.fieldLink own index R_Document "postings" "I" ∈ ww) (hdg : decode cc pc = .ok (.getfield index, 3)) (kk : W p l e R s m args below meth c H locs cells slots Q (F0 m (pc + 3) ls (.int (μ.1 0 2) :: rest))) : W p l e R s m args below meth c H locs cells slots Q (F0 m pc ls (.ref (ad 0) :: rest)) := va_get (v := .int (μ.1 0 2)) (ci := 9) (C := R_Document) (T := T_Document) (N := 3) hx hb hts u_Document hown hK hP 0 rfl rfl 2 (by decide) (hts _ hl) (fun _ h => h) rfl hdg kk
theorem ep_0_2 {v : Int32} (hx : p.tables.exec = Jvm.exec) (hb : c.code = cc) (hts : ∀ w ∈ ww, w.before args s = true) (hown : s.vm.findClass own = some m.cls) (hK : va_K D CL (TY g) s) (hD : va_D A (WE g ad L μ)) (hP : va_P D CL (WE g ad L μ) H) (hS : va_S A s.heap H locs) (hl : Cond.fieldLink own index R_Document "postings" "I" ∈ ww) (hdg : decode cc pc = .ok (.putfield index, 3)) (hμ : wi μ 0 2 v = μ1) (kk : ∀ (H1 : Heap) (locs1 : List Loc), va_P D CL (WE g ad L μ1) H1 → va_S A s.heap H1 locs1 → W p l e R s m args below meth c H1 locs1 cells slots Q (F0 m (pc + 3) ls rest)) : W p l e R s m args below meth c H locs cells slots Q (F0 m pc ls (.int v :: .ref (ad 0) :: rest)) := by
  subst hμ
  exact va_put (v := .int v) (ty := .int) (ci := 9) (C := R_Document) (T := T_Document) (N := 3) hx hb hts u_Document t_Document t_Document_ok n_Document hown hK hP hD hS 0 rfl rfl 2 (by decide) (hts _ hl) (fun _ h => h) rfl (by decide +kernel) rfl rfl (Nat.le_of_ble_eq_true rfl) hdg (fun H1 locs1 h1 _ h3 => kk H1 locs1 h1 h3)
theorem el_1 {i : Int32} (hx : p.tables.exec = Jvm.exec) (hb : c.code = cc) (hK : va_K D CL (TY g) s) (hP : va_P D CL (WE g ad L μ) H) (hi : vp_in i L) (hdg : decode cc pc = .ok (.laload, 1)) (kk : W p l e R s m args below meth c H locs cells slots Q (F0 m (pc + 1) ls (.long (μ.2 1 i.toNatClampNeg) :: rest))) : W p l e R s m args below meth c H locs cells slots Q (F0 m pc ls (.int i :: .ref (ad 1) :: rest)) := va_lald hx hb hK hP 1 1 rfl rfl hi hdg kk
theorem es_1 {i : Int32} {x : Int64} (hx : p.tables.exec = Jvm.exec) (hb : c.code = cc) (hK : va_K D CL (TY g) s) (hD : va_D A (WE g ad L μ)) (hP : va_P D CL (WE g ad L μ) H) (hS : va_S A s.heap H locs) (hi : vp_in i L) (hdg : decode cc pc = .ok (.lastore, 1)) (hμ : wl μ 1 i.toNatClampNeg x = μ1) (kk : ∀ (H1 : Heap) (locs1 : List Loc), va_P D CL (WE g ad L μ1) H1 → va_S A s.heap H1 locs1 → W p l e R s m args below meth c H1 locs1 cells slots Q (F0 m (pc + 1) ls rest)) : W p l e R s m args below meth c H locs cells slots Q (F0 m pc ls (.long x :: .int i :: .ref (ad 1) :: rest)) := by
  subst hμ
  exact va_last hx hb hK hP hD hS 1 1 rfl rfl hi hdg (fun H1 locs1 h1 _ h3 => kk H1 locs1 h1 h3)
theorem en_1 (hx : p.tables.exec = Jvm.exec) (hb : c.code = cc) (hK : va_K D CL (TY g) s) (hP : va_P D CL (WE g ad L μ) H) (hdg : decode cc pc = .ok (.arraylength, 1)) (kk : W p l e R s m args below meth c H locs cells slots Q (F0 m (pc + 1) ls (.int (Int32.ofNat L) :: rest))) : W p l e R s m args below meth c H locs cells slots Q (F0 m pc ls (.ref (ad 1) :: rest)) := va_alen (v := (Int32.ofNat L)) hx hb hK hP 1 1 rfl rfl rfl hdg kk
theorem el_2 {i : Int32} (hx : p.tables.exec = Jvm.exec) (hb : c.code = cc) (hK : va_K D CL (TY g) s) (hP : va_P D CL (WE g ad L μ) H) (hi : vp_in i L) (hdg : decode cc pc = .ok (.laload, 1)) (kk : W p l e R s m args below meth c H locs cells slots Q (F0 m (pc + 1) ls (.long (μ.2 2 i.toNatClampNeg) :: rest))) : W p l e R s m args below meth c H locs cells slots Q (F0 m pc ls (.int i :: .ref (ad 2) :: rest)) := va_lald hx hb hK hP 2 1 rfl rfl hi hdg kk
theorem es_2 {i : Int32} {x : Int64} (hx : p.tables.exec = Jvm.exec) (hb : c.code = cc) (hK : va_K D CL (TY g) s) (hD : va_D A (WE g ad L μ)) (hP : va_P D CL (WE g ad L μ) H) (hS : va_S A s.heap H locs) (hi : vp_in i L) (hdg : decode cc pc = .ok (.lastore, 1)) (hμ : wl μ 2 i.toNatClampNeg x = μ1) (kk : ∀ (H1 : Heap) (locs1 : List Loc), va_P D CL (WE g ad L μ1) H1 → va_S A s.heap H1 locs1 → W p l e R s m args below meth c H1 locs1 cells slots Q (F0 m (pc + 1) ls rest)) : W p l e R s m args below meth c H locs cells slots Q (F0 m pc ls (.long x :: .int i :: .ref (ad 2) :: rest)) := by
  subst hμ
  exact va_last hx hb hK hP hD hS 2 1 rfl rfl hi hdg (fun H1 locs1 h1 _ h3 => kk H1 locs1 h1 h3)
theorem en_2 (hx : p.tables.exec = Jvm.exec) (hb : c.code = cc) (hK : va_K D CL (TY g) s) (hP : va_P D CL (WE g ad L μ) H) (hdg : decode cc pc = .ok (.arraylength, 1)) (kk : W p l e R s m args below meth c H locs cells slots Q (F0 m (pc + 1) ls (.int (Int32.ofNat L) :: rest))) : W p l e R s m args below meth c H locs cells slots Q (F0 m pc ls (.ref (ad 2) :: rest)) := va_alen (v := (Int32.ofNat L)) hx hb hK hP 2 1 rfl rfl rfl hdg kk
end eROWS
abbrev rm_EDocument_post : Room := { frames := 0, cells := 0, slots := 0, locals := 0 }
def f_EDocument_post_37 (L : Nat) (n : Nat) (μ : Mem) (x1 : Int32) (x2 : Int64) (x4 : Int64) : Option Mem := (if (lg_cmp x4 (0 : Int64)) = 0 then (some μ) else (if (lg_cmp x4 x2) = 0 then (some μ) else (gd (inb x1 L) (bd (wl μ 2 x1.toNatClampNeg x4) (fun μ1 => bd (wi μ1 0 2 ((μ1.1 0 2) + (1 : Int32))) (fun μ2 => some μ2))))))
set_option maxHeartbeats 4000000 in
set_option maxRecDepth 100000 in
theorem w_EDocument_post_37 {p : Program} {l : Launch} {e : Env} {s : State} {m : MethodId} {args : Array Value} {below : List Frame} {meth : Method} {c : Code} {D : va_G} {g : Nat → ClassId} {ad : Nat → Nat} {L : Nat} {μ' : Mem} {A : Nat → Prop} {n : Nat} {μ : Mem} {x1 : Int32} {x2 : Int64} {x4 : Int64} {ls : Array Slot} {H : Heap} {locs : List Loc} (X : Cx p s m args meth c b_Document_post 6 R_Document none D CL (TY g)) (hDA : ∀ μ : Mem, va_D A (WE g ad L μ)) (hP : va_P D CL (WE g ad L μ) H) (hS : va_S A s.heap H locs) (hl : lv_has ls 6 [(0, .ref (ad 0)), (1, .int x1), (2, .long x2), (4, .long x4)]) (hf : f_EDocument_post_37 L n μ x1 x2 x4 = some μ') : WU p l e rm_EDocument_post s m args below meth c H locs D (WE g ad L μ') A none (F0 m 37 ls []) := by
  obtain ⟨S, hr, hlk, hK⟩ := id X
  obtain ⟨hx, hb, hml, hown, hts⟩ := id S
  rw [f_EDocument_post_37] at hf
  refine lv_lload hx hb d_Document_post_37 (lv_at hl 3 rfl) ?_
  refine lv_lconst (v := 0) hx hb d_Document_post_39 (by decide) ?_
  refine W.lcmp hx hb d_Document_post_40 ?_
  refine lv_if_eq (tgt := 69) hx hb d_Document_post_41 rfl (fun hc => ?_) (fun hc => ?_)
  · replace hf := br_p hc hf
    obtain rfl := Option.some.inj hf
    exact W.vret hx hb hr (fun t ht _ => ⟨rfl, by rw [ht]; exact hP, hS.F ht⟩) hS.2.2 d_Document_post_69
  · replace hf := br_n hc hf
    refine lv_lload hx hb d_Document_post_44 (lv_at hl 3 rfl) ?_
    refine lv_lload_n hx hb d_Document_post_46 rfl (lv_at hl 2 rfl) ?_
    refine W.lcmp hx hb d_Document_post_47 ?_
    refine lv_if_eq (tgt := 69) hx hb d_Document_post_48 rfl (fun hc => ?_) (fun hc => ?_)
    · replace hf := br_p hc hf
      obtain rfl := Option.some.inj hf
      exact W.vret hx hb hr (fun t ht _ => ⟨rfl, by rw [ht]; exact hP, hS.F ht⟩) hS.2.2 d_Document_post_69
    · replace hf := br_n hc hf
      refine lv_aload_n hx hb d_Document_post_51 rfl (lv_at hl 0 rfl) ?_
      refine eg_0_1 hx hb hts hown hK hP q_691 d_Document_post_52 ?_
      refine lv_iload_n hx hb d_Document_post_55 rfl (lv_at hl 1 rfl) ?_
      refine lv_lload hx hb d_Document_post_56 (lv_at hl 3 rfl) ?_
      obtain ⟨hi, hf⟩ := gd_x hf
      obtain ⟨μ1, hμ1, hf⟩ := bd_x hf
      refine es_2 hx hb hK (hDA _) hP hS (inb_in hi) d_Document_post_58 hμ1 (fun H locs hP hS => ?_)
      refine lv_aload_n hx hb d_Document_post_59 rfl (lv_at hl 0 rfl) ?_
      refine lv_dup hx hb d_Document_post_60 rfl ?_
      refine eg_0_2 hx hb hts hown hK hP q_692 d_Document_post_61 ?_
      refine lv_iconst (v := 1) hx hb d_Document_post_64 (by decide) ?_
      refine lv_iadd hx hb d_Document_post_65 ?_
      obtain ⟨μ2, hμ2, hf⟩ := bd_x hf
      refine ep_0_2 hx hb hts hown hK (hDA _) hP hS q_692 d_Document_post_66 hμ2 (fun H locs hP hS => ?_)
      obtain rfl := Option.some.inj hf
      exact W.vret hx hb hr (fun t ht _ => ⟨rfl, by rw [ht]; exact hP, hS.F ht⟩) hS.2.2 d_Document_post_69
def f_EDocument_post (n : Nat) (L : Nat) (μ : Mem) (a1 : Int32) (a2 : Int64) (a4 : Int64) : Option Mem := (if a1 < 0 then (some μ) else (if a1 < (Int32.ofNat L) then (gd (inb a1 L) (bd (wl μ 1 a1.toNatClampNeg a2) (fun μ1 => (if (lg_cmp a2 (0 : Int64)) = 0 then (f_EDocument_post_37 L n μ1 a1 a2 a4) else (bd (wi μ1 0 2 ((μ1.1 0 2) + (1 : Int32))) (fun μ2 => f_EDocument_post_37 L n μ2 a1 a2 a4)))))) else (some μ)))
set_option maxHeartbeats 4000000 in
set_option maxRecDepth 100000 in
theorem w_EDocument_post {p : Program} {l : Launch} {e : Env} {s : State} {m : MethodId} {args : Array Value} {below : List Frame} {meth : Method} {c : Code} {D : va_G} {g : Nat → ClassId} {ad : Nat → Nat} {L : Nat} {μ' : Mem} {A : Nat → Prop} {n : Nat} {μ : Mem} {a1 : Int32} {a2 : Int64} {a4 : Int64} {ls : Array Slot} {H : Heap} {locs : List Loc} (X : Cx p s m args meth c b_Document_post 6 R_Document none D CL (TY g)) (hDA : ∀ μ : Mem, va_D A (WE g ad L μ)) (hP : va_P D CL (WE g ad L μ) H) (hS : va_S A s.heap H locs) (hl : lv_has ls 6 [(0, .ref (ad 0)), (1, .int a1), (2, .long a2), (4, .long a4)]) (hf : f_EDocument_post n L μ a1 a2 a4 = some μ') : WU p l e rm_EDocument_post s m args below meth c H locs D (WE g ad L μ') A none (F0 m 0 ls []) := by
  obtain ⟨S, hr, hlk, hK⟩ := id X
  obtain ⟨hx, hb, hml, hown, hts⟩ := id S
  rw [f_EDocument_post] at hf
  refine lv_iload_n hx hb d_Document_post_0 rfl (lv_at hl 1 rfl) ?_
  refine lv_if_lt (tgt := 13) hx hb d_Document_post_1 rfl (fun hc => ?_) (fun hc => ?_)
  · replace hf := br_p hc hf
    obtain rfl := Option.some.inj hf
    exact W.vret hx hb hr (fun t ht _ => ⟨rfl, by rw [ht]; exact hP, hS.F ht⟩) hS.2.2 d_Document_post_13
  · replace hf := br_n hc hf
    refine lv_iload_n hx hb d_Document_post_4 rfl (lv_at hl 1 rfl) ?_
    refine lv_aload_n hx hb d_Document_post_5 rfl (lv_at hl 0 rfl) ?_
    refine eg_0_0 hx hb hts hown hK hP q_690 d_Document_post_6 ?_
    refine en_1 hx hb hK hP d_Document_post_9 ?_
    refine lv_icmp_lt (tgt := 14) hx hb d_Document_post_10 rfl (fun hc => ?_) (fun hc => ?_)
    · replace hf := br_p hc hf
      refine lv_aload_n hx hb d_Document_post_14 rfl (lv_at hl 0 rfl) ?_
      refine eg_0_0 hx hb hts hown hK hP q_690 d_Document_post_15 ?_
      refine lv_iload_n hx hb d_Document_post_18 rfl (lv_at hl 1 rfl) ?_
      refine lv_lload_n hx hb d_Document_post_19 rfl (lv_at hl 2 rfl) ?_
      obtain ⟨hi, hf⟩ := gd_x hf
      obtain ⟨μ1, hμ1, hf⟩ := bd_x hf
      refine es_1 hx hb hK (hDA _) hP hS (inb_in hi) d_Document_post_20 hμ1 (fun H locs hP hS => ?_)
      refine lv_lload_n hx hb d_Document_post_21 rfl (lv_at hl 2 rfl) ?_
      refine lv_lconst (v := 0) hx hb d_Document_post_22 (by decide) ?_
      refine W.lcmp hx hb d_Document_post_23 ?_
      refine lv_if_eq (tgt := 37) hx hb d_Document_post_24 rfl (fun hc => ?_) (fun hc => ?_)
      · replace hf := br_p hc hf
        exact w_EDocument_post_37 X hDA hP hS (lv_sub (l' := [(0, .ref (ad 0)), (1, .int a1), (2, .long a2), (4, .long a4)]) hl [0, 1, 2, 3] rfl) hf
      · replace hf := br_n hc hf
        refine lv_aload_n hx hb d_Document_post_27 rfl (lv_at hl 0 rfl) ?_
        refine lv_dup hx hb d_Document_post_28 rfl ?_
        refine eg_0_2 hx hb hts hown hK hP q_692 d_Document_post_29 ?_
        refine lv_iconst (v := 1) hx hb d_Document_post_32 (by decide) ?_
        refine lv_iadd hx hb d_Document_post_33 ?_
        obtain ⟨μ2, hμ2, hf⟩ := bd_x hf
        refine ep_0_2 hx hb hts hown hK (hDA _) hP hS q_692 d_Document_post_34 hμ2 (fun H locs hP hS => ?_)
        exact w_EDocument_post_37 X hDA hP hS (lv_sub (l' := [(0, .ref (ad 0)), (1, .int a1), (2, .long a2), (4, .long a4)]) hl [0, 1, 2, 3] rfl) hf
    · replace hf := br_n hc hf
      obtain rfl := Option.some.inj hf
      exact W.vret hx hb hr (fun t ht _ => ⟨rfl, by rw [ht]; exact hP, hS.F ht⟩) hS.2.2 d_Document_post_13
theorem c_EDocument_post {l : Launch} {D : va_G} {g : Nat → ClassId} {ad : Nat → Nat} {L : Nat} {μ : Mem} {μ' : Mem} {A : Nat → Prop} {n : Nat} {a1 : Int32} {a2 : Int64} {a4 : Int64} (hDA : ∀ μ : Mem, va_D A (WE g ad L μ)) (hf : f_EDocument_post n L μ a1 a2 a4 = some μ') : Met l y_Document_post (Cond.code y_Document_post b_Document_post 6 none :: ww) rm_EDocument_post (RP D CL (TY g) (WE g ad L μ) [.ref (ad 0), .int a1, .long a2, .long a4]) (QW D CL (WE g ad L μ') A none) 0 0 A := by
  refine met_of (by decide) (Nat.le_of_ble_eq_true rfl) ?_
  intro p e s m below meth c ls X hP hl
  have hl : lv_has ls 6 [(0, .ref (ad 0)), (1, .int a1), (2, .long a2), (4, .long a4)] := hl
  exact w_EDocument_post X hDA hP va_S.rf hl hf
theorem d_Shelf_put_0 : decode b_Shelf_put 0 = .ok (.aload_n 0, 1) := by decide +kernel
theorem d_Shelf_put_1 : decode b_Shelf_put 1 = .ok (.invokevirtual 44, 3) := by decide +kernel
theorem d_Shelf_put_4 : decode b_Shelf_put 4 = .ok (.ifCond .ne 5, 3) := by decide +kernel
theorem d_Shelf_put_7 : decode b_Shelf_put 7 = .ok (.iconst (-1), 1) := by decide +kernel
theorem d_Shelf_put_8 : decode b_Shelf_put 8 = .ok (.ireturn, 1) := by decide +kernel
theorem d_Shelf_put_9 : decode b_Shelf_put 9 = .ok (.aload_n 0, 1) := by decide +kernel
theorem d_Shelf_put_10 : decode b_Shelf_put 10 = .ok (.getfield 21, 3) := by decide +kernel
theorem d_Shelf_put_13 : decode b_Shelf_put 13 = .ok (.istore_n 2, 1) := by decide +kernel
theorem d_Shelf_put_14 : decode b_Shelf_put 14 = .ok (.aload_n 0, 1) := by decide +kernel
theorem d_Shelf_put_15 : decode b_Shelf_put 15 = .ok (.getfield 11, 3) := by decide +kernel
theorem d_Shelf_put_18 : decode b_Shelf_put 18 = .ok (.iload_n 2, 1) := by decide +kernel
theorem d_Shelf_put_19 : decode b_Shelf_put 19 = .ok (.aload_n 1, 1) := by decide +kernel
theorem d_Shelf_put_20 : decode b_Shelf_put 20 = .ok (.aastore, 1) := by decide +kernel
theorem d_Shelf_put_21 : decode b_Shelf_put 21 = .ok (.aload_n 0, 1) := by decide +kernel
theorem d_Shelf_put_22 : decode b_Shelf_put 22 = .ok (.dup, 1) := by decide +kernel
theorem d_Shelf_put_23 : decode b_Shelf_put 23 = .ok (.getfield 25, 3) := by decide +kernel
theorem d_Shelf_put_26 : decode b_Shelf_put 26 = .ok (.lconst 1, 1) := by decide +kernel
theorem d_Shelf_put_27 : decode b_Shelf_put 27 = .ok (.iload_n 2, 1) := by decide +kernel
theorem d_Shelf_put_28 : decode b_Shelf_put 28 = .ok (.lshl, 1) := by decide +kernel
theorem d_Shelf_put_29 : decode b_Shelf_put 29 = .ok (.lor, 1) := by decide +kernel
theorem d_Shelf_put_30 : decode b_Shelf_put 30 = .ok (.putfield 25, 3) := by decide +kernel
theorem d_Shelf_put_33 : decode b_Shelf_put 33 = .ok (.aload_n 0, 1) := by decide +kernel
theorem d_Shelf_put_34 : decode b_Shelf_put 34 = .ok (.dup, 1) := by decide +kernel
theorem d_Shelf_put_35 : decode b_Shelf_put 35 = .ok (.getfield 21, 3) := by decide +kernel
theorem d_Shelf_put_38 : decode b_Shelf_put 38 = .ok (.iconst 1, 1) := by decide +kernel
theorem d_Shelf_put_39 : decode b_Shelf_put 39 = .ok (.iadd, 1) := by decide +kernel
theorem d_Shelf_put_40 : decode b_Shelf_put 40 = .ok (.putfield 21, 3) := by decide +kernel
theorem d_Shelf_put_43 : decode b_Shelf_put 43 = .ok (.iload_n 2, 1) := by decide +kernel
theorem d_Shelf_put_44 : decode b_Shelf_put 44 = .ok (.ireturn, 1) := by decide +kernel
theorem d_Document_init_0 : decode b_Document_init 0 = .ok (.aload_n 0, 1) := by decide +kernel
theorem d_Document_init_1 : decode b_Document_init 1 = .ok (.invokespecial 1, 3) := by decide +kernel
theorem d_Document_init_4 : decode b_Document_init 4 = .ok (.aload_n 0, 1) := by decide +kernel
theorem d_Document_init_5 : decode b_Document_init 5 = .ok (.iload_n 1, 1) := by decide +kernel
theorem d_Document_init_6 : decode b_Document_init 6 = .ok (.newarray .long, 2) := by decide +kernel
theorem d_Document_init_8 : decode b_Document_init 8 = .ok (.putfield 7, 3) := by decide +kernel
theorem d_Document_init_11 : decode b_Document_init 11 = .ok (.aload_n 0, 1) := by decide +kernel
theorem d_Document_init_12 : decode b_Document_init 12 = .ok (.iload_n 1, 1) := by decide +kernel
theorem d_Document_init_13 : decode b_Document_init 13 = .ok (.newarray .long, 2) := by decide +kernel
theorem d_Document_init_15 : decode b_Document_init 15 = .ok (.putfield 13, 3) := by decide +kernel
theorem d_Document_init_18 : decode b_Document_init 18 = .ok (.aload_n 0, 1) := by decide +kernel
theorem d_Document_init_19 : decode b_Document_init 19 = .ok (.iconst 0, 1) := by decide +kernel
theorem d_Document_init_20 : decode b_Document_init 20 = .ok (.putfield 16, 3) := by decide +kernel
theorem d_Document_init_23 : decode b_Document_init 23 = .ok (.return_, 1) := by decide +kernel
theorem d_X_add_0 : decode b_X_add 0 = .ok (.aload_n 0, 1) := by decide +kernel
theorem d_X_add_1 : decode b_X_add 1 = .ok (.getfield 12, 3) := by decide +kernel
theorem d_X_add_4 : decode b_X_add 4 = .ok (.invokevirtual 89, 3) := by decide +kernel
theorem d_X_add_7 : decode b_X_add 7 = .ok (.ifCond .eq 13, 3) := by decide +kernel
theorem d_X_add_10 : decode b_X_add 10 = .ok (.aload_n 0, 1) := by decide +kernel
theorem d_X_add_11 : decode b_X_add 11 = .ok (.getfield 70, 3) := by decide +kernel
theorem d_X_add_14 : decode b_X_add 14 = .ok (.invokevirtual 167, 3) := by decide +kernel
theorem d_X_add_17 : decode b_X_add 17 = .ok (.ifCond .ne 5, 3) := by decide +kernel
theorem d_X_add_20 : decode b_X_add 20 = .ok (.iconst (-1), 1) := by decide +kernel
theorem d_X_add_21 : decode b_X_add 21 = .ok (.ireturn, 1) := by decide +kernel
theorem d_X_add_22 : decode b_X_add 22 = .ok (.aload_n 0, 1) := by decide +kernel
theorem d_X_add_23 : decode b_X_add 23 = .ok (.invokevirtual 130, 3) := by decide +kernel
theorem d_X_add_26 : decode b_X_add 26 = .ok (.new 171, 3) := by decide +kernel
theorem d_X_add_29 : decode b_X_add 29 = .ok (.dup, 1) := by decide +kernel
theorem d_X_add_30 : decode b_X_add 30 = .ok (.aload_n 0, 1) := by decide +kernel
theorem d_X_add_31 : decode b_X_add 31 = .ok (.getfield 63, 3) := by decide +kernel
theorem d_X_add_34 : decode b_X_add 34 = .ok (.invokevirtual 143, 3) := by decide +kernel
theorem d_X_add_37 : decode b_X_add 37 = .ok (.invokespecial 173, 3) := by decide +kernel
theorem d_X_add_40 : decode b_X_add 40 = .ok (.astore_n 1, 1) := by decide +kernel
theorem d_X_add_41 : decode b_X_add 41 = .ok (.iconst 0, 1) := by decide +kernel
theorem d_X_add_42 : decode b_X_add 42 = .ok (.istore_n 2, 1) := by decide +kernel
theorem d_X_add_43 : decode b_X_add 43 = .ok (.iload_n 2, 1) := by decide +kernel
theorem d_X_add_44 : decode b_X_add 44 = .ok (.aload_n 0, 1) := by decide +kernel
theorem d_X_add_45 : decode b_X_add 45 = .ok (.getfield 63, 3) := by decide +kernel
theorem d_X_add_48 : decode b_X_add 48 = .ok (.invokevirtual 143, 3) := by decide +kernel
theorem d_X_add_51 : decode b_X_add 51 = .ok (.if_icmp .ge 24, 3) := by decide +kernel
theorem d_X_add_54 : decode b_X_add 54 = .ok (.aload_n 1, 1) := by decide +kernel
theorem d_X_add_55 : decode b_X_add 55 = .ok (.iload_n 2, 1) := by decide +kernel
theorem d_X_add_56 : decode b_X_add 56 = .ok (.aload_n 0, 1) := by decide +kernel
theorem d_X_add_57 : decode b_X_add 57 = .ok (.iload_n 2, 1) := by decide +kernel
theorem d_X_add_58 : decode b_X_add 58 = .ok (.invokevirtual 163, 3) := by decide +kernel
theorem d_X_add_61 : decode b_X_add 61 = .ok (.aload_n 0, 1) := by decide +kernel
theorem d_X_add_62 : decode b_X_add 62 = .ok (.iload_n 2, 1) := by decide +kernel
theorem d_X_add_63 : decode b_X_add 63 = .ok (.invokevirtual 176, 3) := by decide +kernel
theorem d_X_add_66 : decode b_X_add 66 = .ok (.invokevirtual 179, 3) := by decide +kernel
theorem d_X_add_69 : decode b_X_add 69 = .ok (.iinc 2 1, 3) := by decide +kernel
theorem d_X_add_72 : decode b_X_add 72 = .ok (.goto (-29), 3) := by decide +kernel
theorem d_X_add_75 : decode b_X_add 75 = .ok (.aload_n 0, 1) := by decide +kernel
theorem d_X_add_76 : decode b_X_add 76 = .ok (.getfield 70, 3) := by decide +kernel
theorem d_X_add_79 : decode b_X_add 79 = .ok (.aload_n 1, 1) := by decide +kernel
theorem d_X_add_80 : decode b_X_add 80 = .ok (.invokevirtual 183, 3) := by decide +kernel
theorem d_X_add_83 : decode b_X_add 83 = .ok (.ireturn, 1) := by decide +kernel
/-! add(): a document is made, filled and put on the shelf -/
theorem inb_iff0 {i : Int32} {n : Nat} (h : inb i n = true) : ¬ i < 0 ∧ i.toNatClampNeg < n := by
  simp only [inb, Bool.and_eq_true, Bool.not_eq_true', decide_eq_false_iff_not, decide_eq_true_eq] at h
  exact h
theorem WX_app {g : Nat → ClassId} {ad : Nat → Nat} {dr : Nat → Option Nat} {pl w : va_W} {μ : Mem} : WX g ad dr (pl ++ w) μ = WX g ad dr pl μ ++ w := by
  unfold WX
  rw [List.append_assoc]
def putX (μ : Mem) : Mem := wi (wl μ 41 2 ((μ.2 41 2) ||| ((1 : Int64) <<< (((μ.1 41 1) : Int32).toInt64 &&& 63)))) 41 1 ((μ.1 41 1) + (1 : Int32))
abbrev rm_Shelf_put : Room := { frames := 2, cells := 0, slots := 0, locals := 41 }
set_option maxHeartbeats 4000000 in
set_option maxRecDepth 100000 in
theorem c_Shelf_put {l : Launch} {D : va_G} {g : Nat → ClassId} {ad : Nat → Nat} {dr : Nat → Option Nat} {pl : va_W} {μ : Mem} {n k a : Nat} {vs : List Value} {A : Nat → Prop} (hDA : ∀ (dr : Nat → Option Nat) (μ : Mem), va_D A (WX g ad dr pl μ)) (hroom : f_Shelf_hasRoom n μ = some true) (hin : inb (μ.1 41 1) 40 = true) (hq : pl[k]? = some (a, .inr (9, vs))) :
    Met l y_Shelf_put (Cond.code y_Shelf_put b_Shelf_put 3 (some .int) :: ww) rm_Shelf_put (RP D CL (TY g) (WX g ad dr pl μ) [.ref (ad 41), .ref a]) (QW D CL (WX g ad (va_up dr (μ.1 41 1).toNatClampNeg (some a)) pl (putX μ)) A (some (.int (μ.1 41 1)))) 0 0 A := by
  refine met_of (by decide) (Nat.le_of_ble_eq_true rfl) ?_
  intro p e s m below meth c ls X hP hl
  obtain ⟨S, hr, hlk, hK⟩ := id X
  obtain ⟨hx, hb, hml, hown, hts⟩ := id S
  have hS : va_S A s.heap s.heap [] := va_S.rf
  have hl : lv_has ls 3 [(0, .ref (ad 41)), (1, .ref a)] := hl
  refine lv_aload_n hx hb d_Shelf_put_0 rfl (lv_at hl 0 rfl) ?_
  refine rdV (As := []) (rest := []) S K_Shelf_hasRoom q_715 (c_Shelf_hasRoom hroom) hK hP ⟨rfl, rfl⟩ ⟨Nat.le_of_ble_eq_true rfl, Nat.le_of_ble_eq_true rfl⟩ (xr_41 hK hP) rfl hl.1 rfl (Nat.le_of_ble_eq_true rfl) d_Shelf_put_1 ⟨Nat.le_of_ble_eq_true rfl, Nat.le_of_ble_eq_true rfl⟩ ?_
  refine lv_if_ne (tgt := 9) hx hb d_Shelf_put_4 rfl (fun _ => ?_) (fun hc => absurd hc (by decide))
  refine lv_aload_n hx hb d_Shelf_put_9 rfl (lv_at hl 0 rfl) ?_
  refine xg_41_1 hx hb hts hown hK hP q_225 d_Shelf_put_10 ?_
  refine lv_istore_n (lv' := [(2, .int (μ.1 41 1)), (0, .ref (ad 41)), (1, .ref a)]) hx hb d_Shelf_put_13 rfl hl (Nat.le_of_ble_eq_true rfl) rfl (fun ls hl => ?_)
  refine lv_aload_n hx hb d_Shelf_put_14 rfl (lv_at hl 1 rfl) ?_
  refine xg_41_0 hx hb hts hown hK hP q_224 d_Shelf_put_15 ?_
  refine lv_iload_n hx hb d_Shelf_put_18 rfl (lv_at hl 0 rfl) ?_
  refine lv_aload_n hx hb d_Shelf_put_19 rfl (lv_at hl 2 rfl) ?_
  refine va_astq (r := (R_Document, T_Document, 3)) hx hb hK hP (hDA _ _) hS 42 3 (45 + k) 9 rfl rfl ((wx_pl k).trans hq) rfl (inb_in hin) d_Shelf_put_20 (fun H locs hP _ hS => ?_)
  have hP : va_P D CL (WX g ad (va_up dr (μ.1 41 1).toNatClampNeg (some a)) pl μ) H := hP
  refine lv_aload_n hx hb d_Shelf_put_21 rfl (lv_at hl 1 rfl) ?_
  refine lv_dup hx hb d_Shelf_put_22 rfl ?_
  refine xg_41_2 hx hb hts hown hK hP q_226 d_Shelf_put_23 ?_
  refine lv_lconst (v := 1) hx hb d_Shelf_put_26 (by decide) ?_
  refine lv_iload_n hx hb d_Shelf_put_27 rfl (lv_at hl 0 rfl) ?_
  refine lv_lshl (v := (1 : Int64) <<< (((μ.1 41 1) : Int32).toInt64 &&& 63)) hx hb d_Shelf_put_28 rfl ?_
  refine lv_lor hx hb d_Shelf_put_29 ?_
  refine xp_41_2 hx hb hts hown hK (hDA _ _) hP hS q_226 d_Shelf_put_30 rfl (fun H locs hP hS => ?_)
  refine lv_aload_n hx hb d_Shelf_put_33 rfl (lv_at hl 1 rfl) ?_
  refine lv_dup hx hb d_Shelf_put_34 rfl ?_
  refine xg_41_1 hx hb hts hown hK hP q_225 d_Shelf_put_35 ?_
  refine lv_iconst (v := 1) hx hb d_Shelf_put_38 (by decide) ?_
  refine lv_iadd hx hb d_Shelf_put_39 ?_
  refine xp_41_1 hx hb hts hown hK (hDA _ _) hP hS q_225 d_Shelf_put_40 rfl (fun H locs hP hS => ?_)
  refine lv_iload_n hx hb d_Shelf_put_43 rfl (lv_at hl 0 rfl) ?_
  exact W.iret hx hb hr (fun t ht _ => ⟨rfl, by rw [ht]; exact hP, hS.F ht⟩) hS.2.2 d_Shelf_put_44
abbrev rm_Document_init : Room := { frames := 1, cells := 2, slots := 48, locals := 12 }
abbrev z0 : Mem := (fun _ _ => 0, fun _ _ => 0)
set_option maxHeartbeats 4000000 in
set_option maxRecDepth 100000 in
theorem k_Document_init {l : Launch} {D : va_G} {g : Nat → ClassId} (h0 sz : Nat) (v : Int32) (N : Nat) (hv : ¬ v < 0) (hN : v.toNatClampNeg = N) (hN2 : N ≤ 24) : Met l y_Document_init (Cond.code y_Document_init b_Document_init 2 none :: ww) rm_Document_init (CP D (TY g) [(h0, .inr (9, [.null, .null, .int 0]))] sz [.ref h0, .int v]) (CQ D (fun u => WE g (dad h0 (u 0) (u 1) 0) N z0) (va_A [(h0, .inr (9, [.null, .null, .int 0]))] sz)) 2 48 (va_A [(h0, .inr (9, [.null, .null, .int 0]))] sz) := by
  refine met_ctor (by decide) rfl (Nat.le_of_ble_eq_true rfl) ?_
  intro p e s m below meth c ls X hin hO hz hP hD0 hl
  obtain ⟨S, hr, hlk, hK⟩ := id X
  obtain ⟨hx, hb, hml, hown, hts⟩ := id S
  subst hz
  have hD := hD0.self (sz := s.heap.size)
  generalize hAe : va_A [(h0, .inr (9, [.null, .null, .int 0]))] s.heap.size = A at hD ⊢
  have hA : ∀ q : Nat, s.heap.size ≤ q → A q := fun q h => by rw [← hAe]; exact Or.inr h
  have hS : va_S A s.heap s.heap [] := va_S.rf
  have hl : lv_has ls 2 [(0, .ref h0), (1, .int v)] := hl
  have hR2 : rm_Document_init.slots = 48 := rfl
  refine lv_aload_n hx hb d_Document_init_0 rfl (lv_at hl 0 rfl) ?_
  refine W.objInit hx hb hown (hts _ q_689) (hts _ q_22) (hts _ q_23) rfl (by rw [hml]; exact hl.1) rfl d_Document_init_1 (Nat.le_of_ble_eq_true rfl) (Nat.le_of_ble_eq_true rfl) ?_
  refine W.eq (g2 := F0 m 4 ls []) rfl ?_
  refine lv_aload_n hx hb d_Document_init_4 rfl (lv_at hl 0 rfl) ?_
  refine lv_iload_n hx hb d_Document_init_5 rfl (lv_at hl 1 rfl) ?_
  refine nw_J (g := g) hx hb hts hK hP hD hS hA N hv hN (by omega) (Nat.le_of_ble_eq_true rfl) (by omega) d_Document_init_6 (fun q6 H hP hD hS => ?_)
  have hP : va_P D CL [(h0, .inr (9, [.null, .null, .int 0])), (q6, .inl (g 1, N, .inr (.inl (fun _ => 0))))] H := hP
  have hD : va_D A [(h0, .inr (9, [.null, .null, .int 0])), (q6, .inl (g 1, N, .inr (.inl (fun _ => 0))))] := hD
  refine W.widen (k := 1) (n := 24) (Nat.le_of_ble_eq_true rfl) (by omega) ?_
  refine va_putF (D := D) (ci := 9) (v := .ref q6) (ty := .array .long) (C := R_Document) (T := T_Document) (N := 3) hx hb hts u_Document t_Document t_Document_ok n_Document hown hK hP hD hS 0 rfl rfl 0 (by decide) (hts _ q_690) (fun _ h9 => h9) rfl hin rfl (by decide +kernel) rfl rfl (Nat.le_of_ble_eq_true rfl) d_Document_init_8 (fun H locs hP hD hS => ?_)
  have hP : va_P D CL [(h0, .inr (9, [.ref q6, .null, .int 0])), (q6, .inl (g 1, N, .inr (.inl (fun _ => 0))))] H := hP
  have hD : va_D A [(h0, .inr (9, [.ref q6, .null, .int 0])), (q6, .inl (g 1, N, .inr (.inl (fun _ => 0))))] := hD
  refine lv_aload_n hx hb d_Document_init_11 rfl (lv_at hl 0 rfl) ?_
  refine lv_iload_n hx hb d_Document_init_12 rfl (lv_at hl 1 rfl) ?_
  refine nw_J (g := g) hx hb hts hK hP hD hS hA N hv hN (by omega) (Nat.le_of_ble_eq_true rfl) (by omega) d_Document_init_13 (fun q13 H hP hD hS => ?_)
  have hP : va_P D CL [(h0, .inr (9, [.ref q6, .null, .int 0])), (q6, .inl (g 1, N, .inr (.inl (fun _ => 0)))), (q13, .inl (g 1, N, .inr (.inl (fun _ => 0))))] H := hP
  have hD : va_D A [(h0, .inr (9, [.ref q6, .null, .int 0])), (q6, .inl (g 1, N, .inr (.inl (fun _ => 0)))), (q13, .inl (g 1, N, .inr (.inl (fun _ => 0))))] := hD
  refine W.widen (k := 2) (n := 48) (Nat.le_of_ble_eq_true rfl) (by omega) ?_
  refine va_putF (D := D) (ci := 9) (v := .ref q13) (ty := .array .long) (C := R_Document) (T := T_Document) (N := 3) hx hb hts u_Document t_Document t_Document_ok n_Document hown hK hP hD hS 0 rfl rfl 1 (by decide) (hts _ q_691) (fun _ h9 => h9) rfl hin rfl (by decide +kernel) rfl rfl (Nat.le_of_ble_eq_true rfl) d_Document_init_15 (fun H locs hP hD hS => ?_)
  have hP : va_P D CL [(h0, .inr (9, [.ref q6, .ref q13, .int 0])), (q6, .inl (g 1, N, .inr (.inl (fun _ => 0)))), (q13, .inl (g 1, N, .inr (.inl (fun _ => 0))))] H := hP
  have hD : va_D A [(h0, .inr (9, [.ref q6, .ref q13, .int 0])), (q6, .inl (g 1, N, .inr (.inl (fun _ => 0)))), (q13, .inl (g 1, N, .inr (.inl (fun _ => 0))))] := hD
  refine lv_aload_n hx hb d_Document_init_18 rfl (lv_at hl 0 rfl) ?_
  refine lv_iconst (v := 0) hx hb d_Document_init_19 (by decide) ?_
  refine va_put (D := D) (ci := 9) (v := .int 0) (ty := .int) (C := R_Document) (T := T_Document) (N := 3) hx hb hts u_Document t_Document t_Document_ok n_Document hown hK hP hD hS 0 rfl rfl 2 (by decide) (hts _ q_692) (fun _ h9 => h9) rfl (by decide +kernel) rfl rfl (Nat.le_of_ble_eq_true rfl) d_Document_init_20 (fun H locs hP hD hS => ?_)
  exact W.vret hx hb hr (fun t ht _ => ⟨rfl, ⟨(fun k => match k with | 0 => q6 | _ => q13 : Nat → Nat), by rw [ht]; exact hP.sub [0, 1, 2] rfl, hD.sub [0, 1, 2] (by decide) rfl⟩, hS.F ht⟩) hS.2.2 d_Document_init_23
/-- the terms of the draft, one position after another -/
def addLoop (N : Nat) (μ : Mem) (cnt : Int32) : Nat → Mem → Int32 → Option Mem
  | 0, _, _ => none
  | n + 1, dm, i => if cnt ≤ i then some dm else cl (f_X_tokenTerm n μ i) (fun t => cl (f_X_compoundTerm n μ i) (fun u => cl (f_EDocument_post n N dm i t u) (fun dm1 => bd (i + 1) (fun i1 => addLoop N μ cnt n dm1 i1))))
def f_X_add (n : Nat) (δ : Dx) (μ : Mem) : Option (Int32 × Mem × Dx) :=
  if μ.1 1 1 = 0 then some (-1, μ, δ) else cl (f_Shelf_hasRoom n μ) (fun b => if bz b = 0 then some (-1, μ, δ) else cl (f_X_analyse n μ) (fun μ1 => gd (inb (μ1.1 35 7) 25) (
    cl (addLoop (μ1.1 35 7).toNatClampNeg μ1 (μ1.1 35 7) n z0 0) (fun dm => cl (f_Shelf_hasRoom n μ1) (fun b2 => gd b2 (gd (inb (μ1.1 41 1) 40) (
      some (μ1.1 41 1, putX μ1, fun d => if d = (μ1.1 41 1).toNatClampNeg then some ((μ1.1 35 7).toNatClampNeg, dm.2 1, dm.2 2, dm.1 0 2) else δ d))))))))
set_option maxHeartbeats 4000000 in
set_option maxRecDepth 100000 in
/-- the loop of add() -/
theorem w_X_add_43 {p : Program} {l : Launch} {e : Env} {s : State} {m : MethodId} {args : Array Value} {below : List Frame} {meth : Method} {c : Code} {D : va_G} {g : Nat → ClassId} {ad ad1 : Nat → Nat} {dr : Nat → Option Nat} {pl : va_W} {μ : Mem} {N q : Nat} {A A1 : Nat → Prop} {Q : State → Prop} (S : CallFix p m c b_X_add 3 s args ww R_X) (hK : va_K D CL (TY g) s) (hq : ad1 0 = q) (hD1 : ∀ dm : Mem, va_D A1 (WE g ad1 N dm)) (hA1 : ∀ x, A1 x → A x) (hap : ∀ (j : Nat) (x : Nat × va_E), (WX g ad dr pl μ)[j]? = some x → ¬ A1 x.1) {dmf : Mem}
    (kk : ∀ (ls : Array Slot) (H : Heap) (locs : List Loc), va_P D CL (WX g ad dr pl μ) H → va_P D CL (WE g ad1 N dmf) H → va_S A s.heap H locs → lv_has ls 3 [(1, .ref q), (0, .ref (ad 0))] → W p l e rm_X_add s m args below meth c H locs 3 51 Q (F0 m 75 ls [])) :
    ∀ (n : Nat) (dm : Mem) (i : Int32) (ls : Array Slot) (H : Heap) (locs : List Loc), va_P D CL (WX g ad dr pl μ) H → va_P D CL (WE g ad1 N dm) H → va_S A s.heap H locs → lv_has ls 3 [(2, .int i), (1, .ref q), (0, .ref (ad 0))] → addLoop N μ (μ.1 35 7) n dm i = some dmf → W p l e rm_X_add s m args below meth c H locs 3 51 Q (F0 m 43 ls []) := by
  obtain ⟨hx, hb, hml, hown, hts⟩ := id S
  intro n
  induction n with
  | zero => intro dm i ls H locs hP hPe hS hl hf; rw [addLoop] at hf; cases hf
  | succ n ih =>
    intro dm i ls H locs hP hPe hS hl hf
    rw [addLoop] at hf
    refine lv_iload_n hx hb d_X_add_43 rfl (lv_at hl 0 rfl) ?_
    refine lv_aload_n hx hb d_X_add_44 rfl (lv_at hl 2 rfl) ?_
    refine xg_0_7 hx hb hts hown hK hP q_253 d_X_add_45 ?_
    refine rdV (As := []) (rest := [.int i]) S K_TokenRow_count q_602 (c_TokenRow_count (n := 0) (μ := μ) (r := μ.1 35 7) rfl) hK hP ⟨rfl, rfl⟩ ⟨Nat.le_of_ble_eq_true rfl, Nat.le_of_ble_eq_true rfl⟩ (xr_35 hK hP) rfl hl.1 rfl (Nat.le_of_ble_eq_true rfl) d_X_add_48 ⟨Nat.le_of_ble_eq_true rfl, Nat.le_of_ble_eq_true rfl⟩ ?_
    refine lv_icmp_ge (tgt := 75) hx hb d_X_add_51 rfl (fun hc => ?_) (fun hc => ?_)
    · replace hf := br_p hc hf
      obtain rfl := Option.some.inj hf
      exact kk _ _ _ hP hPe hS (lv_sub (l' := [(1, .ref q), (0, .ref (ad 0))]) hl [1, 2] rfl)
    · replace hf := br_n hc hf
      obtain ⟨t, ht, hf⟩ := cl_x hf
      obtain ⟨u, hu, hf⟩ := cl_x hf
      obtain ⟨dm1, hd, hf⟩ := cl_x hf
      obtain ⟨i1, hi1, hf⟩ := bd_x hf
      refine lv_aload_n hx hb d_X_add_54 rfl (lv_at hl 1 rfl) ?_
      refine lv_iload_n hx hb d_X_add_55 rfl (lv_at hl 0 rfl) ?_
      refine lv_aload_n hx hb d_X_add_56 rfl (lv_at hl 2 rfl) ?_
      refine lv_iload_n hx hb d_X_add_57 rfl (lv_at hl 0 rfl) ?_
      refine rdV (As := [.int i]) (rest := [.int i, .ref q]) S K_X_tokenTerm q_648 (c_X_tokenTerm ht) hK hP ⟨rfl, rfl⟩ ⟨Nat.le_of_ble_eq_true rfl, Nat.le_of_ble_eq_true rfl⟩ (xr_0 hK hP) rfl hl.1 rfl (Nat.le_of_ble_eq_true rfl) d_X_add_58 ⟨Nat.le_of_ble_eq_true rfl, Nat.le_of_ble_eq_true rfl⟩ ?_
      refine lv_aload_n hx hb d_X_add_61 rfl (lv_at hl 2 rfl) ?_
      refine lv_iload_n hx hb d_X_add_62 rfl (lv_at hl 0 rfl) ?_
      refine rdV (As := [.int i]) (rest := [.long t, .int i, .ref q]) S K_X_compoundTerm q_700 (c_X_compoundTerm hu) hK hP ⟨rfl, rfl⟩ ⟨Nat.le_of_ble_eq_true rfl, Nat.le_of_ble_eq_true rfl⟩ (xr_0 hK hP) rfl hl.1 rfl (Nat.le_of_ble_eq_true rfl) d_X_add_63 ⟨Nat.le_of_ble_eq_true rfl, Nat.le_of_ble_eq_true rfl⟩ ?_
      subst hq
      refine wrV2 (As := [.int i, .long t, .long u]) (rest := []) S K_Document_post q_707 (c_EDocument_post hD1 hd) hK hPe hS hA1 ⟨rfl, rfl⟩ ⟨Nat.le_of_ble_eq_true rfl, Nat.le_of_ble_eq_true rfl⟩ (er_0 hK hPe) rfl hl.1 rfl (Nat.le_of_ble_eq_true rfl) d_X_add_66 ⟨Nat.le_of_ble_eq_true rfl, Nat.le_of_ble_eq_true rfl⟩ (fun H1 locs1 hP1 hk hS1 => ?_)
      refine lv_iinc (lv' := [(2, .int i1), (1, .ref (ad1 0)), (0, .ref (ad 0))]) hx hb d_X_add_69 hl (k := 0) rfl (show i + Int32.ofInt 1 = i1 from hi1) (Nat.le_of_ble_eq_true rfl) rfl (fun ls hl => ?_)
      refine lv_goto (tgt := 43) hx hb d_X_add_72 rfl ?_
      exact ih dm1 i1 ls H1 locs1 (hP.kept (fun j x hx => hk x.1 (hP j x hx).lt (hap j x hx))) hP1 hS1 hl hf
theorem DocAt.app {g : Nat → ClassId} {pl w : va_W} {a : Nat} {q : Dox} (h : DocAt g pl a q) : DocAt g (pl ++ w) a q := by
  obtain ⟨a1, a2, k, k1, k2, h0, h1, h2⟩ := h
  refine ⟨a1, a2, k, k1, k2, ?_, ?_, ?_⟩
  · rw [List.getElem?_append_left (List.getElem?_eq_some_iff.mp h0).1]; exact h0
  · rw [List.getElem?_append_left (List.getElem?_eq_some_iff.mp h1).1]; exact h1
  · rw [List.getElem?_append_left (List.getElem?_eq_some_iff.mp h2).1]; exact h2
theorem at_app {w1 w2 : va_W} (k : Nat) : (w1 ++ w2)[w1.length + k]? = w2[k]? := by
  rw [List.getElem?_append_right (Nat.le_add_right _ _)]
  exact congrArg (fun j => w2[j]?) (Nat.add_sub_cancel_left _ _)
set_option maxHeartbeats 8000000 in
set_option maxRecDepth 100000 in
/-- add(): its contract -/
theorem add_full {l : Launch} {n : Nat} {δ : Dx} {μ : Mem} {r : Int32} {μ' : Mem} {δ' : Dx} (hf : f_X_add n δ μ = some (r, μ', δ')) : AddMet l μ δ r μ' δ' := by
  intro D g ad dr pl Ax sz hDx hδ
  refine Met.ofW (cc := b_X_add) (maxL := 3) (ret := some .int) (by decide) rfl ?_
  intro p e s m args below meth c s₁ B hml hv
  obtain ⟨rfl, hz, hP, hK, hO⟩ := hv
  have hts0 := atoms_spec (ws := Cond.code y_X_add b_X_add 3 (some .int) :: ww) B.pre
  have hts : ∀ w ∈ ww, w.before ([.ref (ad 0)] : List Value).toArray s = true := fun w hw => hts0 w (List.mem_cons_of_mem _ hw)
  have hown : s.vm.findClass R_X = some m.cls := findClass_of_methodNamed B.named
  have hx := B.exec
  have hb := B.bytes
  have hr := B.returns
  have hlk := B.notSynchronized
  have S : CallFix p m c b_X_add 3 s ([.ref (ad 0)] : List Value).toArray ww R_X := ⟨hx, hb, hml, hown, hts⟩
  have hl := lv_entry ([.ref (ad 0)]) (n := 3) (Nat.le_of_ble_eq_true rfl)
  rw [lg_entry_eq]
  generalize (lg_sl ([.ref (ad 0)]) ++ List.replicate (3 - (lg_sl ([.ref (ad 0)])).length) Slot.unset).toArray = ls at hl ⊢
  have hl : lv_has ls 3 [(0, .ref (ad 0))] := hl
  subst hz
  have hDA : ∀ (dr' : Nat → Option Nat) (ρ : Mem), va_D (fun q => Ax q ∨ s.heap.size ≤ q) (WX g ad dr' pl ρ) := fun dr' ρ => D_same (w := WX g ad dr pl ρ) rfl ((hDx ρ).weaken (fun _ _ _ h => Or.inl h))
  have hS : va_S (fun q => Ax q ∨ s.heap.size ≤ q) s.heap s.heap [] := va_S.rf
  have hA : ∀ q : Nat, s.heap.size ≤ q → (fun q => Ax q ∨ s.heap.size ≤ q) q := fun q h => Or.inr h
  rw [f_X_add] at hf
  have back : ∀ ls : Array Slot, some ((-1 : Int32), μ, δ) = some (r, μ', δ') → W p l e rm_X_add s m ([.ref (ad 0)] : List Value).toArray below meth c s.heap [] 0 0 (MQ below (AQ D g ad Ax s.heap.size r μ' δ') ([.ref (ad 0)] : List Value).toArray s 3 51 (fun q => Ax q ∨ s.heap.size ≤ q)) (F0 m 20 ls []) := by
    intro ls hf
    obtain ⟨h1, h2⟩ := Prod.mk.inj (Option.some.inj hf)
    obtain ⟨h2, h3⟩ := Prod.mk.inj h2
    subst h1; subst h2; subst h3
    refine lv_iconst (v := -1) hx hb d_X_add_20 (by decide) ?_
    refine W.widen (k := 3) (n := 51) (Nat.le_of_ble_eq_true rfl) (Nat.le_of_ble_eq_true rfl) ?_
    exact W.iret hx hb hr (fun t ht _ => ⟨rfl, ⟨dr, pl, by rw [ht]; exact hP, hδ, fun ρ => hDA dr ρ⟩, ⟨by rw [ht]; exact Nat.le_refl _, fun q _ _ => by rw [ht]⟩⟩) (fun _ h => by cases h) d_X_add_21
  refine lv_aload_n hx hb d_X_add_0 rfl (lv_at hl 0 rfl) ?_
  refine xg_0_0 hx hb hts hown hK hP q_246 d_X_add_1 ?_
  refine rdV (As := []) (rest := []) S K_Draft_size q_303 (c_Draft_size (n := 0) (μ := μ) (r := μ.1 1 1) rfl) hK hP ⟨rfl, rfl⟩ ⟨Nat.le_of_ble_eq_true rfl, Nat.le_of_ble_eq_true rfl⟩ (xr_1 hK hP) rfl hl.1 rfl (Nat.le_of_ble_eq_true rfl) d_X_add_4 ⟨Nat.le_of_ble_eq_true rfl, Nat.le_of_ble_eq_true rfl⟩ ?_
  refine lv_if_eq (tgt := 20) hx hb d_X_add_7 rfl (fun hc => back _ (br_p hc hf)) (fun hc => ?_)
  replace hf := br_n hc hf
  obtain ⟨b, hbr, hf⟩ := cl_x hf
  refine lv_aload_n hx hb d_X_add_10 rfl (lv_at hl 0 rfl) ?_
  refine xg_0_8 hx hb hts hown hK hP q_254 d_X_add_11 ?_
  refine rdV (As := []) (rest := []) S K_Shelf_hasRoom q_674 (c_Shelf_hasRoom hbr) hK hP ⟨rfl, rfl⟩ ⟨Nat.le_of_ble_eq_true rfl, Nat.le_of_ble_eq_true rfl⟩ (xr_41 hK hP) rfl hl.1 rfl (Nat.le_of_ble_eq_true rfl) d_X_add_14 ⟨Nat.le_of_ble_eq_true rfl, Nat.le_of_ble_eq_true rfl⟩ ?_
  refine lv_if_ne (tgt := 22) hx hb d_X_add_17 rfl (fun hc2 => ?_) (fun hc2 => back _ (br_p hc2 hf))
  replace hf := br_n hc2 hf
  obtain ⟨μ1, hμ1, hf⟩ := cl_x hf
  obtain ⟨h25, hf⟩ := gd_x hf
  obtain ⟨dmf, hloop, hf⟩ := cl_x hf
  obtain ⟨b2, hroom, hf⟩ := cl_x hf
  obtain ⟨hb2, hf2⟩ := gd_x hf
  obtain ⟨h40, hf3⟩ := gd_x hf2
  subst hb2
  obtain ⟨h1, h2⟩ := Prod.mk.inj (Option.some.inj hf3)
  obtain ⟨h2, h3⟩ := Prod.mk.inj h2
  subst h1; subst h2; subst h3
  refine lv_aload_n hx hb d_X_add_22 rfl (lv_at hl 0 rfl) ?_
  refine wrV (As := []) (rest := []) S K_X_analyse q_378 (c_X_analyse (fun ρ => hDA dr ρ) hμ1) hK hP hS ⟨rfl, rfl⟩ ⟨Nat.le_of_ble_eq_true rfl, Nat.le_of_ble_eq_true rfl⟩ (xr_0 hK hP) rfl hl.1 rfl (Nat.le_of_ble_eq_true rfl) d_X_add_23 ⟨Nat.le_of_ble_eq_true rfl, Nat.le_of_ble_eq_true rfl⟩ (fun H locs hP hS => ?_)
  refine va_new (ci := 9) (fs := [.null, .null, .int 0]) (C := R_Document) (T := T_Document) (N := 3) hx hb hts u_Document t_Document t_Document_ok hown (hts _ q_684) (hts _ q_685) (hts _ q_15) hK hP (hDA dr μ1) hS hA rfl (fun j hj => by rcases (show j = 0 ∨ j = 1 ∨ j = 2 by omega) with rfl | rfl | rfl <;> rfl) (Nat.le_of_ble_eq_true rfl) (Nat.le_of_ble_eq_true rfl) d_X_add_26 (fun q H hP hD hS => ?_)
  have hPx : va_P D CL (WX g ad dr pl μ1) H := fun j x hj => hP j x (by rw [List.getElem?_append_left (List.getElem?_eq_some_iff.mp hj).1]; exact hj)
  have hE : (WX g ad dr pl μ1 ++ [(q, (.inr (9, [.null, .null, .int 0]) : va_E))])[(WX g ad dr pl μ1).length + 0]? = some (q, .inr (9, [.null, .null, .int 0])) := at_app 0
  have hPn : va_P D CL [(q, .inr (9, [.null, .null, .int 0]))] H := fun j x hj => by rcases j with _ | j; (cases hj; exact hP _ _ hE); cases hj
  have hDn : va_D (fun _ => True) [(q, (.inr (9, [.null, .null, .int 0]) : va_E))] := ⟨fun i j x y hi hj _ => by have a := (List.getElem?_eq_some_iff.mp hi).1; have b := (List.getElem?_eq_some_iff.mp hj).1; simp at a b; omega, fun _ _ _ => trivial⟩
  have hF2 : ∀ x, va_A [(q, (.inr (9, [.null, .null, .int 0]) : va_E))] H.size x → (fun q => Ax q ∨ s.heap.size ≤ q) x := by
    intro x h
    rcases h with ⟨j, e, h⟩ | h
    · rcases j with _ | j
      · cases h; exact hD.2 _ _ hE
      · cases h
    · exact Or.inr (Nat.le_trans hS.1 h)
  have hnx : ∀ (j : Nat) (x : Nat × va_E), (WX g ad dr pl μ1)[j]? = some x → ¬ va_A [(q, (.inr (9, [.null, .null, .int 0]) : va_E))] H.size x.1 := by
    intro j x hj h
    rcases h with ⟨i, e, h⟩ | h
    · rcases i with _ | i
      · have hjl := (List.getElem?_eq_some_iff.mp hj).1
        have e1 := hD.1 j _ x _ (by rw [List.getElem?_append_left hjl]; exact hj) hE (by cases h; rfl)
        omega
      · cases h
    · exact Nat.not_lt.mpr h (hPx j x hj).lt
  have h25' := inb_iff0 h25
  refine lv_dup hx hb d_X_add_29 rfl ?_
  refine lv_aload_n hx hb d_X_add_30 rfl (lv_at hl 0 rfl) ?_
  refine xg_0_7 hx hb hts hown hK hPx q_253 d_X_add_31 ?_
  refine rdV (As := []) (rest := [.ref q, .ref q]) S K_TokenRow_count q_602 (c_TokenRow_count (n := 0) (μ := μ1) (r := μ1.1 35 7) rfl) hK hPx ⟨rfl, rfl⟩ ⟨Nat.le_of_ble_eq_true rfl, Nat.le_of_ble_eq_true rfl⟩ (xr_35 hK hPx) rfl hl.1 rfl (Nat.le_of_ble_eq_true rfl) d_X_add_34 ⟨Nat.le_of_ble_eq_true rfl, Nat.le_of_ble_eq_true rfl⟩ ?_
  refine ctI (g := g) (np := 1) (As := [.int (μ1.1 35 7)]) (rest := [.ref q]) S q_688 q_687 q_15 ⟨by decide, by decide, by decide +kernel⟩ rfl q_686 (k_Document_init q H.size (μ1.1 35 7) (μ1.1 35 7).toNatClampNeg h25'.1 rfl (by have := h25'.2; omega)) hK hPn hDn hO hS hF2 ⟨rfl, rfl⟩ ⟨Nat.le_of_ble_eq_true rfl, Nat.le_of_ble_eq_true rfl⟩ rfl hl.1 rfl (Nat.le_of_ble_eq_true rfl) d_X_add_37 ⟨Nat.le_of_ble_eq_true rfl, Nat.le_of_ble_eq_true rfl⟩ (fun u H1 locs1 hP1 hD1 hk1 hS1 => ?_)
  have hPx1 : va_P D CL (WX g ad dr pl μ1) H1 := hPx.kept (fun j x hj => hk1 x.1 (hPx j x hj).lt (hnx j x hj))
  refine lv_astore_n (lv' := [(1, .ref q), (0, .ref (ad 0))]) hx hb d_X_add_40 rfl hl (Nat.le_of_ble_eq_true rfl) rfl (fun ls hl => ?_)
  refine lv_iconst (v := 0) hx hb d_X_add_41 (by decide) ?_
  refine lv_istore_n (lv' := [(2, .int 0), (1, .ref q), (0, .ref (ad 0))]) hx hb d_X_add_42 rfl hl (Nat.le_of_ble_eq_true rfl) rfl (fun ls hl => ?_)
  refine W.widen (k := 3) (n := 51) (Nat.le_of_ble_eq_true rfl) (Nat.le_of_ble_eq_true rfl) ?_
  have hbase : va_D (fun q => Ax q ∨ s.heap.size ≤ q) (WX g ad dr pl μ1 ++ WE g (dad q (u 0) (u 1) 0) (μ1.1 35 7).toNatClampNeg z0) := (hDA dr μ1).app (hD1.weaken (fun _ x _ h => hF2 x.1 h)) (fun i j x y hi hj hxy => hnx i x hi (by rw [hxy]; exact hD1.2 j y hj))
  have hDall : ∀ (dr' : Nat → Option Nat) (ρ dm : Mem), va_D (fun q => Ax q ∨ s.heap.size ≤ q) (WX g ad dr' (pl ++ WE g (dad q (u 0) (u 1) 0) (μ1.1 35 7).toNatClampNeg dm) ρ) := fun dr' ρ dm => D_same (by rw [WX_app, List.map_append, List.map_append]; rfl) hbase
  refine w_X_add_43 (ad1 := dad q (u 0) (u 1) 0) (N := (μ1.1 35 7).toNatClampNeg) (A1 := va_A [(q, (.inr (9, [.null, .null, .int 0]) : va_E))] H.size) S hK rfl (fun dm => D_same (w := WE g (dad q (u 0) (u 1) 0) (μ1.1 35 7).toNatClampNeg z0) rfl hD1) hF2 hnx (dmf := dmf) ?_ n z0 0 ls H1 locs1 hPx1 hP1 hS1 hl hloop
  intro ls H locs hP hPe hS hl
  have hPall : va_P D CL (WX g ad dr (pl ++ WE g (dad q (u 0) (u 1) 0) (μ1.1 35 7).toNatClampNeg dmf) μ1) H := by rw [WX_app]; exact hP.app hPe
  have hk0 : (pl ++ WE g (dad q (u 0) (u 1) 0) (μ1.1 35 7).toNatClampNeg dmf)[pl.length + 0]? = some (q, .inr (9, [.ref (u 0), .ref (u 1), .int (dmf.1 0 2)])) := at_app 0
  have hk1' : (pl ++ WE g (dad q (u 0) (u 1) 0) (μ1.1 35 7).toNatClampNeg dmf)[pl.length + 1]? = some (u 0, .inl (g 1, (μ1.1 35 7).toNatClampNeg, .inr (.inl (dmf.2 1)))) := at_app 1
  have hk2' : (pl ++ WE g (dad q (u 0) (u 1) 0) (μ1.1 35 7).toNatClampNeg dmf)[pl.length + 2]? = some (u 1, .inl (g 1, (μ1.1 35 7).toNatClampNeg, .inr (.inl (dmf.2 2)))) := at_app 2
  refine lv_aload_n hx hb d_X_add_75 rfl (lv_at hl 1 rfl) ?_
  refine xg_0_8 hx hb hts hown hK hPall q_254 d_X_add_76 ?_
  refine lv_aload_n hx hb d_X_add_79 rfl (lv_at hl 0 rfl) ?_
  refine wrV (As := [.ref q]) (rest := []) S K_Shelf_put q_711 (c_Shelf_put (fun dr' ρ => hDall dr' ρ dmf) hroom h40 hk0) hK hPall hS ⟨rfl, rfl⟩ ⟨Nat.le_of_ble_eq_true rfl, Nat.le_of_ble_eq_true rfl⟩ (xr_41 hK hPall) rfl hl.1 rfl (Nat.le_of_ble_eq_true rfl) d_X_add_80 ⟨Nat.le_of_ble_eq_true rfl, Nat.le_of_ble_eq_true rfl⟩ (fun H locs hP hS => ?_)
  refine W.iret hx hb hr (fun t ht _ => ⟨rfl, ⟨_, _, by rw [ht]; exact hP, ?_, fun ρ => hDall _ ρ dmf⟩, hS.F ht⟩) hS.2.2 d_X_add_83
  intro d
  by_cases hd : d = (μ1.1 41 1).toNatClampNeg
  · refine ⟨fun h => ?_, fun a h => ?_⟩
    · simp [va_up, hd] at h
    · have ha : q = a := by simpa [va_up, hd] using h
      subst ha
      exact ⟨_, if_pos hd, u 0, u 1, _, _, _, hk0, hk1', hk2'⟩
  · refine ⟨fun h => ?_, fun a h => ?_⟩
    · exact (if_neg hd).trans ((hδ d).1 (by simpa [va_up, hd] using h))
    · obtain ⟨q', h1, h2⟩ := (hδ d).2 a (by simpa [va_up, hd] using h)
      exact ⟨q', (if_neg hd).trans h1, h2.app⟩
