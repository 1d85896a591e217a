theorem d_Shelf_postingsOf_0 : decode b_Shelf_postingsOf 0 = .ok (.iconst 0, 1) := by decide +kernel
theorem d_Shelf_postingsOf_1 : decode b_Shelf_postingsOf 1 = .ok (.istore_n 3, 1) := by decide +kernel
theorem d_Shelf_postingsOf_2 : decode b_Shelf_postingsOf 2 = .ok (.iconst 0, 1) := by decide +kernel
theorem d_Shelf_postingsOf_3 : decode b_Shelf_postingsOf 3 = .ok (.istore 4, 2) := by decide +kernel
theorem d_Shelf_postingsOf_5 : decode b_Shelf_postingsOf 5 = .ok (.iload 4, 2) := by decide +kernel
theorem d_Shelf_postingsOf_7 : decode b_Shelf_postingsOf 7 = .ok (.aload_n 0, 1) := by decide +kernel
theorem d_Shelf_postingsOf_8 : decode b_Shelf_postingsOf 8 = .ok (.getfield 21, 3) := by decide +kernel
theorem d_Shelf_postingsOf_11 : decode b_Shelf_postingsOf 11 = .ok (.if_icmp .ge 40, 3) := by decide +kernel
theorem d_Shelf_postingsOf_14 : decode b_Shelf_postingsOf 14 = .ok (.aload_n 0, 1) := by decide +kernel
theorem d_Shelf_postingsOf_15 : decode b_Shelf_postingsOf 15 = .ok (.getfield 11, 3) := by decide +kernel
theorem d_Shelf_postingsOf_18 : decode b_Shelf_postingsOf 18 = .ok (.iload 4, 2) := by decide +kernel
theorem d_Shelf_postingsOf_20 : decode b_Shelf_postingsOf 20 = .ok (.aaload, 1) := by decide +kernel
theorem d_Shelf_postingsOf_21 : decode b_Shelf_postingsOf 21 = .ok (.astore 5, 2) := by decide +kernel
theorem d_Shelf_postingsOf_23 : decode b_Shelf_postingsOf 23 = .ok (.lload_n 1, 1) := by decide +kernel
theorem d_Shelf_postingsOf_24 : decode b_Shelf_postingsOf 24 = .ok (.iload 4, 2) := by decide +kernel
theorem d_Shelf_postingsOf_26 : decode b_Shelf_postingsOf 26 = .ok (.invokestatic 48, 3) := by decide +kernel
theorem d_Shelf_postingsOf_29 : decode b_Shelf_postingsOf 29 = .ok (.ifCond .eq 16, 3) := by decide +kernel
theorem d_Shelf_postingsOf_32 : decode b_Shelf_postingsOf 32 = .ok (.aload 5, 2) := by decide +kernel
theorem d_Shelf_postingsOf_34 : decode b_Shelf_postingsOf 34 = .ok (.ifnull 11, 3) := by decide +kernel
theorem d_Shelf_postingsOf_37 : decode b_Shelf_postingsOf 37 = .ok (.iload_n 3, 1) := by decide +kernel
theorem d_Shelf_postingsOf_38 : decode b_Shelf_postingsOf 38 = .ok (.aload 5, 2) := by decide +kernel
theorem d_Shelf_postingsOf_40 : decode b_Shelf_postingsOf 40 = .ok (.invokevirtual 65, 3) := by decide +kernel
theorem d_Shelf_postingsOf_43 : decode b_Shelf_postingsOf 43 = .ok (.iadd, 1) := by decide +kernel
theorem d_Shelf_postingsOf_44 : decode b_Shelf_postingsOf 44 = .ok (.istore_n 3, 1) := by decide +kernel
theorem d_Shelf_postingsOf_45 : decode b_Shelf_postingsOf 45 = .ok (.iinc 4 1, 3) := by decide +kernel
theorem d_Shelf_postingsOf_48 : decode b_Shelf_postingsOf 48 = .ok (.goto (-43), 3) := by decide +kernel
theorem d_Shelf_postingsOf_51 : decode b_Shelf_postingsOf 51 = .ok (.iload_n 3, 1) := by decide +kernel
theorem d_Shelf_postingsOf_52 : decode b_Shelf_postingsOf 52 = .ok (.ireturn, 1) := by decide +kernel
abbrev rm_Shelf_postingsOf : Room := { frames := 1, cells := 0, slots := 0, locals := 22 }
def f_Shelf_postingsOf_45 (κ5 : Int64 → Int32 → Int32 → Option Int32) (δ : Dx) (μ : Mem) (n : Nat) (x1 : Int64) (x3 : Int32) (x4 : Int32) : Option Int32 := bd (x4 + 1) (fun v1 => κ5 x1 x3 v1)
set_option maxHeartbeats 4000000 in
set_option maxRecDepth 100000 in
theorem w_Shelf_postingsOf_45 {p : Program} {l : Launch} {e : Env} {s : State} {m : MethodId} {args : Array Value} {below : List Frame} {meth : Method} {c : Code} {D : va_G} {g : Nat → ClassId} {ad : Nat → Nat} {dr : Nat → Option Nat} {pl : va_W} {μ : Mem} {r : Int32} {δ : Dx} {κ5 : Int64 → Int32 → Int32 → Option Int32} {n : Nat} {x1 : Int64} {x3 : Int32} {x4 : Int32} {ls : Array Slot} (X : Cx p s m args meth c b_Shelf_postingsOf 6 R_Shelf (some .int) D CL (TY g)) (hδ : DocOK g dr pl δ) (hP : va_P D CL (WX g ad dr pl μ) s.heap) (hκ5 : ∀ (x1 : Int64) (x3 : Int32) (x4 : Int32) (ls : Array Slot), lv_has ls 6 [(0, .ref (ad 41)), (1, .long x1), (3, .int x3), (4, .int x4)] → κ5 x1 x3 x4 = some r → WR p l e rm_Shelf_postingsOf s m args below meth c (.int r) (F0 m 5 ls [])) (hl : lv_has ls 6 [(0, .ref (ad 41)), (1, .long x1), (3, .int x3), (4, .int x4)]) (hf : f_Shelf_postingsOf_45 κ5 δ μ n x1 x3 x4 = some r) : WR p l e rm_Shelf_postingsOf s m args below meth c (.int r) (F0 m 45 ls []) := by
  obtain ⟨S, hr, hlk, hK⟩ := id X
  obtain ⟨hx, hb, hml, hown, hts⟩ := id S
  rw [f_Shelf_postingsOf_45] at hf
  obtain ⟨v1, hv1, hf⟩ := bd_x hf
  refine lv_iinc (lv' := [(4, .int v1), (0, .ref (ad 41)), (1, .long x1), (3, .int x3)]) hx hb d_Shelf_postingsOf_45 hl (k := 3) rfl (show x4 + Int32.ofInt (1) = v1 from hv1) (Nat.le_of_ble_eq_true rfl) rfl (fun ls hl => ?_)
  refine lv_goto (tgt := 5) hx hb d_Shelf_postingsOf_48 rfl ?_
  exact hκ5 _ _ _ _ (lv_sub (l' := [(0, .ref (ad 41)), (1, .long x1), (3, .int x3), (4, .int v1)]) hl [1, 2, 3, 0] rfl) hf
def f_Shelf_postingsOf_5 (δ : Dx) (μ : Mem) : Nat → Int64 → Int32 → Int32 → Option Int32
  | 0, _, _, _ => none
  | n + 1, x1, x3, x4 => (if (μ.1 41 1) ≤ x4 then (some x3) else (gd (inb x4 40) (mt (δ (x4.toNatClampNeg)) (cl (f_Shelf_holds n x1 x4) (fun v3 => (if (bz v3) = 0 then (f_Shelf_postingsOf_45 (f_Shelf_postingsOf_5 δ μ n) δ μ n x1 x3 x4) else (f_Shelf_postingsOf_45 (f_Shelf_postingsOf_5 δ μ n) δ μ n x1 x3 x4)))) (fun q1 => cl (f_Shelf_holds n x1 x4) (fun v4 => (if (bz v4) = 0 then (f_Shelf_postingsOf_45 (f_Shelf_postingsOf_5 δ μ n) δ μ n x1 x3 x4) else (cl (f_Document_postings n q1.1 (dmem q1 μ)) (fun v5 => bd (x3 + v5) (fun v6 => f_Shelf_postingsOf_45 (f_Shelf_postingsOf_5 δ μ n) δ μ n x1 v6 x4)))))))))
set_option maxHeartbeats 4000000 in
set_option maxRecDepth 100000 in
theorem w_Shelf_postingsOf_5 {p : Program} {l : Launch} {e : Env} {s : State} {m : MethodId} {args : Array Value} {below : List Frame} {meth : Method} {c : Code} {D : va_G} {g : Nat → ClassId} {ad : Nat → Nat} {dr : Nat → Option Nat} {pl : va_W} {μ : Mem} {r : Int32} {δ : Dx} (X : Cx p s m args meth c b_Shelf_postingsOf 6 R_Shelf (some .int) D CL (TY g)) (hδ : DocOK g dr pl δ) (hP : va_P D CL (WX g ad dr pl μ) s.heap) : ∀ (n : Nat) (x1 : Int64) (x3 : Int32) (x4 : Int32) (ls : Array Slot), lv_has ls 6 [(0, .ref (ad 41)), (1, .long x1), (3, .int x3), (4, .int x4)] → f_Shelf_postingsOf_5 δ μ n x1 x3 x4 = some r → WR p l e rm_Shelf_postingsOf s m args below meth c (.int r) (F0 m 5 ls []) := by
  intro n
  induction n with
  | zero => intro x1 x3 x4 ls hl hf; rw [f_Shelf_postingsOf_5] at hf; cases hf
  | succ n ih =>
    intro x1 x3 x4 ls hl hf
    obtain ⟨S, hr, hlk, hK⟩ := id X
    obtain ⟨hx, hb, hml, hown, hts⟩ := id S
    rw [f_Shelf_postingsOf_5] at hf
    refine lv_iload hx hb d_Shelf_postingsOf_5 (lv_at hl 3 rfl) ?_
    refine lv_aload_n hx hb d_Shelf_postingsOf_7 rfl (lv_at hl 0 rfl) ?_
    refine xg_41_1 hx hb hts hown hK hP q_225 d_Shelf_postingsOf_8 ?_
    refine lv_icmp_ge (tgt := 51) hx hb d_Shelf_postingsOf_11 rfl (fun hc => ?_) (fun hc => ?_)
    · replace hf := br_p hc hf
      refine lv_iload_n hx hb d_Shelf_postingsOf_51 rfl (lv_at hl 2 rfl) ?_
      have h1 := Option.some.inj hf
      subst h1
      exact W.iret hx hb hr (fun t ht _ => ⟨rfl, ht⟩) (fun _ h => by cases h) d_Shelf_postingsOf_52
    · replace hf := br_n hc hf
      refine lv_aload_n hx hb d_Shelf_postingsOf_14 rfl (lv_at hl 0 rfl) ?_
      refine xg_41_0 hx hb hts hown hK hP q_224 d_Shelf_postingsOf_15 ?_
      refine lv_iload hx hb d_Shelf_postingsOf_18 (lv_at hl 3 rfl) ?_
      obtain ⟨hi, hf⟩ := gd_x hf
      refine xq_42 hx hb hK hP (inb_in hi) d_Shelf_postingsOf_20 ?_
      cases hd : dr (x4.toNatClampNeg) with
      | none =>
        replace hf := mt_n ((hδ _).1 hd) hf
        refine lv_astoreN (lv' := [(5, .null), (0, .ref (ad 41)), (1, .long x1), (3, .int x3), (4, .int x4)]) hx hb d_Shelf_postingsOf_21 hl (Nat.le_of_ble_eq_true rfl) rfl (fun ls hl => ?_)
        refine lv_lload_n hx hb d_Shelf_postingsOf_23 rfl (lv_at hl 2 rfl) ?_
        refine lv_iload hx hb d_Shelf_postingsOf_24 (lv_at hl 4 rfl) ?_
        obtain ⟨v3, hv3, hf⟩ := cl_x hf
        refine rdS (As := [.long x1, .int x4]) (rest := []) S K_Shelf_holds q_724 (c_Shelf_holds (w := (WX g ad dr pl μ)) hv3) hK hP ⟨rfl, rfl⟩ ⟨Nat.le_of_ble_eq_true rfl, Nat.le_of_ble_eq_true rfl⟩ rfl hl.1 rfl (Nat.le_of_ble_eq_true rfl) d_Shelf_postingsOf_26 ⟨Nat.le_refl _, Nat.le_refl _⟩ ?_
        refine lv_if_eq (tgt := 45) hx hb d_Shelf_postingsOf_29 rfl (fun hc => ?_) (fun hc => ?_)
        · replace hf := br_p hc hf
          exact w_Shelf_postingsOf_45 X hδ hP ih (lv_sub (l' := [(0, .ref (ad 41)), (1, .long x1), (3, .int x3), (4, .int x4)]) hl [1, 2, 3, 4] rfl) hf
        · replace hf := br_n hc hf
          refine lv_aloadN hx hb d_Shelf_postingsOf_32 (lv_at hl 0 rfl) ?_
          refine lv_ifnullN (tgt := 45) hx hb d_Shelf_postingsOf_34 rfl ?_
          exact w_Shelf_postingsOf_45 X hδ hP ih (lv_sub (l' := [(0, .ref (ad 41)), (1, .long x1), (3, .int x3), (4, .int x4)]) hl [1, 2, 3, 4] rfl) hf
      | some a2 =>
        obtain ⟨q1, hq1, hdoc⟩ := (hδ _).2 _ hd
        replace hf := mt_s hq1 hf
        refine lv_astore (lv' := [(5, .ref a2), (0, .ref (ad 41)), (1, .long x1), (3, .int x3), (4, .int x4)]) hx hb d_Shelf_postingsOf_21 hl (Nat.le_of_ble_eq_true rfl) rfl (fun ls hl => ?_)
        refine lv_lload_n hx hb d_Shelf_postingsOf_23 rfl (lv_at hl 2 rfl) ?_
        refine lv_iload hx hb d_Shelf_postingsOf_24 (lv_at hl 4 rfl) ?_
        obtain ⟨v4, hv4, hf⟩ := cl_x hf
        refine rdS (As := [.long x1, .int x4]) (rest := []) S K_Shelf_holds q_724 (c_Shelf_holds (w := (WX g ad dr pl μ)) hv4) hK hP ⟨rfl, rfl⟩ ⟨Nat.le_of_ble_eq_true rfl, Nat.le_of_ble_eq_true rfl⟩ rfl hl.1 rfl (Nat.le_of_ble_eq_true rfl) d_Shelf_postingsOf_26 ⟨Nat.le_refl _, Nat.le_refl _⟩ ?_
        refine lv_if_eq (tgt := 45) hx hb d_Shelf_postingsOf_29 rfl (fun hc => ?_) (fun hc => ?_)
        · replace hf := br_p hc hf
          exact w_Shelf_postingsOf_45 X hδ hP ih (lv_sub (l' := [(0, .ref (ad 41)), (1, .long x1), (3, .int x3), (4, .int x4)]) hl [1, 2, 3, 4] rfl) hf
        · replace hf := br_n hc hf
          refine lv_aload hx hb d_Shelf_postingsOf_32 (lv_at hl 0 rfl) ?_
          refine lv_ifnull hx hb d_Shelf_postingsOf_34 ?_
          refine lv_iload_n hx hb d_Shelf_postingsOf_37 rfl (lv_at hl 3 rfl) ?_
          refine lv_aload hx hb d_Shelf_postingsOf_38 (lv_at hl 0 rfl) ?_
          obtain ⟨v5, hv5, hf⟩ := cl_x hf
          obtain ⟨a1_, a2_, hP1⟩ := doc_P hP hdoc
          refine rdV (a := a2) (As := []) (rest := [.int x3]) S K_Document_postings q_740 (c_Document_postings (ad := dad a2 a1_ a2_ (ad 44)) hv5) hK hP1 ⟨rfl, rfl⟩ ⟨Nat.le_of_ble_eq_true rfl, Nat.le_of_ble_eq_true rfl⟩ (or_0 hK hP1) rfl hl.1 rfl (Nat.le_of_ble_eq_true rfl) d_Shelf_postingsOf_40 ⟨Nat.le_refl _, Nat.le_refl _⟩ ?_
          refine lv_iadd hx hb d_Shelf_postingsOf_43 ?_
          obtain ⟨v6, hv6, hf⟩ := bd_x hf
          refine top_i hv6 ?_
          refine lv_istore_n (lv' := [(3, .int v6), (5, .ref a2), (0, .ref (ad 41)), (1, .long x1), (4, .int x4)]) hx hb d_Shelf_postingsOf_44 rfl hl (Nat.le_of_ble_eq_true rfl) rfl (fun ls hl => ?_)
          exact w_Shelf_postingsOf_45 X hδ hP ih (lv_sub (l' := [(0, .ref (ad 41)), (1, .long x1), (3, .int v6), (4, .int x4)]) hl [2, 3, 0, 4] rfl) hf
def f_Shelf_postingsOf (n : Nat) (δ : Dx) (μ : Mem) (a1 : Int64) : Option Int32 := f_Shelf_postingsOf_5 δ μ n a1 (0 : Int32) (0 : Int32)
set_option maxHeartbeats 4000000 in
set_option maxRecDepth 100000 in
theorem w_Shelf_postingsOf {p : Program} {l : Launch} {e : Env} {s : State} {m : MethodId} {args : Array Value} {below : List Frame} {meth : Method} {c : Code} {D : va_G} {g : Nat → ClassId} {ad : Nat → Nat} {dr : Nat → Option Nat} {pl : va_W} {μ : Mem} {r : Int32} {δ : Dx} {n : Nat} {a1 : Int64} {ls : Array Slot} (X : Cx p s m args meth c b_Shelf_postingsOf 6 R_Shelf (some .int) D CL (TY g)) (hδ : DocOK g dr pl δ) (hP : va_P D CL (WX g ad dr pl μ) s.heap) (hl : lv_has ls 6 [(0, .ref (ad 41)), (1, .long a1)]) (hf : f_Shelf_postingsOf n δ μ a1 = some r) : WR p l e rm_Shelf_postingsOf s m args below meth c (.int r) (F0 m 0 ls []) := by
  obtain ⟨S, hr, hlk, hK⟩ := id X
  obtain ⟨hx, hb, hml, hown, hts⟩ := id S
  rw [f_Shelf_postingsOf] at hf
  refine lv_iconst (v := 0) hx hb d_Shelf_postingsOf_0 (by decide) ?_
  refine lv_istore_n (lv' := [(3, .int (0 : Int32)), (0, .ref (ad 41)), (1, .long a1)]) hx hb d_Shelf_postingsOf_1 rfl hl (Nat.le_of_ble_eq_true rfl) rfl (fun ls hl => ?_)
  refine lv_iconst (v := 0) hx hb d_Shelf_postingsOf_2 (by decide) ?_
  refine lv_istore (lv' := [(4, .int (0 : Int32)), (3, .int (0 : Int32)), (0, .ref (ad 41)), (1, .long a1)]) hx hb d_Shelf_postingsOf_3 hl (Nat.le_of_ble_eq_true rfl) rfl (fun ls hl => ?_)
  exact w_Shelf_postingsOf_5 X hδ hP _ _ _ _ _ (lv_sub (l' := [(0, .ref (ad 41)), (1, .long a1), (3, .int (0 : Int32)), (4, .int (0 : Int32))]) hl [2, 3, 1, 0] rfl) hf
theorem c_Shelf_postingsOf {l : Launch} {D : va_G} {g : Nat → ClassId} {ad : Nat → Nat} {dr : Nat → Option Nat} {pl : va_W} {μ : Mem} {r : Int32} {n : Nat} {a1 : Int64} {δ : Dx} (hδ : DocOK g dr pl δ) (hf : f_Shelf_postingsOf n δ μ a1 = some r) : Met l y_Shelf_postingsOf (Cond.code y_Shelf_postingsOf b_Shelf_postingsOf 6 (some .int) :: ww) rm_Shelf_postingsOf (RP D CL (TY g) (WX g ad dr pl μ) [.ref (ad 41), .long a1]) (k2_QcV (.int r)) 0 0 (fun _ => False) := by
  refine met_of (by decide) (Nat.le_of_ble_eq_true rfl) ?_
  intro p e s m below meth c ls X hP hl
  have hl : lv_has ls 6 [(0, .ref (ad 41)), (1, .long a1)] := hl
  exact w_Shelf_postingsOf X hδ hP hl hf
theorem d_Shelf_mergeAt_0 : decode b_Shelf_mergeAt 0 = .ok (.aload_n 0, 1) := by decide +kernel
theorem d_Shelf_mergeAt_1 : decode b_Shelf_mergeAt 1 = .ok (.getfield 17, 3) := by decide +kernel
theorem d_Shelf_mergeAt_4 : decode b_Shelf_mergeAt 4 = .ok (.iload_n 1, 1) := by decide +kernel
theorem d_Shelf_mergeAt_5 : decode b_Shelf_mergeAt 5 = .ok (.laload, 1) := by decide +kernel
theorem d_Shelf_mergeAt_6 : decode b_Shelf_mergeAt 6 = .ok (.aload_n 0, 1) := by decide +kernel
theorem d_Shelf_mergeAt_7 : decode b_Shelf_mergeAt 7 = .ok (.getfield 17, 3) := by decide +kernel
theorem d_Shelf_mergeAt_10 : decode b_Shelf_mergeAt 10 = .ok (.iload_n 1, 1) := by decide +kernel
theorem d_Shelf_mergeAt_11 : decode b_Shelf_mergeAt 11 = .ok (.iconst 1, 1) := by decide +kernel
theorem d_Shelf_mergeAt_12 : decode b_Shelf_mergeAt 12 = .ok (.iadd, 1) := by decide +kernel
theorem d_Shelf_mergeAt_13 : decode b_Shelf_mergeAt 13 = .ok (.laload, 1) := by decide +kernel
theorem d_Shelf_mergeAt_14 : decode b_Shelf_mergeAt 14 = .ok (.lor, 1) := by decide +kernel
theorem d_Shelf_mergeAt_15 : decode b_Shelf_mergeAt 15 = .ok (.aload_n 0, 1) := by decide +kernel
theorem d_Shelf_mergeAt_16 : decode b_Shelf_mergeAt 16 = .ok (.getfield 29, 3) := by decide +kernel
theorem d_Shelf_mergeAt_19 : decode b_Shelf_mergeAt 19 = .ok (.ldc2_w 52, 3) := by decide +kernel
theorem d_Shelf_mergeAt_22 : decode b_Shelf_mergeAt 22 = .ok (.lxor, 1) := by decide +kernel
theorem d_Shelf_mergeAt_23 : decode b_Shelf_mergeAt 23 = .ok (.land, 1) := by decide +kernel
theorem d_Shelf_mergeAt_24 : decode b_Shelf_mergeAt 24 = .ok (.lstore_n 2, 1) := by decide +kernel
theorem d_Shelf_mergeAt_25 : decode b_Shelf_mergeAt 25 = .ok (.iload_n 1, 1) := by decide +kernel
theorem d_Shelf_mergeAt_26 : decode b_Shelf_mergeAt 26 = .ok (.istore 4, 2) := by decide +kernel
theorem d_Shelf_mergeAt_28 : decode b_Shelf_mergeAt 28 = .ok (.lload_n 2, 1) := by decide +kernel
theorem d_Shelf_mergeAt_29 : decode b_Shelf_mergeAt 29 = .ok (.lconst 0, 1) := by decide +kernel
theorem d_Shelf_mergeAt_30 : decode b_Shelf_mergeAt 30 = .ok (.lcmp, 1) := by decide +kernel
theorem d_Shelf_mergeAt_31 : decode b_Shelf_mergeAt 31 = .ok (.ifCond .eq 14, 3) := by decide +kernel
theorem d_Shelf_mergeAt_34 : decode b_Shelf_mergeAt 34 = .ok (.aload_n 0, 1) := by decide +kernel
theorem d_Shelf_mergeAt_35 : decode b_Shelf_mergeAt 35 = .ok (.getfield 17, 3) := by decide +kernel
theorem d_Shelf_mergeAt_38 : decode b_Shelf_mergeAt 38 = .ok (.iload 4, 2) := by decide +kernel
theorem d_Shelf_mergeAt_40 : decode b_Shelf_mergeAt 40 = .ok (.lload_n 2, 1) := by decide +kernel
theorem d_Shelf_mergeAt_41 : decode b_Shelf_mergeAt 41 = .ok (.lastore, 1) := by decide +kernel
theorem d_Shelf_mergeAt_42 : decode b_Shelf_mergeAt 42 = .ok (.iinc 4 1, 3) := by decide +kernel
theorem d_Shelf_mergeAt_45 : decode b_Shelf_mergeAt 45 = .ok (.iload_n 1, 1) := by decide +kernel
theorem d_Shelf_mergeAt_46 : decode b_Shelf_mergeAt 46 = .ok (.iconst 2, 1) := by decide +kernel
theorem d_Shelf_mergeAt_47 : decode b_Shelf_mergeAt 47 = .ok (.iadd, 1) := by decide +kernel
theorem d_Shelf_mergeAt_48 : decode b_Shelf_mergeAt 48 = .ok (.istore 5, 2) := by decide +kernel
theorem d_Shelf_mergeAt_50 : decode b_Shelf_mergeAt 50 = .ok (.iload 5, 2) := by decide +kernel
theorem d_Shelf_mergeAt_52 : decode b_Shelf_mergeAt 52 = .ok (.aload_n 0, 1) := by decide +kernel
theorem d_Shelf_mergeAt_53 : decode b_Shelf_mergeAt 53 = .ok (.getfield 35, 3) := by decide +kernel
theorem d_Shelf_mergeAt_56 : decode b_Shelf_mergeAt 56 = .ok (.if_icmp .ge 26, 3) := by decide +kernel
theorem d_Shelf_mergeAt_59 : decode b_Shelf_mergeAt 59 = .ok (.aload_n 0, 1) := by decide +kernel
theorem d_Shelf_mergeAt_60 : decode b_Shelf_mergeAt 60 = .ok (.getfield 17, 3) := by decide +kernel
theorem d_Shelf_mergeAt_63 : decode b_Shelf_mergeAt 63 = .ok (.iload 4, 2) := by decide +kernel
theorem d_Shelf_mergeAt_65 : decode b_Shelf_mergeAt 65 = .ok (.aload_n 0, 1) := by decide +kernel
theorem d_Shelf_mergeAt_66 : decode b_Shelf_mergeAt 66 = .ok (.getfield 17, 3) := by decide +kernel
theorem d_Shelf_mergeAt_69 : decode b_Shelf_mergeAt 69 = .ok (.iload 5, 2) := by decide +kernel
theorem d_Shelf_mergeAt_71 : decode b_Shelf_mergeAt 71 = .ok (.laload, 1) := by decide +kernel
theorem d_Shelf_mergeAt_72 : decode b_Shelf_mergeAt 72 = .ok (.lastore, 1) := by decide +kernel
theorem d_Shelf_mergeAt_73 : decode b_Shelf_mergeAt 73 = .ok (.iinc 4 1, 3) := by decide +kernel
theorem d_Shelf_mergeAt_76 : decode b_Shelf_mergeAt 76 = .ok (.iinc 5 1, 3) := by decide +kernel
theorem d_Shelf_mergeAt_79 : decode b_Shelf_mergeAt 79 = .ok (.goto (-29), 3) := by decide +kernel
theorem d_Shelf_mergeAt_82 : decode b_Shelf_mergeAt 82 = .ok (.aload_n 0, 1) := by decide +kernel
theorem d_Shelf_mergeAt_83 : decode b_Shelf_mergeAt 83 = .ok (.iload 4, 2) := by decide +kernel
theorem d_Shelf_mergeAt_85 : decode b_Shelf_mergeAt 85 = .ok (.putfield 35, 3) := by decide +kernel
theorem d_Shelf_mergeAt_88 : decode b_Shelf_mergeAt 88 = .ok (.aload_n 0, 1) := by decide +kernel
theorem d_Shelf_mergeAt_89 : decode b_Shelf_mergeAt 89 = .ok (.lload_n 2, 1) := by decide +kernel
theorem d_Shelf_mergeAt_90 : decode b_Shelf_mergeAt 90 = .ok (.invokevirtual 54, 3) := by decide +kernel
theorem d_Shelf_mergeAt_93 : decode b_Shelf_mergeAt 93 = .ok (.ireturn, 1) := by decide +kernel
abbrev rm_Shelf_mergeAt : Room := { frames := 2, cells := 0, slots := 0, locals := 47 }
def f_Shelf_mergeAt_50 (δ : Dx) : Nat → Mem → Int64 → Int32 → Int32 → Option (Int32 × Mem)
  | 0, _, _, _, _ => none
  | n + 1, μ, x2, x4, x5 => (if (μ.1 41 6) ≤ x5 then (bd (wi μ 41 6 x4) (fun μ1 => cl (f_Shelf_postingsOf n δ μ1 x2) (fun v2 => some (v2, μ1)))) else (gd (inb x5 4) (gd (inb x4 4) (bd (wl μ 43 x4.toNatClampNeg (μ.2 43 x5.toNatClampNeg)) (fun μ3 => bd (x4 + 1) (fun v4 => bd (x5 + 1) (fun v5 => (f_Shelf_mergeAt_50 δ n) μ3 x2 v4 v5)))))))
set_option maxHeartbeats 4000000 in
set_option maxRecDepth 100000 in
theorem w_Shelf_mergeAt_50 {p : Program} {l : Launch} {e : Env} {s : State} {m : MethodId} {args : Array Value} {below : List Frame} {meth : Method} {c : Code} {D : va_G} {g : Nat → ClassId} {ad : Nat → Nat} {dr : Nat → Option Nat} {pl : va_W} {r : Int32} {μ' : Mem} {A : Nat → Prop} {δ : Dx} (X : Cx p s m args meth c b_Shelf_mergeAt 6 R_Shelf (some .int) D CL (TY g)) (hδ : DocOK g dr pl δ) (hDA : ∀ μ : Mem, va_D A (WX g ad dr pl μ)) : ∀ (n : Nat) (μ : Mem) (x2 : Int64) (x4 : Int32) (x5 : Int32) (ls : Array Slot) (H : Heap) (locs : List Loc), va_P D CL (WX g ad dr pl μ) H → va_S A s.heap H locs → lv_has ls 6 [(0, .ref (ad 41)), (2, .long x2), (4, .int x4), (5, .int x5)] → f_Shelf_mergeAt_50 δ n μ x2 x4 x5 = some (r, μ') → WU p l e rm_Shelf_mergeAt s m args below meth c H locs D (WX g ad dr pl μ') A (some (.int r)) (F0 m 50 ls []) := by
  intro n
  induction n with
  | zero => intro μ x2 x4 x5 ls H locs hP hS hl hf; rw [f_Shelf_mergeAt_50] at hf; cases hf
  | succ n ih =>
    intro μ x2 x4 x5 ls H locs hP hS hl hf
    obtain ⟨S, hr, hlk, hK⟩ := id X
    obtain ⟨hx, hb, hml, hown, hts⟩ := id S
    rw [f_Shelf_mergeAt_50] at hf
    refine lv_iload hx hb d_Shelf_mergeAt_50 (lv_at hl 3 rfl) ?_
    refine lv_aload_n hx hb d_Shelf_mergeAt_52 rfl (lv_at hl 0 rfl) ?_
    refine xg_41_6 hx hb hts hown hK hP q_230 d_Shelf_mergeAt_53 ?_
    refine lv_icmp_ge (tgt := 82) hx hb d_Shelf_mergeAt_56 rfl (fun hc => ?_) (fun hc => ?_)
    · replace hf := br_p hc hf
      refine lv_aload_n hx hb d_Shelf_mergeAt_82 rfl (lv_at hl 0 rfl) ?_
      refine lv_iload hx hb d_Shelf_mergeAt_83 (lv_at hl 2 rfl) ?_
      obtain ⟨μ1, hμ1, hf⟩ := bd_x hf
      refine xp_41_6 hx hb hts hown hK (hDA _) hP hS q_230 d_Shelf_mergeAt_85 hμ1 (fun H locs hP hS => ?_)
      refine lv_aload_n hx hb d_Shelf_mergeAt_88 rfl (lv_at hl 0 rfl) ?_
      refine lv_lload_n hx hb d_Shelf_mergeAt_89 rfl (lv_at hl 1 rfl) ?_
      obtain ⟨v2, hv2, hf⟩ := cl_x hf
      refine rdV (As := [.long x2]) (rest := []) S K_Shelf_postingsOf q_736 (c_Shelf_postingsOf hδ hv2) hK hP ⟨rfl, rfl⟩ ⟨Nat.le_of_ble_eq_true rfl, Nat.le_of_ble_eq_true rfl⟩ (xr_41 hK hP) rfl hl.1 rfl (Nat.le_of_ble_eq_true rfl) d_Shelf_mergeAt_90 ⟨Nat.le_refl _, Nat.le_refl _⟩ ?_
      obtain ⟨h1, h2⟩ := Prod.mk.inj (Option.some.inj hf)
      subst h1; subst h2
      exact W.iret hx hb hr (fun t ht _ => ⟨rfl, by rw [ht]; exact hP, hS.F ht⟩) hS.2.2 d_Shelf_mergeAt_93
    · replace hf := br_n hc hf
      refine lv_aload_n hx hb d_Shelf_mergeAt_59 rfl (lv_at hl 0 rfl) ?_
      refine xg_41_5 hx hb hts hown hK hP q_229 d_Shelf_mergeAt_60 ?_
      refine lv_iload hx hb d_Shelf_mergeAt_63 (lv_at hl 2 rfl) ?_
      refine lv_aload_n hx hb d_Shelf_mergeAt_65 rfl (lv_at hl 0 rfl) ?_
      refine xg_41_5 hx hb hts hown hK hP q_229 d_Shelf_mergeAt_66 ?_
      refine lv_iload hx hb d_Shelf_mergeAt_69 (lv_at hl 3 rfl) ?_
      obtain ⟨hi, hf⟩ := gd_x hf
      refine xl_43 hx hb hK hP (inb_in hi) d_Shelf_mergeAt_71 ?_
      obtain ⟨hi, hf⟩ := gd_x hf
      obtain ⟨μ3, hμ3, hf⟩ := bd_x hf
      refine xs_43 hx hb hK (hDA _) hP hS (inb_in hi) d_Shelf_mergeAt_72 hμ3 (fun H locs hP hS => ?_)
      obtain ⟨v4, hv4, hf⟩ := bd_x hf
      refine lv_iinc (lv' := [(4, .int v4), (0, .ref (ad 41)), (2, .long x2), (5, .int x5)]) hx hb d_Shelf_mergeAt_73 hl (k := 2) rfl (show x4 + Int32.ofInt (1) = v4 from hv4) (Nat.le_of_ble_eq_true rfl) rfl (fun ls hl => ?_)
      obtain ⟨v5, hv5, hf⟩ := bd_x hf
      refine lv_iinc (lv' := [(5, .int v5), (4, .int v4), (0, .ref (ad 41)), (2, .long x2)]) hx hb d_Shelf_mergeAt_76 hl (k := 3) rfl (show x5 + Int32.ofInt (1) = v5 from hv5) (Nat.le_of_ble_eq_true rfl) rfl (fun ls hl => ?_)
      refine lv_goto (tgt := 50) hx hb d_Shelf_mergeAt_79 rfl ?_
      exact ih _ _ _ _ _ _ _ hP hS (lv_sub (l' := [(0, .ref (ad 41)), (2, .long x2), (4, .int v4), (5, .int v5)]) hl [2, 3, 1, 0] rfl) hf
def f_Shelf_mergeAt_45 (δ : Dx) (n : Nat) (μ : Mem) (x1 : Int32) (x2 : Int64) (x4 : Int32) : Option (Int32 × Mem) := bd (x1 + (2 : Int32)) (fun v1 => f_Shelf_mergeAt_50 δ n μ x2 x4 v1)
set_option maxHeartbeats 4000000 in
set_option maxRecDepth 100000 in
theorem w_Shelf_mergeAt_45 {p : Program} {l : Launch} {e : Env} {s : State} {m : MethodId} {args : Array Value} {below : List Frame} {meth : Method} {c : Code} {D : va_G} {g : Nat → ClassId} {ad : Nat → Nat} {dr : Nat → Option Nat} {pl : va_W} {r : Int32} {μ' : Mem} {A : Nat → Prop} {δ : Dx} {n : Nat} {μ : Mem} {x1 : Int32} {x2 : Int64} {x4 : Int32} {ls : Array Slot} {H : Heap} {locs : List Loc} (X : Cx p s m args meth c b_Shelf_mergeAt 6 R_Shelf (some .int) D CL (TY g)) (hδ : DocOK g dr pl δ) (hDA : ∀ μ : Mem, va_D A (WX g ad dr pl μ)) (hP : va_P D CL (WX g ad dr pl μ) H) (hS : va_S A s.heap H locs) (hl : lv_has ls 6 [(0, .ref (ad 41)), (1, .int x1), (2, .long x2), (4, .int x4)]) (hf : f_Shelf_mergeAt_45 δ n μ x1 x2 x4 = some (r, μ')) : WU p l e rm_Shelf_mergeAt s m args below meth c H locs D (WX g ad dr pl μ') A (some (.int r)) (F0 m 45 ls []) := by
  obtain ⟨S, hr, hlk, hK⟩ := id X
  obtain ⟨hx, hb, hml, hown, hts⟩ := id S
  rw [f_Shelf_mergeAt_45] at hf
  refine lv_iload_n hx hb d_Shelf_mergeAt_45 rfl (lv_at hl 1 rfl) ?_
  refine lv_iconst (v := 2) hx hb d_Shelf_mergeAt_46 (by decide) ?_
  refine lv_iadd hx hb d_Shelf_mergeAt_47 ?_
  obtain ⟨v1, hv1, hf⟩ := bd_x hf
  refine top_i hv1 ?_
  refine lv_istore (lv' := [(5, .int v1), (0, .ref (ad 41)), (1, .int x1), (2, .long x2), (4, .int x4)]) hx hb d_Shelf_mergeAt_48 hl (Nat.le_of_ble_eq_true rfl) rfl (fun ls hl => ?_)
  exact w_Shelf_mergeAt_50 X hδ hDA _ _ _ _ _ _ _ _ hP hS (lv_sub (l' := [(0, .ref (ad 41)), (2, .long x2), (4, .int x4), (5, .int v1)]) hl [1, 3, 4, 0] rfl) hf
def f_Shelf_mergeAt (n : Nat) (δ : Dx) (μ : Mem) (a1 : Int32) : Option (Int32 × Mem) := gd (inb a1 4) (gd (inb (a1 + (1 : Int32)) 4) (bd (((μ.2 43 a1.toNatClampNeg) ||| (μ.2 43 (a1 + (1 : Int32)).toNatClampNeg)) &&& ((μ.2 41 3) ^^^ (-1 : Int64))) (fun v1 => (if (lg_cmp v1 (0 : Int64)) = 0 then (f_Shelf_mergeAt_45 δ n μ a1 v1 a1) else (gd (inb a1 4) (bd (wl μ 43 a1.toNatClampNeg v1) (fun μ2 => bd (a1 + 1) (fun v3 => f_Shelf_mergeAt_45 δ n μ2 a1 v1 v3))))))))
set_option maxHeartbeats 4000000 in
set_option maxRecDepth 100000 in
theorem w_Shelf_mergeAt {p : Program} {l : Launch} {e : Env} {s : State} {m : MethodId} {args : Array Value} {below : List Frame} {meth : Method} {c : Code} {D : va_G} {g : Nat → ClassId} {ad : Nat → Nat} {dr : Nat → Option Nat} {pl : va_W} {r : Int32} {μ' : Mem} {A : Nat → Prop} {δ : Dx} {n : Nat} {μ : Mem} {a1 : Int32} {ls : Array Slot} {H : Heap} {locs : List Loc} (X : Cx p s m args meth c b_Shelf_mergeAt 6 R_Shelf (some .int) D CL (TY g)) (hδ : DocOK g dr pl δ) (hDA : ∀ μ : Mem, va_D A (WX g ad dr pl μ)) (hP : va_P D CL (WX g ad dr pl μ) H) (hS : va_S A s.heap H locs) (hl : lv_has ls 6 [(0, .ref (ad 41)), (1, .int a1)]) (hf : f_Shelf_mergeAt n δ μ a1 = some (r, μ')) : WU p l e rm_Shelf_mergeAt s m args below meth c H locs D (WX g ad dr pl μ') A (some (.int r)) (F0 m 0 ls []) := by
  obtain ⟨S, hr, hlk, hK⟩ := id X
  obtain ⟨hx, hb, hml, hown, hts⟩ := id S
  rw [f_Shelf_mergeAt] at hf
  refine lv_aload_n hx hb d_Shelf_mergeAt_0 rfl (lv_at hl 0 rfl) ?_
  refine xg_41_5 hx hb hts hown hK hP q_229 d_Shelf_mergeAt_1 ?_
  refine lv_iload_n hx hb d_Shelf_mergeAt_4 rfl (lv_at hl 1 rfl) ?_
  obtain ⟨hi, hf⟩ := gd_x hf
  refine xl_43 hx hb hK hP (inb_in hi) d_Shelf_mergeAt_5 ?_
  refine lv_aload_n hx hb d_Shelf_mergeAt_6 rfl (lv_at hl 0 rfl) ?_
  refine xg_41_5 hx hb hts hown hK hP q_229 d_Shelf_mergeAt_7 ?_
  refine lv_iload_n hx hb d_Shelf_mergeAt_10 rfl (lv_at hl 1 rfl) ?_
  refine lv_iconst (v := 1) hx hb d_Shelf_mergeAt_11 (by decide) ?_
  refine lv_iadd hx hb d_Shelf_mergeAt_12 ?_
  obtain ⟨hi, hf⟩ := gd_x hf
  refine xl_43 hx hb hK hP (inb_in hi) d_Shelf_mergeAt_13 ?_
  refine lv_lor hx hb d_Shelf_mergeAt_14 ?_
  refine lv_aload_n hx hb d_Shelf_mergeAt_15 rfl (lv_at hl 0 rfl) ?_
  refine xg_41_3 hx hb hts hown hK hP q_227 d_Shelf_mergeAt_16 ?_
  refine lv_ldc2 (v := -1) hx hb hown (hts _ q_727) d_Shelf_mergeAt_19 ?_
  refine lv_lxor hx hb d_Shelf_mergeAt_22 ?_
  refine lv_land hx hb d_Shelf_mergeAt_23 ?_
  obtain ⟨v1, hv1, hf⟩ := bd_x hf
  refine top_l hv1 ?_
  refine lv_lstore_n (lv' := [(2, .long v1), (0, .ref (ad 41)), (1, .int a1)]) hx hb d_Shelf_mergeAt_24 rfl hl (Nat.le_of_ble_eq_true rfl) rfl (fun ls hl => ?_)
  refine lv_iload_n hx hb d_Shelf_mergeAt_25 rfl (lv_at hl 2 rfl) ?_
  refine lv_istore (lv' := [(4, .int a1), (2, .long v1), (0, .ref (ad 41)), (1, .int a1)]) hx hb d_Shelf_mergeAt_26 hl (Nat.le_of_ble_eq_true rfl) rfl (fun ls hl => ?_)
  refine lv_lload_n hx hb d_Shelf_mergeAt_28 rfl (lv_at hl 1 rfl) ?_
  refine lv_lconst (v := 0) hx hb d_Shelf_mergeAt_29 (by decide) ?_
  refine W.lcmp hx hb d_Shelf_mergeAt_30 ?_
  refine lv_if_eq (tgt := 45) hx hb d_Shelf_mergeAt_31 rfl (fun hc => ?_) (fun hc => ?_)
  · replace hf := br_p hc hf
    exact w_Shelf_mergeAt_45 X hδ hDA hP hS (lv_sub (l' := [(0, .ref (ad 41)), (1, .int a1), (2, .long v1), (4, .int a1)]) hl [2, 3, 1, 0] rfl) hf
  · replace hf := br_n hc hf
    refine lv_aload_n hx hb d_Shelf_mergeAt_34 rfl (lv_at hl 2 rfl) ?_
    refine xg_41_5 hx hb hts hown hK hP q_229 d_Shelf_mergeAt_35 ?_
    refine lv_iload hx hb d_Shelf_mergeAt_38 (lv_at hl 0 rfl) ?_
    refine lv_lload_n hx hb d_Shelf_mergeAt_40 rfl (lv_at hl 1 rfl) ?_
    obtain ⟨hi, hf⟩ := gd_x hf
    obtain ⟨μ2, hμ2, hf⟩ := bd_x hf
    refine xs_43 hx hb hK (hDA _) hP hS (inb_in hi) d_Shelf_mergeAt_41 hμ2 (fun H locs hP hS => ?_)
    obtain ⟨v3, hv3, hf⟩ := bd_x hf
    refine lv_iinc (lv' := [(4, .int v3), (2, .long v1), (0, .ref (ad 41)), (1, .int a1)]) hx hb d_Shelf_mergeAt_42 hl (k := 0) rfl (show a1 + Int32.ofInt (1) = v3 from hv3) (Nat.le_of_ble_eq_true rfl) rfl (fun ls hl => ?_)
    exact w_Shelf_mergeAt_45 X hδ hDA hP hS (lv_sub (l' := [(0, .ref (ad 41)), (1, .int a1), (2, .long v1), (4, .int v3)]) hl [2, 3, 1, 0] rfl) hf
theorem c_Shelf_mergeAt {l : Launch} {D : va_G} {g : Nat → ClassId} {ad : Nat → Nat} {dr : Nat → Option Nat} {pl : va_W} {μ : Mem} {r : Int32} {μ' : Mem} {A : Nat → Prop} {n : Nat} {a1 : Int32} {δ : Dx} (hδ : DocOK g dr pl δ) (hDA : ∀ μ : Mem, va_D A (WX g ad dr pl μ)) (hf : f_Shelf_mergeAt n δ μ a1 = some (r, μ')) : Met l y_Shelf_mergeAt (Cond.code y_Shelf_mergeAt b_Shelf_mergeAt 6 (some .int) :: ww) rm_Shelf_mergeAt (RP D CL (TY g) (WX g ad dr pl μ) [.ref (ad 41), .int a1]) (QW D CL (WX g ad dr pl μ') A (some (.int r))) 0 0 A := by
  refine met_of (by decide) (Nat.le_of_ble_eq_true rfl) ?_
  intro p e s m below meth c ls X hP hl
  have hl : lv_has ls 6 [(0, .ref (ad 41)), (1, .int a1)] := hl
  exact w_Shelf_mergeAt X hδ hDA hP va_S.rf hl hf
theorem d_Shelf_storeWaiting_0 : decode b_Shelf_storeWaiting 0 = .ok (.aload_n 0, 1) := by decide +kernel
theorem d_Shelf_storeWaiting_1 : decode b_Shelf_storeWaiting 1 = .ok (.getfield 25, 3) := by decide +kernel
theorem d_Shelf_storeWaiting_4 : decode b_Shelf_storeWaiting 4 = .ok (.lconst 0, 1) := by decide +kernel
theorem d_Shelf_storeWaiting_5 : decode b_Shelf_storeWaiting 5 = .ok (.lcmp, 1) := by decide +kernel
theorem d_Shelf_storeWaiting_6 : decode b_Shelf_storeWaiting 6 = .ok (.ifCond .eq 11, 3) := by decide +kernel
theorem d_Shelf_storeWaiting_9 : decode b_Shelf_storeWaiting 9 = .ok (.aload_n 0, 1) := by decide +kernel
theorem d_Shelf_storeWaiting_10 : decode b_Shelf_storeWaiting 10 = .ok (.getfield 35, 3) := by decide +kernel
theorem d_Shelf_storeWaiting_13 : decode b_Shelf_storeWaiting 13 = .ok (.iconst 4, 1) := by decide +kernel
theorem d_Shelf_storeWaiting_14 : decode b_Shelf_storeWaiting 14 = .ok (.if_icmp .lt 5, 3) := by decide +kernel
theorem d_Shelf_storeWaiting_17 : decode b_Shelf_storeWaiting 17 = .ok (.iconst (-1), 1) := by decide +kernel
theorem d_Shelf_storeWaiting_18 : decode b_Shelf_storeWaiting 18 = .ok (.ireturn, 1) := by decide +kernel
theorem d_Shelf_storeWaiting_19 : decode b_Shelf_storeWaiting 19 = .ok (.aload_n 0, 1) := by decide +kernel
theorem d_Shelf_storeWaiting_20 : decode b_Shelf_storeWaiting 20 = .ok (.aload_n 0, 1) := by decide +kernel
theorem d_Shelf_storeWaiting_21 : decode b_Shelf_storeWaiting 21 = .ok (.getfield 25, 3) := by decide +kernel
theorem d_Shelf_storeWaiting_24 : decode b_Shelf_storeWaiting 24 = .ok (.invokevirtual 54, 3) := by decide +kernel
theorem d_Shelf_storeWaiting_27 : decode b_Shelf_storeWaiting 27 = .ok (.istore_n 1, 1) := by decide +kernel
theorem d_Shelf_storeWaiting_28 : decode b_Shelf_storeWaiting 28 = .ok (.aload_n 0, 1) := by decide +kernel
theorem d_Shelf_storeWaiting_29 : decode b_Shelf_storeWaiting 29 = .ok (.getfield 17, 3) := by decide +kernel
theorem d_Shelf_storeWaiting_32 : decode b_Shelf_storeWaiting 32 = .ok (.aload_n 0, 1) := by decide +kernel
theorem d_Shelf_storeWaiting_33 : decode b_Shelf_storeWaiting 33 = .ok (.getfield 35, 3) := by decide +kernel
theorem d_Shelf_storeWaiting_36 : decode b_Shelf_storeWaiting 36 = .ok (.aload_n 0, 1) := by decide +kernel
theorem d_Shelf_storeWaiting_37 : decode b_Shelf_storeWaiting 37 = .ok (.getfield 25, 3) := by decide +kernel
theorem d_Shelf_storeWaiting_40 : decode b_Shelf_storeWaiting 40 = .ok (.lastore, 1) := by decide +kernel
theorem d_Shelf_storeWaiting_41 : decode b_Shelf_storeWaiting 41 = .ok (.aload_n 0, 1) := by decide +kernel
theorem d_Shelf_storeWaiting_42 : decode b_Shelf_storeWaiting 42 = .ok (.dup, 1) := by decide +kernel
theorem d_Shelf_storeWaiting_43 : decode b_Shelf_storeWaiting 43 = .ok (.getfield 35, 3) := by decide +kernel
theorem d_Shelf_storeWaiting_46 : decode b_Shelf_storeWaiting 46 = .ok (.iconst 1, 1) := by decide +kernel
theorem d_Shelf_storeWaiting_47 : decode b_Shelf_storeWaiting 47 = .ok (.iadd, 1) := by decide +kernel
theorem d_Shelf_storeWaiting_48 : decode b_Shelf_storeWaiting 48 = .ok (.putfield 35, 3) := by decide +kernel
theorem d_Shelf_storeWaiting_51 : decode b_Shelf_storeWaiting 51 = .ok (.aload_n 0, 1) := by decide +kernel
theorem d_Shelf_storeWaiting_52 : decode b_Shelf_storeWaiting 52 = .ok (.lconst 0, 1) := by decide +kernel
theorem d_Shelf_storeWaiting_53 : decode b_Shelf_storeWaiting 53 = .ok (.putfield 25, 3) := by decide +kernel
theorem d_Shelf_storeWaiting_56 : decode b_Shelf_storeWaiting 56 = .ok (.aload_n 0, 1) := by decide +kernel
theorem d_Shelf_storeWaiting_57 : decode b_Shelf_storeWaiting 57 = .ok (.getfield 35, 3) := by decide +kernel
theorem d_Shelf_storeWaiting_60 : decode b_Shelf_storeWaiting 60 = .ok (.iconst 4, 1) := by decide +kernel
theorem d_Shelf_storeWaiting_61 : decode b_Shelf_storeWaiting 61 = .ok (.if_icmp .ge 7, 3) := by decide +kernel
theorem d_Shelf_storeWaiting_64 : decode b_Shelf_storeWaiting 64 = .ok (.iload_n 1, 1) := by decide +kernel
theorem d_Shelf_storeWaiting_65 : decode b_Shelf_storeWaiting 65 = .ok (.goto 13, 3) := by decide +kernel
theorem d_Shelf_storeWaiting_68 : decode b_Shelf_storeWaiting 68 = .ok (.iload_n 1, 1) := by decide +kernel
theorem d_Shelf_storeWaiting_69 : decode b_Shelf_storeWaiting 69 = .ok (.aload_n 0, 1) := by decide +kernel
theorem d_Shelf_storeWaiting_70 : decode b_Shelf_storeWaiting 70 = .ok (.aload_n 0, 1) := by decide +kernel
theorem d_Shelf_storeWaiting_71 : decode b_Shelf_storeWaiting 71 = .ok (.invokevirtual 57, 3) := by decide +kernel
theorem d_Shelf_storeWaiting_74 : decode b_Shelf_storeWaiting 74 = .ok (.invokevirtual 61, 3) := by decide +kernel
theorem d_Shelf_storeWaiting_77 : decode b_Shelf_storeWaiting 77 = .ok (.iadd, 1) := by decide +kernel
theorem d_Shelf_storeWaiting_78 : decode b_Shelf_storeWaiting 78 = .ok (.ireturn, 1) := by decide +kernel
abbrev rm_Shelf_storeWaiting : Room := { frames := 4, cells := 0, slots := 0, locals := 85 }
def f_Shelf_storeWaiting (n : Nat) (δ : Dx) (μ : Mem) : Option (Int32 × Mem) := (if (lg_cmp (μ.2 41 2) (0 : Int64)) = 0 then (some ((-1 : Int32), μ)) else (if (μ.1 41 6) < (4 : Int32) then (cl (f_Shelf_postingsOf n δ μ (μ.2 41 2)) (fun v1 => gd (inb (μ.1 41 6) 4) (bd (wl μ 43 (μ.1 41 6).toNatClampNeg (μ.2 41 2)) (fun μ2 => bd (wi μ2 41 6 ((μ2.1 41 6) + (1 : Int32))) (fun μ3 => bd (wl μ3 41 2 (0 : Int64)) (fun μ4 => (if (4 : Int32) ≤ (μ4.1 41 6) then (cl (f_Shelf_smallestPair n μ4) (fun v5 => cl2 (f_Shelf_mergeAt n δ μ4 v5) (fun v6 μ7 => some (v1 + v6, μ7)))) else (some (v1, μ4))))))))) else (some ((-1 : Int32), μ))))
set_option maxHeartbeats 4000000 in
set_option maxRecDepth 100000 in
theorem w_Shelf_storeWaiting {p : Program} {l : Launch} {e : Env} {s : State} {m : MethodId} {args : Array Value} {below : List Frame} {meth : Method} {c : Code} {D : va_G} {g : Nat → ClassId} {ad : Nat → Nat} {dr : Nat → Option Nat} {pl : va_W} {r : Int32} {μ' : Mem} {A : Nat → Prop} {δ : Dx} {n : Nat} {μ : Mem} {ls : Array Slot} {H : Heap} {locs : List Loc} (X : Cx p s m args meth c b_Shelf_storeWaiting 2 R_Shelf (some .int) D CL (TY g)) (hδ : DocOK g dr pl δ) (hDA : ∀ μ : Mem, va_D A (WX g ad dr pl μ)) (hP : va_P D CL (WX g ad dr pl μ) H) (hS : va_S A s.heap H locs) (hl : lv_has ls 2 [(0, .ref (ad 41))]) (hf : f_Shelf_storeWaiting n δ μ = some (r, μ')) : WU p l e rm_Shelf_storeWaiting s m args below meth c H locs D (WX g ad dr pl μ') A (some (.int r)) (F0 m 0 ls []) := by
  obtain ⟨S, hr, hlk, hK⟩ := id X
  obtain ⟨hx, hb, hml, hown, hts⟩ := id S
  rw [f_Shelf_storeWaiting] at hf
  refine lv_aload_n hx hb d_Shelf_storeWaiting_0 rfl (lv_at hl 0 rfl) ?_
  refine xg_41_2 hx hb hts hown hK hP q_226 d_Shelf_storeWaiting_1 ?_
  refine lv_lconst (v := 0) hx hb d_Shelf_storeWaiting_4 (by decide) ?_
  refine W.lcmp hx hb d_Shelf_storeWaiting_5 ?_
  refine lv_if_eq (tgt := 17) hx hb d_Shelf_storeWaiting_6 rfl (fun hc => ?_) (fun hc => ?_)
  · replace hf := br_p hc hf
    refine lv_iconst (v := -1) hx hb d_Shelf_storeWaiting_17 (by decide) ?_
    obtain ⟨h1, h2⟩ := Prod.mk.inj (Option.some.inj hf)
    subst h1; subst h2
    exact W.iret hx hb hr (fun t ht _ => ⟨rfl, by rw [ht]; exact hP, hS.F ht⟩) hS.2.2 d_Shelf_storeWaiting_18
  · replace hf := br_n hc hf
    refine lv_aload_n hx hb d_Shelf_storeWaiting_9 rfl (lv_at hl 0 rfl) ?_
    refine xg_41_6 hx hb hts hown hK hP q_230 d_Shelf_storeWaiting_10 ?_
    refine lv_iconst (v := 4) hx hb d_Shelf_storeWaiting_13 (by decide) ?_
    refine lv_icmp_lt (tgt := 19) hx hb d_Shelf_storeWaiting_14 rfl (fun hc => ?_) (fun hc => ?_)
    · replace hf := br_p hc hf
      refine lv_aload_n hx hb d_Shelf_storeWaiting_19 rfl (lv_at hl 0 rfl) ?_
      refine lv_aload_n hx hb d_Shelf_storeWaiting_20 rfl (lv_at hl 0 rfl) ?_
      refine xg_41_2 hx hb hts hown hK hP q_226 d_Shelf_storeWaiting_21 ?_
      obtain ⟨v1, hv1, hf⟩ := cl_x hf
      refine rdV (As := [.long (μ.2 41 2)]) (rest := []) S K_Shelf_postingsOf q_736 (c_Shelf_postingsOf hδ hv1) hK hP ⟨rfl, rfl⟩ ⟨Nat.le_of_ble_eq_true rfl, Nat.le_of_ble_eq_true rfl⟩ (xr_41 hK hP) rfl hl.1 rfl (Nat.le_of_ble_eq_true rfl) d_Shelf_storeWaiting_24 ⟨Nat.le_refl _, Nat.le_refl _⟩ ?_
      refine lv_istore_n (lv' := [(1, .int v1), (0, .ref (ad 41))]) hx hb d_Shelf_storeWaiting_27 rfl hl (Nat.le_of_ble_eq_true rfl) rfl (fun ls hl => ?_)
      refine lv_aload_n hx hb d_Shelf_storeWaiting_28 rfl (lv_at hl 1 rfl) ?_
      refine xg_41_5 hx hb hts hown hK hP q_229 d_Shelf_storeWaiting_29 ?_
      refine lv_aload_n hx hb d_Shelf_storeWaiting_32 rfl (lv_at hl 1 rfl) ?_
      refine xg_41_6 hx hb hts hown hK hP q_230 d_Shelf_storeWaiting_33 ?_
      refine lv_aload_n hx hb d_Shelf_storeWaiting_36 rfl (lv_at hl 1 rfl) ?_
      refine xg_41_2 hx hb hts hown hK hP q_226 d_Shelf_storeWaiting_37 ?_
      obtain ⟨hi, hf⟩ := gd_x hf
      obtain ⟨μ2, hμ2, hf⟩ := bd_x hf
      refine xs_43 hx hb hK (hDA _) hP hS (inb_in hi) d_Shelf_storeWaiting_40 hμ2 (fun H locs hP hS => ?_)
      refine lv_aload_n hx hb d_Shelf_storeWaiting_41 rfl (lv_at hl 1 rfl) ?_
      refine lv_dup hx hb d_Shelf_storeWaiting_42 rfl ?_
      refine xg_41_6 hx hb hts hown hK hP q_230 d_Shelf_storeWaiting_43 ?_
      refine lv_iconst (v := 1) hx hb d_Shelf_storeWaiting_46 (by decide) ?_
      refine lv_iadd hx hb d_Shelf_storeWaiting_47 ?_
      obtain ⟨μ3, hμ3, hf⟩ := bd_x hf
      refine xp_41_6 hx hb hts hown hK (hDA _) hP hS q_230 d_Shelf_storeWaiting_48 hμ3 (fun H locs hP hS => ?_)
      refine lv_aload_n hx hb d_Shelf_storeWaiting_51 rfl (lv_at hl 1 rfl) ?_
      refine lv_lconst (v := 0) hx hb d_Shelf_storeWaiting_52 (by decide) ?_
      obtain ⟨μ4, hμ4, hf⟩ := bd_x hf
      refine xp_41_2 hx hb hts hown hK (hDA _) hP hS q_226 d_Shelf_storeWaiting_53 hμ4 (fun H locs hP hS => ?_)
      refine lv_aload_n hx hb d_Shelf_storeWaiting_56 rfl (lv_at hl 1 rfl) ?_
      refine xg_41_6 hx hb hts hown hK hP q_230 d_Shelf_storeWaiting_57 ?_
      refine lv_iconst (v := 4) hx hb d_Shelf_storeWaiting_60 (by decide) ?_
      refine lv_icmp_ge (tgt := 68) hx hb d_Shelf_storeWaiting_61 rfl (fun hc => ?_) (fun hc => ?_)
      · replace hf := br_p hc hf
        refine lv_iload_n hx hb d_Shelf_storeWaiting_68 rfl (lv_at hl 0 rfl) ?_
        refine lv_aload_n hx hb d_Shelf_storeWaiting_69 rfl (lv_at hl 1 rfl) ?_
        refine lv_aload_n hx hb d_Shelf_storeWaiting_70 rfl (lv_at hl 1 rfl) ?_
        obtain ⟨v5, hv5, hf⟩ := cl_x hf
        refine rdV (As := []) (rest := [.ref (ad 41), .int v1]) S K_Shelf_smallestPair q_744 (c_Shelf_smallestPair hv5) hK hP ⟨rfl, rfl⟩ ⟨Nat.le_of_ble_eq_true rfl, Nat.le_of_ble_eq_true rfl⟩ (xr_41 hK hP) rfl hl.1 rfl (Nat.le_of_ble_eq_true rfl) d_Shelf_storeWaiting_71 ⟨Nat.le_refl _, Nat.le_refl _⟩ ?_
        obtain ⟨v6, μ7, hv6, hf⟩ := cl2_x hf
        refine wrV (As := [.int v5]) (rest := [.int v1]) S K_Shelf_mergeAt q_756 (c_Shelf_mergeAt hδ hDA hv6) hK hP hS ⟨rfl, rfl⟩ ⟨Nat.le_of_ble_eq_true rfl, Nat.le_of_ble_eq_true rfl⟩ (xr_41 hK hP) rfl hl.1 rfl (Nat.le_of_ble_eq_true rfl) d_Shelf_storeWaiting_74 ⟨Nat.le_refl _, Nat.le_refl _⟩ (fun H locs hP hS => ?_)
        refine lv_iadd hx hb d_Shelf_storeWaiting_77 ?_
        obtain ⟨h1, h2⟩ := Prod.mk.inj (Option.some.inj hf)
        subst h1; subst h2
        exact W.iret hx hb hr (fun t ht _ => ⟨rfl, by rw [ht]; exact hP, hS.F ht⟩) hS.2.2 d_Shelf_storeWaiting_78
      · replace hf := br_n hc hf
        refine lv_iload_n hx hb d_Shelf_storeWaiting_64 rfl (lv_at hl 0 rfl) ?_
        refine lv_goto (tgt := 78) hx hb d_Shelf_storeWaiting_65 rfl ?_
        obtain ⟨h1, h2⟩ := Prod.mk.inj (Option.some.inj hf)
        subst h1; subst h2
        exact W.iret hx hb hr (fun t ht _ => ⟨rfl, by rw [ht]; exact hP, hS.F ht⟩) hS.2.2 d_Shelf_storeWaiting_78
    · replace hf := br_n hc hf
      refine lv_iconst (v := -1) hx hb d_Shelf_storeWaiting_17 (by decide) ?_
      obtain ⟨h1, h2⟩ := Prod.mk.inj (Option.some.inj hf)
      subst h1; subst h2
      exact W.iret hx hb hr (fun t ht _ => ⟨rfl, by rw [ht]; exact hP, hS.F ht⟩) hS.2.2 d_Shelf_storeWaiting_18
theorem c_Shelf_storeWaiting {l : Launch} {D : va_G} {g : Nat → ClassId} {ad : Nat → Nat} {dr : Nat → Option Nat} {pl : va_W} {μ : Mem} {r : Int32} {μ' : Mem} {A : Nat → Prop} {n : Nat} {δ : Dx} (hδ : DocOK g dr pl δ) (hDA : ∀ μ : Mem, va_D A (WX g ad dr pl μ)) (hf : f_Shelf_storeWaiting n δ μ = some (r, μ')) : Met l y_Shelf_storeWaiting (Cond.code y_Shelf_storeWaiting b_Shelf_storeWaiting 2 (some .int) :: ww) rm_Shelf_storeWaiting (RP D CL (TY g) (WX g ad dr pl μ) [.ref (ad 41)]) (QW D CL (WX g ad dr pl μ') A (some (.int r))) 0 0 A := by
  refine met_of (by decide) (Nat.le_of_ble_eq_true rfl) ?_
  intro p e s m below meth c ls X hP hl
  have hl : lv_has ls 2 [(0, .ref (ad 41))] := hl
  exact w_Shelf_storeWaiting X hδ hDA hP va_S.rf hl hf
theorem d_Shelf_inSnapshot_0 : decode b_Shelf_inSnapshot 0 = .ok (.iload_n 1, 1) := by decide +kernel
theorem d_Shelf_inSnapshot_1 : decode b_Shelf_inSnapshot 1 = .ok (.ifCond .lt 22, 3) := by decide +kernel
theorem d_Shelf_inSnapshot_4 : decode b_Shelf_inSnapshot 4 = .ok (.iload_n 1, 1) := by decide +kernel
theorem d_Shelf_inSnapshot_5 : decode b_Shelf_inSnapshot 5 = .ok (.aload_n 0, 1) := by decide +kernel
theorem d_Shelf_inSnapshot_6 : decode b_Shelf_inSnapshot 6 = .ok (.getfield 21, 3) := by decide +kernel
theorem d_Shelf_inSnapshot_9 : decode b_Shelf_inSnapshot 9 = .ok (.if_icmp .ge 14, 3) := by decide +kernel
theorem d_Shelf_inSnapshot_12 : decode b_Shelf_inSnapshot 12 = .ok (.aload_n 0, 1) := by decide +kernel
theorem d_Shelf_inSnapshot_13 : decode b_Shelf_inSnapshot 13 = .ok (.getfield 32, 3) := by decide +kernel
theorem d_Shelf_inSnapshot_16 : decode b_Shelf_inSnapshot 16 = .ok (.iload_n 1, 1) := by decide +kernel
theorem d_Shelf_inSnapshot_17 : decode b_Shelf_inSnapshot 17 = .ok (.invokestatic 48, 3) := by decide +kernel
theorem d_Shelf_inSnapshot_20 : decode b_Shelf_inSnapshot 20 = .ok (.ifCond .ne 5, 3) := by decide +kernel
theorem d_Shelf_inSnapshot_23 : decode b_Shelf_inSnapshot 23 = .ok (.aconst_null, 1) := by decide +kernel
theorem d_Shelf_inSnapshot_24 : decode b_Shelf_inSnapshot 24 = .ok (.areturn, 1) := by decide +kernel
theorem d_Shelf_inSnapshot_25 : decode b_Shelf_inSnapshot 25 = .ok (.aload_n 0, 1) := by decide +kernel
theorem d_Shelf_inSnapshot_26 : decode b_Shelf_inSnapshot 26 = .ok (.getfield 11, 3) := by decide +kernel
theorem d_Shelf_inSnapshot_29 : decode b_Shelf_inSnapshot 29 = .ok (.iload_n 1, 1) := by decide +kernel
theorem d_Shelf_inSnapshot_30 : decode b_Shelf_inSnapshot 30 = .ok (.aaload, 1) := by decide +kernel
theorem d_Shelf_inSnapshot_31 : decode b_Shelf_inSnapshot 31 = .ok (.areturn, 1) := by decide +kernel
abbrev rm_Shelf_inSnapshot : Room := { frames := 1, cells := 0, slots := 0, locals := 22 }
def f_Shelf_inSnapshot (n : Nat) (δ : Dx) (μ : Mem) (a1 : Int32) : Option Bool := (if a1 < 0 then (some false) else (if (μ.1 41 1) ≤ a1 then (some false) else (cl (f_Shelf_holds n (μ.2 41 4) a1) (fun v1 => (if (bz v1) = 0 then (some false) else (gd (inb a1 40) (mt (δ (a1.toNatClampNeg)) (some false) (fun q2 => some true))))))))
set_option maxHeartbeats 4000000 in
set_option maxRecDepth 100000 in
theorem w_Shelf_inSnapshot {p : Program} {l : Launch} {e : Env} {s : State} {m : MethodId} {args : Array Value} {below : List Frame} {meth : Method} {c : Code} {D : va_G} {g : Nat → ClassId} {ad : Nat → Nat} {dr : Nat → Option Nat} {pl : va_W} {μ : Mem} {r : Bool} {δ : Dx} {n : Nat} {a1 : Int32} {ls : Array Slot} (X : Cx p s m args meth c b_Shelf_inSnapshot 2 R_Shelf (some (.object "MorphIndex$Document")) D CL (TY g)) (hδ : DocOK g dr pl δ) (hP : va_P D CL (WX g ad dr pl μ) s.heap) (hl : lv_has ls 2 [(0, .ref (ad 41)), (1, .int a1)]) (hf : f_Shelf_inSnapshot n δ μ a1 = some r) : WR p l e rm_Shelf_inSnapshot s m args below meth c (dv dr a1 r) (F0 m 0 ls []) := by
  obtain ⟨S, hr, hlk, hK⟩ := id X
  obtain ⟨hx, hb, hml, hown, hts⟩ := id S
  rw [f_Shelf_inSnapshot] at hf
  refine lv_iload_n hx hb d_Shelf_inSnapshot_0 rfl (lv_at hl 1 rfl) ?_
  refine lv_if_lt (tgt := 23) hx hb d_Shelf_inSnapshot_1 rfl (fun hc => ?_) (fun hc => ?_)
  · replace hf := br_p hc hf
    refine lv_null hx hb d_Shelf_inSnapshot_23 ?_
    have h1 := Option.some.inj hf
    subst h1
    exact W.aret hx hb hr (Or.inl ⟨_, rfl⟩) (Or.inl rfl) (fun t ht _ => ⟨by simp [dv, va_rf], ht⟩) (fun _ h => by cases h) d_Shelf_inSnapshot_24
  · replace hf := br_n hc hf
    refine lv_iload_n hx hb d_Shelf_inSnapshot_4 rfl (lv_at hl 1 rfl) ?_
    refine lv_aload_n hx hb d_Shelf_inSnapshot_5 rfl (lv_at hl 0 rfl) ?_
    refine xg_41_1 hx hb hts hown hK hP q_225 d_Shelf_inSnapshot_6 ?_
    refine lv_icmp_ge (tgt := 23) hx hb d_Shelf_inSnapshot_9 rfl (fun hc => ?_) (fun hc => ?_)
    · replace hf := br_p hc hf
      refine lv_null hx hb d_Shelf_inSnapshot_23 ?_
      have h1 := Option.some.inj hf
      subst h1
      exact W.aret hx hb hr (Or.inl ⟨_, rfl⟩) (Or.inl rfl) (fun t ht _ => ⟨by simp [dv, va_rf], ht⟩) (fun _ h => by cases h) d_Shelf_inSnapshot_24
    · replace hf := br_n hc hf
      refine lv_aload_n hx hb d_Shelf_inSnapshot_12 rfl (lv_at hl 0 rfl) ?_
      refine xg_41_4 hx hb hts hown hK hP q_228 d_Shelf_inSnapshot_13 ?_
      refine lv_iload_n hx hb d_Shelf_inSnapshot_16 rfl (lv_at hl 1 rfl) ?_
      obtain ⟨v1, hv1, hf⟩ := cl_x hf
      refine rdS (As := [.long (μ.2 41 4), .int a1]) (rest := []) S K_Shelf_holds q_724 (c_Shelf_holds (w := (WX g ad dr pl μ)) hv1) hK hP ⟨rfl, rfl⟩ ⟨Nat.le_of_ble_eq_true rfl, Nat.le_of_ble_eq_true rfl⟩ rfl hl.1 rfl (Nat.le_of_ble_eq_true rfl) d_Shelf_inSnapshot_17 ⟨Nat.le_refl _, Nat.le_refl _⟩ ?_
      refine lv_if_ne (tgt := 25) hx hb d_Shelf_inSnapshot_20 rfl (fun hc => ?_) (fun hc => ?_)
      · replace hf := br_n hc hf
        refine lv_aload_n hx hb d_Shelf_inSnapshot_25 rfl (lv_at hl 0 rfl) ?_
        refine xg_41_0 hx hb hts hown hK hP q_224 d_Shelf_inSnapshot_26 ?_
        refine lv_iload_n hx hb d_Shelf_inSnapshot_29 rfl (lv_at hl 1 rfl) ?_
        obtain ⟨hi, hf⟩ := gd_x hf
        refine xq_42 hx hb hK hP (inb_in hi) d_Shelf_inSnapshot_30 ?_
        cases hd : dr (a1.toNatClampNeg) with
        | none =>
          replace hf := mt_n ((hδ _).1 hd) hf
          have h1 := Option.some.inj hf
          subst h1
          exact W.aret hx hb hr (Or.inl ⟨_, rfl⟩) (Or.inl rfl) (fun t ht _ => ⟨by simp [dv, va_rf], ht⟩) (fun _ h => by cases h) d_Shelf_inSnapshot_31
        | some a3 =>
          obtain ⟨q2, hq2, hdoc⟩ := (hδ _).2 _ hd
          replace hf := mt_s hq2 hf
          have h1 := Option.some.inj hf
          subst h1
          exact W.aret hx hb hr (Or.inl ⟨_, rfl⟩) (Or.inr ⟨_, rfl⟩) (fun t ht _ => ⟨by simp [dv, va_rf, hd], ht⟩) (fun _ h => by cases h) d_Shelf_inSnapshot_31
      · replace hf := br_p hc hf
        refine lv_null hx hb d_Shelf_inSnapshot_23 ?_
        have h1 := Option.some.inj hf
        subst h1
        exact W.aret hx hb hr (Or.inl ⟨_, rfl⟩) (Or.inl rfl) (fun t ht _ => ⟨by simp [dv, va_rf], ht⟩) (fun _ h => by cases h) d_Shelf_inSnapshot_24
theorem c_Shelf_inSnapshot {l : Launch} {D : va_G} {g : Nat → ClassId} {ad : Nat → Nat} {dr : Nat → Option Nat} {pl : va_W} {μ : Mem} {r : Bool} {n : Nat} {a1 : Int32} {δ : Dx} (hδ : DocOK g dr pl δ) (hf : f_Shelf_inSnapshot n δ μ a1 = some r) : Met l y_Shelf_inSnapshot (Cond.code y_Shelf_inSnapshot b_Shelf_inSnapshot 2 (some (.object "MorphIndex$Document")) :: ww) rm_Shelf_inSnapshot (RP D CL (TY g) (WX g ad dr pl μ) [.ref (ad 41), .int a1]) (k2_QcV (dv dr a1 r)) 0 0 (fun _ => False) := by
  refine met_of (by decide) (Nat.le_of_ble_eq_true rfl) ?_
  intro p e s m below meth c ls X hP hl
  have hl : lv_has ls 2 [(0, .ref (ad 41)), (1, .int a1)] := hl
  exact w_Shelf_inSnapshot X hδ hP hl hf
