theorem d_X_flush_0 : decode b_X_flush 0 = .ok (.aload_n 0, 1) := by decide +kernel
theorem d_X_flush_1 : decode b_X_flush 1 = .ok (.getfield 70, 3) := by decide +kernel
theorem d_X_flush_4 : decode b_X_flush 4 = .ok (.invokevirtual 189, 3) := by decide +kernel
theorem d_X_flush_7 : decode b_X_flush 7 = .ok (.ireturn, 1) := by decide +kernel
abbrev rm_X_flush : Room := { frames := 5, cells := 0, slots := 0, locals := 106 }
def f_X_flush (n : Nat) (δ : Dx) (μ : Mem) : Option (Int32 × Mem) := cl2 (f_Shelf_storeWaiting n δ μ) (fun v1 μ2 => some (v1, μ2))
set_option maxHeartbeats 4000000 in
set_option maxRecDepth 100000 in
theorem w_X_flush {p : Program} {l : Launch} {e : Env} {s : State} {m : MethodId} {args : Array Value} {below : List Frame} {meth : Method} {c : Code} {D : va_G} {g : Nat → ClassId} {ad : Nat → Nat} {dr : Nat → Option Nat} {pl : va_W} {r : Int32} {μ' : Mem} {A : Nat → Prop} {δ : Dx} {n : Nat} {μ : Mem} {ls : Array Slot} {H : Heap} {locs : List Loc} (X : Cx p s m args meth c b_X_flush 1 R_X (some .int) D CL (TY g)) (hδ : DocOK g dr pl δ) (hDA : ∀ μ : Mem, va_D A (WX g ad dr pl μ)) (hP : va_P D CL (WX g ad dr pl μ) H) (hS : va_S A s.heap H locs) (hl : lv_has ls 1 [(0, .ref (ad 0))]) (hf : f_X_flush n δ μ = some (r, μ')) : WU p l e rm_X_flush s m args below meth c H locs D (WX g ad dr pl μ') A (some (.int r)) (F0 m 0 ls []) := by
  obtain ⟨S, hr, hlk, hK⟩ := id X
  obtain ⟨hx, hb, hml, hown, hts⟩ := id S
  rw [f_X_flush] at hf
  refine lv_aload_n hx hb d_X_flush_0 rfl (lv_at hl 0 rfl) ?_
  refine xg_0_8 hx hb hts hown hK hP q_254 d_X_flush_1 ?_
  obtain ⟨v1, μ2, hv1, hf⟩ := cl2_x hf
  refine wrV (As := []) (rest := []) S K_Shelf_storeWaiting q_732 (c_Shelf_storeWaiting hδ hDA hv1) hK hP hS ⟨rfl, rfl⟩ ⟨Nat.le_of_ble_eq_true rfl, Nat.le_of_ble_eq_true rfl⟩ (xr_41 hK hP) rfl hl.1 rfl (Nat.le_of_ble_eq_true rfl) d_X_flush_4 ⟨Nat.le_refl _, Nat.le_refl _⟩ (fun H locs hP hS => ?_)
  obtain ⟨h1, h2⟩ := Prod.mk.inj (Option.some.inj hf)
  subst h1; subst h2
  exact W.iret hx hb hr (fun t ht _ => ⟨rfl, by rw [ht]; exact hP, hS.F ht⟩) hS.2.2 d_X_flush_7
theorem c_X_flush {l : Launch} {D : va_G} {g : Nat → ClassId} {ad : Nat → Nat} {dr : Nat → Option Nat} {pl : va_W} {μ : Mem} {r : Int32} {μ' : Mem} {A : Nat → Prop} {n : Nat} {δ : Dx} (hδ : DocOK g dr pl δ) (hDA : ∀ μ : Mem, va_D A (WX g ad dr pl μ)) (hf : f_X_flush n δ μ = some (r, μ')) : Met l y_X_flush (Cond.code y_X_flush b_X_flush 1 (some .int) :: ww) rm_X_flush (RP D CL (TY g) (WX g ad dr pl μ) [.ref (ad 0)]) (QW D CL (WX g ad dr pl μ') A (some (.int r))) 0 0 A := by
  refine met_of (by decide) (Nat.le_of_ble_eq_true rfl) ?_
  intro p e s m below meth c ls X hP hl
  have hl : lv_has ls 1 [(0, .ref (ad 0))] := hl
  exact w_X_flush X hδ hDA hP va_S.rf hl hf
theorem d_X_occurrencesIn_0 : decode b_X_occurrencesIn 0 = .ok (.aload_n 0, 1) := by decide +kernel
theorem d_X_occurrencesIn_1 : decode b_X_occurrencesIn 1 = .ok (.getfield 70, 3) := by decide +kernel
theorem d_X_occurrencesIn_4 : decode b_X_occurrencesIn 4 = .ok (.iload_n 1, 1) := by decide +kernel
theorem d_X_occurrencesIn_5 : decode b_X_occurrencesIn 5 = .ok (.invokevirtual 242, 3) := by decide +kernel
theorem d_X_occurrencesIn_8 : decode b_X_occurrencesIn 8 = .ok (.astore_n 3, 1) := by decide +kernel
theorem d_X_occurrencesIn_9 : decode b_X_occurrencesIn 9 = .ok (.aload_n 3, 1) := by decide +kernel
theorem d_X_occurrencesIn_10 : decode b_X_occurrencesIn 10 = .ok (.ifnonnull 7, 3) := by decide +kernel
theorem d_X_occurrencesIn_13 : decode b_X_occurrencesIn 13 = .ok (.iconst 0, 1) := by decide +kernel
theorem d_X_occurrencesIn_14 : decode b_X_occurrencesIn 14 = .ok (.goto 12, 3) := by decide +kernel
theorem d_X_occurrencesIn_17 : decode b_X_occurrencesIn 17 = .ok (.aload_n 3, 1) := by decide +kernel
theorem d_X_occurrencesIn_18 : decode b_X_occurrencesIn 18 = .ok (.aload_n 0, 1) := by decide +kernel
theorem d_X_occurrencesIn_19 : decode b_X_occurrencesIn 19 = .ok (.getfield 74, 3) := by decide +kernel
theorem d_X_occurrencesIn_22 : decode b_X_occurrencesIn 22 = .ok (.iload_n 2, 1) := by decide +kernel
theorem d_X_occurrencesIn_23 : decode b_X_occurrencesIn 23 = .ok (.invokevirtual 246, 3) := by decide +kernel
theorem d_X_occurrencesIn_26 : decode b_X_occurrencesIn 26 = .ok (.ireturn, 1) := by decide +kernel
abbrev rm_X_occurrencesIn : Room := { frames := 3, cells := 0, slots := 0, locals := 72 }
def f_X_occurrencesIn (n : Nat) (δ : Dx) (μ : Mem) (a1 : Int32) (a2 : Int32) : Option Int32 := cl (f_Shelf_inSnapshot n δ μ a1) (fun v1 => mt (dsel v1 (δ (a1.toNatClampNeg))) (some (0 : Int32)) (fun q2 => cl (f_Document_occurrences n q2.1 (dmem q2 μ) a2) (fun v4 => some v4)))
set_option maxHeartbeats 4000000 in
set_option maxRecDepth 100000 in
theorem w_X_occurrencesIn {p : Program} {l : Launch} {e : Env} {s : State} {m : MethodId} {args : Array Value} {below : List Frame} {meth : Method} {c : Code} {D : va_G} {g : Nat → ClassId} {ad : Nat → Nat} {dr : Nat → Option Nat} {pl : va_W} {μ : Mem} {r : Int32} {δ : Dx} {n : Nat} {a1 : Int32} {a2 : Int32} {ls : Array Slot} (X : Cx p s m args meth c b_X_occurrencesIn 4 R_X (some .int) D CL (TY g)) (hδ : DocOK g dr pl δ) (hP : va_P D CL (WX g ad dr pl μ) s.heap) (hl : lv_has ls 4 [(0, .ref (ad 0)), (1, .int a1), (2, .int a2)]) (hf : f_X_occurrencesIn n δ μ a1 a2 = some r) : WR p l e rm_X_occurrencesIn s m args below meth c (.int r) (F0 m 0 ls []) := by
  obtain ⟨S, hr, hlk, hK⟩ := id X
  obtain ⟨hx, hb, hml, hown, hts⟩ := id S
  rw [f_X_occurrencesIn] at hf
  refine lv_aload_n hx hb d_X_occurrencesIn_0 rfl (lv_at hl 0 rfl) ?_
  refine xg_0_8 hx hb hts hown hK hP q_254 d_X_occurrencesIn_1 ?_
  refine lv_iload_n hx hb d_X_occurrencesIn_4 rfl (lv_at hl 1 rfl) ?_
  obtain ⟨v1, hv1, hf⟩ := cl_x hf
  refine rdV (As := [.int a1]) (rest := []) S K_Shelf_inSnapshot q_792 (c_Shelf_inSnapshot hδ hv1) hK hP ⟨rfl, rfl⟩ ⟨Nat.le_of_ble_eq_true rfl, Nat.le_of_ble_eq_true rfl⟩ (xr_41 hK hP) rfl hl.1 rfl (Nat.le_of_ble_eq_true rfl) d_X_occurrencesIn_5 ⟨Nat.le_refl _, Nat.le_refl _⟩ ?_
  cases v1 with
  | false =>
    replace hf := mt_n rfl hf
    refine lv_astore_nN (lv' := [(3, .null), (0, .ref (ad 0)), (1, .int a1), (2, .int a2)]) hx hb d_X_occurrencesIn_8 rfl hl (Nat.le_of_ble_eq_true rfl) rfl (fun ls hl => ?_)
    refine lv_aload_nN hx hb d_X_occurrencesIn_9 rfl (lv_at hl 0 rfl) ?_
    refine lv_ifnonnullN hx hb d_X_occurrencesIn_10 ?_
    refine lv_iconst (v := 0) hx hb d_X_occurrencesIn_13 (by decide) ?_
    refine lv_goto (tgt := 26) hx hb d_X_occurrencesIn_14 rfl ?_
    have h1 := Option.some.inj hf
    subst h1
    exact W.iret hx hb hr (fun t ht _ => ⟨rfl, ht⟩) (fun _ h => by cases h) d_X_occurrencesIn_26
  | true =>
    cases hd : dr (a1.toNatClampNeg) with
    | none =>
      replace hf := mt_n (by rw [dsel_t]; exact (hδ _).1 hd) hf
      rw [dv_n hd]
      refine lv_astore_nN (lv' := [(3, .null), (0, .ref (ad 0)), (1, .int a1), (2, .int a2)]) hx hb d_X_occurrencesIn_8 rfl hl (Nat.le_of_ble_eq_true rfl) rfl (fun ls hl => ?_)
      refine lv_aload_nN hx hb d_X_occurrencesIn_9 rfl (lv_at hl 0 rfl) ?_
      refine lv_ifnonnullN hx hb d_X_occurrencesIn_10 ?_
      refine lv_iconst (v := 0) hx hb d_X_occurrencesIn_13 (by decide) ?_
      refine lv_goto (tgt := 26) hx hb d_X_occurrencesIn_14 rfl ?_
      have h1 := Option.some.inj hf
      subst h1
      exact W.iret hx hb hr (fun t ht _ => ⟨rfl, ht⟩) (fun _ h => by cases h) d_X_occurrencesIn_26
    | some a3 =>
      obtain ⟨q2, hq2, hdoc⟩ := (hδ _).2 _ hd
      replace hf := mt_s (by rw [dsel_t]; exact hq2) hf
      rw [dv_s hd]
      refine lv_astore_n (lv' := [(3, .ref a3), (0, .ref (ad 0)), (1, .int a1), (2, .int a2)]) hx hb d_X_occurrencesIn_8 rfl hl (Nat.le_of_ble_eq_true rfl) rfl (fun ls hl => ?_)
      refine lv_aload_n hx hb d_X_occurrencesIn_9 rfl (lv_at hl 0 rfl) ?_
      refine lv_ifnonnull (tgt := 17) hx hb d_X_occurrencesIn_10 rfl ?_
      refine lv_aload_n hx hb d_X_occurrencesIn_17 rfl (lv_at hl 0 rfl) ?_
      refine lv_aload_n hx hb d_X_occurrencesIn_18 rfl (lv_at hl 1 rfl) ?_
      refine xg_0_9 hx hb hts hown hK hP q_255 d_X_occurrencesIn_19 ?_
      refine lv_iload_n hx hb d_X_occurrencesIn_22 rfl (lv_at hl 3 rfl) ?_
      obtain ⟨v4, hv4, hf⟩ := cl_x hf
      obtain ⟨a1_, a2_, hP1⟩ := doc_P hP hdoc
      refine rdV (a := a3) (As := [.ref (ad 44), .int a2]) (rest := []) S K_Document_occurrences q_796 (c_Document_occurrences (ad := dad a3 a1_ a2_ (ad 44)) hv4) hK hP1 ⟨rfl, rfl⟩ ⟨Nat.le_of_ble_eq_true rfl, Nat.le_of_ble_eq_true rfl⟩ (or_0 hK hP1) rfl hl.1 rfl (Nat.le_of_ble_eq_true rfl) d_X_occurrencesIn_23 ⟨Nat.le_refl _, Nat.le_refl _⟩ ?_
      have h1 := Option.some.inj hf
      subst h1
      exact W.iret hx hb hr (fun t ht _ => ⟨rfl, ht⟩) (fun _ h => by cases h) d_X_occurrencesIn_26
theorem c_X_occurrencesIn {l : Launch} {D : va_G} {g : Nat → ClassId} {ad : Nat → Nat} {dr : Nat → Option Nat} {pl : va_W} {μ : Mem} {r : Int32} {n : Nat} {a1 : Int32} {a2 : Int32} {δ : Dx} (hδ : DocOK g dr pl δ) (hf : f_X_occurrencesIn n δ μ a1 a2 = some r) : Met l y_X_occurrencesIn (Cond.code y_X_occurrencesIn b_X_occurrencesIn 4 (some .int) :: ww) rm_X_occurrencesIn (RP D CL (TY g) (WX g ad dr pl μ) [.ref (ad 0), .int a1, .int a2]) (k2_QcV (.int r)) 0 0 (fun _ => False) := by
  refine met_of (by decide) (Nat.le_of_ble_eq_true rfl) ?_
  intro p e s m below meth c ls X hP hl
  have hl : lv_has ls 4 [(0, .ref (ad 0)), (1, .int a1), (2, .int a2)] := hl
  exact w_X_occurrencesIn X hδ hP hl hf
theorem d_X_match_0 : decode b_X_match 0 = .ok (.aload_n 0, 1) := by decide +kernel
theorem d_X_match_1 : decode b_X_match 1 = .ok (.invokevirtual 130, 3) := by decide +kernel
theorem d_X_match_4 : decode b_X_match 4 = .ok (.aload_n 0, 1) := by decide +kernel
theorem d_X_match_5 : decode b_X_match 5 = .ok (.invokevirtual 201, 3) := by decide +kernel
theorem d_X_match_8 : decode b_X_match 8 = .ok (.istore_n 2, 1) := by decide +kernel
theorem d_X_match_9 : decode b_X_match 9 = .ok (.iload_n 1, 1) := by decide +kernel
theorem d_X_match_10 : decode b_X_match 10 = .ok (.iconst 0, 1) := by decide +kernel
theorem d_X_match_11 : decode b_X_match 11 = .ok (.invokestatic 204, 3) := by decide +kernel
theorem d_X_match_14 : decode b_X_match 14 = .ok (.istore_n 3, 1) := by decide +kernel
theorem d_X_match_15 : decode b_X_match 15 = .ok (.iload_n 3, 1) := by decide +kernel
theorem d_X_match_16 : decode b_X_match 16 = .ok (.bipush 40, 2) := by decide +kernel
theorem d_X_match_18 : decode b_X_match 18 = .ok (.if_icmp .ge 20, 3) := by decide +kernel
theorem d_X_match_21 : decode b_X_match 21 = .ok (.aload_n 0, 1) := by decide +kernel
theorem d_X_match_22 : decode b_X_match 22 = .ok (.iload_n 3, 1) := by decide +kernel
theorem d_X_match_23 : decode b_X_match 23 = .ok (.iload_n 2, 1) := by decide +kernel
theorem d_X_match_24 : decode b_X_match 24 = .ok (.invokevirtual 210, 3) := by decide +kernel
theorem d_X_match_27 : decode b_X_match 27 = .ok (.ifCond .le 5, 3) := by decide +kernel
theorem d_X_match_30 : decode b_X_match 30 = .ok (.iload_n 3, 1) := by decide +kernel
theorem d_X_match_31 : decode b_X_match 31 = .ok (.ireturn, 1) := by decide +kernel
theorem d_X_match_32 : decode b_X_match 32 = .ok (.iinc 3 1, 3) := by decide +kernel
theorem d_X_match_35 : decode b_X_match 35 = .ok (.goto (-20), 3) := by decide +kernel
theorem d_X_match_38 : decode b_X_match 38 = .ok (.iconst (-1), 1) := by decide +kernel
theorem d_X_match_39 : decode b_X_match 39 = .ok (.ireturn, 1) := by decide +kernel
abbrev rm_X_match : Room := { frames := 6, cells := 0, slots := 0, locals := 141 }
def f_X_match_15 (δ : Dx) : Nat → Mem → Int32 → Int32 → Option (Int32 × Mem)
  | 0, _, _, _ => none
  | n + 1, μ, x2, x3 => (if (40 : Int32) ≤ x3 then (some ((-1 : Int32), μ)) else (cl (f_X_occurrencesIn n δ μ x3 x2) (fun v1 => (if v1 ≤ 0 then (bd (x3 + 1) (fun v2 => (f_X_match_15 δ n) μ x2 v2)) else (some (x3, μ))))))
set_option maxHeartbeats 4000000 in
set_option maxRecDepth 100000 in
theorem w_X_match_15 {p : Program} {l : Launch} {e : Env} {s : State} {m : MethodId} {args : Array Value} {below : List Frame} {meth : Method} {c : Code} {D : va_G} {g : Nat → ClassId} {ad : Nat → Nat} {dr : Nat → Option Nat} {pl : va_W} {r : Int32} {μ' : Mem} {A : Nat → Prop} {δ : Dx} (X : Cx p s m args meth c b_X_match 4 R_X (some .int) D CL (TY g)) (hδ : DocOK g dr pl δ) (hDA : ∀ μ : Mem, va_D A (WX g ad dr pl μ)) : ∀ (n : Nat) (μ : Mem) (x2 : Int32) (x3 : Int32) (ls : Array Slot) (H : Heap) (locs : List Loc), va_P D CL (WX g ad dr pl μ) H → va_S A s.heap H locs → lv_has ls 4 [(0, .ref (ad 0)), (2, .int x2), (3, .int x3)] → f_X_match_15 δ n μ x2 x3 = some (r, μ') → WU p l e rm_X_match s m args below meth c H locs D (WX g ad dr pl μ') A (some (.int r)) (F0 m 15 ls []) := by
  intro n
  induction n with
  | zero => intro μ x2 x3 ls H locs hP hS hl hf; rw [f_X_match_15] at hf; cases hf
  | succ n ih =>
    intro μ x2 x3 ls H locs hP hS hl hf
    obtain ⟨S, hr, hlk, hK⟩ := id X
    obtain ⟨hx, hb, hml, hown, hts⟩ := id S
    rw [f_X_match_15] at hf
    refine lv_iload_n hx hb d_X_match_15 rfl (lv_at hl 2 rfl) ?_
    refine lv_bipush (v := 40) hx hb d_X_match_16 (by decide) ?_
    refine lv_icmp_ge (tgt := 38) hx hb d_X_match_18 rfl (fun hc => ?_) (fun hc => ?_)
    · replace hf := br_p hc hf
      refine lv_iconst (v := -1) hx hb d_X_match_38 (by decide) ?_
      obtain ⟨h1, h2⟩ := Prod.mk.inj (Option.some.inj hf)
      subst h1; subst h2
      exact W.iret hx hb hr (fun t ht _ => ⟨rfl, by rw [ht]; exact hP, hS.F ht⟩) hS.2.2 d_X_match_39
    · replace hf := br_n hc hf
      refine lv_aload_n hx hb d_X_match_21 rfl (lv_at hl 0 rfl) ?_
      refine lv_iload_n hx hb d_X_match_22 rfl (lv_at hl 2 rfl) ?_
      refine lv_iload_n hx hb d_X_match_23 rfl (lv_at hl 1 rfl) ?_
      obtain ⟨v1, hv1, hf⟩ := cl_x hf
      refine rdV (As := [.int x3, .int x2]) (rest := []) S K_X_occurrencesIn q_788 (c_X_occurrencesIn hδ hv1) hK hP ⟨rfl, rfl⟩ ⟨Nat.le_of_ble_eq_true rfl, Nat.le_of_ble_eq_true rfl⟩ (xr_0 hK hP) rfl hl.1 rfl (Nat.le_of_ble_eq_true rfl) d_X_match_24 ⟨Nat.le_refl _, Nat.le_refl _⟩ ?_
      refine lv_if_le (tgt := 32) hx hb d_X_match_27 rfl (fun hc => ?_) (fun hc => ?_)
      · replace hf := br_p hc hf
        obtain ⟨v2, hv2, hf⟩ := bd_x hf
        refine lv_iinc (lv' := [(3, .int v2), (0, .ref (ad 0)), (2, .int x2)]) hx hb d_X_match_32 hl (k := 2) rfl (show x3 + Int32.ofInt (1) = v2 from hv2) (Nat.le_of_ble_eq_true rfl) rfl (fun ls hl => ?_)
        refine lv_goto (tgt := 15) hx hb d_X_match_35 rfl ?_
        exact ih _ _ _ _ _ _ hP hS (lv_sub (l' := [(0, .ref (ad 0)), (2, .int x2), (3, .int v2)]) hl [1, 2, 0] rfl) hf
      · replace hf := br_n hc hf
        refine lv_iload_n hx hb d_X_match_30 rfl (lv_at hl 2 rfl) ?_
        obtain ⟨h1, h2⟩ := Prod.mk.inj (Option.some.inj hf)
        subst h1; subst h2
        exact W.iret hx hb hr (fun t ht _ => ⟨rfl, by rw [ht]; exact hP, hS.F ht⟩) hS.2.2 d_X_match_31
def f_X_match (n : Nat) (δ : Dx) (μ : Mem) (a1 : Int32) : Option (Int32 × Mem) := cl (f_X_analyse n μ) (fun μ2 => cl2 (f_X_readQuery n μ2) (fun v3 μ4 => bd ((if a1 < (0 : Int32) then (0 : Int32) else a1)) (fun v5 => f_X_match_15 δ n μ4 v3 v5)))
set_option maxHeartbeats 4000000 in
set_option maxRecDepth 100000 in
theorem w_X_match {p : Program} {l : Launch} {e : Env} {s : State} {m : MethodId} {args : Array Value} {below : List Frame} {meth : Method} {c : Code} {D : va_G} {g : Nat → ClassId} {ad : Nat → Nat} {dr : Nat → Option Nat} {pl : va_W} {r : Int32} {μ' : Mem} {A : Nat → Prop} {δ : Dx} {n : Nat} {μ : Mem} {a1 : Int32} {ls : Array Slot} {H : Heap} {locs : List Loc} (X : Cx p s m args meth c b_X_match 4 R_X (some .int) D CL (TY g)) (hδ : DocOK g dr pl δ) (hDA : ∀ μ : Mem, va_D A (WX g ad dr pl μ)) (hP : va_P D CL (WX g ad dr pl μ) H) (hS : va_S A s.heap H locs) (hl : lv_has ls 4 [(0, .ref (ad 0)), (1, .int a1)]) (hf : f_X_match n δ μ a1 = some (r, μ')) : WU p l e rm_X_match s m args below meth c H locs D (WX g ad dr pl μ') A (some (.int r)) (F0 m 0 ls []) := by
  obtain ⟨S, hr, hlk, hK⟩ := id X
  obtain ⟨hx, hb, hml, hown, hts⟩ := id S
  rw [f_X_match] at hf
  refine lv_aload_n hx hb d_X_match_0 rfl (lv_at hl 0 rfl) ?_
  obtain ⟨μ2, hv1, hf⟩ := cl_x hf
  refine wrV (As := []) (rest := []) S K_X_analyse q_378 (c_X_analyse hDA hv1) hK hP hS ⟨rfl, rfl⟩ ⟨Nat.le_of_ble_eq_true rfl, Nat.le_of_ble_eq_true rfl⟩ (xr_0 hK hP) rfl hl.1 rfl (Nat.le_of_ble_eq_true rfl) d_X_match_1 ⟨Nat.le_refl _, Nat.le_refl _⟩ (fun H locs hP hS => ?_)
  refine lv_aload_n hx hb d_X_match_4 rfl (lv_at hl 0 rfl) ?_
  obtain ⟨v3, μ4, hv3, hf⟩ := cl2_x hf
  refine wrV (As := []) (rest := []) S K_X_readQuery q_781 (c_X_readQuery hDA hv3) hK hP hS ⟨rfl, rfl⟩ ⟨Nat.le_of_ble_eq_true rfl, Nat.le_of_ble_eq_true rfl⟩ (xr_0 hK hP) rfl hl.1 rfl (Nat.le_of_ble_eq_true rfl) d_X_match_5 ⟨Nat.le_refl _, Nat.le_refl _⟩ (fun H locs hP hS => ?_)
  refine lv_istore_n (lv' := [(2, .int v3), (0, .ref (ad 0)), (1, .int a1)]) hx hb d_X_match_8 rfl hl (Nat.le_of_ble_eq_true rfl) rfl (fun ls hl => ?_)
  refine lv_iload_n hx hb d_X_match_9 rfl (lv_at hl 2 rfl) ?_
  refine lv_iconst (v := 0) hx hb d_X_match_10 (by decide) ?_
  refine va_mmax hx hb (hml.trans hl.1.symm) hown (hts _ q_785) (hts _ q_786) (hts _ q_13) (hts _ q_787) (Nat.le_of_ble_eq_true rfl) (Nat.le_of_ble_eq_true rfl) (Nat.le_refl _) (Nat.le_refl _) d_X_match_11 ?_
  obtain ⟨v5, hv5, hf⟩ := bd_x hf
  refine top_i hv5 ?_
  refine lv_istore_n (lv' := [(3, .int v5), (2, .int v3), (0, .ref (ad 0)), (1, .int a1)]) hx hb d_X_match_14 rfl hl (Nat.le_of_ble_eq_true rfl) rfl (fun ls hl => ?_)
  exact w_X_match_15 X hδ hDA _ _ _ _ _ _ _ hP hS (lv_sub (l' := [(0, .ref (ad 0)), (2, .int v3), (3, .int v5)]) hl [2, 1, 0] rfl) hf
theorem c_X_match {l : Launch} {D : va_G} {g : Nat → ClassId} {ad : Nat → Nat} {dr : Nat → Option Nat} {pl : va_W} {μ : Mem} {r : Int32} {μ' : Mem} {A : Nat → Prop} {n : Nat} {a1 : Int32} {δ : Dx} (hδ : DocOK g dr pl δ) (hDA : ∀ μ : Mem, va_D A (WX g ad dr pl μ)) (hf : f_X_match n δ μ a1 = some (r, μ')) : Met l y_X_match (Cond.code y_X_match b_X_match 4 (some .int) :: ww) rm_X_match (RP D CL (TY g) (WX g ad dr pl μ) [.ref (ad 0), .int a1]) (QW D CL (WX g ad dr pl μ') A (some (.int r))) 0 0 A := by
  refine met_of (by decide) (Nat.le_of_ble_eq_true rfl) ?_
  intro p e s m below meth c ls X hP hl
  have hl : lv_has ls 4 [(0, .ref (ad 0)), (1, .int a1)] := hl
  exact w_X_match X hδ hDA hP va_S.rf hl hf
theorem d_X_places_0 : decode b_X_places 0 = .ok (.aload_n 0, 1) := by decide +kernel
theorem d_X_places_1 : decode b_X_places 1 = .ok (.invokevirtual 130, 3) := by decide +kernel
theorem d_X_places_4 : decode b_X_places 4 = .ok (.aload_n 0, 1) := by decide +kernel
theorem d_X_places_5 : decode b_X_places 5 = .ok (.invokevirtual 201, 3) := by decide +kernel
theorem d_X_places_8 : decode b_X_places 8 = .ok (.istore_n 2, 1) := by decide +kernel
theorem d_X_places_9 : decode b_X_places 9 = .ok (.aload_n 0, 1) := by decide +kernel
theorem d_X_places_10 : decode b_X_places 10 = .ok (.iload_n 1, 1) := by decide +kernel
theorem d_X_places_11 : decode b_X_places 11 = .ok (.iload_n 2, 1) := by decide +kernel
theorem d_X_places_12 : decode b_X_places 12 = .ok (.invokevirtual 210, 3) := by decide +kernel
theorem d_X_places_15 : decode b_X_places 15 = .ok (.ireturn, 1) := by decide +kernel
abbrev rm_X_places : Room := { frames := 6, cells := 0, slots := 0, locals := 141 }
def f_X_places (n : Nat) (δ : Dx) (μ : Mem) (a1 : Int32) : Option (Int32 × Mem) := cl (f_X_analyse n μ) (fun μ2 => cl2 (f_X_readQuery n μ2) (fun v3 μ4 => cl (f_X_occurrencesIn n δ μ4 a1 v3) (fun v5 => some (v5, μ4))))
set_option maxHeartbeats 4000000 in
set_option maxRecDepth 100000 in
theorem w_X_places {p : Program} {l : Launch} {e : Env} {s : State} {m : MethodId} {args : Array Value} {below : List Frame} {meth : Method} {c : Code} {D : va_G} {g : Nat → ClassId} {ad : Nat → Nat} {dr : Nat → Option Nat} {pl : va_W} {r : Int32} {μ' : Mem} {A : Nat → Prop} {δ : Dx} {n : Nat} {μ : Mem} {a1 : Int32} {ls : Array Slot} {H : Heap} {locs : List Loc} (X : Cx p s m args meth c b_X_places 3 R_X (some .int) D CL (TY g)) (hδ : DocOK g dr pl δ) (hDA : ∀ μ : Mem, va_D A (WX g ad dr pl μ)) (hP : va_P D CL (WX g ad dr pl μ) H) (hS : va_S A s.heap H locs) (hl : lv_has ls 3 [(0, .ref (ad 0)), (1, .int a1)]) (hf : f_X_places n δ μ a1 = some (r, μ')) : WU p l e rm_X_places s m args below meth c H locs D (WX g ad dr pl μ') A (some (.int r)) (F0 m 0 ls []) := by
  obtain ⟨S, hr, hlk, hK⟩ := id X
  obtain ⟨hx, hb, hml, hown, hts⟩ := id S
  rw [f_X_places] at hf
  refine lv_aload_n hx hb d_X_places_0 rfl (lv_at hl 0 rfl) ?_
  obtain ⟨μ2, hv1, hf⟩ := cl_x hf
  refine wrV (As := []) (rest := []) S K_X_analyse q_378 (c_X_analyse hDA hv1) hK hP hS ⟨rfl, rfl⟩ ⟨Nat.le_of_ble_eq_true rfl, Nat.le_of_ble_eq_true rfl⟩ (xr_0 hK hP) rfl hl.1 rfl (Nat.le_of_ble_eq_true rfl) d_X_places_1 ⟨Nat.le_refl _, Nat.le_refl _⟩ (fun H locs hP hS => ?_)
  refine lv_aload_n hx hb d_X_places_4 rfl (lv_at hl 0 rfl) ?_
  obtain ⟨v3, μ4, hv3, hf⟩ := cl2_x hf
  refine wrV (As := []) (rest := []) S K_X_readQuery q_781 (c_X_readQuery hDA hv3) hK hP hS ⟨rfl, rfl⟩ ⟨Nat.le_of_ble_eq_true rfl, Nat.le_of_ble_eq_true rfl⟩ (xr_0 hK hP) rfl hl.1 rfl (Nat.le_of_ble_eq_true rfl) d_X_places_5 ⟨Nat.le_refl _, Nat.le_refl _⟩ (fun H locs hP hS => ?_)
  refine lv_istore_n (lv' := [(2, .int v3), (0, .ref (ad 0)), (1, .int a1)]) hx hb d_X_places_8 rfl hl (Nat.le_of_ble_eq_true rfl) rfl (fun ls hl => ?_)
  refine lv_aload_n hx hb d_X_places_9 rfl (lv_at hl 1 rfl) ?_
  refine lv_iload_n hx hb d_X_places_10 rfl (lv_at hl 2 rfl) ?_
  refine lv_iload_n hx hb d_X_places_11 rfl (lv_at hl 0 rfl) ?_
  obtain ⟨v5, hv5, hf⟩ := cl_x hf
  refine rdV (As := [.int a1, .int v3]) (rest := []) S K_X_occurrencesIn q_788 (c_X_occurrencesIn hδ hv5) hK hP ⟨rfl, rfl⟩ ⟨Nat.le_of_ble_eq_true rfl, Nat.le_of_ble_eq_true rfl⟩ (xr_0 hK hP) rfl hl.1 rfl (Nat.le_of_ble_eq_true rfl) d_X_places_12 ⟨Nat.le_refl _, Nat.le_refl _⟩ ?_
  obtain ⟨h1, h2⟩ := Prod.mk.inj (Option.some.inj hf)
  subst h1; subst h2
  exact W.iret hx hb hr (fun t ht _ => ⟨rfl, by rw [ht]; exact hP, hS.F ht⟩) hS.2.2 d_X_places_15
theorem c_X_places {l : Launch} {D : va_G} {g : Nat → ClassId} {ad : Nat → Nat} {dr : Nat → Option Nat} {pl : va_W} {μ : Mem} {r : Int32} {μ' : Mem} {A : Nat → Prop} {n : Nat} {a1 : Int32} {δ : Dx} (hδ : DocOK g dr pl δ) (hDA : ∀ μ : Mem, va_D A (WX g ad dr pl μ)) (hf : f_X_places n δ μ a1 = some (r, μ')) : Met l y_X_places (Cond.code y_X_places b_X_places 3 (some .int) :: ww) rm_X_places (RP D CL (TY g) (WX g ad dr pl μ) [.ref (ad 0), .int a1]) (QW D CL (WX g ad dr pl μ') A (some (.int r))) 0 0 A := by
  refine met_of (by decide) (Nat.le_of_ble_eq_true rfl) ?_
  intro p e s m below meth c ls X hP hl
  have hl : lv_has ls 3 [(0, .ref (ad 0)), (1, .int a1)] := hl
  exact w_X_places X hδ hDA hP va_S.rf hl hf
