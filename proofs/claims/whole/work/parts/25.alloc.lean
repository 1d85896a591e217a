/-! constructors: contracts of methods that make cells -/
theorem q_over : Cond.arrayOver (.object "MorphIndex$Document") ∈ lw_tbl := tb_in 223 (by decide +kernel)
abbrev AO (U : State) : Prop := va_AO "MorphIndex$Document" U
def CP (D : va_G) (tys : List (ClassId × FieldType)) (w : va_W) (sz : Nat) (av : List Value) : Array Value → State → Prop := va_Pc av (fun U => U.heap.size = sz ∧ va_P D CL w U.heap ∧ va_K D CL tys U ∧ va_D (fun _ => True) w ∧ AO U)
theorem CP_blind {D : va_G} {tys : List (ClassId × FieldType)} {w : va_W} {sz : Nat} {av : List Value} : FrameBlind (CP D tys w sz av) := by
  intro a U g mk h
  obtain ⟨h1, h0, h2, h3, h4, h5⟩ := h
  exact ⟨h1, h0, h2, va_K.moved (u := U) (U := U.calling g mk a) (Vm.Alike.refl U.vm) h3, h4, va_AO.moved (u := U) (U := U.calling g mk a) (Vm.Alike.refl U.vm) h5⟩
def CQ (D : va_G) (w : (Nat → Nat) → va_W) (A : Nat → Prop) : Array Value → State → Outcome → State → Prop := fun _ st o t => o = .returned none ∧ (∃ u : Nat → Nat, va_P D CL (w u) t.heap ∧ va_D A (w u)) ∧ va_F A st t
theorem met_ctor {l : Launch} {y : MethodName} {rm : Room} {Qc : Array Value → State → Outcome → State → Prop} {free : Addr → Prop} {cc : ByteArray} {k : Nat} {D : va_G} {tys : List (ClassId × FieldType)} {w : va_W} {sz : Nat} {av : List Value} {mc ms : Nat}
    (hy : plainName y.cls = true) (hnm : y.name = "<init>") (hlen : (lg_sl av).length ≤ k)
    (body : ∀ p e s m below meth c ls, Cx p s m av.toArray meth c cc k y.cls none D CL tys → meth.name = "<init>" → AO s → s.heap.size = sz → va_P D CL w s.heap → va_D (fun _ => True) w → lv_has ls k (lv_args 0 av) → W p l e rm s m av.toArray below meth c s.heap [] 0 0 (MQ below Qc av.toArray s mc ms free) (F0 m 0 ls [])) :
    Met l y (Cond.code y cc k none :: ww) rm (CP D tys w sz av) Qc mc ms free := by
  refine Met.ofW (cc := cc) (maxL := k) (ret := none) hy rfl ?_
  intro p e s m args below meth c s₁ B hml hv
  obtain ⟨rfl, hz, hP, hK, hD, hO⟩ := hv
  have hts := atoms_spec (ws := Cond.code y cc k none :: ww) B.pre
  have hown : s.vm.findClass y.cls = some m.cls := findClass_of_methodNamed B.named
  have hin : meth.name = "<init>" := ((name_of_methodNamed B.named B.method).1).trans hnm
  rw [lg_entry_eq]
  exact body p e s m below meth c _ ⟨⟨B.exec, B.bytes, hml, hown, fun w hw => hts w (List.mem_cons_of_mem _ hw)⟩, B.returns, B.notSynchronized, hK⟩ hin hO hz hP hD (lv_entry av hlen)
theorem ka_p {D : va_G} {cl : List vw_C} {tys : List (ClassId × FieldType)} {s : State} {i j : Nat} {c1 c2 : ClassId} {ty : FieldType} (hK : va_K D cl tys s) (hi : tys[i]? = some (c1, ty)) (hj : tys[j]? = some (c2, ty)) : c1 = c2 := by
  have h1 := (hK.2 i _ hi).2
  have h2 := (hK.2 j _ hj).2
  cases ty with
  | object C =>
    obtain ⟨_, _, -, -, -, h3⟩ := h1
    obtain ⟨_, _, -, -, -, h4⟩ := h2
    exact Option.some.inj (h3.symm.trans h4)
  | _ => exact Option.some.inj (h1.symm.trans h2)
section ALLOC
variable {p : Program} {l : Launch} {e : Env} {R : Room} {s : State} {m : MethodId} {args : Array Value} {below : List Frame} {meth : Method} {c : Code} {H H0 : Heap} {locs : List Loc} {cells slots : Nat} {Q : State → Prop} {cc : ByteArray} {pc index : Nat} {own : String} {ls : Array Slot} {rest st0 : List Value} {D : va_G} {g : Nat → ClassId} {A A1 : Nat → Prop} {ws : va_W} {n : Int32} {N mc ms : Nat}
theorem nw_I (hx : p.tables.exec = Jvm.exec) (hb : c.code = cc) (hts : ∀ w ∈ ww, w.before args s = true) (hK : va_K D CL (TY g) s) (hP : va_P D CL ws H) (hD : va_D A ws) (hS : va_S A H0 H locs) (hA : ∀ q, H0.size ≤ q → A q) (N : Nat) (hn : ¬ n < 0) (hN : n.toNatClampNeg = N) (hby : N * 4 ≤ 536870912) (hc : cells + 1 ≤ R.cells) (hs : slots + N ≤ R.slots) (hdg : decode cc pc = .ok (.newarray .int, 2))
    (kk : ∀ (q : Nat) (H1 : Heap), va_P D CL (ws ++ [(q, .inl (g 0, N, .inl (fun _ => 0)))]) H1 → va_D A (ws ++ [(q, .inl (g 0, N, .inl (fun _ => 0)))]) → va_S A H0 H1 locs → W p l e R s m args below meth c H1 locs (cells + 1) (slots + N) Q (F0 m (pc + 2) ls (.ref q :: rest))) : W p l e R s m args below meth c H locs cells slots Q (F0 m pc ls (.int n :: rest)) := by
  refine va_newa (a0 := (N, .inl (fun _ => 0))) (atype := .int) (ty := .int) hx hb (hts (Cond.arrayClass .int) q_37) rfl hK hP hD hS hA (fun _ => rfl) hn hN hby hc hs hdg (fun q cA H1 hK1 hP1 hD1 hS1 => ?_)
  have h := ka_p (i := 4) (j := 0) hK1 rfl rfl
  subst h
  exact kk q H1 hP1 hD1 hS1
theorem nw_J (hx : p.tables.exec = Jvm.exec) (hb : c.code = cc) (hts : ∀ w ∈ ww, w.before args s = true) (hK : va_K D CL (TY g) s) (hP : va_P D CL ws H) (hD : va_D A ws) (hS : va_S A H0 H locs) (hA : ∀ q, H0.size ≤ q → A q) (N : Nat) (hn : ¬ n < 0) (hN : n.toNatClampNeg = N) (hby : N * 8 ≤ 536870912) (hc : cells + 1 ≤ R.cells) (hs : slots + N ≤ R.slots) (hdg : decode cc pc = .ok (.newarray .long, 2))
    (kk : ∀ (q : Nat) (H1 : Heap), va_P D CL (ws ++ [(q, .inl (g 1, N, .inr (.inl (fun _ => 0))))]) H1 → va_D A (ws ++ [(q, .inl (g 1, N, .inr (.inl (fun _ => 0))))]) → va_S A H0 H1 locs → W p l e R s m args below meth c H1 locs (cells + 1) (slots + N) Q (F0 m (pc + 2) ls (.ref q :: rest))) : W p l e R s m args below meth c H locs cells slots Q (F0 m pc ls (.int n :: rest)) := by
  refine va_newa (a0 := (N, .inr (.inl (fun _ => 0)))) (atype := .long) (ty := .long) hx hb (hts (Cond.arrayClass .long) q_66) rfl hK hP hD hS hA (fun _ => rfl) hn hN hby hc hs hdg (fun q cA H1 hK1 hP1 hD1 hS1 => ?_)
  have h := ka_p (i := 4) (j := 1) hK1 rfl rfl
  subst h
  exact kk q H1 hP1 hD1 hS1
theorem nw_Z (hx : p.tables.exec = Jvm.exec) (hb : c.code = cc) (hts : ∀ w ∈ ww, w.before args s = true) (hK : va_K D CL (TY g) s) (hP : va_P D CL ws H) (hD : va_D A ws) (hS : va_S A H0 H locs) (hA : ∀ q, H0.size ≤ q → A q) (N : Nat) (hn : ¬ n < 0) (hN : n.toNatClampNeg = N) (hby : N * 1 ≤ 536870912) (hc : cells + 1 ≤ R.cells) (hs : slots + N ≤ R.slots) (hdg : decode cc pc = .ok (.newarray .boolean, 2))
    (kk : ∀ (q : Nat) (H1 : Heap), va_P D CL (ws ++ [(q, .inl (g 2, N, .inl (fun _ => 0)))]) H1 → va_D A (ws ++ [(q, .inl (g 2, N, .inl (fun _ => 0)))]) → va_S A H0 H1 locs → W p l e R s m args below meth c H1 locs (cells + 1) (slots + N) Q (F0 m (pc + 2) ls (.ref q :: rest))) : W p l e R s m args below meth c H locs cells slots Q (F0 m pc ls (.int n :: rest)) := by
  refine va_newa (a0 := (N, .inl (fun _ => 0))) (atype := .boolean) (ty := .boolean) hx hb (hts (Cond.arrayClass .boolean) q_975) rfl hK hP hD hS hA (fun _ => rfl) hn hN hby hc hs hdg (fun q cA H1 hK1 hP1 hD1 hS1 => ?_)
  have h := ka_p (i := 4) (j := 2) hK1 rfl rfl
  subst h
  exact kk q H1 hP1 hD1 hS1
theorem nw_Q (hx : p.tables.exec = Jvm.exec) (hb : c.code = cc) (hown : s.vm.findClass own = some m.cls) (hts : ∀ w ∈ ww, w.before args s = true) (hl : Cond.classLink own index "MorphIndex$Document" ∈ ww) (hK : va_K D CL (TY g) s) (hP : va_P D CL ws H) (hD : va_D A ws) (hS : va_S A H0 H locs) (hA : ∀ q, H0.size ≤ q → A q) (N : Nat) (hn : ¬ n < 0) (hN : n.toNatClampNeg = N) (hby : N * 4 ≤ 536870912) (hc : cells + 1 ≤ R.cells) (hs : slots + N ≤ R.slots) (hO : AO s) (hdg : decode cc pc = .ok (.anewarray index, 3))
    (kk : ∀ (q : Nat) (H1 : Heap), va_P D CL (ws ++ [(q, .inl (g 3, N, .inr (.inr (.inr (.inr (fun _ => none))))))]) H1 → va_D A (ws ++ [(q, .inl (g 3, N, .inr (.inr (.inr (.inr (fun _ => none))))))]) → va_S A H0 H1 locs → W p l e R s m args below meth c H1 locs (cells + 1) (slots + N) Q (F0 m (pc + 3) ls (.ref q :: rest))) : W p l e R s m args below meth c H locs cells slots Q (F0 m pc ls (.int n :: rest)) := by
  refine va_newq (C := "MorphIndex$Document") hx hb hown (hts _ hl) hO hK hP hD hS hA hn hN hby hc hs hdg (fun q cA H1 hK1 hP1 hD1 hS1 => ?_)
  have h := ka_p (i := 4) (j := 3) hK1 rfl rfl
  subst h
  exact kk q H1 hP1 hD1 hS1
/-- behind a constructor's call -/
theorem ct_k {w1 : (Nat → Nat) → va_W} {ar : Array Value} (hr : va_Run p l e R s m args below meth c H locs cells slots mc ms (F0 m pc ls st0) rest (CQ D w1 A1 ar) A1) (hS : va_S A s.heap H locs) (hA1 : ∀ q, A1 q → A q)
    (kk : ∀ (u : Nat → Nat) (H1 : Heap) (locs1 : List Loc), va_P D CL (w1 u) H1 → va_D A1 (w1 u) → (∀ q : Nat, q < H.size → ¬ A1 q → H1[q]? = H[q]?) → va_S A s.heap H1 locs1 → W p l e R s m args below meth c H1 locs1 (cells + mc) (slots + ms) Q (F0 m (pc + 3) ls rest)) : W p l e R s m args below meth c H locs cells slots Q (F0 m pc ls st0) := by
  intro T hT X
  obtain ⟨v', st₀, t, T', L, h0, X', hL, e1, e2, ⟨hv, ⟨u, hp, hd⟩, hz, hk⟩, st⟩ := hr T hT X
  cases hv
  rw [h0] at hz hk
  obtain ⟨t2, a1, b1⟩ := kk u t.heap (locs ++ L) hp hd hk ⟨Nat.le_trans hS.1 hz, fun q h1 h2 => by rw [hk q (Nat.lt_of_lt_of_le h1 hS.1) (fun z => h2 (hA1 q z))]; exact hS.2.1 q h1 h2, fun q hq => by
      rcases List.mem_append.mp hq with h | h
      · exact hS.2.2 q h
      · exact hA1 _ (hL q h)⟩ T' e1 X'
  exact ⟨t2, st t2 a1, b1⟩
/-- a constructor is called -/
theorem ctI {k nL np a : Nat} {y : MethodName} {b : ByteArray} {rm : Room} {w : va_W} {w1 : (Nat → Nat) → va_W} {As : List Value} (S : CallFix p m c cc nL s args ww own) (h1 : Cond.code y b k none ∈ ww) (h2 : Cond.instanceMethod y ∈ ww) (h4 : Cond.initialized y.cls ∈ ww) (hd : y.cls ≠ "java/lang/invoke/MethodHandle" ∧ y.cls ≠ "java/lang/invoke/VarHandle" ∧ (parseMethodDescriptor y.desc).map (fun d => d.parameters.length) = some np) (hy : y.name = "<init>") (hl : Cond.methodLink own index y ∈ ww)
    (hM : Met l y (Cond.code y b k none :: ww) rm (CP D (TY g) w H.size (.ref a :: As)) (CQ D w1 A1) mc ms A1) (hK : va_K D CL (TY g) s) (hP : va_P D CL w H) (hD : va_D (fun _ => True) w) (hO : AO s) (hS : va_S A s.heap H locs) (hA1 : ∀ q, A1 q → A q) (hc : rm.cells = mc ∧ rm.slots = ms) (hR : rm.frames + 1 ≤ R.frames ∧ 8 + (k + 11) + rm.locals ≤ R.locals)
    (hn : As.length = np) (hz : ls.size = nL) (hst : st0 = As.reverse ++ .ref a :: rest) (hW : (rest.map fun v => v.category).sum ≤ 8) (hdg : decode cc pc = .ok (.invokespecial index, 3)) (hf : cells + mc ≤ R.cells ∧ slots + ms ≤ R.slots)
    (kk : ∀ (u : Nat → Nat) (H1 : Heap) (locs1 : List Loc), va_P D CL (w1 u) H1 → va_D A1 (w1 u) → (∀ q : Nat, q < H.size → ¬ A1 q → H1[q]? = H[q]?) → va_S A s.heap H1 locs1 → W p l e R s m args below meth c H1 locs1 (cells + mc) (slots + ms) Q (F0 m (pc + 3) ls rest)) : W p l e R s m args below meth c H locs cells slots Q (F0 m pc ls st0) :=
  ct_k (va_runI (rest := rest) S hM ⟨callB_of (ws' := ww) np S.2.2.2.2 (ww_good h1) rfl hc.1 hc.2 (S.2.2.2.2 _ h4) (S.2.2.2.2 _ hl) hd hR, hy, S.2.2.2.2 _ h2⟩ ⟨CP_blind, fun U hU hW => ⟨rfl, by rw [hU], by rw [hU]; exact hP, va_K.moved hW.alike hK, hD, va_AO.moved hW.alike hO⟩⟩ rfl hn hz hst (lv_room hW) hdg hf) hS hA1 kk
end ALLOC
def WA (g : Nat → ClassId) (ad : Nat → Nat) (μ : Mem) : va_W := [(ad 0, .inl (g 0, 4, .inl (μ.1 0)))]
section fROWS
variable {p : Program} {l : Launch} {e : Env} {R : Room} {s : State} {m : MethodId} {args : Array Value} {below : List Frame} {meth : Method} {c : Code} {H : Heap} {locs : List Loc} {cells slots : Nat} {Q : State → Prop} {cc : ByteArray} {pc index : Nat} {own : String} {ls : Array Slot} {rest : List Value} {D : va_G} {g : Nat → ClassId} {ad : Nat → Nat} {μ μ1 : Mem} {A : Nat → Prop}
theorem fl_0 {i : Int32} (hx : p.tables.exec = Jvm.exec) (hb : c.code = cc) (hK : va_K D CL (TY g) s) (hP : va_P D CL (WA g ad μ) H) (hi : vp_in i 4) (hdg : decode cc pc = .ok (.iaload, 1)) (kk : W p l e R s m args below meth c H locs cells slots Q (F0 m (pc + 1) ls (.int (μ.1 0 i.toNatClampNeg) :: rest))) : W p l e R s m args below meth c H locs cells slots Q (F0 m pc ls (.int i :: .ref (ad 0) :: rest)) := va_iald hx hb hK hP 0 0 rfl rfl hi hdg kk
theorem fs_0 {i : Int32} {x : Int32} (hx : p.tables.exec = Jvm.exec) (hb : c.code = cc) (hK : va_K D CL (TY g) s) (hD : va_D A (WA g ad μ)) (hP : va_P D CL (WA g ad μ) H) (hS : va_S A s.heap H locs) (hi : vp_in i 4) (hdg : decode cc pc = .ok (.iastore, 1)) (hμ : wi μ 0 i.toNatClampNeg x = μ1) (kk : ∀ (H1 : Heap) (locs1 : List Loc), va_P D CL (WA g ad μ1) H1 → va_S A s.heap H1 locs1 → W p l e R s m args below meth c H1 locs1 cells slots Q (F0 m (pc + 1) ls rest)) : W p l e R s m args below meth c H locs cells slots Q (F0 m pc ls (.int x :: .int i :: .ref (ad 0) :: rest)) := by
  subst hμ
  exact va_iast hx hb hK hP hD hS 0 0 rfl rfl hi hdg (fun H1 locs1 h1 _ h3 => kk H1 locs1 h1 h3)
theorem fn_0 (hx : p.tables.exec = Jvm.exec) (hb : c.code = cc) (hK : va_K D CL (TY g) s) (hP : va_P D CL (WA g ad μ) H) (hdg : decode cc pc = .ok (.arraylength, 1)) (kk : W p l e R s m args below meth c H locs cells slots Q (F0 m (pc + 1) ls (.int 4 :: rest))) : W p l e R s m args below meth c H locs cells slots Q (F0 m pc ls (.ref (ad 0) :: rest)) := va_alen (v := 4) hx hb hK hP 0 0 rfl rfl rfl hdg kk
end fROWS
theorem d_Arrays_fill_AII_V_0 : decode b_Arrays_fill_AII_V 0 = .ok (.iconst 0, 1) := by decide +kernel
theorem d_Arrays_fill_AII_V_1 : decode b_Arrays_fill_AII_V 1 = .ok (.istore_n 2, 1) := by decide +kernel
theorem d_Arrays_fill_AII_V_2 : decode b_Arrays_fill_AII_V 2 = .ok (.aload_n 0, 1) := by decide +kernel
theorem d_Arrays_fill_AII_V_3 : decode b_Arrays_fill_AII_V 3 = .ok (.arraylength, 1) := by decide +kernel
theorem d_Arrays_fill_AII_V_4 : decode b_Arrays_fill_AII_V 4 = .ok (.istore_n 3, 1) := by decide +kernel
theorem d_Arrays_fill_AII_V_5 : decode b_Arrays_fill_AII_V 5 = .ok (.iload_n 2, 1) := by decide +kernel
theorem d_Arrays_fill_AII_V_6 : decode b_Arrays_fill_AII_V 6 = .ok (.iload_n 3, 1) := by decide +kernel
theorem d_Arrays_fill_AII_V_7 : decode b_Arrays_fill_AII_V 7 = .ok (.if_icmp .ge 13, 3) := by decide +kernel
theorem d_Arrays_fill_AII_V_10 : decode b_Arrays_fill_AII_V 10 = .ok (.aload_n 0, 1) := by decide +kernel
theorem d_Arrays_fill_AII_V_11 : decode b_Arrays_fill_AII_V 11 = .ok (.iload_n 2, 1) := by decide +kernel
theorem d_Arrays_fill_AII_V_12 : decode b_Arrays_fill_AII_V 12 = .ok (.iload_n 1, 1) := by decide +kernel
theorem d_Arrays_fill_AII_V_13 : decode b_Arrays_fill_AII_V 13 = .ok (.iastore, 1) := by decide +kernel
theorem d_Arrays_fill_AII_V_14 : decode b_Arrays_fill_AII_V 14 = .ok (.iinc 2 1, 3) := by decide +kernel
theorem d_Arrays_fill_AII_V_17 : decode b_Arrays_fill_AII_V 17 = .ok (.goto (-12), 3) := by decide +kernel
theorem d_Arrays_fill_AII_V_20 : decode b_Arrays_fill_AII_V 20 = .ok (.return_, 1) := by decide +kernel
abbrev rm_Arrays_fill_AII_V_c0 : Room := { frames := 0, cells := 0, slots := 0, locals := 0 }
def f_Arrays_fill_AII_V_c0_5 : Nat → Mem → Int32 → Int32 → Int32 → Option Mem
  | 0, _, _, _, _ => none
  | n + 1, μ, x1, x2, x3 => (if x3 ≤ x2 then (some μ) else (gd (inb x2 4) (bd (wi μ 0 x2.toNatClampNeg x1) (fun μ1 => bd (x2 + 1) (fun v2 => (f_Arrays_fill_AII_V_c0_5 n) μ1 x1 v2 x3)))))
set_option maxHeartbeats 4000000 in
set_option maxRecDepth 100000 in
theorem w_Arrays_fill_AII_V_c0_5 {p : Program} {l : Launch} {e : Env} {s : State} {m : MethodId} {args : Array Value} {below : List Frame} {meth : Method} {c : Code} {D : va_G} {g : Nat → ClassId} {ad : Nat → Nat} {μ' : Mem} {A : Nat → Prop} (X : Cx p s m args meth c b_Arrays_fill_AII_V 4 R_Arrays none D CL (TY g)) (hDA : ∀ μ : Mem, va_D A (WA g ad μ)) : ∀ (n : Nat) (μ : Mem) (x1 : Int32) (x2 : Int32) (x3 : Int32) (ls : Array Slot) (H : Heap) (locs : List Loc), va_P D CL (WA g ad μ) H → va_S A s.heap H locs → lv_has ls 4 [(0, .ref (ad 0)), (1, .int x1), (2, .int x2), (3, .int x3)] → f_Arrays_fill_AII_V_c0_5 n μ x1 x2 x3 = some μ' → WU p l e rm_Arrays_fill_AII_V_c0 s m args below meth c H locs D (WA g ad μ') A none (F0 m 5 ls []) := by
  intro n
  induction n with
  | zero => intro μ x1 x2 x3 ls H locs hP hS hl hf; rw [f_Arrays_fill_AII_V_c0_5] at hf; cases hf
  | succ n ih =>
    intro μ x1 x2 x3 ls H locs hP hS hl hf
    obtain ⟨S, hr, hlk, hK⟩ := id X
    obtain ⟨hx, hb, hml, hown, hts⟩ := id S
    rw [f_Arrays_fill_AII_V_c0_5] at hf
    refine lv_iload_n hx hb d_Arrays_fill_AII_V_5 rfl (lv_at hl 2 rfl) ?_
    refine lv_iload_n hx hb d_Arrays_fill_AII_V_6 rfl (lv_at hl 3 rfl) ?_
    refine lv_icmp_ge (tgt := 20) hx hb d_Arrays_fill_AII_V_7 rfl (fun hc => ?_) (fun hc => ?_)
    · replace hf := br_p hc hf
      obtain rfl := Option.some.inj hf
      exact W.vret hx hb hr (fun t ht _ => ⟨rfl, by rw [ht]; exact hP, hS.F ht⟩) hS.2.2 d_Arrays_fill_AII_V_20
    · replace hf := br_n hc hf
      refine lv_aload_n hx hb d_Arrays_fill_AII_V_10 rfl (lv_at hl 0 rfl) ?_
      refine lv_iload_n hx hb d_Arrays_fill_AII_V_11 rfl (lv_at hl 2 rfl) ?_
      refine lv_iload_n hx hb d_Arrays_fill_AII_V_12 rfl (lv_at hl 1 rfl) ?_
      obtain ⟨hi, hf⟩ := gd_x hf
      obtain ⟨μ1, hμ1, hf⟩ := bd_x hf
      refine fs_0 hx hb hK (hDA _) hP hS (inb_in hi) d_Arrays_fill_AII_V_13 hμ1 (fun H locs hP hS => ?_)
      obtain ⟨v2, hv2, hf⟩ := bd_x hf
      refine lv_iinc (lv' := [(2, .int v2), (0, .ref (ad 0)), (1, .int x1), (3, .int x3)]) hx hb d_Arrays_fill_AII_V_14 hl (k := 2) rfl (show x2 + Int32.ofInt (1) = v2 from hv2) (Nat.le_of_ble_eq_true rfl) rfl (fun ls hl => ?_)
      refine lv_goto (tgt := 5) hx hb d_Arrays_fill_AII_V_17 rfl ?_
      exact ih _ _ _ _ _ _ _ hP hS (lv_sub (l' := [(0, .ref (ad 0)), (1, .int x1), (2, .int v2), (3, .int x3)]) hl [1, 2, 0, 3] rfl) hf
def f_Arrays_fill_AII_V_c0 (n : Nat) (μ : Mem) (a1 : Int32) : Option Mem := f_Arrays_fill_AII_V_c0_5 n μ a1 (0 : Int32) (4 : Int32)
set_option maxHeartbeats 4000000 in
set_option maxRecDepth 100000 in
theorem w_Arrays_fill_AII_V_c0 {p : Program} {l : Launch} {e : Env} {s : State} {m : MethodId} {args : Array Value} {below : List Frame} {meth : Method} {c : Code} {D : va_G} {g : Nat → ClassId} {ad : Nat → Nat} {μ' : Mem} {A : Nat → Prop} {n : Nat} {μ : Mem} {a1 : Int32} {ls : Array Slot} {H : Heap} {locs : List Loc} (X : Cx p s m args meth c b_Arrays_fill_AII_V 4 R_Arrays none D CL (TY g)) (hDA : ∀ μ : Mem, va_D A (WA g ad μ)) (hP : va_P D CL (WA g ad μ) H) (hS : va_S A s.heap H locs) (hl : lv_has ls 4 [(0, .ref (ad 0)), (1, .int a1)]) (hf : f_Arrays_fill_AII_V_c0 n μ a1 = some μ') : WU p l e rm_Arrays_fill_AII_V_c0 s m args below meth c H locs D (WA g ad μ') A none (F0 m 0 ls []) := by
  obtain ⟨S, hr, hlk, hK⟩ := id X
  obtain ⟨hx, hb, hml, hown, hts⟩ := id S
  rw [f_Arrays_fill_AII_V_c0] at hf
  refine lv_iconst (v := 0) hx hb d_Arrays_fill_AII_V_0 (by decide) ?_
  refine lv_istore_n (lv' := [(2, .int (0 : Int32)), (0, .ref (ad 0)), (1, .int a1)]) hx hb d_Arrays_fill_AII_V_1 rfl hl (Nat.le_of_ble_eq_true rfl) rfl (fun ls hl => ?_)
  refine lv_aload_n hx hb d_Arrays_fill_AII_V_2 rfl (lv_at hl 1 rfl) ?_
  refine fn_0 hx hb hK hP d_Arrays_fill_AII_V_3 ?_
  refine lv_istore_n (lv' := [(3, .int (4 : Int32)), (2, .int (0 : Int32)), (0, .ref (ad 0)), (1, .int a1)]) hx hb d_Arrays_fill_AII_V_4 rfl hl (Nat.le_of_ble_eq_true rfl) rfl (fun ls hl => ?_)
  exact w_Arrays_fill_AII_V_c0_5 X hDA _ _ _ _ _ _ _ _ hP hS (lv_sub (l' := [(0, .ref (ad 0)), (1, .int a1), (2, .int (0 : Int32)), (3, .int (4 : Int32))]) hl [2, 3, 1, 0] rfl) hf
theorem c_Arrays_fill_AII_V_c0 {l : Launch} {D : va_G} {g : Nat → ClassId} {ad : Nat → Nat} {μ : Mem} {μ' : Mem} {A : Nat → Prop} {n : Nat} {a1 : Int32} (hDA : ∀ μ : Mem, va_D A (WA g ad μ)) (hf : f_Arrays_fill_AII_V_c0 n μ a1 = some μ') : Met l y_Arrays_fill_AII_V (Cond.code y_Arrays_fill_AII_V b_Arrays_fill_AII_V 4 none :: ww) rm_Arrays_fill_AII_V_c0 (RP D CL (TY g) (WA g ad μ) [.ref (ad 0), .int a1]) (QW D CL (WA g ad μ') A none) 0 0 A := by
  refine met_of (by decide) (Nat.le_of_ble_eq_true rfl) ?_
  intro p e s m below meth c ls X hP hl
  have hl : lv_has ls 4 [(0, .ref (ad 0)), (1, .int a1)] := hl
  exact w_Arrays_fill_AII_V_c0 X hDA hP va_S.rf hl hf
def F4 : Nat → Int32 := upd (upd (upd (upd (fun _ => 0) 0 1) 1 1) 2 1) 3 1
theorem fill4_f (μ : Mem) : f_Arrays_fill_AII_V_c0 6 μ 1 = some (wi (wi (wi (wi μ 0 0 1) 0 1 1) 0 2 1) 0 3 1) := rfl
section FILL
variable {p : Program} {l : Launch} {e : Env} {R : Room} {s : State} {m : MethodId} {args : Array Value} {below : List Frame} {meth : Method} {c : Code} {H : Heap} {locs : List Loc} {cells slots : Nat} {Q : State → Prop} {cc : ByteArray} {pc index nL : Nat} {own : String} {ls : Array Slot} {rest st0 : List Value} {D : va_G} {g : Nat → ClassId} {A A1 : Nat → Prop} {ws w1 : va_W}
theorem wr_k2 {v : Option Value} {ar : Array Value} (hr : va_Run p l e R s m args below meth c H locs cells slots 0 0 (F0 m pc ls st0) rest (QW D CL w1 A1 v ar) A1) (hS : va_S A s.heap H locs) (hA1 : ∀ q, A1 q → A q)
    (kk : ∀ (H1 : Heap) (locs1 : List Loc), va_P D CL w1 H1 → (∀ q : Nat, q < H.size → ¬ A1 q → H1[q]? = H[q]?) → va_S A s.heap H1 locs1 → W p l e R s m args below meth c H1 locs1 cells slots Q (F0 m (pc + 3) ls (v.toList ++ rest))) : W p l e R s m args below meth c H locs cells slots Q (F0 m pc ls st0) := by
  intro T hT X
  obtain ⟨v', st₀, t, T', L, h0, X', hL, e1, e2, ⟨hv, hp, hz, hk⟩, st⟩ := hr T hT X
  cases hv
  rw [h0] at hz hk
  obtain ⟨t2, a1, b1⟩ := kk t.heap (locs ++ L) hp hk ⟨Nat.le_trans hS.1 hz, fun q h1 h2 => by rw [hk q (Nat.lt_of_lt_of_le h1 hS.1) (fun z => h2 (hA1 q z))]; exact hS.2.1 q h1 h2, fun q hq => by
      rcases List.mem_append.mp hq with h | h
      · exact hS.2.2 q h
      · exact hA1 _ (hL q h)⟩ T' e1 X'
  exact ⟨t2, st t2 a1, b1⟩
theorem fill4 (S : CallFix p m c cc nL s args ww own) (hl : Cond.methodLink own index y_Arrays_fill_AII_V ∈ ww) (hK : va_K D CL (TY g) s) (hP : va_P D CL ws H) (hD : va_D A ws) (hS : va_S A s.heap H locs) (k : Nat) {a : Nat} (he : ws[k]? = some (a, .inl (g 0, 4, .inl (fun _ => 0)))) (hR : 0 + 1 ≤ R.frames ∧ 8 + (4 + 11) + 0 ≤ R.locals) (hz : ls.size = nL) (hW : (rest.map fun v => v.category).sum ≤ 8) (hcs : cells + slots ≤ cells + slots) (hdg : decode cc pc = .ok (.invokestatic index, 3))
    (hf : cells + 0 ≤ R.cells ∧ slots + 0 ≤ R.slots)
    (kk : ∀ (H1 : Heap) (locs1 : List Loc), va_P D CL (ws.set k (a, .inl (g 0, 4, .inl F4))) H1 → va_D A (ws.set k (a, .inl (g 0, 4, .inl F4))) → va_S A s.heap H1 locs1 → W p l e R s m args below meth c H1 locs1 cells slots Q (F0 m (pc + 3) ls rest)) : W p l e R s m args below meth c H locs cells slots Q (F0 m pc ls (.int 1 :: .ref a :: rest)) := by
  have hDA : ∀ μ : Mem, va_D (fun x => x = a) (WA g (fun _ => a) μ) := by
    intro μ
    refine ⟨fun i j x y hi hj _ => ?_, fun k q hk => ?_⟩
    · have h1 := (List.getElem?_eq_some_iff.mp hi).1
      have h2 := (List.getElem?_eq_some_iff.mp hj).1
      have e1 : i < 1 := h1
      have e2 : j < 1 := h2
      omega
    · have h1 : k < 1 := (List.getElem?_eq_some_iff.mp hk).1
      have h2 : k = 0 := by omega
      subst h2
      cases hk
      rfl
  have hM := c_Arrays_fill_AII_V_c0 (l := l) (D := D) (g := g) (ad := fun _ => a) (A := fun x => x = a) hDA (fill4_f (fun _ _ => 0, fun _ _ => 0))
  obtain ⟨h1, h2, h4, hd⟩ := K_Arrays_fill_AII_V
  refine wr_k2 (w1 := WA g (fun _ => a) _) (A1 := fun x => x = a) (va_runS (rest := rest) (As := [.ref a, .int 1]) S hM ⟨bB S.2.2.2.2 h1 h4 hd hl ⟨rfl, rfl⟩ hR, S.2.2.2.2 _ h2⟩ ⟨RP_blind, fun U hU hW => ⟨rfl, ?_, va_K.moved hW.alike hK⟩⟩ rfl rfl hz rfl (lv_room hW) hdg hf) hS (fun q hq => by rw [hq]; exact hD.2 k _ he) (fun H1 locs1 hP1 hk1 hS1 => ?_)
  · rw [hU]
    intro j x hj
    have h1 : j < 1 := (List.getElem?_eq_some_iff.mp hj).1
    have h2 : j = 0 := by omega
    subst h2
    cases hj
    exact hP k _ he
  · refine kk H1 locs1 ?_ (hD.set he) hS1
    have hlen := (List.getElem?_eq_some_iff.mp he).1
    intro j x hj
    by_cases hjk : j = k
    · subst hjk
      rw [List.getElem?_set_self hlen] at hj
      cases hj
      exact hP1 0 _ rfl
    · rw [List.getElem?_set_ne (Ne.symm hjk)] at hj
      exact (hP j x hj).kept (hk1 x.1 ((hP j x hj).lt) (fun z => hjk (hD.1 j k x _ hj he z)))
end FILL
theorem d_Draft_init_0 : decode b_Draft_init 0 = .ok (.aload_n 0, 1) := by decide +kernel
theorem d_Draft_init_1 : decode b_Draft_init 1 = .ok (.invokespecial 3, 3) := by decide +kernel
theorem d_Draft_init_4 : decode b_Draft_init 4 = .ok (.aload_n 0, 1) := by decide +kernel
theorem d_Draft_init_5 : decode b_Draft_init 5 = .ok (.bipush 24, 2) := by decide +kernel
theorem d_Draft_init_7 : decode b_Draft_init 7 = .ok (.newarray .int, 2) := by decide +kernel
theorem d_Draft_init_9 : decode b_Draft_init 9 = .ok (.putfield 9, 3) := by decide +kernel
theorem d_Draft_init_12 : decode b_Draft_init 12 = .ok (.aload_n 0, 1) := by decide +kernel
theorem d_Draft_init_13 : decode b_Draft_init 13 = .ok (.iconst 0, 1) := by decide +kernel
theorem d_Draft_init_14 : decode b_Draft_init 14 = .ok (.putfield 15, 3) := by decide +kernel
theorem d_Draft_init_17 : decode b_Draft_init 17 = .ok (.return_, 1) := by decide +kernel
abbrev rm_Draft_init : Room := { frames := 1, cells := 1, slots := 24, locals := 12 }
set_option maxHeartbeats 8000000 in
set_option maxRecDepth 100000 in
theorem k_Draft_init {l : Launch} {D : va_G} {g : Nat → ClassId} (h0 sz : Nat) : Met l y_Draft_init (Cond.code y_Draft_init b_Draft_init 1 none :: ww) rm_Draft_init (CP D (TY g) [(h0, .inr (1, [.null, .int 0]))] sz [.ref h0]) (CQ D (fun u => [(h0, .inr (1, [.ref (u 0), .int 0])), ((u 0), .inl (g 0, 24, .inl (fun _ => 0)))]) (va_A [(h0, .inr (1, [.null, .int 0]))] sz)) 1 24 (va_A [(h0, .inr (1, [.null, .int 0]))] sz) := by
  refine met_ctor (by decide) rfl (Nat.le_of_ble_eq_true rfl) ?_
  intro p e s m below meth c ls X hin hO hz hP hD0 hl
  obtain ⟨S, hr, hlk, hK⟩ := id X
  obtain ⟨hx, hb, hml, hown, hts⟩ := id S
  subst hz
  have hD := hD0.self (sz := s.heap.size)
  generalize hAe : va_A [(h0, .inr (1, [.null, .int 0]))] s.heap.size = A at hD ⊢
  have hA : ∀ q : Nat, s.heap.size ≤ q → A q := fun q h => by rw [← hAe]; exact Or.inr h
  have hS : va_S A s.heap s.heap [] := va_S.rf
  have hl : lv_has ls 1 [(0, .ref h0)] := hl
  refine lv_aload_n hx hb d_Draft_init_0 rfl (lv_at hl 0 rfl) ?_
  refine W.objInit hx hb hown (hts _ q_29) (hts _ q_22) (hts _ q_23) rfl (by rw [hml]; exact hl.1) rfl d_Draft_init_1 (Nat.le_of_ble_eq_true rfl) (Nat.le_of_ble_eq_true rfl) ?_
  refine W.eq (g2 := F0 m 4 ls []) rfl ?_
  refine lv_aload_n hx hb d_Draft_init_4 rfl (lv_at hl 0 rfl) ?_
  refine lv_bipush (v := 24) hx hb d_Draft_init_5 (by decide) ?_
  refine nw_I (g := g) hx hb hts hK hP hD hS hA 24 (by decide) (by decide) (by decide) (Nat.le_of_ble_eq_true rfl) (Nat.le_of_ble_eq_true rfl) d_Draft_init_7 (fun q7 H hP hD hS => ?_)
  have hP : va_P D CL [(h0, .inr (1, [.null, .int 0])), (q7, .inl (g 0, 24, .inl (fun _ => 0)))] H := hP
  have hD : va_D A [(h0, .inr (1, [.null, .int 0])), (q7, .inl (g 0, 24, .inl (fun _ => 0)))] := hD
  refine W.widen (k := 1) (n := 24) (Nat.le_of_ble_eq_true rfl) (Nat.le_of_ble_eq_true rfl) ?_
  refine va_putF (D := D) (ci := 1) (v := .ref q7) (ty := .array .int) (C := R_Draft) (T := T_Draft) (N := 2) hx hb hts u_Draft t_Draft t_Draft_ok n_Draft hown hK hP hD hS 0 rfl rfl 0 (by decide) (hts _ q_30) (fun _ h9 => h9) rfl hin rfl (by decide +kernel) rfl rfl (Nat.le_of_ble_eq_true rfl) d_Draft_init_9 (fun H locs hP hD hS => ?_)
  have hP : va_P D CL [(h0, .inr (1, [.ref q7, .int 0])), (q7, .inl (g 0, 24, .inl (fun _ => 0)))] H := hP
  have hD : va_D A [(h0, .inr (1, [.ref q7, .int 0])), (q7, .inl (g 0, 24, .inl (fun _ => 0)))] := hD
  refine lv_aload_n hx hb d_Draft_init_12 rfl (lv_at hl 0 rfl) ?_
  refine lv_iconst (v := 0) hx hb d_Draft_init_13 (by decide) ?_
  refine va_put (D := D) (ci := 1) (v := .int (0 : Int32)) (ty := .int) (C := R_Draft) (T := T_Draft) (N := 2) hx hb hts u_Draft t_Draft t_Draft_ok n_Draft hown hK hP hD hS 0 rfl rfl 1 (by decide) (hts _ q_31) (fun _ h9 => h9) rfl (by decide +kernel) rfl rfl (Nat.le_of_ble_eq_true rfl) d_Draft_init_14 (fun H locs hP hD hS => ?_)
  have hP : va_P D CL [(h0, .inr (1, [.ref q7, .int 0])), (q7, .inl (g 0, 24, .inl (fun _ => 0)))] H := hP
  have hD : va_D A [(h0, .inr (1, [.ref q7, .int 0])), (q7, .inl (g 0, 24, .inl (fun _ => 0)))] := hD
  exact W.vret hx hb hr (fun t ht _ => ⟨rfl, ⟨(fun k => match k with | _ => q7 : Nat → Nat), by rw [ht]; exact hP.sub [0, 1] rfl, hD.sub [0, 1] (by decide) rfl⟩, hS.F ht⟩) hS.2.2 d_Draft_init_17
theorem d_Lexicon_init_0 : decode b_Lexicon_init 0 = .ok (.aload_n 0, 1) := by decide +kernel
theorem d_Lexicon_init_1 : decode b_Lexicon_init 1 = .ok (.invokespecial 3, 3) := by decide +kernel
theorem d_Lexicon_init_4 : decode b_Lexicon_init 4 = .ok (.aload_n 0, 1) := by decide +kernel
theorem d_Lexicon_init_5 : decode b_Lexicon_init 5 = .ok (.bipush 40, 2) := by decide +kernel
theorem d_Lexicon_init_7 : decode b_Lexicon_init 7 = .ok (.newarray .long, 2) := by decide +kernel
theorem d_Lexicon_init_9 : decode b_Lexicon_init 9 = .ok (.putfield 9, 3) := by decide +kernel
theorem d_Lexicon_init_12 : decode b_Lexicon_init 12 = .ok (.aload_n 0, 1) := by decide +kernel
theorem d_Lexicon_init_13 : decode b_Lexicon_init 13 = .ok (.bipush 40, 2) := by decide +kernel
theorem d_Lexicon_init_15 : decode b_Lexicon_init 15 = .ok (.newarray .int, 2) := by decide +kernel
theorem d_Lexicon_init_17 : decode b_Lexicon_init 17 = .ok (.putfield 15, 3) := by decide +kernel
theorem d_Lexicon_init_20 : decode b_Lexicon_init 20 = .ok (.aload_n 0, 1) := by decide +kernel
theorem d_Lexicon_init_21 : decode b_Lexicon_init 21 = .ok (.bipush 40, 2) := by decide +kernel
theorem d_Lexicon_init_23 : decode b_Lexicon_init 23 = .ok (.newarray .int, 2) := by decide +kernel
theorem d_Lexicon_init_25 : decode b_Lexicon_init 25 = .ok (.putfield 19, 3) := by decide +kernel
theorem d_Lexicon_init_28 : decode b_Lexicon_init 28 = .ok (.aload_n 0, 1) := by decide +kernel
theorem d_Lexicon_init_29 : decode b_Lexicon_init 29 = .ok (.bipush 40, 2) := by decide +kernel
theorem d_Lexicon_init_31 : decode b_Lexicon_init 31 = .ok (.newarray .int, 2) := by decide +kernel
theorem d_Lexicon_init_33 : decode b_Lexicon_init 33 = .ok (.putfield 22, 3) := by decide +kernel
theorem d_Lexicon_init_36 : decode b_Lexicon_init 36 = .ok (.aload_n 0, 1) := by decide +kernel
theorem d_Lexicon_init_37 : decode b_Lexicon_init 37 = .ok (.bipush 40, 2) := by decide +kernel
theorem d_Lexicon_init_39 : decode b_Lexicon_init 39 = .ok (.newarray .int, 2) := by decide +kernel
theorem d_Lexicon_init_41 : decode b_Lexicon_init 41 = .ok (.putfield 25, 3) := by decide +kernel
theorem d_Lexicon_init_44 : decode b_Lexicon_init 44 = .ok (.aload_n 0, 1) := by decide +kernel
theorem d_Lexicon_init_45 : decode b_Lexicon_init 45 = .ok (.bipush 40, 2) := by decide +kernel
theorem d_Lexicon_init_47 : decode b_Lexicon_init 47 = .ok (.newarray .int, 2) := by decide +kernel
theorem d_Lexicon_init_49 : decode b_Lexicon_init 49 = .ok (.putfield 28, 3) := by decide +kernel
theorem d_Lexicon_init_52 : decode b_Lexicon_init 52 = .ok (.aload_n 0, 1) := by decide +kernel
theorem d_Lexicon_init_53 : decode b_Lexicon_init 53 = .ok (.iconst 0, 1) := by decide +kernel
theorem d_Lexicon_init_54 : decode b_Lexicon_init 54 = .ok (.putfield 31, 3) := by decide +kernel
theorem d_Lexicon_init_57 : decode b_Lexicon_init 57 = .ok (.return_, 1) := by decide +kernel
abbrev rm_Lexicon_init : Room := { frames := 1, cells := 6, slots := 240, locals := 12 }
set_option maxHeartbeats 8000000 in
set_option maxRecDepth 100000 in
theorem k_Lexicon_init {l : Launch} {D : va_G} {g : Nat → ClassId} (h0 sz : Nat) : Met l y_Lexicon_init (Cond.code y_Lexicon_init b_Lexicon_init 1 none :: ww) rm_Lexicon_init (CP D (TY g) [(h0, .inr (2, [.null, .null, .null, .null, .null, .null, .int 0]))] sz [.ref h0]) (CQ D (fun u => [(h0, .inr (2, [.ref (u 0), .ref (u 1), .ref (u 2), .ref (u 3), .ref (u 4), .ref (u 5), .int 0])), ((u 0), .inl (g 1, 40, .inr (.inl (fun _ => 0)))), ((u 1), .inl (g 0, 40, .inl (fun _ => 0))), ((u 2), .inl (g 0, 40, .inl (fun _ => 0))), ((u 3), .inl (g 0, 40, .inl (fun _ => 0))), ((u 4), .inl (g 0, 40, .inl (fun _ => 0))), ((u 5), .inl (g 0, 40, .inl (fun _ => 0)))]) (va_A [(h0, .inr (2, [.null, .null, .null, .null, .null, .null, .int 0]))] sz)) 6 240 (va_A [(h0, .inr (2, [.null, .null, .null, .null, .null, .null, .int 0]))] sz) := by
  refine met_ctor (by decide) rfl (Nat.le_of_ble_eq_true rfl) ?_
  intro p e s m below meth c ls X hin hO hz hP hD0 hl
  obtain ⟨S, hr, hlk, hK⟩ := id X
  obtain ⟨hx, hb, hml, hown, hts⟩ := id S
  subst hz
  have hD := hD0.self (sz := s.heap.size)
  generalize hAe : va_A [(h0, .inr (2, [.null, .null, .null, .null, .null, .null, .int 0]))] s.heap.size = A at hD ⊢
  have hA : ∀ q : Nat, s.heap.size ≤ q → A q := fun q h => by rw [← hAe]; exact Or.inr h
  have hS : va_S A s.heap s.heap [] := va_S.rf
  have hl : lv_has ls 1 [(0, .ref h0)] := hl
  refine lv_aload_n hx hb d_Lexicon_init_0 rfl (lv_at hl 0 rfl) ?_
  refine W.objInit hx hb hown (hts _ q_43) (hts _ q_22) (hts _ q_23) rfl (by rw [hml]; exact hl.1) rfl d_Lexicon_init_1 (Nat.le_of_ble_eq_true rfl) (Nat.le_of_ble_eq_true rfl) ?_
  refine W.eq (g2 := F0 m 4 ls []) rfl ?_
  refine lv_aload_n hx hb d_Lexicon_init_4 rfl (lv_at hl 0 rfl) ?_
  refine lv_bipush (v := 40) hx hb d_Lexicon_init_5 (by decide) ?_
  refine nw_J (g := g) hx hb hts hK hP hD hS hA 40 (by decide) (by decide) (by decide) (Nat.le_of_ble_eq_true rfl) (Nat.le_of_ble_eq_true rfl) d_Lexicon_init_7 (fun q7 H hP hD hS => ?_)
  have hP : va_P D CL [(h0, .inr (2, [.null, .null, .null, .null, .null, .null, .int 0])), (q7, .inl (g 1, 40, .inr (.inl (fun _ => 0))))] H := hP
  have hD : va_D A [(h0, .inr (2, [.null, .null, .null, .null, .null, .null, .int 0])), (q7, .inl (g 1, 40, .inr (.inl (fun _ => 0))))] := hD
  refine W.widen (k := 1) (n := 40) (Nat.le_of_ble_eq_true rfl) (Nat.le_of_ble_eq_true rfl) ?_
  refine va_putF (D := D) (ci := 2) (v := .ref q7) (ty := .array .long) (C := R_Lexicon) (T := T_Lexicon) (N := 7) hx hb hts u_Lexicon t_Lexicon t_Lexicon_ok n_Lexicon hown hK hP hD hS 0 rfl rfl 0 (by decide) (hts _ q_44) (fun _ h9 => h9) rfl hin rfl (by decide +kernel) rfl rfl (Nat.le_of_ble_eq_true rfl) d_Lexicon_init_9 (fun H locs hP hD hS => ?_)
  have hP : va_P D CL [(h0, .inr (2, [.ref q7, .null, .null, .null, .null, .null, .int 0])), (q7, .inl (g 1, 40, .inr (.inl (fun _ => 0))))] H := hP
  have hD : va_D A [(h0, .inr (2, [.ref q7, .null, .null, .null, .null, .null, .int 0])), (q7, .inl (g 1, 40, .inr (.inl (fun _ => 0))))] := hD
  refine lv_aload_n hx hb d_Lexicon_init_12 rfl (lv_at hl 0 rfl) ?_
  refine lv_bipush (v := 40) hx hb d_Lexicon_init_13 (by decide) ?_
  refine nw_I (g := g) hx hb hts hK hP hD hS hA 40 (by decide) (by decide) (by decide) (Nat.le_of_ble_eq_true rfl) (Nat.le_of_ble_eq_true rfl) d_Lexicon_init_15 (fun q15 H hP hD hS => ?_)
  have hP : va_P D CL [(h0, .inr (2, [.ref q7, .null, .null, .null, .null, .null, .int 0])), (q7, .inl (g 1, 40, .inr (.inl (fun _ => 0)))), (q15, .inl (g 0, 40, .inl (fun _ => 0)))] H := hP
  have hD : va_D A [(h0, .inr (2, [.ref q7, .null, .null, .null, .null, .null, .int 0])), (q7, .inl (g 1, 40, .inr (.inl (fun _ => 0)))), (q15, .inl (g 0, 40, .inl (fun _ => 0)))] := hD
  refine W.widen (k := 2) (n := 80) (Nat.le_of_ble_eq_true rfl) (Nat.le_of_ble_eq_true rfl) ?_
  refine va_putF (D := D) (ci := 2) (v := .ref q15) (ty := .array .int) (C := R_Lexicon) (T := T_Lexicon) (N := 7) hx hb hts u_Lexicon t_Lexicon t_Lexicon_ok n_Lexicon hown hK hP hD hS 0 rfl rfl 1 (by decide) (hts _ q_45) (fun _ h9 => h9) rfl hin rfl (by decide +kernel) rfl rfl (Nat.le_of_ble_eq_true rfl) d_Lexicon_init_17 (fun H locs hP hD hS => ?_)
  have hP : va_P D CL [(h0, .inr (2, [.ref q7, .ref q15, .null, .null, .null, .null, .int 0])), (q7, .inl (g 1, 40, .inr (.inl (fun _ => 0)))), (q15, .inl (g 0, 40, .inl (fun _ => 0)))] H := hP
  have hD : va_D A [(h0, .inr (2, [.ref q7, .ref q15, .null, .null, .null, .null, .int 0])), (q7, .inl (g 1, 40, .inr (.inl (fun _ => 0)))), (q15, .inl (g 0, 40, .inl (fun _ => 0)))] := hD
  refine lv_aload_n hx hb d_Lexicon_init_20 rfl (lv_at hl 0 rfl) ?_
  refine lv_bipush (v := 40) hx hb d_Lexicon_init_21 (by decide) ?_
  refine nw_I (g := g) hx hb hts hK hP hD hS hA 40 (by decide) (by decide) (by decide) (Nat.le_of_ble_eq_true rfl) (Nat.le_of_ble_eq_true rfl) d_Lexicon_init_23 (fun q23 H hP hD hS => ?_)
  have hP : va_P D CL [(h0, .inr (2, [.ref q7, .ref q15, .null, .null, .null, .null, .int 0])), (q7, .inl (g 1, 40, .inr (.inl (fun _ => 0)))), (q15, .inl (g 0, 40, .inl (fun _ => 0))), (q23, .inl (g 0, 40, .inl (fun _ => 0)))] H := hP
  have hD : va_D A [(h0, .inr (2, [.ref q7, .ref q15, .null, .null, .null, .null, .int 0])), (q7, .inl (g 1, 40, .inr (.inl (fun _ => 0)))), (q15, .inl (g 0, 40, .inl (fun _ => 0))), (q23, .inl (g 0, 40, .inl (fun _ => 0)))] := hD
  refine W.widen (k := 3) (n := 120) (Nat.le_of_ble_eq_true rfl) (Nat.le_of_ble_eq_true rfl) ?_
  refine va_putF (D := D) (ci := 2) (v := .ref q23) (ty := .array .int) (C := R_Lexicon) (T := T_Lexicon) (N := 7) hx hb hts u_Lexicon t_Lexicon t_Lexicon_ok n_Lexicon hown hK hP hD hS 0 rfl rfl 2 (by decide) (hts _ q_46) (fun _ h9 => h9) rfl hin rfl (by decide +kernel) rfl rfl (Nat.le_of_ble_eq_true rfl) d_Lexicon_init_25 (fun H locs hP hD hS => ?_)
  have hP : va_P D CL [(h0, .inr (2, [.ref q7, .ref q15, .ref q23, .null, .null, .null, .int 0])), (q7, .inl (g 1, 40, .inr (.inl (fun _ => 0)))), (q15, .inl (g 0, 40, .inl (fun _ => 0))), (q23, .inl (g 0, 40, .inl (fun _ => 0)))] H := hP
  have hD : va_D A [(h0, .inr (2, [.ref q7, .ref q15, .ref q23, .null, .null, .null, .int 0])), (q7, .inl (g 1, 40, .inr (.inl (fun _ => 0)))), (q15, .inl (g 0, 40, .inl (fun _ => 0))), (q23, .inl (g 0, 40, .inl (fun _ => 0)))] := hD
  refine lv_aload_n hx hb d_Lexicon_init_28 rfl (lv_at hl 0 rfl) ?_
  refine lv_bipush (v := 40) hx hb d_Lexicon_init_29 (by decide) ?_
  refine nw_I (g := g) hx hb hts hK hP hD hS hA 40 (by decide) (by decide) (by decide) (Nat.le_of_ble_eq_true rfl) (Nat.le_of_ble_eq_true rfl) d_Lexicon_init_31 (fun q31 H hP hD hS => ?_)
  have hP : va_P D CL [(h0, .inr (2, [.ref q7, .ref q15, .ref q23, .null, .null, .null, .int 0])), (q7, .inl (g 1, 40, .inr (.inl (fun _ => 0)))), (q15, .inl (g 0, 40, .inl (fun _ => 0))), (q23, .inl (g 0, 40, .inl (fun _ => 0))), (q31, .inl (g 0, 40, .inl (fun _ => 0)))] H := hP
  have hD : va_D A [(h0, .inr (2, [.ref q7, .ref q15, .ref q23, .null, .null, .null, .int 0])), (q7, .inl (g 1, 40, .inr (.inl (fun _ => 0)))), (q15, .inl (g 0, 40, .inl (fun _ => 0))), (q23, .inl (g 0, 40, .inl (fun _ => 0))), (q31, .inl (g 0, 40, .inl (fun _ => 0)))] := hD
  refine W.widen (k := 4) (n := 160) (Nat.le_of_ble_eq_true rfl) (Nat.le_of_ble_eq_true rfl) ?_
  refine va_putF (D := D) (ci := 2) (v := .ref q31) (ty := .array .int) (C := R_Lexicon) (T := T_Lexicon) (N := 7) hx hb hts u_Lexicon t_Lexicon t_Lexicon_ok n_Lexicon hown hK hP hD hS 0 rfl rfl 3 (by decide) (hts _ q_47) (fun _ h9 => h9) rfl hin rfl (by decide +kernel) rfl rfl (Nat.le_of_ble_eq_true rfl) d_Lexicon_init_33 (fun H locs hP hD hS => ?_)
  have hP : va_P D CL [(h0, .inr (2, [.ref q7, .ref q15, .ref q23, .ref q31, .null, .null, .int 0])), (q7, .inl (g 1, 40, .inr (.inl (fun _ => 0)))), (q15, .inl (g 0, 40, .inl (fun _ => 0))), (q23, .inl (g 0, 40, .inl (fun _ => 0))), (q31, .inl (g 0, 40, .inl (fun _ => 0)))] H := hP
  have hD : va_D A [(h0, .inr (2, [.ref q7, .ref q15, .ref q23, .ref q31, .null, .null, .int 0])), (q7, .inl (g 1, 40, .inr (.inl (fun _ => 0)))), (q15, .inl (g 0, 40, .inl (fun _ => 0))), (q23, .inl (g 0, 40, .inl (fun _ => 0))), (q31, .inl (g 0, 40, .inl (fun _ => 0)))] := hD
  refine lv_aload_n hx hb d_Lexicon_init_36 rfl (lv_at hl 0 rfl) ?_
  refine lv_bipush (v := 40) hx hb d_Lexicon_init_37 (by decide) ?_
  refine nw_I (g := g) hx hb hts hK hP hD hS hA 40 (by decide) (by decide) (by decide) (Nat.le_of_ble_eq_true rfl) (Nat.le_of_ble_eq_true rfl) d_Lexicon_init_39 (fun q39 H hP hD hS => ?_)
  have hP : va_P D CL [(h0, .inr (2, [.ref q7, .ref q15, .ref q23, .ref q31, .null, .null, .int 0])), (q7, .inl (g 1, 40, .inr (.inl (fun _ => 0)))), (q15, .inl (g 0, 40, .inl (fun _ => 0))), (q23, .inl (g 0, 40, .inl (fun _ => 0))), (q31, .inl (g 0, 40, .inl (fun _ => 0))), (q39, .inl (g 0, 40, .inl (fun _ => 0)))] H := hP
  have hD : va_D A [(h0, .inr (2, [.ref q7, .ref q15, .ref q23, .ref q31, .null, .null, .int 0])), (q7, .inl (g 1, 40, .inr (.inl (fun _ => 0)))), (q15, .inl (g 0, 40, .inl (fun _ => 0))), (q23, .inl (g 0, 40, .inl (fun _ => 0))), (q31, .inl (g 0, 40, .inl (fun _ => 0))), (q39, .inl (g 0, 40, .inl (fun _ => 0)))] := hD
  refine W.widen (k := 5) (n := 200) (Nat.le_of_ble_eq_true rfl) (Nat.le_of_ble_eq_true rfl) ?_
  refine va_putF (D := D) (ci := 2) (v := .ref q39) (ty := .array .int) (C := R_Lexicon) (T := T_Lexicon) (N := 7) hx hb hts u_Lexicon t_Lexicon t_Lexicon_ok n_Lexicon hown hK hP hD hS 0 rfl rfl 4 (by decide) (hts _ q_48) (fun _ h9 => h9) rfl hin rfl (by decide +kernel) rfl rfl (Nat.le_of_ble_eq_true rfl) d_Lexicon_init_41 (fun H locs hP hD hS => ?_)
  have hP : va_P D CL [(h0, .inr (2, [.ref q7, .ref q15, .ref q23, .ref q31, .ref q39, .null, .int 0])), (q7, .inl (g 1, 40, .inr (.inl (fun _ => 0)))), (q15, .inl (g 0, 40, .inl (fun _ => 0))), (q23, .inl (g 0, 40, .inl (fun _ => 0))), (q31, .inl (g 0, 40, .inl (fun _ => 0))), (q39, .inl (g 0, 40, .inl (fun _ => 0)))] H := hP
  have hD : va_D A [(h0, .inr (2, [.ref q7, .ref q15, .ref q23, .ref q31, .ref q39, .null, .int 0])), (q7, .inl (g 1, 40, .inr (.inl (fun _ => 0)))), (q15, .inl (g 0, 40, .inl (fun _ => 0))), (q23, .inl (g 0, 40, .inl (fun _ => 0))), (q31, .inl (g 0, 40, .inl (fun _ => 0))), (q39, .inl (g 0, 40, .inl (fun _ => 0)))] := hD
  refine lv_aload_n hx hb d_Lexicon_init_44 rfl (lv_at hl 0 rfl) ?_
  refine lv_bipush (v := 40) hx hb d_Lexicon_init_45 (by decide) ?_
  refine nw_I (g := g) hx hb hts hK hP hD hS hA 40 (by decide) (by decide) (by decide) (Nat.le_of_ble_eq_true rfl) (Nat.le_of_ble_eq_true rfl) d_Lexicon_init_47 (fun q47 H hP hD hS => ?_)
  have hP : va_P D CL [(h0, .inr (2, [.ref q7, .ref q15, .ref q23, .ref q31, .ref q39, .null, .int 0])), (q7, .inl (g 1, 40, .inr (.inl (fun _ => 0)))), (q15, .inl (g 0, 40, .inl (fun _ => 0))), (q23, .inl (g 0, 40, .inl (fun _ => 0))), (q31, .inl (g 0, 40, .inl (fun _ => 0))), (q39, .inl (g 0, 40, .inl (fun _ => 0))), (q47, .inl (g 0, 40, .inl (fun _ => 0)))] H := hP
  have hD : va_D A [(h0, .inr (2, [.ref q7, .ref q15, .ref q23, .ref q31, .ref q39, .null, .int 0])), (q7, .inl (g 1, 40, .inr (.inl (fun _ => 0)))), (q15, .inl (g 0, 40, .inl (fun _ => 0))), (q23, .inl (g 0, 40, .inl (fun _ => 0))), (q31, .inl (g 0, 40, .inl (fun _ => 0))), (q39, .inl (g 0, 40, .inl (fun _ => 0))), (q47, .inl (g 0, 40, .inl (fun _ => 0)))] := hD
  refine W.widen (k := 6) (n := 240) (Nat.le_of_ble_eq_true rfl) (Nat.le_of_ble_eq_true rfl) ?_
  refine va_putF (D := D) (ci := 2) (v := .ref q47) (ty := .array .int) (C := R_Lexicon) (T := T_Lexicon) (N := 7) hx hb hts u_Lexicon t_Lexicon t_Lexicon_ok n_Lexicon hown hK hP hD hS 0 rfl rfl 5 (by decide) (hts _ q_49) (fun _ h9 => h9) rfl hin rfl (by decide +kernel) rfl rfl (Nat.le_of_ble_eq_true rfl) d_Lexicon_init_49 (fun H locs hP hD hS => ?_)
  have hP : va_P D CL [(h0, .inr (2, [.ref q7, .ref q15, .ref q23, .ref q31, .ref q39, .ref q47, .int 0])), (q7, .inl (g 1, 40, .inr (.inl (fun _ => 0)))), (q15, .inl (g 0, 40, .inl (fun _ => 0))), (q23, .inl (g 0, 40, .inl (fun _ => 0))), (q31, .inl (g 0, 40, .inl (fun _ => 0))), (q39, .inl (g 0, 40, .inl (fun _ => 0))), (q47, .inl (g 0, 40, .inl (fun _ => 0)))] H := hP
  have hD : va_D A [(h0, .inr (2, [.ref q7, .ref q15, .ref q23, .ref q31, .ref q39, .ref q47, .int 0])), (q7, .inl (g 1, 40, .inr (.inl (fun _ => 0)))), (q15, .inl (g 0, 40, .inl (fun _ => 0))), (q23, .inl (g 0, 40, .inl (fun _ => 0))), (q31, .inl (g 0, 40, .inl (fun _ => 0))), (q39, .inl (g 0, 40, .inl (fun _ => 0))), (q47, .inl (g 0, 40, .inl (fun _ => 0)))] := hD
  refine lv_aload_n hx hb d_Lexicon_init_52 rfl (lv_at hl 0 rfl) ?_
  refine lv_iconst (v := 0) hx hb d_Lexicon_init_53 (by decide) ?_
  refine va_put (D := D) (ci := 2) (v := .int (0 : Int32)) (ty := .int) (C := R_Lexicon) (T := T_Lexicon) (N := 7) hx hb hts u_Lexicon t_Lexicon t_Lexicon_ok n_Lexicon hown hK hP hD hS 0 rfl rfl 6 (by decide) (hts _ q_50) (fun _ h9 => h9) rfl (by decide +kernel) rfl rfl (Nat.le_of_ble_eq_true rfl) d_Lexicon_init_54 (fun H locs hP hD hS => ?_)
  have hP : va_P D CL [(h0, .inr (2, [.ref q7, .ref q15, .ref q23, .ref q31, .ref q39, .ref q47, .int 0])), (q7, .inl (g 1, 40, .inr (.inl (fun _ => 0)))), (q15, .inl (g 0, 40, .inl (fun _ => 0))), (q23, .inl (g 0, 40, .inl (fun _ => 0))), (q31, .inl (g 0, 40, .inl (fun _ => 0))), (q39, .inl (g 0, 40, .inl (fun _ => 0))), (q47, .inl (g 0, 40, .inl (fun _ => 0)))] H := hP
  have hD : va_D A [(h0, .inr (2, [.ref q7, .ref q15, .ref q23, .ref q31, .ref q39, .ref q47, .int 0])), (q7, .inl (g 1, 40, .inr (.inl (fun _ => 0)))), (q15, .inl (g 0, 40, .inl (fun _ => 0))), (q23, .inl (g 0, 40, .inl (fun _ => 0))), (q31, .inl (g 0, 40, .inl (fun _ => 0))), (q39, .inl (g 0, 40, .inl (fun _ => 0))), (q47, .inl (g 0, 40, .inl (fun _ => 0)))] := hD
  exact W.vret hx hb hr (fun t ht _ => ⟨rfl, ⟨(fun k => match k with | 0 => q7 | 1 => q15 | 2 => q23 | 3 => q31 | 4 => q39 | _ => q47 : Nat → Nat), by rw [ht]; exact hP.sub [0, 1, 2, 3, 4, 5, 6] rfl, hD.sub [0, 1, 2, 3, 4, 5, 6] (by decide) rfl⟩, hS.F ht⟩) hS.2.2 d_Lexicon_init_57
theorem d_Grammar_init_0 : decode b_Grammar_init 0 = .ok (.aload_n 0, 1) := by decide +kernel
theorem d_Grammar_init_1 : decode b_Grammar_init 1 = .ok (.invokespecial 3, 3) := by decide +kernel
theorem d_Grammar_init_4 : decode b_Grammar_init 4 = .ok (.aload_n 0, 1) := by decide +kernel
theorem d_Grammar_init_5 : decode b_Grammar_init 5 = .ok (.iconst 4, 1) := by decide +kernel
theorem d_Grammar_init_6 : decode b_Grammar_init 6 = .ok (.newarray .int, 2) := by decide +kernel
theorem d_Grammar_init_8 : decode b_Grammar_init 8 = .ok (.putfield 9, 3) := by decide +kernel
theorem d_Grammar_init_11 : decode b_Grammar_init 11 = .ok (.aload_n 0, 1) := by decide +kernel
theorem d_Grammar_init_12 : decode b_Grammar_init 12 = .ok (.iconst 4, 1) := by decide +kernel
theorem d_Grammar_init_13 : decode b_Grammar_init 13 = .ok (.newarray .int, 2) := by decide +kernel
theorem d_Grammar_init_15 : decode b_Grammar_init 15 = .ok (.putfield 15, 3) := by decide +kernel
theorem d_Grammar_init_18 : decode b_Grammar_init 18 = .ok (.aload_n 0, 1) := by decide +kernel
theorem d_Grammar_init_19 : decode b_Grammar_init 19 = .ok (.iconst 4, 1) := by decide +kernel
theorem d_Grammar_init_20 : decode b_Grammar_init 20 = .ok (.newarray .int, 2) := by decide +kernel
theorem d_Grammar_init_22 : decode b_Grammar_init 22 = .ok (.putfield 18, 3) := by decide +kernel
theorem d_Grammar_init_25 : decode b_Grammar_init 25 = .ok (.aload_n 0, 1) := by decide +kernel
theorem d_Grammar_init_26 : decode b_Grammar_init 26 = .ok (.getfield 15, 3) := by decide +kernel
theorem d_Grammar_init_29 : decode b_Grammar_init 29 = .ok (.iconst 1, 1) := by decide +kernel
theorem d_Grammar_init_30 : decode b_Grammar_init 30 = .ok (.invokestatic 21, 3) := by decide +kernel
theorem d_Grammar_init_33 : decode b_Grammar_init 33 = .ok (.aload_n 0, 1) := by decide +kernel
theorem d_Grammar_init_34 : decode b_Grammar_init 34 = .ok (.bipush 64, 2) := by decide +kernel
theorem d_Grammar_init_36 : decode b_Grammar_init 36 = .ok (.newarray .int, 2) := by decide +kernel
theorem d_Grammar_init_38 : decode b_Grammar_init 38 = .ok (.putfield 27, 3) := by decide +kernel
theorem d_Grammar_init_41 : decode b_Grammar_init 41 = .ok (.aload_n 0, 1) := by decide +kernel
theorem d_Grammar_init_42 : decode b_Grammar_init 42 = .ok (.iconst 0, 1) := by decide +kernel
theorem d_Grammar_init_43 : decode b_Grammar_init 43 = .ok (.putfield 30, 3) := by decide +kernel
theorem d_Grammar_init_46 : decode b_Grammar_init 46 = .ok (.aload_n 0, 1) := by decide +kernel
theorem d_Grammar_init_47 : decode b_Grammar_init 47 = .ok (.iconst 0, 1) := by decide +kernel
theorem d_Grammar_init_48 : decode b_Grammar_init 48 = .ok (.putfield 34, 3) := by decide +kernel
theorem d_Grammar_init_51 : decode b_Grammar_init 51 = .ok (.return_, 1) := by decide +kernel
abbrev rm_Grammar_init : Room := { frames := 2, cells := 4, slots := 76, locals := 23 }
set_option maxHeartbeats 8000000 in
set_option maxRecDepth 100000 in
theorem k_Grammar_init {l : Launch} {D : va_G} {g : Nat → ClassId} (h0 sz : Nat) : Met l y_Grammar_init (Cond.code y_Grammar_init b_Grammar_init 1 none :: ww) rm_Grammar_init (CP D (TY g) [(h0, .inr (3, [.null, .null, .null, .null, .int 0, .int 0]))] sz [.ref h0]) (CQ D (fun u => [(h0, .inr (3, [.ref (u 0), .ref (u 1), .ref (u 2), .ref (u 3), .int 0, .int 0])), ((u 0), .inl (g 0, 4, .inl (fun _ => 0))), ((u 1), .inl (g 0, 4, .inl F4)), ((u 2), .inl (g 0, 4, .inl (fun _ => 0))), ((u 3), .inl (g 0, 64, .inl (fun _ => 0)))]) (va_A [(h0, .inr (3, [.null, .null, .null, .null, .int 0, .int 0]))] sz)) 4 76 (va_A [(h0, .inr (3, [.null, .null, .null, .null, .int 0, .int 0]))] sz) := by
  refine met_ctor (by decide) rfl (Nat.le_of_ble_eq_true rfl) ?_
  intro p e s m below meth c ls X hin hO hz hP hD0 hl
  obtain ⟨S, hr, hlk, hK⟩ := id X
  obtain ⟨hx, hb, hml, hown, hts⟩ := id S
  subst hz
  have hD := hD0.self (sz := s.heap.size)
  generalize hAe : va_A [(h0, .inr (3, [.null, .null, .null, .null, .int 0, .int 0]))] s.heap.size = A at hD ⊢
  have hA : ∀ q : Nat, s.heap.size ≤ q → A q := fun q h => by rw [← hAe]; exact Or.inr h
  have hS : va_S A s.heap s.heap [] := va_S.rf
  have hl : lv_has ls 1 [(0, .ref h0)] := hl
  refine lv_aload_n hx hb d_Grammar_init_0 rfl (lv_at hl 0 rfl) ?_
  refine W.objInit hx hb hown (hts _ q_72) (hts _ q_22) (hts _ q_23) rfl (by rw [hml]; exact hl.1) rfl d_Grammar_init_1 (Nat.le_of_ble_eq_true rfl) (Nat.le_of_ble_eq_true rfl) ?_
  refine W.eq (g2 := F0 m 4 ls []) rfl ?_
  refine lv_aload_n hx hb d_Grammar_init_4 rfl (lv_at hl 0 rfl) ?_
  refine lv_iconst (v := 4) hx hb d_Grammar_init_5 (by decide) ?_
  refine nw_I (g := g) hx hb hts hK hP hD hS hA 4 (by decide) (by decide) (by decide) (Nat.le_of_ble_eq_true rfl) (Nat.le_of_ble_eq_true rfl) d_Grammar_init_6 (fun q6 H hP hD hS => ?_)
  have hP : va_P D CL [(h0, .inr (3, [.null, .null, .null, .null, .int 0, .int 0])), (q6, .inl (g 0, 4, .inl (fun _ => 0)))] H := hP
  have hD : va_D A [(h0, .inr (3, [.null, .null, .null, .null, .int 0, .int 0])), (q6, .inl (g 0, 4, .inl (fun _ => 0)))] := hD
  refine W.widen (k := 1) (n := 4) (Nat.le_of_ble_eq_true rfl) (Nat.le_of_ble_eq_true rfl) ?_
  refine va_putF (D := D) (ci := 3) (v := .ref q6) (ty := .array .int) (C := R_Grammar) (T := T_Grammar) (N := 6) hx hb hts u_Grammar t_Grammar t_Grammar_ok n_Grammar hown hK hP hD hS 0 rfl rfl 0 (by decide) (hts _ q_76) (fun _ h9 => h9) rfl hin rfl (by decide +kernel) rfl rfl (Nat.le_of_ble_eq_true rfl) d_Grammar_init_8 (fun H locs hP hD hS => ?_)
  have hP : va_P D CL [(h0, .inr (3, [.ref q6, .null, .null, .null, .int 0, .int 0])), (q6, .inl (g 0, 4, .inl (fun _ => 0)))] H := hP
  have hD : va_D A [(h0, .inr (3, [.ref q6, .null, .null, .null, .int 0, .int 0])), (q6, .inl (g 0, 4, .inl (fun _ => 0)))] := hD
  refine lv_aload_n hx hb d_Grammar_init_11 rfl (lv_at hl 0 rfl) ?_
  refine lv_iconst (v := 4) hx hb d_Grammar_init_12 (by decide) ?_
  refine nw_I (g := g) hx hb hts hK hP hD hS hA 4 (by decide) (by decide) (by decide) (Nat.le_of_ble_eq_true rfl) (Nat.le_of_ble_eq_true rfl) d_Grammar_init_13 (fun q13 H hP hD hS => ?_)
  have hP : va_P D CL [(h0, .inr (3, [.ref q6, .null, .null, .null, .int 0, .int 0])), (q6, .inl (g 0, 4, .inl (fun _ => 0))), (q13, .inl (g 0, 4, .inl (fun _ => 0)))] H := hP
  have hD : va_D A [(h0, .inr (3, [.ref q6, .null, .null, .null, .int 0, .int 0])), (q6, .inl (g 0, 4, .inl (fun _ => 0))), (q13, .inl (g 0, 4, .inl (fun _ => 0)))] := hD
  refine W.widen (k := 2) (n := 8) (Nat.le_of_ble_eq_true rfl) (Nat.le_of_ble_eq_true rfl) ?_
  refine va_putF (D := D) (ci := 3) (v := .ref q13) (ty := .array .int) (C := R_Grammar) (T := T_Grammar) (N := 6) hx hb hts u_Grammar t_Grammar t_Grammar_ok n_Grammar hown hK hP hD hS 0 rfl rfl 1 (by decide) (hts _ q_77) (fun _ h9 => h9) rfl hin rfl (by decide +kernel) rfl rfl (Nat.le_of_ble_eq_true rfl) d_Grammar_init_15 (fun H locs hP hD hS => ?_)
  have hP : va_P D CL [(h0, .inr (3, [.ref q6, .ref q13, .null, .null, .int 0, .int 0])), (q6, .inl (g 0, 4, .inl (fun _ => 0))), (q13, .inl (g 0, 4, .inl (fun _ => 0)))] H := hP
  have hD : va_D A [(h0, .inr (3, [.ref q6, .ref q13, .null, .null, .int 0, .int 0])), (q6, .inl (g 0, 4, .inl (fun _ => 0))), (q13, .inl (g 0, 4, .inl (fun _ => 0)))] := hD
  refine lv_aload_n hx hb d_Grammar_init_18 rfl (lv_at hl 0 rfl) ?_
  refine lv_iconst (v := 4) hx hb d_Grammar_init_19 (by decide) ?_
  refine nw_I (g := g) hx hb hts hK hP hD hS hA 4 (by decide) (by decide) (by decide) (Nat.le_of_ble_eq_true rfl) (Nat.le_of_ble_eq_true rfl) d_Grammar_init_20 (fun q20 H hP hD hS => ?_)
  have hP : va_P D CL [(h0, .inr (3, [.ref q6, .ref q13, .null, .null, .int 0, .int 0])), (q6, .inl (g 0, 4, .inl (fun _ => 0))), (q13, .inl (g 0, 4, .inl (fun _ => 0))), (q20, .inl (g 0, 4, .inl (fun _ => 0)))] H := hP
  have hD : va_D A [(h0, .inr (3, [.ref q6, .ref q13, .null, .null, .int 0, .int 0])), (q6, .inl (g 0, 4, .inl (fun _ => 0))), (q13, .inl (g 0, 4, .inl (fun _ => 0))), (q20, .inl (g 0, 4, .inl (fun _ => 0)))] := hD
  refine W.widen (k := 3) (n := 12) (Nat.le_of_ble_eq_true rfl) (Nat.le_of_ble_eq_true rfl) ?_
  refine va_putF (D := D) (ci := 3) (v := .ref q20) (ty := .array .int) (C := R_Grammar) (T := T_Grammar) (N := 6) hx hb hts u_Grammar t_Grammar t_Grammar_ok n_Grammar hown hK hP hD hS 0 rfl rfl 2 (by decide) (hts _ q_78) (fun _ h9 => h9) rfl hin rfl (by decide +kernel) rfl rfl (Nat.le_of_ble_eq_true rfl) d_Grammar_init_22 (fun H locs hP hD hS => ?_)
  have hP : va_P D CL [(h0, .inr (3, [.ref q6, .ref q13, .ref q20, .null, .int 0, .int 0])), (q6, .inl (g 0, 4, .inl (fun _ => 0))), (q13, .inl (g 0, 4, .inl (fun _ => 0))), (q20, .inl (g 0, 4, .inl (fun _ => 0)))] H := hP
  have hD : va_D A [(h0, .inr (3, [.ref q6, .ref q13, .ref q20, .null, .int 0, .int 0])), (q6, .inl (g 0, 4, .inl (fun _ => 0))), (q13, .inl (g 0, 4, .inl (fun _ => 0))), (q20, .inl (g 0, 4, .inl (fun _ => 0)))] := hD
  refine lv_aload_n hx hb d_Grammar_init_25 rfl (lv_at hl 0 rfl) ?_
  refine va_get (ci := 3) (v := .ref q13) (C := R_Grammar) (T := T_Grammar) (N := 6) hx hb hts u_Grammar hown hK hP 0 rfl rfl 1 (by decide) (hts _ q_77) (fun _ h9 => h9) rfl d_Grammar_init_26 ?_
  refine lv_iconst (v := 1) hx hb d_Grammar_init_29 (by decide) ?_
  refine fill4 (g := g) S q_73 hK hP hD hS 2 rfl ⟨Nat.le_of_ble_eq_true rfl, Nat.le_of_ble_eq_true rfl⟩ hl.1 (Nat.le_of_ble_eq_true rfl) (Nat.le_refl _) d_Grammar_init_30 ⟨Nat.le_of_ble_eq_true rfl, Nat.le_of_ble_eq_true rfl⟩ (fun H locs hP hD hS => ?_)
  have hP : va_P D CL [(h0, .inr (3, [.ref q6, .ref q13, .ref q20, .null, .int 0, .int 0])), (q6, .inl (g 0, 4, .inl (fun _ => 0))), (q13, .inl (g 0, 4, .inl F4)), (q20, .inl (g 0, 4, .inl (fun _ => 0)))] H := hP
  have hD : va_D A [(h0, .inr (3, [.ref q6, .ref q13, .ref q20, .null, .int 0, .int 0])), (q6, .inl (g 0, 4, .inl (fun _ => 0))), (q13, .inl (g 0, 4, .inl F4)), (q20, .inl (g 0, 4, .inl (fun _ => 0)))] := hD
  refine lv_aload_n hx hb d_Grammar_init_33 rfl (lv_at hl 0 rfl) ?_
  refine lv_bipush (v := 64) hx hb d_Grammar_init_34 (by decide) ?_
  refine nw_I (g := g) hx hb hts hK hP hD hS hA 64 (by decide) (by decide) (by decide) (Nat.le_of_ble_eq_true rfl) (Nat.le_of_ble_eq_true rfl) d_Grammar_init_36 (fun q36 H hP hD hS => ?_)
  have hP : va_P D CL [(h0, .inr (3, [.ref q6, .ref q13, .ref q20, .null, .int 0, .int 0])), (q6, .inl (g 0, 4, .inl (fun _ => 0))), (q13, .inl (g 0, 4, .inl F4)), (q20, .inl (g 0, 4, .inl (fun _ => 0))), (q36, .inl (g 0, 64, .inl (fun _ => 0)))] H := hP
  have hD : va_D A [(h0, .inr (3, [.ref q6, .ref q13, .ref q20, .null, .int 0, .int 0])), (q6, .inl (g 0, 4, .inl (fun _ => 0))), (q13, .inl (g 0, 4, .inl F4)), (q20, .inl (g 0, 4, .inl (fun _ => 0))), (q36, .inl (g 0, 64, .inl (fun _ => 0)))] := hD
  refine W.widen (k := 4) (n := 76) (Nat.le_of_ble_eq_true rfl) (Nat.le_of_ble_eq_true rfl) ?_
  refine va_putF (D := D) (ci := 3) (v := .ref q36) (ty := .array .int) (C := R_Grammar) (T := T_Grammar) (N := 6) hx hb hts u_Grammar t_Grammar t_Grammar_ok n_Grammar hown hK hP hD hS 0 rfl rfl 3 (by decide) (hts _ q_79) (fun _ h9 => h9) rfl hin rfl (by decide +kernel) rfl rfl (Nat.le_of_ble_eq_true rfl) d_Grammar_init_38 (fun H locs hP hD hS => ?_)
  have hP : va_P D CL [(h0, .inr (3, [.ref q6, .ref q13, .ref q20, .ref q36, .int 0, .int 0])), (q6, .inl (g 0, 4, .inl (fun _ => 0))), (q13, .inl (g 0, 4, .inl F4)), (q20, .inl (g 0, 4, .inl (fun _ => 0))), (q36, .inl (g 0, 64, .inl (fun _ => 0)))] H := hP
  have hD : va_D A [(h0, .inr (3, [.ref q6, .ref q13, .ref q20, .ref q36, .int 0, .int 0])), (q6, .inl (g 0, 4, .inl (fun _ => 0))), (q13, .inl (g 0, 4, .inl F4)), (q20, .inl (g 0, 4, .inl (fun _ => 0))), (q36, .inl (g 0, 64, .inl (fun _ => 0)))] := hD
  refine lv_aload_n hx hb d_Grammar_init_41 rfl (lv_at hl 0 rfl) ?_
  refine lv_iconst (v := 0) hx hb d_Grammar_init_42 (by decide) ?_
  refine va_put (D := D) (ci := 3) (v := .int (0 : Int32)) (ty := .int) (C := R_Grammar) (T := T_Grammar) (N := 6) hx hb hts u_Grammar t_Grammar t_Grammar_ok n_Grammar hown hK hP hD hS 0 rfl rfl 4 (by decide) (hts _ q_80) (fun _ h9 => h9) rfl (by decide +kernel) rfl rfl (Nat.le_of_ble_eq_true rfl) d_Grammar_init_43 (fun H locs hP hD hS => ?_)
  have hP : va_P D CL [(h0, .inr (3, [.ref q6, .ref q13, .ref q20, .ref q36, .int 0, .int 0])), (q6, .inl (g 0, 4, .inl (fun _ => 0))), (q13, .inl (g 0, 4, .inl F4)), (q20, .inl (g 0, 4, .inl (fun _ => 0))), (q36, .inl (g 0, 64, .inl (fun _ => 0)))] H := hP
  have hD : va_D A [(h0, .inr (3, [.ref q6, .ref q13, .ref q20, .ref q36, .int 0, .int 0])), (q6, .inl (g 0, 4, .inl (fun _ => 0))), (q13, .inl (g 0, 4, .inl F4)), (q20, .inl (g 0, 4, .inl (fun _ => 0))), (q36, .inl (g 0, 64, .inl (fun _ => 0)))] := hD
  refine lv_aload_n hx hb d_Grammar_init_46 rfl (lv_at hl 0 rfl) ?_
  refine lv_iconst (v := 0) hx hb d_Grammar_init_47 (by decide) ?_
  refine va_put (D := D) (ci := 3) (v := .int (0 : Int32)) (ty := .int) (C := R_Grammar) (T := T_Grammar) (N := 6) hx hb hts u_Grammar t_Grammar t_Grammar_ok n_Grammar hown hK hP hD hS 0 rfl rfl 5 (by decide) (hts _ q_81) (fun _ h9 => h9) rfl (by decide +kernel) rfl rfl (Nat.le_of_ble_eq_true rfl) d_Grammar_init_48 (fun H locs hP hD hS => ?_)
  have hP : va_P D CL [(h0, .inr (3, [.ref q6, .ref q13, .ref q20, .ref q36, .int 0, .int 0])), (q6, .inl (g 0, 4, .inl (fun _ => 0))), (q13, .inl (g 0, 4, .inl F4)), (q20, .inl (g 0, 4, .inl (fun _ => 0))), (q36, .inl (g 0, 64, .inl (fun _ => 0)))] H := hP
  have hD : va_D A [(h0, .inr (3, [.ref q6, .ref q13, .ref q20, .ref q36, .int 0, .int 0])), (q6, .inl (g 0, 4, .inl (fun _ => 0))), (q13, .inl (g 0, 4, .inl F4)), (q20, .inl (g 0, 4, .inl (fun _ => 0))), (q36, .inl (g 0, 64, .inl (fun _ => 0)))] := hD
  exact W.vret hx hb hr (fun t ht _ => ⟨rfl, ⟨(fun k => match k with | 0 => q6 | 1 => q13 | 2 => q20 | _ => q36 : Nat → Nat), by rw [ht]; exact hP.sub [0, 1, 2, 3, 4] rfl, hD.sub [0, 1, 2, 3, 4] (by decide) rfl⟩, hS.F ht⟩) hS.2.2 d_Grammar_init_51
theorem d_Filters_init_0 : decode b_Filters_init 0 = .ok (.aload_n 0, 1) := by decide +kernel
theorem d_Filters_init_1 : decode b_Filters_init 1 = .ok (.invokespecial 3, 3) := by decide +kernel
theorem d_Filters_init_4 : decode b_Filters_init 4 = .ok (.aload_n 0, 1) := by decide +kernel
theorem d_Filters_init_5 : decode b_Filters_init 5 = .ok (.bipush 6, 2) := by decide +kernel
theorem d_Filters_init_7 : decode b_Filters_init 7 = .ok (.newarray .int, 2) := by decide +kernel
theorem d_Filters_init_9 : decode b_Filters_init 9 = .ok (.putfield 9, 3) := by decide +kernel
theorem d_Filters_init_12 : decode b_Filters_init 12 = .ok (.aload_n 0, 1) := by decide +kernel
theorem d_Filters_init_13 : decode b_Filters_init 13 = .ok (.bipush 6, 2) := by decide +kernel
theorem d_Filters_init_15 : decode b_Filters_init 15 = .ok (.newarray .int, 2) := by decide +kernel
theorem d_Filters_init_17 : decode b_Filters_init 17 = .ok (.putfield 15, 3) := by decide +kernel
theorem d_Filters_init_20 : decode b_Filters_init 20 = .ok (.aload_n 0, 1) := by decide +kernel
theorem d_Filters_init_21 : decode b_Filters_init 21 = .ok (.iconst 0, 1) := by decide +kernel
theorem d_Filters_init_22 : decode b_Filters_init 22 = .ok (.putfield 18, 3) := by decide +kernel
theorem d_Filters_init_25 : decode b_Filters_init 25 = .ok (.return_, 1) := by decide +kernel
abbrev rm_Filters_init : Room := { frames := 1, cells := 2, slots := 12, locals := 12 }
set_option maxHeartbeats 8000000 in
set_option maxRecDepth 100000 in
theorem k_Filters_init {l : Launch} {D : va_G} {g : Nat → ClassId} (h0 sz : Nat) : Met l y_Filters_init (Cond.code y_Filters_init b_Filters_init 1 none :: ww) rm_Filters_init (CP D (TY g) [(h0, .inr (4, [.null, .null, .int 0]))] sz [.ref h0]) (CQ D (fun u => [(h0, .inr (4, [.ref (u 0), .ref (u 1), .int 0])), ((u 0), .inl (g 0, 6, .inl (fun _ => 0))), ((u 1), .inl (g 0, 6, .inl (fun _ => 0)))]) (va_A [(h0, .inr (4, [.null, .null, .int 0]))] sz)) 2 12 (va_A [(h0, .inr (4, [.null, .null, .int 0]))] sz) := by
  refine met_ctor (by decide) rfl (Nat.le_of_ble_eq_true rfl) ?_
  intro p e s m below meth c ls X hin hO hz hP hD0 hl
  obtain ⟨S, hr, hlk, hK⟩ := id X
  obtain ⟨hx, hb, hml, hown, hts⟩ := id S
  subst hz
  have hD := hD0.self (sz := s.heap.size)
  generalize hAe : va_A [(h0, .inr (4, [.null, .null, .int 0]))] s.heap.size = A at hD ⊢
  have hA : ∀ q : Nat, s.heap.size ≤ q → A q := fun q h => by rw [← hAe]; exact Or.inr h
  have hS : va_S A s.heap s.heap [] := va_S.rf
  have hl : lv_has ls 1 [(0, .ref h0)] := hl
  refine lv_aload_n hx hb d_Filters_init_0 rfl (lv_at hl 0 rfl) ?_
  refine W.objInit hx hb hown (hts _ q_100) (hts _ q_22) (hts _ q_23) rfl (by rw [hml]; exact hl.1) rfl d_Filters_init_1 (Nat.le_of_ble_eq_true rfl) (Nat.le_of_ble_eq_true rfl) ?_
  refine W.eq (g2 := F0 m 4 ls []) rfl ?_
  refine lv_aload_n hx hb d_Filters_init_4 rfl (lv_at hl 0 rfl) ?_
  refine lv_bipush (v := 6) hx hb d_Filters_init_5 (by decide) ?_
  refine nw_I (g := g) hx hb hts hK hP hD hS hA 6 (by decide) (by decide) (by decide) (Nat.le_of_ble_eq_true rfl) (Nat.le_of_ble_eq_true rfl) d_Filters_init_7 (fun q7 H hP hD hS => ?_)
  have hP : va_P D CL [(h0, .inr (4, [.null, .null, .int 0])), (q7, .inl (g 0, 6, .inl (fun _ => 0)))] H := hP
  have hD : va_D A [(h0, .inr (4, [.null, .null, .int 0])), (q7, .inl (g 0, 6, .inl (fun _ => 0)))] := hD
  refine W.widen (k := 1) (n := 6) (Nat.le_of_ble_eq_true rfl) (Nat.le_of_ble_eq_true rfl) ?_
  refine va_putF (D := D) (ci := 4) (v := .ref q7) (ty := .array .int) (C := R_Filters) (T := T_Filters) (N := 3) hx hb hts u_Filters t_Filters t_Filters_ok n_Filters hown hK hP hD hS 0 rfl rfl 0 (by decide) (hts _ q_101) (fun _ h9 => h9) rfl hin rfl (by decide +kernel) rfl rfl (Nat.le_of_ble_eq_true rfl) d_Filters_init_9 (fun H locs hP hD hS => ?_)
  have hP : va_P D CL [(h0, .inr (4, [.ref q7, .null, .int 0])), (q7, .inl (g 0, 6, .inl (fun _ => 0)))] H := hP
  have hD : va_D A [(h0, .inr (4, [.ref q7, .null, .int 0])), (q7, .inl (g 0, 6, .inl (fun _ => 0)))] := hD
  refine lv_aload_n hx hb d_Filters_init_12 rfl (lv_at hl 0 rfl) ?_
  refine lv_bipush (v := 6) hx hb d_Filters_init_13 (by decide) ?_
  refine nw_I (g := g) hx hb hts hK hP hD hS hA 6 (by decide) (by decide) (by decide) (Nat.le_of_ble_eq_true rfl) (Nat.le_of_ble_eq_true rfl) d_Filters_init_15 (fun q15 H hP hD hS => ?_)
  have hP : va_P D CL [(h0, .inr (4, [.ref q7, .null, .int 0])), (q7, .inl (g 0, 6, .inl (fun _ => 0))), (q15, .inl (g 0, 6, .inl (fun _ => 0)))] H := hP
  have hD : va_D A [(h0, .inr (4, [.ref q7, .null, .int 0])), (q7, .inl (g 0, 6, .inl (fun _ => 0))), (q15, .inl (g 0, 6, .inl (fun _ => 0)))] := hD
  refine W.widen (k := 2) (n := 12) (Nat.le_of_ble_eq_true rfl) (Nat.le_of_ble_eq_true rfl) ?_
  refine va_putF (D := D) (ci := 4) (v := .ref q15) (ty := .array .int) (C := R_Filters) (T := T_Filters) (N := 3) hx hb hts u_Filters t_Filters t_Filters_ok n_Filters hown hK hP hD hS 0 rfl rfl 1 (by decide) (hts _ q_102) (fun _ h9 => h9) rfl hin rfl (by decide +kernel) rfl rfl (Nat.le_of_ble_eq_true rfl) d_Filters_init_17 (fun H locs hP hD hS => ?_)
  have hP : va_P D CL [(h0, .inr (4, [.ref q7, .ref q15, .int 0])), (q7, .inl (g 0, 6, .inl (fun _ => 0))), (q15, .inl (g 0, 6, .inl (fun _ => 0)))] H := hP
  have hD : va_D A [(h0, .inr (4, [.ref q7, .ref q15, .int 0])), (q7, .inl (g 0, 6, .inl (fun _ => 0))), (q15, .inl (g 0, 6, .inl (fun _ => 0)))] := hD
  refine lv_aload_n hx hb d_Filters_init_20 rfl (lv_at hl 0 rfl) ?_
  refine lv_iconst (v := 0) hx hb d_Filters_init_21 (by decide) ?_
  refine va_put (D := D) (ci := 4) (v := .int (0 : Int32)) (ty := .int) (C := R_Filters) (T := T_Filters) (N := 3) hx hb hts u_Filters t_Filters t_Filters_ok n_Filters hown hK hP hD hS 0 rfl rfl 2 (by decide) (hts _ q_103) (fun _ h9 => h9) rfl (by decide +kernel) rfl rfl (Nat.le_of_ble_eq_true rfl) d_Filters_init_22 (fun H locs hP hD hS => ?_)
  have hP : va_P D CL [(h0, .inr (4, [.ref q7, .ref q15, .int 0])), (q7, .inl (g 0, 6, .inl (fun _ => 0))), (q15, .inl (g 0, 6, .inl (fun _ => 0)))] H := hP
  have hD : va_D A [(h0, .inr (4, [.ref q7, .ref q15, .int 0])), (q7, .inl (g 0, 6, .inl (fun _ => 0))), (q15, .inl (g 0, 6, .inl (fun _ => 0)))] := hD
  exact W.vret hx hb hr (fun t ht _ => ⟨rfl, ⟨(fun k => match k with | 0 => q7 | _ => q15 : Nat → Nat), by rw [ht]; exact hP.sub [0, 1, 2] rfl, hD.sub [0, 1, 2] (by decide) rfl⟩, hS.F ht⟩) hS.2.2 d_Filters_init_25
theorem d_Shelf_init_0 : decode b_Shelf_init 0 = .ok (.aload_n 0, 1) := by decide +kernel
theorem d_Shelf_init_1 : decode b_Shelf_init 1 = .ok (.invokespecial 3, 3) := by decide +kernel
theorem d_Shelf_init_4 : decode b_Shelf_init 4 = .ok (.aload_n 0, 1) := by decide +kernel
theorem d_Shelf_init_5 : decode b_Shelf_init 5 = .ok (.bipush 40, 2) := by decide +kernel
theorem d_Shelf_init_7 : decode b_Shelf_init 7 = .ok (.anewarray 9, 3) := by decide +kernel
theorem d_Shelf_init_10 : decode b_Shelf_init 10 = .ok (.putfield 11, 3) := by decide +kernel
theorem d_Shelf_init_13 : decode b_Shelf_init 13 = .ok (.aload_n 0, 1) := by decide +kernel
theorem d_Shelf_init_14 : decode b_Shelf_init 14 = .ok (.iconst 4, 1) := by decide +kernel
theorem d_Shelf_init_15 : decode b_Shelf_init 15 = .ok (.newarray .long, 2) := by decide +kernel
theorem d_Shelf_init_17 : decode b_Shelf_init 17 = .ok (.putfield 17, 3) := by decide +kernel
theorem d_Shelf_init_20 : decode b_Shelf_init 20 = .ok (.aload_n 0, 1) := by decide +kernel
theorem d_Shelf_init_21 : decode b_Shelf_init 21 = .ok (.iconst 0, 1) := by decide +kernel
theorem d_Shelf_init_22 : decode b_Shelf_init 22 = .ok (.putfield 21, 3) := by decide +kernel
theorem d_Shelf_init_25 : decode b_Shelf_init 25 = .ok (.aload_n 0, 1) := by decide +kernel
theorem d_Shelf_init_26 : decode b_Shelf_init 26 = .ok (.lconst 0, 1) := by decide +kernel
theorem d_Shelf_init_27 : decode b_Shelf_init 27 = .ok (.putfield 25, 3) := by decide +kernel
theorem d_Shelf_init_30 : decode b_Shelf_init 30 = .ok (.aload_n 0, 1) := by decide +kernel
theorem d_Shelf_init_31 : decode b_Shelf_init 31 = .ok (.lconst 0, 1) := by decide +kernel
theorem d_Shelf_init_32 : decode b_Shelf_init 32 = .ok (.putfield 29, 3) := by decide +kernel
theorem d_Shelf_init_35 : decode b_Shelf_init 35 = .ok (.aload_n 0, 1) := by decide +kernel
theorem d_Shelf_init_36 : decode b_Shelf_init 36 = .ok (.lconst 0, 1) := by decide +kernel
theorem d_Shelf_init_37 : decode b_Shelf_init 37 = .ok (.putfield 32, 3) := by decide +kernel
theorem d_Shelf_init_40 : decode b_Shelf_init 40 = .ok (.aload_n 0, 1) := by decide +kernel
theorem d_Shelf_init_41 : decode b_Shelf_init 41 = .ok (.iconst 0, 1) := by decide +kernel
theorem d_Shelf_init_42 : decode b_Shelf_init 42 = .ok (.putfield 35, 3) := by decide +kernel
theorem d_Shelf_init_45 : decode b_Shelf_init 45 = .ok (.return_, 1) := by decide +kernel
abbrev rm_Shelf_init : Room := { frames := 1, cells := 2, slots := 44, locals := 12 }
set_option maxHeartbeats 8000000 in
set_option maxRecDepth 100000 in
theorem k_Shelf_init {l : Launch} {D : va_G} {g : Nat → ClassId} (h0 sz : Nat) : Met l y_Shelf_init (Cond.code y_Shelf_init b_Shelf_init 1 none :: ww) rm_Shelf_init (CP D (TY g) [(h0, .inr (8, [.null, .int 0, .long 0, .long 0, .long 0, .null, .int 0]))] sz [.ref h0]) (CQ D (fun u => [(h0, .inr (8, [.ref (u 0), .int 0, .long 0, .long 0, .long 0, .ref (u 1), .int 0])), ((u 0), .inl (g 3, 40, .inr (.inr (.inr (.inr (fun _ => none)))))), ((u 1), .inl (g 1, 4, .inr (.inl (fun _ => 0))))]) (va_A [(h0, .inr (8, [.null, .int 0, .long 0, .long 0, .long 0, .null, .int 0]))] sz)) 2 44 (va_A [(h0, .inr (8, [.null, .int 0, .long 0, .long 0, .long 0, .null, .int 0]))] sz) := by
  refine met_ctor (by decide) rfl (Nat.le_of_ble_eq_true rfl) ?_
  intro p e s m below meth c ls X hin hO hz hP hD0 hl
  obtain ⟨S, hr, hlk, hK⟩ := id X
  obtain ⟨hx, hb, hml, hown, hts⟩ := id S
  subst hz
  have hD := hD0.self (sz := s.heap.size)
  generalize hAe : va_A [(h0, .inr (8, [.null, .int 0, .long 0, .long 0, .long 0, .null, .int 0]))] s.heap.size = A at hD ⊢
  have hA : ∀ q : Nat, s.heap.size ≤ q → A q := fun q h => by rw [← hAe]; exact Or.inr h
  have hS : va_S A s.heap s.heap [] := va_S.rf
  have hl : lv_has ls 1 [(0, .ref h0)] := hl
  refine lv_aload_n hx hb d_Shelf_init_0 rfl (lv_at hl 0 rfl) ?_
  refine W.objInit hx hb hown (hts _ q_221) (hts _ q_22) (hts _ q_23) rfl (by rw [hml]; exact hl.1) rfl d_Shelf_init_1 (Nat.le_of_ble_eq_true rfl) (Nat.le_of_ble_eq_true rfl) ?_
  refine W.eq (g2 := F0 m 4 ls []) rfl ?_
  refine lv_aload_n hx hb d_Shelf_init_4 rfl (lv_at hl 0 rfl) ?_
  refine lv_bipush (v := 40) hx hb d_Shelf_init_5 (by decide) ?_
  refine nw_Q (g := g) hx hb hown hts q_222 hK hP hD hS hA 40 (by decide) (by decide) (by decide) (Nat.le_of_ble_eq_true rfl) (Nat.le_of_ble_eq_true rfl) hO d_Shelf_init_7 (fun q7 H hP hD hS => ?_)
  have hP : va_P D CL [(h0, .inr (8, [.null, .int 0, .long 0, .long 0, .long 0, .null, .int 0])), (q7, .inl (g 3, 40, .inr (.inr (.inr (.inr (fun _ => none))))))] H := hP
  have hD : va_D A [(h0, .inr (8, [.null, .int 0, .long 0, .long 0, .long 0, .null, .int 0])), (q7, .inl (g 3, 40, .inr (.inr (.inr (.inr (fun _ => none))))))] := hD
  refine W.widen (k := 1) (n := 40) (Nat.le_of_ble_eq_true rfl) (Nat.le_of_ble_eq_true rfl) ?_
  refine va_putF (D := D) (ci := 8) (v := .ref q7) (ty := .array (.object "MorphIndex$Document")) (C := R_Shelf) (T := T_Shelf) (N := 7) hx hb hts u_Shelf t_Shelf t_Shelf_ok n_Shelf hown hK hP hD hS 0 rfl rfl 0 (by decide) (hts _ q_224) (fun _ h9 => h9) rfl hin rfl (by decide +kernel) rfl rfl (Nat.le_of_ble_eq_true rfl) d_Shelf_init_10 (fun H locs hP hD hS => ?_)
  have hP : va_P D CL [(h0, .inr (8, [.ref q7, .int 0, .long 0, .long 0, .long 0, .null, .int 0])), (q7, .inl (g 3, 40, .inr (.inr (.inr (.inr (fun _ => none))))))] H := hP
  have hD : va_D A [(h0, .inr (8, [.ref q7, .int 0, .long 0, .long 0, .long 0, .null, .int 0])), (q7, .inl (g 3, 40, .inr (.inr (.inr (.inr (fun _ => none))))))] := hD
  refine lv_aload_n hx hb d_Shelf_init_13 rfl (lv_at hl 0 rfl) ?_
  refine lv_iconst (v := 4) hx hb d_Shelf_init_14 (by decide) ?_
  refine nw_J (g := g) hx hb hts hK hP hD hS hA 4 (by decide) (by decide) (by decide) (Nat.le_of_ble_eq_true rfl) (Nat.le_of_ble_eq_true rfl) d_Shelf_init_15 (fun q15 H hP hD hS => ?_)
  have hP : va_P D CL [(h0, .inr (8, [.ref q7, .int 0, .long 0, .long 0, .long 0, .null, .int 0])), (q7, .inl (g 3, 40, .inr (.inr (.inr (.inr (fun _ => none)))))), (q15, .inl (g 1, 4, .inr (.inl (fun _ => 0))))] H := hP
  have hD : va_D A [(h0, .inr (8, [.ref q7, .int 0, .long 0, .long 0, .long 0, .null, .int 0])), (q7, .inl (g 3, 40, .inr (.inr (.inr (.inr (fun _ => none)))))), (q15, .inl (g 1, 4, .inr (.inl (fun _ => 0))))] := hD
  refine W.widen (k := 2) (n := 44) (Nat.le_of_ble_eq_true rfl) (Nat.le_of_ble_eq_true rfl) ?_
  refine va_putF (D := D) (ci := 8) (v := .ref q15) (ty := .array .long) (C := R_Shelf) (T := T_Shelf) (N := 7) hx hb hts u_Shelf t_Shelf t_Shelf_ok n_Shelf hown hK hP hD hS 0 rfl rfl 5 (by decide) (hts _ q_229) (fun _ h9 => h9) rfl hin rfl (by decide +kernel) rfl rfl (Nat.le_of_ble_eq_true rfl) d_Shelf_init_17 (fun H locs hP hD hS => ?_)
  have hP : va_P D CL [(h0, .inr (8, [.ref q7, .int 0, .long 0, .long 0, .long 0, .ref q15, .int 0])), (q7, .inl (g 3, 40, .inr (.inr (.inr (.inr (fun _ => none)))))), (q15, .inl (g 1, 4, .inr (.inl (fun _ => 0))))] H := hP
  have hD : va_D A [(h0, .inr (8, [.ref q7, .int 0, .long 0, .long 0, .long 0, .ref q15, .int 0])), (q7, .inl (g 3, 40, .inr (.inr (.inr (.inr (fun _ => none)))))), (q15, .inl (g 1, 4, .inr (.inl (fun _ => 0))))] := hD
  refine lv_aload_n hx hb d_Shelf_init_20 rfl (lv_at hl 0 rfl) ?_
  refine lv_iconst (v := 0) hx hb d_Shelf_init_21 (by decide) ?_
  refine va_put (D := D) (ci := 8) (v := .int (0 : Int32)) (ty := .int) (C := R_Shelf) (T := T_Shelf) (N := 7) hx hb hts u_Shelf t_Shelf t_Shelf_ok n_Shelf hown hK hP hD hS 0 rfl rfl 1 (by decide) (hts _ q_225) (fun _ h9 => h9) rfl (by decide +kernel) rfl rfl (Nat.le_of_ble_eq_true rfl) d_Shelf_init_22 (fun H locs hP hD hS => ?_)
  have hP : va_P D CL [(h0, .inr (8, [.ref q7, .int 0, .long 0, .long 0, .long 0, .ref q15, .int 0])), (q7, .inl (g 3, 40, .inr (.inr (.inr (.inr (fun _ => none)))))), (q15, .inl (g 1, 4, .inr (.inl (fun _ => 0))))] H := hP
  have hD : va_D A [(h0, .inr (8, [.ref q7, .int 0, .long 0, .long 0, .long 0, .ref q15, .int 0])), (q7, .inl (g 3, 40, .inr (.inr (.inr (.inr (fun _ => none)))))), (q15, .inl (g 1, 4, .inr (.inl (fun _ => 0))))] := hD
  refine lv_aload_n hx hb d_Shelf_init_25 rfl (lv_at hl 0 rfl) ?_
  refine lv_lconst (v := 0) hx hb d_Shelf_init_26 (by decide) ?_
  refine va_put (D := D) (ci := 8) (v := .long (0 : Int64)) (ty := .long) (C := R_Shelf) (T := T_Shelf) (N := 7) hx hb hts u_Shelf t_Shelf t_Shelf_ok n_Shelf hown hK hP hD hS 0 rfl rfl 2 (by decide) (hts _ q_226) (fun _ h9 => h9) rfl (by decide +kernel) rfl rfl (Nat.le_of_ble_eq_true rfl) d_Shelf_init_27 (fun H locs hP hD hS => ?_)
  have hP : va_P D CL [(h0, .inr (8, [.ref q7, .int 0, .long 0, .long 0, .long 0, .ref q15, .int 0])), (q7, .inl (g 3, 40, .inr (.inr (.inr (.inr (fun _ => none)))))), (q15, .inl (g 1, 4, .inr (.inl (fun _ => 0))))] H := hP
  have hD : va_D A [(h0, .inr (8, [.ref q7, .int 0, .long 0, .long 0, .long 0, .ref q15, .int 0])), (q7, .inl (g 3, 40, .inr (.inr (.inr (.inr (fun _ => none)))))), (q15, .inl (g 1, 4, .inr (.inl (fun _ => 0))))] := hD
  refine lv_aload_n hx hb d_Shelf_init_30 rfl (lv_at hl 0 rfl) ?_
  refine lv_lconst (v := 0) hx hb d_Shelf_init_31 (by decide) ?_
  refine va_put (D := D) (ci := 8) (v := .long (0 : Int64)) (ty := .long) (C := R_Shelf) (T := T_Shelf) (N := 7) hx hb hts u_Shelf t_Shelf t_Shelf_ok n_Shelf hown hK hP hD hS 0 rfl rfl 3 (by decide) (hts _ q_227) (fun _ h9 => h9) rfl (by decide +kernel) rfl rfl (Nat.le_of_ble_eq_true rfl) d_Shelf_init_32 (fun H locs hP hD hS => ?_)
  have hP : va_P D CL [(h0, .inr (8, [.ref q7, .int 0, .long 0, .long 0, .long 0, .ref q15, .int 0])), (q7, .inl (g 3, 40, .inr (.inr (.inr (.inr (fun _ => none)))))), (q15, .inl (g 1, 4, .inr (.inl (fun _ => 0))))] H := hP
  have hD : va_D A [(h0, .inr (8, [.ref q7, .int 0, .long 0, .long 0, .long 0, .ref q15, .int 0])), (q7, .inl (g 3, 40, .inr (.inr (.inr (.inr (fun _ => none)))))), (q15, .inl (g 1, 4, .inr (.inl (fun _ => 0))))] := hD
  refine lv_aload_n hx hb d_Shelf_init_35 rfl (lv_at hl 0 rfl) ?_
  refine lv_lconst (v := 0) hx hb d_Shelf_init_36 (by decide) ?_
  refine va_put (D := D) (ci := 8) (v := .long (0 : Int64)) (ty := .long) (C := R_Shelf) (T := T_Shelf) (N := 7) hx hb hts u_Shelf t_Shelf t_Shelf_ok n_Shelf hown hK hP hD hS 0 rfl rfl 4 (by decide) (hts _ q_228) (fun _ h9 => h9) rfl (by decide +kernel) rfl rfl (Nat.le_of_ble_eq_true rfl) d_Shelf_init_37 (fun H locs hP hD hS => ?_)
  have hP : va_P D CL [(h0, .inr (8, [.ref q7, .int 0, .long 0, .long 0, .long 0, .ref q15, .int 0])), (q7, .inl (g 3, 40, .inr (.inr (.inr (.inr (fun _ => none)))))), (q15, .inl (g 1, 4, .inr (.inl (fun _ => 0))))] H := hP
  have hD : va_D A [(h0, .inr (8, [.ref q7, .int 0, .long 0, .long 0, .long 0, .ref q15, .int 0])), (q7, .inl (g 3, 40, .inr (.inr (.inr (.inr (fun _ => none)))))), (q15, .inl (g 1, 4, .inr (.inl (fun _ => 0))))] := hD
  refine lv_aload_n hx hb d_Shelf_init_40 rfl (lv_at hl 0 rfl) ?_
  refine lv_iconst (v := 0) hx hb d_Shelf_init_41 (by decide) ?_
  refine va_put (D := D) (ci := 8) (v := .int (0 : Int32)) (ty := .int) (C := R_Shelf) (T := T_Shelf) (N := 7) hx hb hts u_Shelf t_Shelf t_Shelf_ok n_Shelf hown hK hP hD hS 0 rfl rfl 6 (by decide) (hts _ q_230) (fun _ h9 => h9) rfl (by decide +kernel) rfl rfl (Nat.le_of_ble_eq_true rfl) d_Shelf_init_42 (fun H locs hP hD hS => ?_)
  have hP : va_P D CL [(h0, .inr (8, [.ref q7, .int 0, .long 0, .long 0, .long 0, .ref q15, .int 0])), (q7, .inl (g 3, 40, .inr (.inr (.inr (.inr (fun _ => none)))))), (q15, .inl (g 1, 4, .inr (.inl (fun _ => 0))))] H := hP
  have hD : va_D A [(h0, .inr (8, [.ref q7, .int 0, .long 0, .long 0, .long 0, .ref q15, .int 0])), (q7, .inl (g 3, 40, .inr (.inr (.inr (.inr (fun _ => none)))))), (q15, .inl (g 1, 4, .inr (.inl (fun _ => 0))))] := hD
  exact W.vret hx hb hr (fun t ht _ => ⟨rfl, ⟨(fun k => match k with | 0 => q7 | _ => q15 : Nat → Nat), by rw [ht]; exact hP.sub [0, 1, 2] rfl, hD.sub [0, 1, 2] (by decide) rfl⟩, hS.F ht⟩) hS.2.2 d_Shelf_init_45
theorem d_Lattice_init_0 : decode b_Lattice_init 0 = .ok (.aload_n 0, 1) := by decide +kernel
theorem d_Lattice_init_1 : decode b_Lattice_init 1 = .ok (.invokespecial 3, 3) := by decide +kernel
theorem d_Lattice_init_4 : decode b_Lattice_init 4 = .ok (.aload_n 0, 1) := by decide +kernel
theorem d_Lattice_init_5 : decode b_Lattice_init 5 = .ok (.aload_n 1, 1) := by decide +kernel
theorem d_Lattice_init_6 : decode b_Lattice_init 6 = .ok (.putfield 9, 3) := by decide +kernel
theorem d_Lattice_init_9 : decode b_Lattice_init 9 = .ok (.aload_n 0, 1) := by decide +kernel
theorem d_Lattice_init_10 : decode b_Lattice_init 10 = .ok (.aload_n 2, 1) := by decide +kernel
theorem d_Lattice_init_11 : decode b_Lattice_init 11 = .ok (.putfield 15, 3) := by decide +kernel
theorem d_Lattice_init_14 : decode b_Lattice_init 14 = .ok (.aload_n 0, 1) := by decide +kernel
theorem d_Lattice_init_15 : decode b_Lattice_init 15 = .ok (.aload_n 3, 1) := by decide +kernel
theorem d_Lattice_init_16 : decode b_Lattice_init 16 = .ok (.putfield 19, 3) := by decide +kernel
theorem d_Lattice_init_19 : decode b_Lattice_init 19 = .ok (.aload_n 0, 1) := by decide +kernel
theorem d_Lattice_init_20 : decode b_Lattice_init 20 = .ok (.sipush 696, 3) := by decide +kernel
theorem d_Lattice_init_23 : decode b_Lattice_init 23 = .ok (.newarray .int, 2) := by decide +kernel
theorem d_Lattice_init_25 : decode b_Lattice_init 25 = .ok (.putfield 23, 3) := by decide +kernel
theorem d_Lattice_init_28 : decode b_Lattice_init 28 = .ok (.aload_n 0, 1) := by decide +kernel
theorem d_Lattice_init_29 : decode b_Lattice_init 29 = .ok (.sipush 696, 3) := by decide +kernel
theorem d_Lattice_init_32 : decode b_Lattice_init 32 = .ok (.newarray .int, 2) := by decide +kernel
theorem d_Lattice_init_34 : decode b_Lattice_init 34 = .ok (.putfield 27, 3) := by decide +kernel
theorem d_Lattice_init_37 : decode b_Lattice_init 37 = .ok (.aload_n 0, 1) := by decide +kernel
theorem d_Lattice_init_38 : decode b_Lattice_init 38 = .ok (.sipush 696, 3) := by decide +kernel
theorem d_Lattice_init_41 : decode b_Lattice_init 41 = .ok (.newarray .int, 2) := by decide +kernel
theorem d_Lattice_init_43 : decode b_Lattice_init 43 = .ok (.putfield 30, 3) := by decide +kernel
theorem d_Lattice_init_46 : decode b_Lattice_init 46 = .ok (.aload_n 0, 1) := by decide +kernel
theorem d_Lattice_init_47 : decode b_Lattice_init 47 = .ok (.sipush 696, 3) := by decide +kernel
theorem d_Lattice_init_50 : decode b_Lattice_init 50 = .ok (.newarray .int, 2) := by decide +kernel
theorem d_Lattice_init_52 : decode b_Lattice_init 52 = .ok (.putfield 33, 3) := by decide +kernel
theorem d_Lattice_init_55 : decode b_Lattice_init 55 = .ok (.aload_n 0, 1) := by decide +kernel
theorem d_Lattice_init_56 : decode b_Lattice_init 56 = .ok (.sipush 696, 3) := by decide +kernel
theorem d_Lattice_init_59 : decode b_Lattice_init 59 = .ok (.newarray .int, 2) := by decide +kernel
theorem d_Lattice_init_61 : decode b_Lattice_init 61 = .ok (.putfield 36, 3) := by decide +kernel
theorem d_Lattice_init_64 : decode b_Lattice_init 64 = .ok (.aload_n 0, 1) := by decide +kernel
theorem d_Lattice_init_65 : decode b_Lattice_init 65 = .ok (.sipush 696, 3) := by decide +kernel
theorem d_Lattice_init_68 : decode b_Lattice_init 68 = .ok (.newarray .int, 2) := by decide +kernel
theorem d_Lattice_init_70 : decode b_Lattice_init 70 = .ok (.putfield 39, 3) := by decide +kernel
theorem d_Lattice_init_73 : decode b_Lattice_init 73 = .ok (.aload_n 0, 1) := by decide +kernel
theorem d_Lattice_init_74 : decode b_Lattice_init 74 = .ok (.iconst 0, 1) := by decide +kernel
theorem d_Lattice_init_75 : decode b_Lattice_init 75 = .ok (.putfield 42, 3) := by decide +kernel
theorem d_Lattice_init_78 : decode b_Lattice_init 78 = .ok (.return_, 1) := by decide +kernel
abbrev rm_Lattice_init : Room := { frames := 1, cells := 6, slots := 4176, locals := 12 }
set_option maxHeartbeats 8000000 in
set_option maxRecDepth 100000 in
theorem k_Lattice_init {l : Launch} {D : va_G} {g : Nat → ClassId} (h0 sz : Nat) (b1 : Nat) (b2 : Nat) (b3 : Nat) : Met l y_Lattice_init (Cond.code y_Lattice_init b_Lattice_init 4 none :: ww) rm_Lattice_init (CP D (TY g) [(h0, .inr (5, [.null, .null, .null, .null, .null, .null, .null, .null, .null, .int 0]))] sz [.ref h0, .ref b1, .ref b2, .ref b3]) (CQ D (fun u => [(h0, .inr (5, [.ref b1, .ref b2, .ref b3, .ref (u 0), .ref (u 1), .ref (u 2), .ref (u 3), .ref (u 4), .ref (u 5), .int 0])), ((u 0), .inl (g 0, 696, .inl (fun _ => 0))), ((u 1), .inl (g 0, 696, .inl (fun _ => 0))), ((u 2), .inl (g 0, 696, .inl (fun _ => 0))), ((u 3), .inl (g 0, 696, .inl (fun _ => 0))), ((u 4), .inl (g 0, 696, .inl (fun _ => 0))), ((u 5), .inl (g 0, 696, .inl (fun _ => 0)))]) (va_A [(h0, .inr (5, [.null, .null, .null, .null, .null, .null, .null, .null, .null, .int 0]))] sz)) 6 4176 (va_A [(h0, .inr (5, [.null, .null, .null, .null, .null, .null, .null, .null, .null, .int 0]))] sz) := by
  refine met_ctor (by decide) rfl (Nat.le_of_ble_eq_true rfl) ?_
  intro p e s m below meth c ls X hin hO hz hP hD0 hl
  obtain ⟨S, hr, hlk, hK⟩ := id X
  obtain ⟨hx, hb, hml, hown, hts⟩ := id S
  subst hz
  have hD := hD0.self (sz := s.heap.size)
  generalize hAe : va_A [(h0, .inr (5, [.null, .null, .null, .null, .null, .null, .null, .null, .null, .int 0]))] s.heap.size = A at hD ⊢
  have hA : ∀ q : Nat, s.heap.size ≤ q → A q := fun q h => by rw [← hAe]; exact Or.inr h
  have hS : va_S A s.heap s.heap [] := va_S.rf
  have hl : lv_has ls 4 [(0, .ref h0), (1, .ref b1), (2, .ref b2), (3, .ref b3)] := hl
  refine lv_aload_n hx hb d_Lattice_init_0 rfl (lv_at hl 0 rfl) ?_
  refine W.objInit hx hb hown (hts _ q_116) (hts _ q_22) (hts _ q_23) rfl (by rw [hml]; exact hl.1) rfl d_Lattice_init_1 (Nat.le_of_ble_eq_true rfl) (Nat.le_of_ble_eq_true rfl) ?_
  refine W.eq (g2 := F0 m 4 ls []) rfl ?_
  refine lv_aload_n hx hb d_Lattice_init_4 rfl (lv_at hl 0 rfl) ?_
  refine lv_aload_n hx hb d_Lattice_init_5 rfl (lv_at hl 1 rfl) ?_
  refine va_putF (D := D) (ci := 5) (v := .ref b1) (ty := .object "MorphIndex$Draft") (C := R_Lattice) (T := T_Lattice) (N := 10) hx hb hts u_Lattice t_Lattice t_Lattice_ok n_Lattice hown hK hP hD hS 0 rfl rfl 0 (by decide) (hts _ q_117) (fun _ h9 => h9) rfl hin rfl (by decide +kernel) rfl rfl (Nat.le_of_ble_eq_true rfl) d_Lattice_init_6 (fun H locs hP hD hS => ?_)
  have hP : va_P D CL [(h0, .inr (5, [.ref b1, .null, .null, .null, .null, .null, .null, .null, .null, .int 0]))] H := hP
  have hD : va_D A [(h0, .inr (5, [.ref b1, .null, .null, .null, .null, .null, .null, .null, .null, .int 0]))] := hD
  refine lv_aload_n hx hb d_Lattice_init_9 rfl (lv_at hl 0 rfl) ?_
  refine lv_aload_n hx hb d_Lattice_init_10 rfl (lv_at hl 2 rfl) ?_
  refine va_putF (D := D) (ci := 5) (v := .ref b2) (ty := .object "MorphIndex$Lexicon") (C := R_Lattice) (T := T_Lattice) (N := 10) hx hb hts u_Lattice t_Lattice t_Lattice_ok n_Lattice hown hK hP hD hS 0 rfl rfl 1 (by decide) (hts _ q_118) (fun _ h9 => h9) rfl hin rfl (by decide +kernel) rfl rfl (Nat.le_of_ble_eq_true rfl) d_Lattice_init_11 (fun H locs hP hD hS => ?_)
  have hP : va_P D CL [(h0, .inr (5, [.ref b1, .ref b2, .null, .null, .null, .null, .null, .null, .null, .int 0]))] H := hP
  have hD : va_D A [(h0, .inr (5, [.ref b1, .ref b2, .null, .null, .null, .null, .null, .null, .null, .int 0]))] := hD
  refine lv_aload_n hx hb d_Lattice_init_14 rfl (lv_at hl 0 rfl) ?_
  refine lv_aload_n hx hb d_Lattice_init_15 rfl (lv_at hl 3 rfl) ?_
  refine va_putF (D := D) (ci := 5) (v := .ref b3) (ty := .object "MorphIndex$Grammar") (C := R_Lattice) (T := T_Lattice) (N := 10) hx hb hts u_Lattice t_Lattice t_Lattice_ok n_Lattice hown hK hP hD hS 0 rfl rfl 2 (by decide) (hts _ q_119) (fun _ h9 => h9) rfl hin rfl (by decide +kernel) rfl rfl (Nat.le_of_ble_eq_true rfl) d_Lattice_init_16 (fun H locs hP hD hS => ?_)
  have hP : va_P D CL [(h0, .inr (5, [.ref b1, .ref b2, .ref b3, .null, .null, .null, .null, .null, .null, .int 0]))] H := hP
  have hD : va_D A [(h0, .inr (5, [.ref b1, .ref b2, .ref b3, .null, .null, .null, .null, .null, .null, .int 0]))] := hD
  refine lv_aload_n hx hb d_Lattice_init_19 rfl (lv_at hl 0 rfl) ?_
  refine lv_sipush (v := 696) hx hb d_Lattice_init_20 (by decide) ?_
  refine nw_I (g := g) hx hb hts hK hP hD hS hA 696 (by decide) (by decide) (by decide) (Nat.le_of_ble_eq_true rfl) (Nat.le_of_ble_eq_true rfl) d_Lattice_init_23 (fun q23 H hP hD hS => ?_)
  have hP : va_P D CL [(h0, .inr (5, [.ref b1, .ref b2, .ref b3, .null, .null, .null, .null, .null, .null, .int 0])), (q23, .inl (g 0, 696, .inl (fun _ => 0)))] H := hP
  have hD : va_D A [(h0, .inr (5, [.ref b1, .ref b2, .ref b3, .null, .null, .null, .null, .null, .null, .int 0])), (q23, .inl (g 0, 696, .inl (fun _ => 0)))] := hD
  refine W.widen (k := 1) (n := 696) (Nat.le_of_ble_eq_true rfl) (Nat.le_of_ble_eq_true rfl) ?_
  refine va_putF (D := D) (ci := 5) (v := .ref q23) (ty := .array .int) (C := R_Lattice) (T := T_Lattice) (N := 10) hx hb hts u_Lattice t_Lattice t_Lattice_ok n_Lattice hown hK hP hD hS 0 rfl rfl 3 (by decide) (hts _ q_120) (fun _ h9 => h9) rfl hin rfl (by decide +kernel) rfl rfl (Nat.le_of_ble_eq_true rfl) d_Lattice_init_25 (fun H locs hP hD hS => ?_)
  have hP : va_P D CL [(h0, .inr (5, [.ref b1, .ref b2, .ref b3, .ref q23, .null, .null, .null, .null, .null, .int 0])), (q23, .inl (g 0, 696, .inl (fun _ => 0)))] H := hP
  have hD : va_D A [(h0, .inr (5, [.ref b1, .ref b2, .ref b3, .ref q23, .null, .null, .null, .null, .null, .int 0])), (q23, .inl (g 0, 696, .inl (fun _ => 0)))] := hD
  refine lv_aload_n hx hb d_Lattice_init_28 rfl (lv_at hl 0 rfl) ?_
  refine lv_sipush (v := 696) hx hb d_Lattice_init_29 (by decide) ?_
  refine nw_I (g := g) hx hb hts hK hP hD hS hA 696 (by decide) (by decide) (by decide) (Nat.le_of_ble_eq_true rfl) (Nat.le_of_ble_eq_true rfl) d_Lattice_init_32 (fun q32 H hP hD hS => ?_)
  have hP : va_P D CL [(h0, .inr (5, [.ref b1, .ref b2, .ref b3, .ref q23, .null, .null, .null, .null, .null, .int 0])), (q23, .inl (g 0, 696, .inl (fun _ => 0))), (q32, .inl (g 0, 696, .inl (fun _ => 0)))] H := hP
  have hD : va_D A [(h0, .inr (5, [.ref b1, .ref b2, .ref b3, .ref q23, .null, .null, .null, .null, .null, .int 0])), (q23, .inl (g 0, 696, .inl (fun _ => 0))), (q32, .inl (g 0, 696, .inl (fun _ => 0)))] := hD
  refine W.widen (k := 2) (n := 1392) (Nat.le_of_ble_eq_true rfl) (Nat.le_of_ble_eq_true rfl) ?_
  refine va_putF (D := D) (ci := 5) (v := .ref q32) (ty := .array .int) (C := R_Lattice) (T := T_Lattice) (N := 10) hx hb hts u_Lattice t_Lattice t_Lattice_ok n_Lattice hown hK hP hD hS 0 rfl rfl 4 (by decide) (hts _ q_121) (fun _ h9 => h9) rfl hin rfl (by decide +kernel) rfl rfl (Nat.le_of_ble_eq_true rfl) d_Lattice_init_34 (fun H locs hP hD hS => ?_)
  have hP : va_P D CL [(h0, .inr (5, [.ref b1, .ref b2, .ref b3, .ref q23, .ref q32, .null, .null, .null, .null, .int 0])), (q23, .inl (g 0, 696, .inl (fun _ => 0))), (q32, .inl (g 0, 696, .inl (fun _ => 0)))] H := hP
  have hD : va_D A [(h0, .inr (5, [.ref b1, .ref b2, .ref b3, .ref q23, .ref q32, .null, .null, .null, .null, .int 0])), (q23, .inl (g 0, 696, .inl (fun _ => 0))), (q32, .inl (g 0, 696, .inl (fun _ => 0)))] := hD
  refine lv_aload_n hx hb d_Lattice_init_37 rfl (lv_at hl 0 rfl) ?_
  refine lv_sipush (v := 696) hx hb d_Lattice_init_38 (by decide) ?_
  refine nw_I (g := g) hx hb hts hK hP hD hS hA 696 (by decide) (by decide) (by decide) (Nat.le_of_ble_eq_true rfl) (Nat.le_of_ble_eq_true rfl) d_Lattice_init_41 (fun q41 H hP hD hS => ?_)
  have hP : va_P D CL [(h0, .inr (5, [.ref b1, .ref b2, .ref b3, .ref q23, .ref q32, .null, .null, .null, .null, .int 0])), (q23, .inl (g 0, 696, .inl (fun _ => 0))), (q32, .inl (g 0, 696, .inl (fun _ => 0))), (q41, .inl (g 0, 696, .inl (fun _ => 0)))] H := hP
  have hD : va_D A [(h0, .inr (5, [.ref b1, .ref b2, .ref b3, .ref q23, .ref q32, .null, .null, .null, .null, .int 0])), (q23, .inl (g 0, 696, .inl (fun _ => 0))), (q32, .inl (g 0, 696, .inl (fun _ => 0))), (q41, .inl (g 0, 696, .inl (fun _ => 0)))] := hD
  refine W.widen (k := 3) (n := 2088) (Nat.le_of_ble_eq_true rfl) (Nat.le_of_ble_eq_true rfl) ?_
  refine va_putF (D := D) (ci := 5) (v := .ref q41) (ty := .array .int) (C := R_Lattice) (T := T_Lattice) (N := 10) hx hb hts u_Lattice t_Lattice t_Lattice_ok n_Lattice hown hK hP hD hS 0 rfl rfl 5 (by decide) (hts _ q_122) (fun _ h9 => h9) rfl hin rfl (by decide +kernel) rfl rfl (Nat.le_of_ble_eq_true rfl) d_Lattice_init_43 (fun H locs hP hD hS => ?_)
  have hP : va_P D CL [(h0, .inr (5, [.ref b1, .ref b2, .ref b3, .ref q23, .ref q32, .ref q41, .null, .null, .null, .int 0])), (q23, .inl (g 0, 696, .inl (fun _ => 0))), (q32, .inl (g 0, 696, .inl (fun _ => 0))), (q41, .inl (g 0, 696, .inl (fun _ => 0)))] H := hP
  have hD : va_D A [(h0, .inr (5, [.ref b1, .ref b2, .ref b3, .ref q23, .ref q32, .ref q41, .null, .null, .null, .int 0])), (q23, .inl (g 0, 696, .inl (fun _ => 0))), (q32, .inl (g 0, 696, .inl (fun _ => 0))), (q41, .inl (g 0, 696, .inl (fun _ => 0)))] := hD
  refine lv_aload_n hx hb d_Lattice_init_46 rfl (lv_at hl 0 rfl) ?_
  refine lv_sipush (v := 696) hx hb d_Lattice_init_47 (by decide) ?_
  refine nw_I (g := g) hx hb hts hK hP hD hS hA 696 (by decide) (by decide) (by decide) (Nat.le_of_ble_eq_true rfl) (Nat.le_of_ble_eq_true rfl) d_Lattice_init_50 (fun q50 H hP hD hS => ?_)
  have hP : va_P D CL [(h0, .inr (5, [.ref b1, .ref b2, .ref b3, .ref q23, .ref q32, .ref q41, .null, .null, .null, .int 0])), (q23, .inl (g 0, 696, .inl (fun _ => 0))), (q32, .inl (g 0, 696, .inl (fun _ => 0))), (q41, .inl (g 0, 696, .inl (fun _ => 0))), (q50, .inl (g 0, 696, .inl (fun _ => 0)))] H := hP
  have hD : va_D A [(h0, .inr (5, [.ref b1, .ref b2, .ref b3, .ref q23, .ref q32, .ref q41, .null, .null, .null, .int 0])), (q23, .inl (g 0, 696, .inl (fun _ => 0))), (q32, .inl (g 0, 696, .inl (fun _ => 0))), (q41, .inl (g 0, 696, .inl (fun _ => 0))), (q50, .inl (g 0, 696, .inl (fun _ => 0)))] := hD
  refine W.widen (k := 4) (n := 2784) (Nat.le_of_ble_eq_true rfl) (Nat.le_of_ble_eq_true rfl) ?_
  refine va_putF (D := D) (ci := 5) (v := .ref q50) (ty := .array .int) (C := R_Lattice) (T := T_Lattice) (N := 10) hx hb hts u_Lattice t_Lattice t_Lattice_ok n_Lattice hown hK hP hD hS 0 rfl rfl 6 (by decide) (hts _ q_123) (fun _ h9 => h9) rfl hin rfl (by decide +kernel) rfl rfl (Nat.le_of_ble_eq_true rfl) d_Lattice_init_52 (fun H locs hP hD hS => ?_)
  have hP : va_P D CL [(h0, .inr (5, [.ref b1, .ref b2, .ref b3, .ref q23, .ref q32, .ref q41, .ref q50, .null, .null, .int 0])), (q23, .inl (g 0, 696, .inl (fun _ => 0))), (q32, .inl (g 0, 696, .inl (fun _ => 0))), (q41, .inl (g 0, 696, .inl (fun _ => 0))), (q50, .inl (g 0, 696, .inl (fun _ => 0)))] H := hP
  have hD : va_D A [(h0, .inr (5, [.ref b1, .ref b2, .ref b3, .ref q23, .ref q32, .ref q41, .ref q50, .null, .null, .int 0])), (q23, .inl (g 0, 696, .inl (fun _ => 0))), (q32, .inl (g 0, 696, .inl (fun _ => 0))), (q41, .inl (g 0, 696, .inl (fun _ => 0))), (q50, .inl (g 0, 696, .inl (fun _ => 0)))] := hD
  refine lv_aload_n hx hb d_Lattice_init_55 rfl (lv_at hl 0 rfl) ?_
  refine lv_sipush (v := 696) hx hb d_Lattice_init_56 (by decide) ?_
  refine nw_I (g := g) hx hb hts hK hP hD hS hA 696 (by decide) (by decide) (by decide) (Nat.le_of_ble_eq_true rfl) (Nat.le_of_ble_eq_true rfl) d_Lattice_init_59 (fun q59 H hP hD hS => ?_)
  have hP : va_P D CL [(h0, .inr (5, [.ref b1, .ref b2, .ref b3, .ref q23, .ref q32, .ref q41, .ref q50, .null, .null, .int 0])), (q23, .inl (g 0, 696, .inl (fun _ => 0))), (q32, .inl (g 0, 696, .inl (fun _ => 0))), (q41, .inl (g 0, 696, .inl (fun _ => 0))), (q50, .inl (g 0, 696, .inl (fun _ => 0))), (q59, .inl (g 0, 696, .inl (fun _ => 0)))] H := hP
  have hD : va_D A [(h0, .inr (5, [.ref b1, .ref b2, .ref b3, .ref q23, .ref q32, .ref q41, .ref q50, .null, .null, .int 0])), (q23, .inl (g 0, 696, .inl (fun _ => 0))), (q32, .inl (g 0, 696, .inl (fun _ => 0))), (q41, .inl (g 0, 696, .inl (fun _ => 0))), (q50, .inl (g 0, 696, .inl (fun _ => 0))), (q59, .inl (g 0, 696, .inl (fun _ => 0)))] := hD
  refine W.widen (k := 5) (n := 3480) (Nat.le_of_ble_eq_true rfl) (Nat.le_of_ble_eq_true rfl) ?_
  refine va_putF (D := D) (ci := 5) (v := .ref q59) (ty := .array .int) (C := R_Lattice) (T := T_Lattice) (N := 10) hx hb hts u_Lattice t_Lattice t_Lattice_ok n_Lattice hown hK hP hD hS 0 rfl rfl 7 (by decide) (hts _ q_124) (fun _ h9 => h9) rfl hin rfl (by decide +kernel) rfl rfl (Nat.le_of_ble_eq_true rfl) d_Lattice_init_61 (fun H locs hP hD hS => ?_)
  have hP : va_P D CL [(h0, .inr (5, [.ref b1, .ref b2, .ref b3, .ref q23, .ref q32, .ref q41, .ref q50, .ref q59, .null, .int 0])), (q23, .inl (g 0, 696, .inl (fun _ => 0))), (q32, .inl (g 0, 696, .inl (fun _ => 0))), (q41, .inl (g 0, 696, .inl (fun _ => 0))), (q50, .inl (g 0, 696, .inl (fun _ => 0))), (q59, .inl (g 0, 696, .inl (fun _ => 0)))] H := hP
  have hD : va_D A [(h0, .inr (5, [.ref b1, .ref b2, .ref b3, .ref q23, .ref q32, .ref q41, .ref q50, .ref q59, .null, .int 0])), (q23, .inl (g 0, 696, .inl (fun _ => 0))), (q32, .inl (g 0, 696, .inl (fun _ => 0))), (q41, .inl (g 0, 696, .inl (fun _ => 0))), (q50, .inl (g 0, 696, .inl (fun _ => 0))), (q59, .inl (g 0, 696, .inl (fun _ => 0)))] := hD
  refine lv_aload_n hx hb d_Lattice_init_64 rfl (lv_at hl 0 rfl) ?_
  refine lv_sipush (v := 696) hx hb d_Lattice_init_65 (by decide) ?_
  refine nw_I (g := g) hx hb hts hK hP hD hS hA 696 (by decide) (by decide) (by decide) (Nat.le_of_ble_eq_true rfl) (Nat.le_of_ble_eq_true rfl) d_Lattice_init_68 (fun q68 H hP hD hS => ?_)
  have hP : va_P D CL [(h0, .inr (5, [.ref b1, .ref b2, .ref b3, .ref q23, .ref q32, .ref q41, .ref q50, .ref q59, .null, .int 0])), (q23, .inl (g 0, 696, .inl (fun _ => 0))), (q32, .inl (g 0, 696, .inl (fun _ => 0))), (q41, .inl (g 0, 696, .inl (fun _ => 0))), (q50, .inl (g 0, 696, .inl (fun _ => 0))), (q59, .inl (g 0, 696, .inl (fun _ => 0))), (q68, .inl (g 0, 696, .inl (fun _ => 0)))] H := hP
  have hD : va_D A [(h0, .inr (5, [.ref b1, .ref b2, .ref b3, .ref q23, .ref q32, .ref q41, .ref q50, .ref q59, .null, .int 0])), (q23, .inl (g 0, 696, .inl (fun _ => 0))), (q32, .inl (g 0, 696, .inl (fun _ => 0))), (q41, .inl (g 0, 696, .inl (fun _ => 0))), (q50, .inl (g 0, 696, .inl (fun _ => 0))), (q59, .inl (g 0, 696, .inl (fun _ => 0))), (q68, .inl (g 0, 696, .inl (fun _ => 0)))] := hD
  refine W.widen (k := 6) (n := 4176) (Nat.le_of_ble_eq_true rfl) (Nat.le_of_ble_eq_true rfl) ?_
  refine va_putF (D := D) (ci := 5) (v := .ref q68) (ty := .array .int) (C := R_Lattice) (T := T_Lattice) (N := 10) hx hb hts u_Lattice t_Lattice t_Lattice_ok n_Lattice hown hK hP hD hS 0 rfl rfl 8 (by decide) (hts _ q_125) (fun _ h9 => h9) rfl hin rfl (by decide +kernel) rfl rfl (Nat.le_of_ble_eq_true rfl) d_Lattice_init_70 (fun H locs hP hD hS => ?_)
  have hP : va_P D CL [(h0, .inr (5, [.ref b1, .ref b2, .ref b3, .ref q23, .ref q32, .ref q41, .ref q50, .ref q59, .ref q68, .int 0])), (q23, .inl (g 0, 696, .inl (fun _ => 0))), (q32, .inl (g 0, 696, .inl (fun _ => 0))), (q41, .inl (g 0, 696, .inl (fun _ => 0))), (q50, .inl (g 0, 696, .inl (fun _ => 0))), (q59, .inl (g 0, 696, .inl (fun _ => 0))), (q68, .inl (g 0, 696, .inl (fun _ => 0)))] H := hP
  have hD : va_D A [(h0, .inr (5, [.ref b1, .ref b2, .ref b3, .ref q23, .ref q32, .ref q41, .ref q50, .ref q59, .ref q68, .int 0])), (q23, .inl (g 0, 696, .inl (fun _ => 0))), (q32, .inl (g 0, 696, .inl (fun _ => 0))), (q41, .inl (g 0, 696, .inl (fun _ => 0))), (q50, .inl (g 0, 696, .inl (fun _ => 0))), (q59, .inl (g 0, 696, .inl (fun _ => 0))), (q68, .inl (g 0, 696, .inl (fun _ => 0)))] := hD
  refine lv_aload_n hx hb d_Lattice_init_73 rfl (lv_at hl 0 rfl) ?_
  refine lv_iconst (v := 0) hx hb d_Lattice_init_74 (by decide) ?_
  refine va_put (D := D) (ci := 5) (v := .int (0 : Int32)) (ty := .int) (C := R_Lattice) (T := T_Lattice) (N := 10) hx hb hts u_Lattice t_Lattice t_Lattice_ok n_Lattice hown hK hP hD hS 0 rfl rfl 9 (by decide) (hts _ q_126) (fun _ h9 => h9) rfl (by decide +kernel) rfl rfl (Nat.le_of_ble_eq_true rfl) d_Lattice_init_75 (fun H locs hP hD hS => ?_)
  have hP : va_P D CL [(h0, .inr (5, [.ref b1, .ref b2, .ref b3, .ref q23, .ref q32, .ref q41, .ref q50, .ref q59, .ref q68, .int 0])), (q23, .inl (g 0, 696, .inl (fun _ => 0))), (q32, .inl (g 0, 696, .inl (fun _ => 0))), (q41, .inl (g 0, 696, .inl (fun _ => 0))), (q50, .inl (g 0, 696, .inl (fun _ => 0))), (q59, .inl (g 0, 696, .inl (fun _ => 0))), (q68, .inl (g 0, 696, .inl (fun _ => 0)))] H := hP
  have hD : va_D A [(h0, .inr (5, [.ref b1, .ref b2, .ref b3, .ref q23, .ref q32, .ref q41, .ref q50, .ref q59, .ref q68, .int 0])), (q23, .inl (g 0, 696, .inl (fun _ => 0))), (q32, .inl (g 0, 696, .inl (fun _ => 0))), (q41, .inl (g 0, 696, .inl (fun _ => 0))), (q50, .inl (g 0, 696, .inl (fun _ => 0))), (q59, .inl (g 0, 696, .inl (fun _ => 0))), (q68, .inl (g 0, 696, .inl (fun _ => 0)))] := hD
  exact W.vret hx hb hr (fun t ht _ => ⟨rfl, ⟨(fun k => match k with | 0 => q23 | 1 => q32 | 2 => q41 | 3 => q50 | 4 => q59 | _ => q68 : Nat → Nat), by rw [ht]; exact hP.sub [0, 1, 2, 3, 4, 5, 6] rfl, hD.sub [0, 1, 2, 3, 4, 5, 6] (by decide) rfl⟩, hS.F ht⟩) hS.2.2 d_Lattice_init_78
theorem d_Route_init_0 : decode b_Route_init 0 = .ok (.aload_n 0, 1) := by decide +kernel
theorem d_Route_init_1 : decode b_Route_init 1 = .ok (.invokespecial 3, 3) := by decide +kernel
theorem d_Route_init_4 : decode b_Route_init 4 = .ok (.aload_n 0, 1) := by decide +kernel
theorem d_Route_init_5 : decode b_Route_init 5 = .ok (.aload_n 1, 1) := by decide +kernel
theorem d_Route_init_6 : decode b_Route_init 6 = .ok (.putfield 9, 3) := by decide +kernel
theorem d_Route_init_9 : decode b_Route_init 9 = .ok (.aload_n 0, 1) := by decide +kernel
theorem d_Route_init_10 : decode b_Route_init 10 = .ok (.aload_n 2, 1) := by decide +kernel
theorem d_Route_init_11 : decode b_Route_init 11 = .ok (.putfield 15, 3) := by decide +kernel
theorem d_Route_init_14 : decode b_Route_init 14 = .ok (.aload_n 0, 1) := by decide +kernel
theorem d_Route_init_15 : decode b_Route_init 15 = .ok (.iload_n 3, 1) := by decide +kernel
theorem d_Route_init_16 : decode b_Route_init 16 = .ok (.putfield 19, 3) := by decide +kernel
theorem d_Route_init_19 : decode b_Route_init 19 = .ok (.aload_n 0, 1) := by decide +kernel
theorem d_Route_init_20 : decode b_Route_init 20 = .ok (.sipush 696, 3) := by decide +kernel
theorem d_Route_init_23 : decode b_Route_init 23 = .ok (.newarray .int, 2) := by decide +kernel
theorem d_Route_init_25 : decode b_Route_init 25 = .ok (.putfield 23, 3) := by decide +kernel
theorem d_Route_init_28 : decode b_Route_init 28 = .ok (.aload_n 0, 1) := by decide +kernel
theorem d_Route_init_29 : decode b_Route_init 29 = .ok (.sipush 200, 3) := by decide +kernel
theorem d_Route_init_32 : decode b_Route_init 32 = .ok (.newarray .int, 2) := by decide +kernel
theorem d_Route_init_34 : decode b_Route_init 34 = .ok (.putfield 27, 3) := by decide +kernel
theorem d_Route_init_37 : decode b_Route_init 37 = .ok (.aload_n 0, 1) := by decide +kernel
theorem d_Route_init_38 : decode b_Route_init 38 = .ok (.sipush 200, 3) := by decide +kernel
theorem d_Route_init_41 : decode b_Route_init 41 = .ok (.newarray .long, 2) := by decide +kernel
theorem d_Route_init_43 : decode b_Route_init 43 = .ok (.putfield 30, 3) := by decide +kernel
theorem d_Route_init_46 : decode b_Route_init 46 = .ok (.aload_n 0, 1) := by decide +kernel
theorem d_Route_init_47 : decode b_Route_init 47 = .ok (.bipush 24, 2) := by decide +kernel
theorem d_Route_init_49 : decode b_Route_init 49 = .ok (.newarray .int, 2) := by decide +kernel
theorem d_Route_init_51 : decode b_Route_init 51 = .ok (.putfield 34, 3) := by decide +kernel
theorem d_Route_init_54 : decode b_Route_init 54 = .ok (.aload_n 0, 1) := by decide +kernel
theorem d_Route_init_55 : decode b_Route_init 55 = .ok (.iconst 0, 1) := by decide +kernel
theorem d_Route_init_56 : decode b_Route_init 56 = .ok (.putfield 37, 3) := by decide +kernel
theorem d_Route_init_59 : decode b_Route_init 59 = .ok (.aload_n 0, 1) := by decide +kernel
theorem d_Route_init_60 : decode b_Route_init 60 = .ok (.iconst 0, 1) := by decide +kernel
theorem d_Route_init_61 : decode b_Route_init 61 = .ok (.putfield 41, 3) := by decide +kernel
theorem d_Route_init_64 : decode b_Route_init 64 = .ok (.aload_n 0, 1) := by decide +kernel
theorem d_Route_init_65 : decode b_Route_init 65 = .ok (.lconst 0, 1) := by decide +kernel
theorem d_Route_init_66 : decode b_Route_init 66 = .ok (.putfield 44, 3) := by decide +kernel
theorem d_Route_init_69 : decode b_Route_init 69 = .ok (.return_, 1) := by decide +kernel
abbrev rm_Route_init : Room := { frames := 1, cells := 4, slots := 1120, locals := 12 }
set_option maxHeartbeats 8000000 in
set_option maxRecDepth 100000 in
theorem k_Route_init {l : Launch} {D : va_G} {g : Nat → ClassId} (h0 sz : Nat) (b1 : Nat) (b2 : Nat) (b3 : Bool) : Met l y_Route_init (Cond.code y_Route_init b_Route_init 4 none :: ww) rm_Route_init (CP D (TY g) [(h0, .inr (6, [.null, .null, .int 0, .null, .null, .null, .null, .int 0, .int 0, .long 0]))] sz [.ref h0, .ref b1, .ref b2, .int (bz b3)]) (CQ D (fun u => [(h0, .inr (6, [.ref b1, .ref b2, .int (bz b3), .ref (u 0), .ref (u 1), .ref (u 2), .ref (u 3), .int 0, .int 0, .long 0])), ((u 0), .inl (g 0, 696, .inl (fun _ => 0))), ((u 1), .inl (g 0, 200, .inl (fun _ => 0))), ((u 2), .inl (g 1, 200, .inr (.inl (fun _ => 0)))), ((u 3), .inl (g 0, 24, .inl (fun _ => 0)))]) (va_A [(h0, .inr (6, [.null, .null, .int 0, .null, .null, .null, .null, .int 0, .int 0, .long 0]))] sz)) 4 1120 (va_A [(h0, .inr (6, [.null, .null, .int 0, .null, .null, .null, .null, .int 0, .int 0, .long 0]))] sz) := by
  refine met_ctor (by decide) rfl (Nat.le_of_ble_eq_true rfl) ?_
  intro p e s m below meth c ls X hin hO hz hP hD0 hl
  obtain ⟨S, hr, hlk, hK⟩ := id X
  obtain ⟨hx, hb, hml, hown, hts⟩ := id S
  subst hz
  have hD := hD0.self (sz := s.heap.size)
  generalize hAe : va_A [(h0, .inr (6, [.null, .null, .int 0, .null, .null, .null, .null, .int 0, .int 0, .long 0]))] s.heap.size = A at hD ⊢
  have hA : ∀ q : Nat, s.heap.size ≤ q → A q := fun q h => by rw [← hAe]; exact Or.inr h
  have hS : va_S A s.heap s.heap [] := va_S.rf
  have hl : lv_has ls 4 [(0, .ref h0), (1, .ref b1), (2, .ref b2), (3, .int (bz b3))] := hl
  refine lv_aload_n hx hb d_Route_init_0 rfl (lv_at hl 0 rfl) ?_
  refine W.objInit hx hb hown (hts _ q_153) (hts _ q_22) (hts _ q_23) rfl (by rw [hml]; exact hl.1) rfl d_Route_init_1 (Nat.le_of_ble_eq_true rfl) (Nat.le_of_ble_eq_true rfl) ?_
  refine W.eq (g2 := F0 m 4 ls []) rfl ?_
  refine lv_aload_n hx hb d_Route_init_4 rfl (lv_at hl 0 rfl) ?_
  refine lv_aload_n hx hb d_Route_init_5 rfl (lv_at hl 1 rfl) ?_
  refine va_putF (D := D) (ci := 6) (v := .ref b1) (ty := .object "MorphIndex$Lattice") (C := R_Route) (T := T_Route) (N := 10) hx hb hts u_Route t_Route t_Route_ok n_Route hown hK hP hD hS 0 rfl rfl 0 (by decide) (hts _ q_154) (fun _ h9 => h9) rfl hin rfl (by decide +kernel) rfl rfl (Nat.le_of_ble_eq_true rfl) d_Route_init_6 (fun H locs hP hD hS => ?_)
  have hP : va_P D CL [(h0, .inr (6, [.ref b1, .null, .int 0, .null, .null, .null, .null, .int 0, .int 0, .long 0]))] H := hP
  have hD : va_D A [(h0, .inr (6, [.ref b1, .null, .int 0, .null, .null, .null, .null, .int 0, .int 0, .long 0]))] := hD
  refine lv_aload_n hx hb d_Route_init_9 rfl (lv_at hl 0 rfl) ?_
  refine lv_aload_n hx hb d_Route_init_10 rfl (lv_at hl 2 rfl) ?_
  refine va_putF (D := D) (ci := 6) (v := .ref b2) (ty := .object "MorphIndex$Grammar") (C := R_Route) (T := T_Route) (N := 10) hx hb hts u_Route t_Route t_Route_ok n_Route hown hK hP hD hS 0 rfl rfl 1 (by decide) (hts _ q_155) (fun _ h9 => h9) rfl hin rfl (by decide +kernel) rfl rfl (Nat.le_of_ble_eq_true rfl) d_Route_init_11 (fun H locs hP hD hS => ?_)
  have hP : va_P D CL [(h0, .inr (6, [.ref b1, .ref b2, .int 0, .null, .null, .null, .null, .int 0, .int 0, .long 0]))] H := hP
  have hD : va_D A [(h0, .inr (6, [.ref b1, .ref b2, .int 0, .null, .null, .null, .null, .int 0, .int 0, .long 0]))] := hD
  refine lv_aload_n hx hb d_Route_init_14 rfl (lv_at hl 0 rfl) ?_
  refine lv_iload_n hx hb d_Route_init_15 rfl (lv_at hl 3 rfl) ?_
  refine va_putF (D := D) (ci := 6) (v := .int (bz b3)) (ty := .boolean) (C := R_Route) (T := T_Route) (N := 10) hx hb hts u_Route t_Route t_Route_ok n_Route hown hK hP hD hS 0 rfl rfl 2 (by decide) (hts _ q_156) (fun _ h9 => h9) rfl hin rfl (by decide +kernel) (bz_nar _) (bz_fit _) (Nat.le_of_ble_eq_true rfl) d_Route_init_16 (fun H locs hP hD hS => ?_)
  have hP : va_P D CL [(h0, .inr (6, [.ref b1, .ref b2, .int (bz b3), .null, .null, .null, .null, .int 0, .int 0, .long 0]))] H := hP
  have hD : va_D A [(h0, .inr (6, [.ref b1, .ref b2, .int (bz b3), .null, .null, .null, .null, .int 0, .int 0, .long 0]))] := hD
  refine lv_aload_n hx hb d_Route_init_19 rfl (lv_at hl 0 rfl) ?_
  refine lv_sipush (v := 696) hx hb d_Route_init_20 (by decide) ?_
  refine nw_I (g := g) hx hb hts hK hP hD hS hA 696 (by decide) (by decide) (by decide) (Nat.le_of_ble_eq_true rfl) (Nat.le_of_ble_eq_true rfl) d_Route_init_23 (fun q23 H hP hD hS => ?_)
  have hP : va_P D CL [(h0, .inr (6, [.ref b1, .ref b2, .int (bz b3), .null, .null, .null, .null, .int 0, .int 0, .long 0])), (q23, .inl (g 0, 696, .inl (fun _ => 0)))] H := hP
  have hD : va_D A [(h0, .inr (6, [.ref b1, .ref b2, .int (bz b3), .null, .null, .null, .null, .int 0, .int 0, .long 0])), (q23, .inl (g 0, 696, .inl (fun _ => 0)))] := hD
  refine W.widen (k := 1) (n := 696) (Nat.le_of_ble_eq_true rfl) (Nat.le_of_ble_eq_true rfl) ?_
  refine va_putF (D := D) (ci := 6) (v := .ref q23) (ty := .array .int) (C := R_Route) (T := T_Route) (N := 10) hx hb hts u_Route t_Route t_Route_ok n_Route hown hK hP hD hS 0 rfl rfl 3 (by decide) (hts _ q_157) (fun _ h9 => h9) rfl hin rfl (by decide +kernel) rfl rfl (Nat.le_of_ble_eq_true rfl) d_Route_init_25 (fun H locs hP hD hS => ?_)
  have hP : va_P D CL [(h0, .inr (6, [.ref b1, .ref b2, .int (bz b3), .ref q23, .null, .null, .null, .int 0, .int 0, .long 0])), (q23, .inl (g 0, 696, .inl (fun _ => 0)))] H := hP
  have hD : va_D A [(h0, .inr (6, [.ref b1, .ref b2, .int (bz b3), .ref q23, .null, .null, .null, .int 0, .int 0, .long 0])), (q23, .inl (g 0, 696, .inl (fun _ => 0)))] := hD
  refine lv_aload_n hx hb d_Route_init_28 rfl (lv_at hl 0 rfl) ?_
  refine lv_sipush (v := 200) hx hb d_Route_init_29 (by decide) ?_
  refine nw_I (g := g) hx hb hts hK hP hD hS hA 200 (by decide) (by decide) (by decide) (Nat.le_of_ble_eq_true rfl) (Nat.le_of_ble_eq_true rfl) d_Route_init_32 (fun q32 H hP hD hS => ?_)
  have hP : va_P D CL [(h0, .inr (6, [.ref b1, .ref b2, .int (bz b3), .ref q23, .null, .null, .null, .int 0, .int 0, .long 0])), (q23, .inl (g 0, 696, .inl (fun _ => 0))), (q32, .inl (g 0, 200, .inl (fun _ => 0)))] H := hP
  have hD : va_D A [(h0, .inr (6, [.ref b1, .ref b2, .int (bz b3), .ref q23, .null, .null, .null, .int 0, .int 0, .long 0])), (q23, .inl (g 0, 696, .inl (fun _ => 0))), (q32, .inl (g 0, 200, .inl (fun _ => 0)))] := hD
  refine W.widen (k := 2) (n := 896) (Nat.le_of_ble_eq_true rfl) (Nat.le_of_ble_eq_true rfl) ?_
  refine va_putF (D := D) (ci := 6) (v := .ref q32) (ty := .array .int) (C := R_Route) (T := T_Route) (N := 10) hx hb hts u_Route t_Route t_Route_ok n_Route hown hK hP hD hS 0 rfl rfl 4 (by decide) (hts _ q_158) (fun _ h9 => h9) rfl hin rfl (by decide +kernel) rfl rfl (Nat.le_of_ble_eq_true rfl) d_Route_init_34 (fun H locs hP hD hS => ?_)
  have hP : va_P D CL [(h0, .inr (6, [.ref b1, .ref b2, .int (bz b3), .ref q23, .ref q32, .null, .null, .int 0, .int 0, .long 0])), (q23, .inl (g 0, 696, .inl (fun _ => 0))), (q32, .inl (g 0, 200, .inl (fun _ => 0)))] H := hP
  have hD : va_D A [(h0, .inr (6, [.ref b1, .ref b2, .int (bz b3), .ref q23, .ref q32, .null, .null, .int 0, .int 0, .long 0])), (q23, .inl (g 0, 696, .inl (fun _ => 0))), (q32, .inl (g 0, 200, .inl (fun _ => 0)))] := hD
  refine lv_aload_n hx hb d_Route_init_37 rfl (lv_at hl 0 rfl) ?_
  refine lv_sipush (v := 200) hx hb d_Route_init_38 (by decide) ?_
  refine nw_J (g := g) hx hb hts hK hP hD hS hA 200 (by decide) (by decide) (by decide) (Nat.le_of_ble_eq_true rfl) (Nat.le_of_ble_eq_true rfl) d_Route_init_41 (fun q41 H hP hD hS => ?_)
  have hP : va_P D CL [(h0, .inr (6, [.ref b1, .ref b2, .int (bz b3), .ref q23, .ref q32, .null, .null, .int 0, .int 0, .long 0])), (q23, .inl (g 0, 696, .inl (fun _ => 0))), (q32, .inl (g 0, 200, .inl (fun _ => 0))), (q41, .inl (g 1, 200, .inr (.inl (fun _ => 0))))] H := hP
  have hD : va_D A [(h0, .inr (6, [.ref b1, .ref b2, .int (bz b3), .ref q23, .ref q32, .null, .null, .int 0, .int 0, .long 0])), (q23, .inl (g 0, 696, .inl (fun _ => 0))), (q32, .inl (g 0, 200, .inl (fun _ => 0))), (q41, .inl (g 1, 200, .inr (.inl (fun _ => 0))))] := hD
  refine W.widen (k := 3) (n := 1096) (Nat.le_of_ble_eq_true rfl) (Nat.le_of_ble_eq_true rfl) ?_
  refine va_putF (D := D) (ci := 6) (v := .ref q41) (ty := .array .long) (C := R_Route) (T := T_Route) (N := 10) hx hb hts u_Route t_Route t_Route_ok n_Route hown hK hP hD hS 0 rfl rfl 5 (by decide) (hts _ q_159) (fun _ h9 => h9) rfl hin rfl (by decide +kernel) rfl rfl (Nat.le_of_ble_eq_true rfl) d_Route_init_43 (fun H locs hP hD hS => ?_)
  have hP : va_P D CL [(h0, .inr (6, [.ref b1, .ref b2, .int (bz b3), .ref q23, .ref q32, .ref q41, .null, .int 0, .int 0, .long 0])), (q23, .inl (g 0, 696, .inl (fun _ => 0))), (q32, .inl (g 0, 200, .inl (fun _ => 0))), (q41, .inl (g 1, 200, .inr (.inl (fun _ => 0))))] H := hP
  have hD : va_D A [(h0, .inr (6, [.ref b1, .ref b2, .int (bz b3), .ref q23, .ref q32, .ref q41, .null, .int 0, .int 0, .long 0])), (q23, .inl (g 0, 696, .inl (fun _ => 0))), (q32, .inl (g 0, 200, .inl (fun _ => 0))), (q41, .inl (g 1, 200, .inr (.inl (fun _ => 0))))] := hD
  refine lv_aload_n hx hb d_Route_init_46 rfl (lv_at hl 0 rfl) ?_
  refine lv_bipush (v := 24) hx hb d_Route_init_47 (by decide) ?_
  refine nw_I (g := g) hx hb hts hK hP hD hS hA 24 (by decide) (by decide) (by decide) (Nat.le_of_ble_eq_true rfl) (Nat.le_of_ble_eq_true rfl) d_Route_init_49 (fun q49 H hP hD hS => ?_)
  have hP : va_P D CL [(h0, .inr (6, [.ref b1, .ref b2, .int (bz b3), .ref q23, .ref q32, .ref q41, .null, .int 0, .int 0, .long 0])), (q23, .inl (g 0, 696, .inl (fun _ => 0))), (q32, .inl (g 0, 200, .inl (fun _ => 0))), (q41, .inl (g 1, 200, .inr (.inl (fun _ => 0)))), (q49, .inl (g 0, 24, .inl (fun _ => 0)))] H := hP
  have hD : va_D A [(h0, .inr (6, [.ref b1, .ref b2, .int (bz b3), .ref q23, .ref q32, .ref q41, .null, .int 0, .int 0, .long 0])), (q23, .inl (g 0, 696, .inl (fun _ => 0))), (q32, .inl (g 0, 200, .inl (fun _ => 0))), (q41, .inl (g 1, 200, .inr (.inl (fun _ => 0)))), (q49, .inl (g 0, 24, .inl (fun _ => 0)))] := hD
  refine W.widen (k := 4) (n := 1120) (Nat.le_of_ble_eq_true rfl) (Nat.le_of_ble_eq_true rfl) ?_
  refine va_putF (D := D) (ci := 6) (v := .ref q49) (ty := .array .int) (C := R_Route) (T := T_Route) (N := 10) hx hb hts u_Route t_Route t_Route_ok n_Route hown hK hP hD hS 0 rfl rfl 6 (by decide) (hts _ q_160) (fun _ h9 => h9) rfl hin rfl (by decide +kernel) rfl rfl (Nat.le_of_ble_eq_true rfl) d_Route_init_51 (fun H locs hP hD hS => ?_)
  have hP : va_P D CL [(h0, .inr (6, [.ref b1, .ref b2, .int (bz b3), .ref q23, .ref q32, .ref q41, .ref q49, .int 0, .int 0, .long 0])), (q23, .inl (g 0, 696, .inl (fun _ => 0))), (q32, .inl (g 0, 200, .inl (fun _ => 0))), (q41, .inl (g 1, 200, .inr (.inl (fun _ => 0)))), (q49, .inl (g 0, 24, .inl (fun _ => 0)))] H := hP
  have hD : va_D A [(h0, .inr (6, [.ref b1, .ref b2, .int (bz b3), .ref q23, .ref q32, .ref q41, .ref q49, .int 0, .int 0, .long 0])), (q23, .inl (g 0, 696, .inl (fun _ => 0))), (q32, .inl (g 0, 200, .inl (fun _ => 0))), (q41, .inl (g 1, 200, .inr (.inl (fun _ => 0)))), (q49, .inl (g 0, 24, .inl (fun _ => 0)))] := hD
  refine lv_aload_n hx hb d_Route_init_54 rfl (lv_at hl 0 rfl) ?_
  refine lv_iconst (v := 0) hx hb d_Route_init_55 (by decide) ?_
  refine va_put (D := D) (ci := 6) (v := .int (0 : Int32)) (ty := .int) (C := R_Route) (T := T_Route) (N := 10) hx hb hts u_Route t_Route t_Route_ok n_Route hown hK hP hD hS 0 rfl rfl 7 (by decide) (hts _ q_161) (fun _ h9 => h9) rfl (by decide +kernel) rfl rfl (Nat.le_of_ble_eq_true rfl) d_Route_init_56 (fun H locs hP hD hS => ?_)
  have hP : va_P D CL [(h0, .inr (6, [.ref b1, .ref b2, .int (bz b3), .ref q23, .ref q32, .ref q41, .ref q49, .int 0, .int 0, .long 0])), (q23, .inl (g 0, 696, .inl (fun _ => 0))), (q32, .inl (g 0, 200, .inl (fun _ => 0))), (q41, .inl (g 1, 200, .inr (.inl (fun _ => 0)))), (q49, .inl (g 0, 24, .inl (fun _ => 0)))] H := hP
  have hD : va_D A [(h0, .inr (6, [.ref b1, .ref b2, .int (bz b3), .ref q23, .ref q32, .ref q41, .ref q49, .int 0, .int 0, .long 0])), (q23, .inl (g 0, 696, .inl (fun _ => 0))), (q32, .inl (g 0, 200, .inl (fun _ => 0))), (q41, .inl (g 1, 200, .inr (.inl (fun _ => 0)))), (q49, .inl (g 0, 24, .inl (fun _ => 0)))] := hD
  refine lv_aload_n hx hb d_Route_init_59 rfl (lv_at hl 0 rfl) ?_
  refine lv_iconst (v := 0) hx hb d_Route_init_60 (by decide) ?_
  refine va_put (D := D) (ci := 6) (v := .int (0 : Int32)) (ty := .int) (C := R_Route) (T := T_Route) (N := 10) hx hb hts u_Route t_Route t_Route_ok n_Route hown hK hP hD hS 0 rfl rfl 8 (by decide) (hts _ q_162) (fun _ h9 => h9) rfl (by decide +kernel) rfl rfl (Nat.le_of_ble_eq_true rfl) d_Route_init_61 (fun H locs hP hD hS => ?_)
  have hP : va_P D CL [(h0, .inr (6, [.ref b1, .ref b2, .int (bz b3), .ref q23, .ref q32, .ref q41, .ref q49, .int 0, .int 0, .long 0])), (q23, .inl (g 0, 696, .inl (fun _ => 0))), (q32, .inl (g 0, 200, .inl (fun _ => 0))), (q41, .inl (g 1, 200, .inr (.inl (fun _ => 0)))), (q49, .inl (g 0, 24, .inl (fun _ => 0)))] H := hP
  have hD : va_D A [(h0, .inr (6, [.ref b1, .ref b2, .int (bz b3), .ref q23, .ref q32, .ref q41, .ref q49, .int 0, .int 0, .long 0])), (q23, .inl (g 0, 696, .inl (fun _ => 0))), (q32, .inl (g 0, 200, .inl (fun _ => 0))), (q41, .inl (g 1, 200, .inr (.inl (fun _ => 0)))), (q49, .inl (g 0, 24, .inl (fun _ => 0)))] := hD
  refine lv_aload_n hx hb d_Route_init_64 rfl (lv_at hl 0 rfl) ?_
  refine lv_lconst (v := 0) hx hb d_Route_init_65 (by decide) ?_
  refine va_put (D := D) (ci := 6) (v := .long (0 : Int64)) (ty := .long) (C := R_Route) (T := T_Route) (N := 10) hx hb hts u_Route t_Route t_Route_ok n_Route hown hK hP hD hS 0 rfl rfl 9 (by decide) (hts _ q_163) (fun _ h9 => h9) rfl (by decide +kernel) rfl rfl (Nat.le_of_ble_eq_true rfl) d_Route_init_66 (fun H locs hP hD hS => ?_)
  have hP : va_P D CL [(h0, .inr (6, [.ref b1, .ref b2, .int (bz b3), .ref q23, .ref q32, .ref q41, .ref q49, .int 0, .int 0, .long 0])), (q23, .inl (g 0, 696, .inl (fun _ => 0))), (q32, .inl (g 0, 200, .inl (fun _ => 0))), (q41, .inl (g 1, 200, .inr (.inl (fun _ => 0)))), (q49, .inl (g 0, 24, .inl (fun _ => 0)))] H := hP
  have hD : va_D A [(h0, .inr (6, [.ref b1, .ref b2, .int (bz b3), .ref q23, .ref q32, .ref q41, .ref q49, .int 0, .int 0, .long 0])), (q23, .inl (g 0, 696, .inl (fun _ => 0))), (q32, .inl (g 0, 200, .inl (fun _ => 0))), (q41, .inl (g 1, 200, .inr (.inl (fun _ => 0)))), (q49, .inl (g 0, 24, .inl (fun _ => 0)))] := hD
  exact W.vret hx hb hr (fun t ht _ => ⟨rfl, ⟨(fun k => match k with | 0 => q23 | 1 => q32 | 2 => q41 | _ => q49 : Nat → Nat), by rw [ht]; exact hP.sub [0, 1, 2, 3, 4] rfl, hD.sub [0, 1, 2, 3, 4] (by decide) rfl⟩, hS.F ht⟩) hS.2.2 d_Route_init_69
theorem d_TokenRow_init_0 : decode b_TokenRow_init 0 = .ok (.aload_n 0, 1) := by decide +kernel
theorem d_TokenRow_init_1 : decode b_TokenRow_init 1 = .ok (.invokespecial 3, 3) := by decide +kernel
theorem d_TokenRow_init_4 : decode b_TokenRow_init 4 = .ok (.aload_n 0, 1) := by decide +kernel
theorem d_TokenRow_init_5 : decode b_TokenRow_init 5 = .ok (.aload_n 1, 1) := by decide +kernel
theorem d_TokenRow_init_6 : decode b_TokenRow_init 6 = .ok (.putfield 9, 3) := by decide +kernel
theorem d_TokenRow_init_9 : decode b_TokenRow_init 9 = .ok (.aload_n 0, 1) := by decide +kernel
theorem d_TokenRow_init_10 : decode b_TokenRow_init 10 = .ok (.aload_n 2, 1) := by decide +kernel
theorem d_TokenRow_init_11 : decode b_TokenRow_init 11 = .ok (.putfield 15, 3) := by decide +kernel
theorem d_TokenRow_init_14 : decode b_TokenRow_init 14 = .ok (.aload_n 0, 1) := by decide +kernel
theorem d_TokenRow_init_15 : decode b_TokenRow_init 15 = .ok (.bipush 24, 2) := by decide +kernel
theorem d_TokenRow_init_17 : decode b_TokenRow_init 17 = .ok (.newarray .int, 2) := by decide +kernel
theorem d_TokenRow_init_19 : decode b_TokenRow_init 19 = .ok (.putfield 19, 3) := by decide +kernel
theorem d_TokenRow_init_22 : decode b_TokenRow_init 22 = .ok (.aload_n 0, 1) := by decide +kernel
theorem d_TokenRow_init_23 : decode b_TokenRow_init 23 = .ok (.bipush 24, 2) := by decide +kernel
theorem d_TokenRow_init_25 : decode b_TokenRow_init 25 = .ok (.newarray .int, 2) := by decide +kernel
theorem d_TokenRow_init_27 : decode b_TokenRow_init 27 = .ok (.putfield 23, 3) := by decide +kernel
theorem d_TokenRow_init_30 : decode b_TokenRow_init 30 = .ok (.aload_n 0, 1) := by decide +kernel
theorem d_TokenRow_init_31 : decode b_TokenRow_init 31 = .ok (.bipush 24, 2) := by decide +kernel
theorem d_TokenRow_init_33 : decode b_TokenRow_init 33 = .ok (.newarray .int, 2) := by decide +kernel
theorem d_TokenRow_init_35 : decode b_TokenRow_init 35 = .ok (.putfield 26, 3) := by decide +kernel
theorem d_TokenRow_init_38 : decode b_TokenRow_init 38 = .ok (.aload_n 0, 1) := by decide +kernel
theorem d_TokenRow_init_39 : decode b_TokenRow_init 39 = .ok (.bipush 24, 2) := by decide +kernel
theorem d_TokenRow_init_41 : decode b_TokenRow_init 41 = .ok (.newarray .int, 2) := by decide +kernel
theorem d_TokenRow_init_43 : decode b_TokenRow_init 43 = .ok (.putfield 29, 3) := by decide +kernel
theorem d_TokenRow_init_46 : decode b_TokenRow_init 46 = .ok (.aload_n 0, 1) := by decide +kernel
theorem d_TokenRow_init_47 : decode b_TokenRow_init 47 = .ok (.bipush 24, 2) := by decide +kernel
theorem d_TokenRow_init_49 : decode b_TokenRow_init 49 = .ok (.newarray .int, 2) := by decide +kernel
theorem d_TokenRow_init_51 : decode b_TokenRow_init 51 = .ok (.putfield 32, 3) := by decide +kernel
theorem d_TokenRow_init_54 : decode b_TokenRow_init 54 = .ok (.aload_n 0, 1) := by decide +kernel
theorem d_TokenRow_init_55 : decode b_TokenRow_init 55 = .ok (.iconst 0, 1) := by decide +kernel
theorem d_TokenRow_init_56 : decode b_TokenRow_init 56 = .ok (.putfield 35, 3) := by decide +kernel
theorem d_TokenRow_init_59 : decode b_TokenRow_init 59 = .ok (.return_, 1) := by decide +kernel
abbrev rm_TokenRow_init : Room := { frames := 1, cells := 5, slots := 120, locals := 12 }
set_option maxHeartbeats 8000000 in
set_option maxRecDepth 100000 in
theorem k_TokenRow_init {l : Launch} {D : va_G} {g : Nat → ClassId} (h0 sz : Nat) (b1 : Nat) (b2 : Nat) : Met l y_TokenRow_init (Cond.code y_TokenRow_init b_TokenRow_init 3 none :: ww) rm_TokenRow_init (CP D (TY g) [(h0, .inr (7, [.null, .null, .null, .null, .null, .null, .null, .int 0]))] sz [.ref h0, .ref b1, .ref b2]) (CQ D (fun u => [(h0, .inr (7, [.ref b1, .ref b2, .ref (u 0), .ref (u 1), .ref (u 2), .ref (u 3), .ref (u 4), .int 0])), ((u 0), .inl (g 0, 24, .inl (fun _ => 0))), ((u 1), .inl (g 0, 24, .inl (fun _ => 0))), ((u 2), .inl (g 0, 24, .inl (fun _ => 0))), ((u 3), .inl (g 0, 24, .inl (fun _ => 0))), ((u 4), .inl (g 0, 24, .inl (fun _ => 0)))]) (va_A [(h0, .inr (7, [.null, .null, .null, .null, .null, .null, .null, .int 0]))] sz)) 5 120 (va_A [(h0, .inr (7, [.null, .null, .null, .null, .null, .null, .null, .int 0]))] sz) := by
  refine met_ctor (by decide) rfl (Nat.le_of_ble_eq_true rfl) ?_
  intro p e s m below meth c ls X hin hO hz hP hD0 hl
  obtain ⟨S, hr, hlk, hK⟩ := id X
  obtain ⟨hx, hb, hml, hown, hts⟩ := id S
  subst hz
  have hD := hD0.self (sz := s.heap.size)
  generalize hAe : va_A [(h0, .inr (7, [.null, .null, .null, .null, .null, .null, .null, .int 0]))] s.heap.size = A at hD ⊢
  have hA : ∀ q : Nat, s.heap.size ≤ q → A q := fun q h => by rw [← hAe]; exact Or.inr h
  have hS : va_S A s.heap s.heap [] := va_S.rf
  have hl : lv_has ls 3 [(0, .ref h0), (1, .ref b1), (2, .ref b2)] := hl
  refine lv_aload_n hx hb d_TokenRow_init_0 rfl (lv_at hl 0 rfl) ?_
  refine W.objInit hx hb hown (hts _ q_190) (hts _ q_22) (hts _ q_23) rfl (by rw [hml]; exact hl.1) rfl d_TokenRow_init_1 (Nat.le_of_ble_eq_true rfl) (Nat.le_of_ble_eq_true rfl) ?_
  refine W.eq (g2 := F0 m 4 ls []) rfl ?_
  refine lv_aload_n hx hb d_TokenRow_init_4 rfl (lv_at hl 0 rfl) ?_
  refine lv_aload_n hx hb d_TokenRow_init_5 rfl (lv_at hl 1 rfl) ?_
  refine va_putF (D := D) (ci := 7) (v := .ref b1) (ty := .object "MorphIndex$Lattice") (C := R_TokenRow) (T := T_TokenRow) (N := 8) hx hb hts u_TokenRow t_TokenRow t_TokenRow_ok n_TokenRow hown hK hP hD hS 0 rfl rfl 0 (by decide) (hts _ q_191) (fun _ h9 => h9) rfl hin rfl (by decide +kernel) rfl rfl (Nat.le_of_ble_eq_true rfl) d_TokenRow_init_6 (fun H locs hP hD hS => ?_)
  have hP : va_P D CL [(h0, .inr (7, [.ref b1, .null, .null, .null, .null, .null, .null, .int 0]))] H := hP
  have hD : va_D A [(h0, .inr (7, [.ref b1, .null, .null, .null, .null, .null, .null, .int 0]))] := hD
  refine lv_aload_n hx hb d_TokenRow_init_9 rfl (lv_at hl 0 rfl) ?_
  refine lv_aload_n hx hb d_TokenRow_init_10 rfl (lv_at hl 2 rfl) ?_
  refine va_putF (D := D) (ci := 7) (v := .ref b2) (ty := .object "MorphIndex$Lexicon") (C := R_TokenRow) (T := T_TokenRow) (N := 8) hx hb hts u_TokenRow t_TokenRow t_TokenRow_ok n_TokenRow hown hK hP hD hS 0 rfl rfl 1 (by decide) (hts _ q_192) (fun _ h9 => h9) rfl hin rfl (by decide +kernel) rfl rfl (Nat.le_of_ble_eq_true rfl) d_TokenRow_init_11 (fun H locs hP hD hS => ?_)
  have hP : va_P D CL [(h0, .inr (7, [.ref b1, .ref b2, .null, .null, .null, .null, .null, .int 0]))] H := hP
  have hD : va_D A [(h0, .inr (7, [.ref b1, .ref b2, .null, .null, .null, .null, .null, .int 0]))] := hD
  refine lv_aload_n hx hb d_TokenRow_init_14 rfl (lv_at hl 0 rfl) ?_
  refine lv_bipush (v := 24) hx hb d_TokenRow_init_15 (by decide) ?_
  refine nw_I (g := g) hx hb hts hK hP hD hS hA 24 (by decide) (by decide) (by decide) (Nat.le_of_ble_eq_true rfl) (Nat.le_of_ble_eq_true rfl) d_TokenRow_init_17 (fun q17 H hP hD hS => ?_)
  have hP : va_P D CL [(h0, .inr (7, [.ref b1, .ref b2, .null, .null, .null, .null, .null, .int 0])), (q17, .inl (g 0, 24, .inl (fun _ => 0)))] H := hP
  have hD : va_D A [(h0, .inr (7, [.ref b1, .ref b2, .null, .null, .null, .null, .null, .int 0])), (q17, .inl (g 0, 24, .inl (fun _ => 0)))] := hD
  refine W.widen (k := 1) (n := 24) (Nat.le_of_ble_eq_true rfl) (Nat.le_of_ble_eq_true rfl) ?_
  refine va_putF (D := D) (ci := 7) (v := .ref q17) (ty := .array .int) (C := R_TokenRow) (T := T_TokenRow) (N := 8) hx hb hts u_TokenRow t_TokenRow t_TokenRow_ok n_TokenRow hown hK hP hD hS 0 rfl rfl 2 (by decide) (hts _ q_193) (fun _ h9 => h9) rfl hin rfl (by decide +kernel) rfl rfl (Nat.le_of_ble_eq_true rfl) d_TokenRow_init_19 (fun H locs hP hD hS => ?_)
  have hP : va_P D CL [(h0, .inr (7, [.ref b1, .ref b2, .ref q17, .null, .null, .null, .null, .int 0])), (q17, .inl (g 0, 24, .inl (fun _ => 0)))] H := hP
  have hD : va_D A [(h0, .inr (7, [.ref b1, .ref b2, .ref q17, .null, .null, .null, .null, .int 0])), (q17, .inl (g 0, 24, .inl (fun _ => 0)))] := hD
  refine lv_aload_n hx hb d_TokenRow_init_22 rfl (lv_at hl 0 rfl) ?_
  refine lv_bipush (v := 24) hx hb d_TokenRow_init_23 (by decide) ?_
  refine nw_I (g := g) hx hb hts hK hP hD hS hA 24 (by decide) (by decide) (by decide) (Nat.le_of_ble_eq_true rfl) (Nat.le_of_ble_eq_true rfl) d_TokenRow_init_25 (fun q25 H hP hD hS => ?_)
  have hP : va_P D CL [(h0, .inr (7, [.ref b1, .ref b2, .ref q17, .null, .null, .null, .null, .int 0])), (q17, .inl (g 0, 24, .inl (fun _ => 0))), (q25, .inl (g 0, 24, .inl (fun _ => 0)))] H := hP
  have hD : va_D A [(h0, .inr (7, [.ref b1, .ref b2, .ref q17, .null, .null, .null, .null, .int 0])), (q17, .inl (g 0, 24, .inl (fun _ => 0))), (q25, .inl (g 0, 24, .inl (fun _ => 0)))] := hD
  refine W.widen (k := 2) (n := 48) (Nat.le_of_ble_eq_true rfl) (Nat.le_of_ble_eq_true rfl) ?_
  refine va_putF (D := D) (ci := 7) (v := .ref q25) (ty := .array .int) (C := R_TokenRow) (T := T_TokenRow) (N := 8) hx hb hts u_TokenRow t_TokenRow t_TokenRow_ok n_TokenRow hown hK hP hD hS 0 rfl rfl 3 (by decide) (hts _ q_194) (fun _ h9 => h9) rfl hin rfl (by decide +kernel) rfl rfl (Nat.le_of_ble_eq_true rfl) d_TokenRow_init_27 (fun H locs hP hD hS => ?_)
  have hP : va_P D CL [(h0, .inr (7, [.ref b1, .ref b2, .ref q17, .ref q25, .null, .null, .null, .int 0])), (q17, .inl (g 0, 24, .inl (fun _ => 0))), (q25, .inl (g 0, 24, .inl (fun _ => 0)))] H := hP
  have hD : va_D A [(h0, .inr (7, [.ref b1, .ref b2, .ref q17, .ref q25, .null, .null, .null, .int 0])), (q17, .inl (g 0, 24, .inl (fun _ => 0))), (q25, .inl (g 0, 24, .inl (fun _ => 0)))] := hD
  refine lv_aload_n hx hb d_TokenRow_init_30 rfl (lv_at hl 0 rfl) ?_
  refine lv_bipush (v := 24) hx hb d_TokenRow_init_31 (by decide) ?_
  refine nw_I (g := g) hx hb hts hK hP hD hS hA 24 (by decide) (by decide) (by decide) (Nat.le_of_ble_eq_true rfl) (Nat.le_of_ble_eq_true rfl) d_TokenRow_init_33 (fun q33 H hP hD hS => ?_)
  have hP : va_P D CL [(h0, .inr (7, [.ref b1, .ref b2, .ref q17, .ref q25, .null, .null, .null, .int 0])), (q17, .inl (g 0, 24, .inl (fun _ => 0))), (q25, .inl (g 0, 24, .inl (fun _ => 0))), (q33, .inl (g 0, 24, .inl (fun _ => 0)))] H := hP
  have hD : va_D A [(h0, .inr (7, [.ref b1, .ref b2, .ref q17, .ref q25, .null, .null, .null, .int 0])), (q17, .inl (g 0, 24, .inl (fun _ => 0))), (q25, .inl (g 0, 24, .inl (fun _ => 0))), (q33, .inl (g 0, 24, .inl (fun _ => 0)))] := hD
  refine W.widen (k := 3) (n := 72) (Nat.le_of_ble_eq_true rfl) (Nat.le_of_ble_eq_true rfl) ?_
  refine va_putF (D := D) (ci := 7) (v := .ref q33) (ty := .array .int) (C := R_TokenRow) (T := T_TokenRow) (N := 8) hx hb hts u_TokenRow t_TokenRow t_TokenRow_ok n_TokenRow hown hK hP hD hS 0 rfl rfl 4 (by decide) (hts _ q_195) (fun _ h9 => h9) rfl hin rfl (by decide +kernel) rfl rfl (Nat.le_of_ble_eq_true rfl) d_TokenRow_init_35 (fun H locs hP hD hS => ?_)
  have hP : va_P D CL [(h0, .inr (7, [.ref b1, .ref b2, .ref q17, .ref q25, .ref q33, .null, .null, .int 0])), (q17, .inl (g 0, 24, .inl (fun _ => 0))), (q25, .inl (g 0, 24, .inl (fun _ => 0))), (q33, .inl (g 0, 24, .inl (fun _ => 0)))] H := hP
  have hD : va_D A [(h0, .inr (7, [.ref b1, .ref b2, .ref q17, .ref q25, .ref q33, .null, .null, .int 0])), (q17, .inl (g 0, 24, .inl (fun _ => 0))), (q25, .inl (g 0, 24, .inl (fun _ => 0))), (q33, .inl (g 0, 24, .inl (fun _ => 0)))] := hD
  refine lv_aload_n hx hb d_TokenRow_init_38 rfl (lv_at hl 0 rfl) ?_
  refine lv_bipush (v := 24) hx hb d_TokenRow_init_39 (by decide) ?_
  refine nw_I (g := g) hx hb hts hK hP hD hS hA 24 (by decide) (by decide) (by decide) (Nat.le_of_ble_eq_true rfl) (Nat.le_of_ble_eq_true rfl) d_TokenRow_init_41 (fun q41 H hP hD hS => ?_)
  have hP : va_P D CL [(h0, .inr (7, [.ref b1, .ref b2, .ref q17, .ref q25, .ref q33, .null, .null, .int 0])), (q17, .inl (g 0, 24, .inl (fun _ => 0))), (q25, .inl (g 0, 24, .inl (fun _ => 0))), (q33, .inl (g 0, 24, .inl (fun _ => 0))), (q41, .inl (g 0, 24, .inl (fun _ => 0)))] H := hP
  have hD : va_D A [(h0, .inr (7, [.ref b1, .ref b2, .ref q17, .ref q25, .ref q33, .null, .null, .int 0])), (q17, .inl (g 0, 24, .inl (fun _ => 0))), (q25, .inl (g 0, 24, .inl (fun _ => 0))), (q33, .inl (g 0, 24, .inl (fun _ => 0))), (q41, .inl (g 0, 24, .inl (fun _ => 0)))] := hD
  refine W.widen (k := 4) (n := 96) (Nat.le_of_ble_eq_true rfl) (Nat.le_of_ble_eq_true rfl) ?_
  refine va_putF (D := D) (ci := 7) (v := .ref q41) (ty := .array .int) (C := R_TokenRow) (T := T_TokenRow) (N := 8) hx hb hts u_TokenRow t_TokenRow t_TokenRow_ok n_TokenRow hown hK hP hD hS 0 rfl rfl 5 (by decide) (hts _ q_196) (fun _ h9 => h9) rfl hin rfl (by decide +kernel) rfl rfl (Nat.le_of_ble_eq_true rfl) d_TokenRow_init_43 (fun H locs hP hD hS => ?_)
  have hP : va_P D CL [(h0, .inr (7, [.ref b1, .ref b2, .ref q17, .ref q25, .ref q33, .ref q41, .null, .int 0])), (q17, .inl (g 0, 24, .inl (fun _ => 0))), (q25, .inl (g 0, 24, .inl (fun _ => 0))), (q33, .inl (g 0, 24, .inl (fun _ => 0))), (q41, .inl (g 0, 24, .inl (fun _ => 0)))] H := hP
  have hD : va_D A [(h0, .inr (7, [.ref b1, .ref b2, .ref q17, .ref q25, .ref q33, .ref q41, .null, .int 0])), (q17, .inl (g 0, 24, .inl (fun _ => 0))), (q25, .inl (g 0, 24, .inl (fun _ => 0))), (q33, .inl (g 0, 24, .inl (fun _ => 0))), (q41, .inl (g 0, 24, .inl (fun _ => 0)))] := hD
  refine lv_aload_n hx hb d_TokenRow_init_46 rfl (lv_at hl 0 rfl) ?_
  refine lv_bipush (v := 24) hx hb d_TokenRow_init_47 (by decide) ?_
  refine nw_I (g := g) hx hb hts hK hP hD hS hA 24 (by decide) (by decide) (by decide) (Nat.le_of_ble_eq_true rfl) (Nat.le_of_ble_eq_true rfl) d_TokenRow_init_49 (fun q49 H hP hD hS => ?_)
  have hP : va_P D CL [(h0, .inr (7, [.ref b1, .ref b2, .ref q17, .ref q25, .ref q33, .ref q41, .null, .int 0])), (q17, .inl (g 0, 24, .inl (fun _ => 0))), (q25, .inl (g 0, 24, .inl (fun _ => 0))), (q33, .inl (g 0, 24, .inl (fun _ => 0))), (q41, .inl (g 0, 24, .inl (fun _ => 0))), (q49, .inl (g 0, 24, .inl (fun _ => 0)))] H := hP
  have hD : va_D A [(h0, .inr (7, [.ref b1, .ref b2, .ref q17, .ref q25, .ref q33, .ref q41, .null, .int 0])), (q17, .inl (g 0, 24, .inl (fun _ => 0))), (q25, .inl (g 0, 24, .inl (fun _ => 0))), (q33, .inl (g 0, 24, .inl (fun _ => 0))), (q41, .inl (g 0, 24, .inl (fun _ => 0))), (q49, .inl (g 0, 24, .inl (fun _ => 0)))] := hD
  refine W.widen (k := 5) (n := 120) (Nat.le_of_ble_eq_true rfl) (Nat.le_of_ble_eq_true rfl) ?_
  refine va_putF (D := D) (ci := 7) (v := .ref q49) (ty := .array .int) (C := R_TokenRow) (T := T_TokenRow) (N := 8) hx hb hts u_TokenRow t_TokenRow t_TokenRow_ok n_TokenRow hown hK hP hD hS 0 rfl rfl 6 (by decide) (hts _ q_197) (fun _ h9 => h9) rfl hin rfl (by decide +kernel) rfl rfl (Nat.le_of_ble_eq_true rfl) d_TokenRow_init_51 (fun H locs hP hD hS => ?_)
  have hP : va_P D CL [(h0, .inr (7, [.ref b1, .ref b2, .ref q17, .ref q25, .ref q33, .ref q41, .ref q49, .int 0])), (q17, .inl (g 0, 24, .inl (fun _ => 0))), (q25, .inl (g 0, 24, .inl (fun _ => 0))), (q33, .inl (g 0, 24, .inl (fun _ => 0))), (q41, .inl (g 0, 24, .inl (fun _ => 0))), (q49, .inl (g 0, 24, .inl (fun _ => 0)))] H := hP
  have hD : va_D A [(h0, .inr (7, [.ref b1, .ref b2, .ref q17, .ref q25, .ref q33, .ref q41, .ref q49, .int 0])), (q17, .inl (g 0, 24, .inl (fun _ => 0))), (q25, .inl (g 0, 24, .inl (fun _ => 0))), (q33, .inl (g 0, 24, .inl (fun _ => 0))), (q41, .inl (g 0, 24, .inl (fun _ => 0))), (q49, .inl (g 0, 24, .inl (fun _ => 0)))] := hD
  refine lv_aload_n hx hb d_TokenRow_init_54 rfl (lv_at hl 0 rfl) ?_
  refine lv_iconst (v := 0) hx hb d_TokenRow_init_55 (by decide) ?_
  refine va_put (D := D) (ci := 7) (v := .int (0 : Int32)) (ty := .int) (C := R_TokenRow) (T := T_TokenRow) (N := 8) hx hb hts u_TokenRow t_TokenRow t_TokenRow_ok n_TokenRow hown hK hP hD hS 0 rfl rfl 7 (by decide) (hts _ q_198) (fun _ h9 => h9) rfl (by decide +kernel) rfl rfl (Nat.le_of_ble_eq_true rfl) d_TokenRow_init_56 (fun H locs hP hD hS => ?_)
  have hP : va_P D CL [(h0, .inr (7, [.ref b1, .ref b2, .ref q17, .ref q25, .ref q33, .ref q41, .ref q49, .int 0])), (q17, .inl (g 0, 24, .inl (fun _ => 0))), (q25, .inl (g 0, 24, .inl (fun _ => 0))), (q33, .inl (g 0, 24, .inl (fun _ => 0))), (q41, .inl (g 0, 24, .inl (fun _ => 0))), (q49, .inl (g 0, 24, .inl (fun _ => 0)))] H := hP
  have hD : va_D A [(h0, .inr (7, [.ref b1, .ref b2, .ref q17, .ref q25, .ref q33, .ref q41, .ref q49, .int 0])), (q17, .inl (g 0, 24, .inl (fun _ => 0))), (q25, .inl (g 0, 24, .inl (fun _ => 0))), (q33, .inl (g 0, 24, .inl (fun _ => 0))), (q41, .inl (g 0, 24, .inl (fun _ => 0))), (q49, .inl (g 0, 24, .inl (fun _ => 0)))] := hD
  exact W.vret hx hb hr (fun t ht _ => ⟨rfl, ⟨(fun k => match k with | 0 => q17 | 1 => q25 | 2 => q33 | 3 => q41 | _ => q49 : Nat → Nat), by rw [ht]; exact hP.sub [0, 1, 2, 3, 4, 5] rfl, hD.sub [0, 1, 2, 3, 4, 5] (by decide) rfl⟩, hS.F ht⟩) hS.2.2 d_TokenRow_init_59
