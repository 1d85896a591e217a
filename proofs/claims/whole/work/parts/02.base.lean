/-! BASE: one list of words for all methods (ww), the memory of a system as two functions (Mem), and rows for calls -/
def ww : List Cond := lw_tbl.filter goodWord
theorem ww_in {w : Cond} (h : w ∈ lw_tbl) (hg : goodWord w = true) : w ∈ ww := List.mem_filter.mpr ⟨h, hg⟩
theorem ww_good {y : MethodName} {b : ByteArray} {n : Nat} {r : Option FieldType} (h : Cond.code y b n r ∈ ww) : GoodIn ww (Cond.code y b n r :: ww) := by
  intro w hw
  rcases List.mem_cons.mp hw with rfl | hw
  · exact ⟨h, good_of_word (List.mem_filter.mp h).2⟩
  · exact ⟨hw, good_of_word (List.mem_filter.mp hw).2⟩
/-- a system's memory: cell, place: what an int (boolean) field or array holds; what a long one holds -/
abbrev Mem : Type := (Nat → Nat → Int32) × (Nat → Nat → Int64)
def wi (μ : Mem) (k j : Nat) (v : Int32) : Mem := (fun a => if a = k then upd (μ.1 k) j v else μ.1 a, μ.2)
def wl (μ : Mem) (k j : Nat) (v : Int64) : Mem := (μ.1, fun a => if a = k then vp_updL (μ.2 k) j v else μ.2 a)
def bz (b : Bool) : Int32 := if b = true then 1 else 0
theorem bz_nar (b : Bool) : narrow .boolean (.int (bz b)) = .int (bz b) := by cases b <;> rfl
theorem bz_fit (b : Bool) : fits .boolean (.int (bz b)) = true := by cases b <;> rfl
theorem bz_na2 (b : Bool) : vp_nar .boolean (bz b) = bz b := by cases b <;> rfl
def inb (i : Int32) (n : Nat) : Bool := !(decide (i < 0)) && decide (i.toNatClampNeg < n)
theorem inb_in {i : Int32} {n : Nat} (h : inb i n = true) : vp_in i n := by
  simp only [inb, Bool.and_eq_true, Bool.not_eq_true', decide_eq_false_iff_not, decide_eq_true_eq] at h
  exact fun q => q.elim h.1 (fun q => Nat.not_le.mpr h.2 q)
theorem inb_of {j n : Nat} (h : j < n) (hn : n < 2 ^ 31) : inb (nI j) n = true := by
  simp only [inb, Bool.and_eq_true, Bool.not_eq_true', decide_eq_false_iff_not, decide_eq_true_eq]
  exact ⟨nI_pos (by omega), by rw [nI_clamp (by omega)]; exact h⟩
def bd {α β : Type} (e : α) (F : α → Option β) : Option β := F e
def cl {α β : Type} (o : Option α) (F : α → Option β) : Option β := match o with
  | none => none
  | some a => F a
def gd {β : Type} (b : Bool) (x : Option β) : Option β := match b with
  | true => x
  | false => none
theorem bd_x {α β : Type} {e : α} {F : α → Option β} {r : β} (h : bd e F = some r) : ∃ v, e = v ∧ F v = some r := ⟨e, rfl, h⟩
theorem cl_x {α β : Type} {o : Option α} {F : α → Option β} {r : β} (h : cl o F = some r) : ∃ v, o = some v ∧ F v = some r := by
  cases o with
  | none => cases h
  | some a => exact ⟨a, rfl, h⟩
theorem gd_x {β : Type} {b : Bool} {x : Option β} {r : β} (h : gd b x = some r) : b = true ∧ x = some r := by
  cases b with
  | true => exact ⟨rfl, h⟩
  | false => cases h
def cl2 {α β γ : Type} (o : Option (α × β)) (F : α → β → Option γ) : Option γ := match o with
  | none => none
  | some a => F a.1 a.2
theorem cl2_x {α β γ : Type} {o : Option (α × β)} {F : α → β → Option γ} {r : γ} (h : cl2 o F = some r) : ∃ v w, o = some (v, w) ∧ F v w = some r := by
  cases o with
  | none => cases h
  | some a => exact ⟨a.1, a.2, rfl, h⟩
theorem cl2_s {α β γ : Type} (a : α) (b : β) (F : α → β → Option γ) : cl2 (some (a, b)) F = F a b := rfl
theorem bd_e {α β : Type} (e : α) (F : α → Option β) : bd e F = F e := rfl
theorem cl_s {α β : Type} (a : α) (F : α → Option β) : cl (some a) F = F a := rfl
theorem gd_t {β : Type} (x : Option β) : gd true x = x := rfl
/-- the branch that is taken -/
theorem br_p {c : Prop} [Decidable c] {β : Type} {x y : Option β} {r : β} (hc : c) (h : (if c then x else y) = some r) : x = some r := by rw [if_pos hc] at h; exact h
theorem br_n {c : Prop} [Decidable c] {β : Type} {x y : Option β} {r : β} (hc : ¬ c) (h : (if c then x else y) = some r) : y = some r := by rw [if_neg hc] at h; exact h
/-- a reader's contract: any heap that holds the world; it answers v, the heap stays -/
def RP (D : va_G) (cls : List vw_C) (tys : List (ClassId × FieldType)) (w : va_W) (av : List Value) : Array Value → State → Prop := va_Pc av (fun U => va_P D cls w U.heap ∧ va_K D cls tys U)
theorem RP_blind {D : va_G} {cls : List vw_C} {tys : List (ClassId × FieldType)} {w : va_W} {av : List Value} : FrameBlind (RP D cls tys w av) := by
  intro a U g mk h
  obtain ⟨h1, h2, h3⟩ := h
  exact ⟨h1, h2, va_K.moved (u := U) (U := U.calling g mk a) (Vm.Alike.refl U.vm) h3⟩
/-- a writer's end: the answer, the new world, all else as it was -/
def QW (D : va_G) (cls : List vw_C) (w : va_W) (A : Nat → Prop) (v : Option Value) : Array Value → State → Outcome → State → Prop := fun _ st o t => o = .returned v ∧ va_P D cls w t.heap ∧ va_F A st t
/-- what a call needs of the tables -/
def FV (C : String) (y : MethodName) (b : ByteArray) (k : Nat) (r : Option FieldType) (n : Nat) : Prop :=
  Cond.code y b k r ∈ ww ∧ Cond.instanceMethod y ∈ ww ∧ Cond.selects C y y ∈ ww ∧ Cond.initialized y.cls ∈ ww ∧ y.cls ≠ "java/lang/invoke/MethodHandle" ∧ y.cls ≠ "java/lang/invoke/VarHandle" ∧ (parseMethodDescriptor y.desc).map (fun d => d.parameters.length) = some n
def FS (y : MethodName) (b : ByteArray) (k : Nat) (r : Option FieldType) (n : Nat) : Prop :=
  Cond.code y b k r ∈ ww ∧ Cond.static y ∈ ww ∧ Cond.initialized y.cls ∈ ww ∧ y.cls ≠ "java/lang/invoke/MethodHandle" ∧ y.cls ≠ "java/lang/invoke/VarHandle" ∧ (parseMethodDescriptor y.desc).map (fun d => d.parameters.length) = some n
section BASE
variable {p : Program} {l : Launch} {e : Env} {R : Room} {s : State} {m : MethodId} {args : Array Value} {below : List Frame} {meth : Method} {c : Code} {H : Heap} {locs : List Loc} {cells slots : Nat} {Q : State → Prop}
variable {cc b : ByteArray} {nL k index n pc : Nat} {own C : String} {y : MethodName} {r : Option FieldType} {rm : Room} {D : va_G} {cls : List vw_C} {tys : List (ClassId × FieldType)} {w w1 : va_W} {A : Nat → Prop} {ls : Array Slot} {a : Nat} {As rest st0 : List Value}
theorem top_i {x z : Int32} (h : x = z) (kk : W p l e R s m args below meth c H locs cells slots Q (F0 m pc ls (.int z :: rest))) : W p l e R s m args below meth c H locs cells slots Q (F0 m pc ls (.int x :: rest)) := by subst h; exact kk
theorem top_l {x z : Int64} (h : x = z) (kk : W p l e R s m args below meth c H locs cells slots Q (F0 m pc ls (.long z :: rest))) : W p l e R s m args below meth c H locs cells slots Q (F0 m pc ls (.long x :: rest)) := by subst h; exact kk
theorem bB (hts : ∀ w ∈ ww, w.before args s = true) (h1 : Cond.code y b k r ∈ ww) (h4 : Cond.initialized y.cls ∈ ww) (hd : y.cls ≠ "java/lang/invoke/MethodHandle" ∧ y.cls ≠ "java/lang/invoke/VarHandle" ∧ (parseMethodDescriptor y.desc).map (fun d => d.parameters.length) = some n)
    (hl : Cond.methodLink own index y ∈ ww) (hc : rm.cells = 0 ∧ rm.slots = 0) (hR : rm.frames + 1 ≤ R.frames ∧ 8 + (k + 11) + rm.locals ≤ R.locals) : CallB R s args own index y b k r (Cond.code y b k r :: ww) rm 0 0 n :=
  callB_of (ws' := ww) n hts (ww_good h1) rfl hc.1 hc.2 (hts _ h4) (hts _ hl) hd hR
/-- a reader is called: invokevirtual -/
theorem rdV {v : Value} (S : CallFix p m c cc nL s args ww own) (hF : FV C y b k r n) (hl : Cond.methodLink own index y ∈ ww) (hM : Met l y (Cond.code y b k r :: ww) rm (RP D cls tys w (.ref a :: As)) (k2_QcV v) 0 0 (fun _ => False))
    (hK : va_K D cls tys s) (hP : va_P D cls w H) (hc : rm.cells = 0 ∧ rm.slots = 0) (hR : rm.frames + 1 ≤ R.frames ∧ 8 + (k + 11) + rm.locals ≤ R.locals) (hrec : ∃ cell : Cell, H[a]? = some cell ∧ cell.vm.isStatics = false ∧ s.vm.findClass C = some cell.cls)
    (hn : As.length = n) (hz : ls.size = nL) (hst : st0 = As.reverse ++ .ref a :: rest) (hW : (rest.map fun v => v.category).sum ≤ 8) (hdg : decode cc pc = .ok (.invokevirtual index, 3)) (hf : cells + 0 ≤ R.cells ∧ slots + 0 ≤ R.slots)
    (kk : W p l e R s m args below meth c H locs cells slots Q (F0 m (pc + 3) ls (v :: rest))) : W p l e R s m args below meth c H locs cells slots Q (F0 m pc ls st0) := by
  obtain ⟨h1, h2, h3, h4, hd⟩ := hF
  exact W.callV (W.runV (C := C) (rest := rest) S hM ⟨bB S.2.2.2.2 h1 h4 hd hl hc hR, S.2.2.2.2 _ h2, S.2.2.2.2 _ h3⟩ ⟨RP_blind, hrec, fun U hU hW => ⟨rfl, by rw [hU]; exact hP, va_K.moved hW.alike hK⟩⟩ rfl hn hz hst (lv_room hW) hdg hf) kk
/-- a reader is called: invokestatic -/
theorem rdS {v : Value} (S : CallFix p m c cc nL s args ww own) (hF : FS y b k r n) (hl : Cond.methodLink own index y ∈ ww) (hM : Met l y (Cond.code y b k r :: ww) rm (RP D cls tys w As) (k2_QcV v) 0 0 (fun _ => False))
    (hK : va_K D cls tys s) (hP : va_P D cls w H) (hc : rm.cells = 0 ∧ rm.slots = 0) (hR : rm.frames + 1 ≤ R.frames ∧ 8 + (k + 11) + rm.locals ≤ R.locals)
    (hn : As.length = n) (hz : ls.size = nL) (hst : st0 = As.reverse ++ rest) (hW : (rest.map fun v => v.category).sum ≤ 8) (hdg : decode cc pc = .ok (.invokestatic index, 3)) (hf : cells + 0 ≤ R.cells ∧ slots + 0 ≤ R.slots)
    (kk : W p l e R s m args below meth c H locs cells slots Q (F0 m (pc + 3) ls (v :: rest))) : W p l e R s m args below meth c H locs cells slots Q (F0 m pc ls st0) := by
  obtain ⟨h1, h2, h4, hd⟩ := hF
  exact W.callV (W.runS (rest := rest) S hM ⟨bB S.2.2.2.2 h1 h4 hd hl hc hR, S.2.2.2.2 _ h2⟩ ⟨RP_blind, fun U hU hW => ⟨rfl, by rw [hU]; exact hP, va_K.moved hW.alike hK⟩⟩ rfl hn hz hst (lv_room hW) hdg hf) kk
/-- behind a writer's call -/
theorem wr_k {v : Option Value} {ar : Array Value} (hr : va_Run p l e R s m args below meth c H locs cells slots 0 0 (F0 m pc ls st0) rest (QW D cls w1 A v ar) A) (hS : va_S A s.heap H locs)
    (kk : ∀ (H1 : Heap) (locs1 : List Loc), va_P D cls w1 H1 → va_S A s.heap H1 locs1 → W p l e R s m args below meth c H1 locs1 cells slots Q (F0 m (pc + 3) ls (v.toList ++ rest))) : W p l e R s m args below meth c H locs cells slots Q (F0 m pc ls st0) := by
  intro T hT X
  obtain ⟨v', st₀, t, T', L, h0, X', hL, e1, e2, ⟨hv, hp, hz, hk⟩, st⟩ := hr T hT X
  cases hv
  rw [h0] at hz hk
  obtain ⟨t2, a1, b1⟩ := kk t.heap (locs ++ L) hp ⟨Nat.le_trans hS.1 hz, fun q h1 h2 => by rw [hk q (Nat.lt_of_lt_of_le h1 hS.1) h2]; exact hS.2.1 q h1 h2, fun q hq => by
      rcases List.mem_append.mp hq with h | h
      · exact hS.2.2 q h
      · exact hL q h⟩ T' e1 X'
  exact ⟨t2, st t2 a1, b1⟩
/-- a writer is called: invokevirtual -/
theorem wrV {v : Option Value} (S : CallFix p m c cc nL s args ww own) (hF : FV C y b k r n) (hl : Cond.methodLink own index y ∈ ww) (hM : Met l y (Cond.code y b k r :: ww) rm (RP D cls tys w (.ref a :: As)) (QW D cls w1 A v) 0 0 A)
    (hK : va_K D cls tys s) (hP : va_P D cls w H) (hS : va_S A s.heap H locs) (hc : rm.cells = 0 ∧ rm.slots = 0) (hR : rm.frames + 1 ≤ R.frames ∧ 8 + (k + 11) + rm.locals ≤ R.locals) (hrec : ∃ cell : Cell, H[a]? = some cell ∧ cell.vm.isStatics = false ∧ s.vm.findClass C = some cell.cls)
    (hn : As.length = n) (hz : ls.size = nL) (hst : st0 = As.reverse ++ .ref a :: rest) (hW : (rest.map fun v => v.category).sum ≤ 8) (hdg : decode cc pc = .ok (.invokevirtual index, 3)) (hf : cells + 0 ≤ R.cells ∧ slots + 0 ≤ R.slots)
    (kk : ∀ (H1 : Heap) (locs1 : List Loc), va_P D cls w1 H1 → va_S A s.heap H1 locs1 → W p l e R s m args below meth c H1 locs1 cells slots Q (F0 m (pc + 3) ls (v.toList ++ rest))) : W p l e R s m args below meth c H locs cells slots Q (F0 m pc ls st0) := by
  obtain ⟨h1, h2, h3, h4, hd⟩ := hF
  exact wr_k (va_runV (C := C) (rest := rest) S hM ⟨bB S.2.2.2.2 h1 h4 hd hl hc hR, S.2.2.2.2 _ h2, S.2.2.2.2 _ h3⟩ ⟨RP_blind, hrec, fun U hU hW => ⟨rfl, by rw [hU]; exact hP, va_K.moved hW.alike hK⟩⟩ rfl hn hz hst (lv_room hW) hdg hf) hS kk
/-- a writer is called: invokestatic -/
theorem wrS {v : Option Value} (S : CallFix p m c cc nL s args ww own) (hF : FS y b k r n) (hl : Cond.methodLink own index y ∈ ww) (hM : Met l y (Cond.code y b k r :: ww) rm (RP D cls tys w As) (QW D cls w1 A v) 0 0 A)
    (hK : va_K D cls tys s) (hP : va_P D cls w H) (hS : va_S A s.heap H locs) (hc : rm.cells = 0 ∧ rm.slots = 0) (hR : rm.frames + 1 ≤ R.frames ∧ 8 + (k + 11) + rm.locals ≤ R.locals)
    (hn : As.length = n) (hz : ls.size = nL) (hst : st0 = As.reverse ++ rest) (hW : (rest.map fun v => v.category).sum ≤ 8) (hdg : decode cc pc = .ok (.invokestatic index, 3)) (hf : cells + 0 ≤ R.cells ∧ slots + 0 ≤ R.slots)
    (kk : ∀ (H1 : Heap) (locs1 : List Loc), va_P D cls w1 H1 → va_S A s.heap H1 locs1 → W p l e R s m args below meth c H1 locs1 cells slots Q (F0 m (pc + 3) ls (v.toList ++ rest))) : W p l e R s m args below meth c H locs cells slots Q (F0 m pc ls st0) := by
  obtain ⟨h1, h2, h4, hd⟩ := hF
  exact wr_k (va_runS (rest := rest) S hM ⟨bB S.2.2.2.2 h1 h4 hd hl hc hR, S.2.2.2.2 _ h2⟩ ⟨RP_blind, fun U hU hW => ⟨rfl, by rw [hU]; exact hP, va_K.moved hW.alike hK⟩⟩ rfl hn hz hst (lv_room hW) hdg hf) hS kk
end BASE
/-- what stands fixed inside a method -/
def Cx (p : Program) (s : State) (m : MethodId) (args : Array Value) (meth : Method) (c : Code) (cc : ByteArray) (nL : Nat) (own : String) (ret : Option FieldType) (D : va_G) (cls : List vw_C) (tys : List (ClassId × FieldType)) : Prop :=
  CallFix p m c cc nL s args ww own ∧ meth.sig.returnType = ret ∧ meth.locks = false ∧ va_K D cls tys s
/-- a contract out of the walk of a body -/
theorem met_of {l : Launch} {y : MethodName} {rm : Room} {Qc : Array Value → State → Outcome → State → Prop} {free : Addr → Prop} {cc : ByteArray} {k : Nat} {ret : Option FieldType} {D : va_G} {cls : List vw_C} {tys : List (ClassId × FieldType)} {w : va_W} {av : List Value} {mc ms : Nat}
    (hy : plainName y.cls = true) (hlen : (lg_sl av).length ≤ k)
    (body : ∀ p e s m below meth c ls, Cx p s m av.toArray meth c cc k y.cls ret D cls tys → va_P D cls w s.heap → lv_has ls k (lv_args 0 av) → W p l e rm s m av.toArray below meth c s.heap [] 0 0 (MQ below Qc av.toArray s mc ms free) (F0 m 0 ls [])) :
    Met l y (Cond.code y cc k ret :: ww) rm (RP D cls tys w av) Qc mc ms free := by
  refine Met.ofW (cc := cc) (maxL := k) (ret := ret) hy rfl ?_
  intro p e s m args below meth c s₁ B hml hv
  obtain ⟨rfl, hP, hK⟩ := hv
  have hts := atoms_spec (ws := Cond.code y cc k ret :: ww) B.pre
  have hown : s.vm.findClass y.cls = some m.cls := findClass_of_methodNamed B.named
  rw [lg_entry_eq]
  exact body p e s m below meth c _ ⟨⟨B.exec, B.bytes, hml, hown, fun w hw => hts w (List.mem_cons_of_mem _ hw)⟩, B.returns, B.notSynchronized, hK⟩ hP (lv_entry av hlen)
abbrev WR (p : Program) (l : Launch) (e : Env) (R : Room) (s : State) (m : MethodId) (args : Array Value) (below : List Frame) (meth : Method) (c : Code) (v : Value) (fr : JFrame) : Prop := W p l e R s m args below meth c s.heap [] 0 0 (MQ below (k2_QcV v) args s 0 0 (fun _ => False)) fr
