def WD (g : Nat → ClassId) (ad : Nat → Nat) (L : Nat) (μ : Mem) : va_W := [(ad 0, .inr (9, [.ref (ad 1), .ref (ad 2), .int (μ.1 0 2)])),
  (ad 1, .inl (g 1, L, .inr (.inl (μ.2 1)))),
  (ad 2, .inl (g 1, L, .inr (.inl (μ.2 2)))),
  (ad 3, .inl (g 1, 24, .inr (.inl (μ.2 3))))]
section oROWS
variable {p : Program} {l : Launch} {e : Env} {R : Room} {s : State} {m : MethodId} {args : Array Value} {below : List Frame} {meth : Method} {c : Code} {H : Heap} {locs : List Loc} {cells slots : Nat} {Q : State → Prop} {cc : ByteArray} {pc index : Nat} {own : String} {ls : Array Slot} {rest : List Value} {D : va_G} {g : Nat → ClassId} {ad : Nat → Nat} {L : Nat} {μ μ1 : Mem} {A : Nat → Prop}
theorem or_0 (hK : va_K D CL (TY g) s) (hP : va_P D CL (WD g ad L μ) H) : ∃ cell : Cell, H[ad 0]? = some cell ∧ cell.vm.isStatics = false ∧ s.vm.findClass R_Document = some cell.cls := va_recv (q0 := 0) (ci := 9) (q := (R_Document, T_Document, 3)) hK hP rfl rfl
theorem og_0_0 (hx : p.tables.exec = Jvm.exec) (hb : c.code = cc) (hts : ∀ w ∈ ww, w.before args s = true) (hown : s.vm.findClass own = some m.cls) (hK : va_K D CL (TY g) s) (hP : va_P D CL (WD g ad L μ) H) (hl : Cond.fieldLink own index R_Document "tokenTerms" "[J" ∈ ww) (hdg : decode cc pc = .ok (.getfield index, 3)) (kk : W p l e R s m args below meth c H locs cells slots Q (F0 m (pc + 3) ls (.ref (ad 1) :: rest))) : W p l e R s m args below meth c H locs cells slots Q (F0 m pc ls (.ref (ad 0) :: rest)) := va_get (v := .ref (ad 1)) (ci := 9) (C := R_Document) (T := T_Document) (N := 3) hx hb hts u_Document hown hK hP 0 rfl rfl 0 (by decide) (hts _ hl) (fun _ h => h) rfl hdg kk
theorem og_0_1 (hx : p.tables.exec = Jvm.exec) (hb : c.code = cc) (hts : ∀ w ∈ ww, w.before args s = true) (hown : s.vm.findClass own = some m.cls) (hK : va_K D CL (TY g) s) (hP : va_P D CL (WD g ad L μ) H) (hl : Cond.fieldLink own index R_Document "compoundTerms" "[J" ∈ ww) (hdg : decode cc pc = .ok (.getfield index, 3)) (kk : W p l e R s m args below meth c H locs cells slots Q (F0 m (pc + 3) ls (.ref (ad 2) :: rest))) : W p l e R s m args below meth c H locs cells slots Q (F0 m pc ls (.ref (ad 0) :: rest)) := va_get (v := .ref (ad 2)) (ci := 9) (C := R_Document) (T := T_Document) (N := 3) hx hb hts u_Document hown hK hP 0 rfl rfl 1 (by decide) (hts _ hl) (fun _ h => h) rfl hdg kk
theorem og_0_2 (hx : p.tables.exec = Jvm.exec) (hb : c.code = cc) (hts : ∀ w ∈ ww, w.before args s = true) (hown : s.vm.findClass own = some m.cls) (hK : va_K D CL (TY g) s) (hP : va_P D CL (WD g ad L μ) H) (hl : Cond.fieldLink own index R_Document "postings" "I" ∈ ww) (hdg : decode cc pc = .ok (.getfield index, 3)) (kk : W p l e R s m args below meth c H locs cells slots Q (F0 m (pc + 3) ls (.int (μ.1 0 2) :: rest))) : W p l e R s m args below meth c H locs cells slots Q (F0 m pc ls (.ref (ad 0) :: rest)) := va_get (v := .int (μ.1 0 2)) (ci := 9) (C := R_Document) (T := T_Document) (N := 3) hx hb hts u_Document hown hK hP 0 rfl rfl 2 (by decide) (hts _ hl) (fun _ h => h) rfl hdg kk
theorem op_0_2 {v : Int32} (hx : p.tables.exec = Jvm.exec) (hb : c.code = cc) (hts : ∀ w ∈ ww, w.before args s = true) (hown : s.vm.findClass own = some m.cls) (hK : va_K D CL (TY g) s) (hD : va_D A (WD g ad L μ)) (hP : va_P D CL (WD g ad L μ) H) (hS : va_S A s.heap H locs) (hl : Cond.fieldLink own index R_Document "postings" "I" ∈ ww) (hdg : decode cc pc = .ok (.putfield index, 3)) (hμ : wi μ 0 2 v = μ1) (kk : ∀ (H1 : Heap) (locs1 : List Loc), va_P D CL (WD g ad L μ1) H1 → va_S A s.heap H1 locs1 → W p l e R s m args below meth c H1 locs1 cells slots Q (F0 m (pc + 3) ls rest)) : W p l e R s m args below meth c H locs cells slots Q (F0 m pc ls (.int v :: .ref (ad 0) :: rest)) := by
  subst hμ
  exact va_put (v := .int v) (ty := .int) (ci := 9) (C := R_Document) (T := T_Document) (N := 3) hx hb hts u_Document t_Document t_Document_ok n_Document hown hK hP hD hS 0 rfl rfl 2 (by decide) (hts _ hl) (fun _ h => h) rfl (by decide +kernel) rfl rfl (Nat.le_of_ble_eq_true rfl) hdg (fun H1 locs1 h1 _ h3 => kk H1 locs1 h1 h3)
theorem ol_1 {i : Int32} (hx : p.tables.exec = Jvm.exec) (hb : c.code = cc) (hK : va_K D CL (TY g) s) (hP : va_P D CL (WD g ad L μ) H) (hi : vp_in i L) (hdg : decode cc pc = .ok (.laload, 1)) (kk : W p l e R s m args below meth c H locs cells slots Q (F0 m (pc + 1) ls (.long (μ.2 1 i.toNatClampNeg) :: rest))) : W p l e R s m args below meth c H locs cells slots Q (F0 m pc ls (.int i :: .ref (ad 1) :: rest)) := va_lald hx hb hK hP 1 1 rfl rfl hi hdg kk
theorem os_1 {i : Int32} {x : Int64} (hx : p.tables.exec = Jvm.exec) (hb : c.code = cc) (hK : va_K D CL (TY g) s) (hD : va_D A (WD g ad L μ)) (hP : va_P D CL (WD g ad L μ) H) (hS : va_S A s.heap H locs) (hi : vp_in i L) (hdg : decode cc pc = .ok (.lastore, 1)) (hμ : wl μ 1 i.toNatClampNeg x = μ1) (kk : ∀ (H1 : Heap) (locs1 : List Loc), va_P D CL (WD g ad L μ1) H1 → va_S A s.heap H1 locs1 → W p l e R s m args below meth c H1 locs1 cells slots Q (F0 m (pc + 1) ls rest)) : W p l e R s m args below meth c H locs cells slots Q (F0 m pc ls (.long x :: .int i :: .ref (ad 1) :: rest)) := by
  subst hμ
  exact va_last hx hb hK hP hD hS 1 1 rfl rfl hi hdg (fun H1 locs1 h1 _ h3 => kk H1 locs1 h1 h3)
theorem on_1 (hx : p.tables.exec = Jvm.exec) (hb : c.code = cc) (hK : va_K D CL (TY g) s) (hP : va_P D CL (WD g ad L μ) H) (hdg : decode cc pc = .ok (.arraylength, 1)) (kk : W p l e R s m args below meth c H locs cells slots Q (F0 m (pc + 1) ls (.int (Int32.ofNat L) :: rest))) : W p l e R s m args below meth c H locs cells slots Q (F0 m pc ls (.ref (ad 1) :: rest)) := va_alen (v := (Int32.ofNat L)) hx hb hK hP 1 1 rfl rfl rfl hdg kk
theorem ol_2 {i : Int32} (hx : p.tables.exec = Jvm.exec) (hb : c.code = cc) (hK : va_K D CL (TY g) s) (hP : va_P D CL (WD g ad L μ) H) (hi : vp_in i L) (hdg : decode cc pc = .ok (.laload, 1)) (kk : W p l e R s m args below meth c H locs cells slots Q (F0 m (pc + 1) ls (.long (μ.2 2 i.toNatClampNeg) :: rest))) : W p l e R s m args below meth c H locs cells slots Q (F0 m pc ls (.int i :: .ref (ad 2) :: rest)) := va_lald hx hb hK hP 2 1 rfl rfl hi hdg kk
theorem os_2 {i : Int32} {x : Int64} (hx : p.tables.exec = Jvm.exec) (hb : c.code = cc) (hK : va_K D CL (TY g) s) (hD : va_D A (WD g ad L μ)) (hP : va_P D CL (WD g ad L μ) H) (hS : va_S A s.heap H locs) (hi : vp_in i L) (hdg : decode cc pc = .ok (.lastore, 1)) (hμ : wl μ 2 i.toNatClampNeg x = μ1) (kk : ∀ (H1 : Heap) (locs1 : List Loc), va_P D CL (WD g ad L μ1) H1 → va_S A s.heap H1 locs1 → W p l e R s m args below meth c H1 locs1 cells slots Q (F0 m (pc + 1) ls rest)) : W p l e R s m args below meth c H locs cells slots Q (F0 m pc ls (.long x :: .int i :: .ref (ad 2) :: rest)) := by
  subst hμ
  exact va_last hx hb hK hP hD hS 2 1 rfl rfl hi hdg (fun H1 locs1 h1 _ h3 => kk H1 locs1 h1 h3)
theorem on_2 (hx : p.tables.exec = Jvm.exec) (hb : c.code = cc) (hK : va_K D CL (TY g) s) (hP : va_P D CL (WD g ad L μ) H) (hdg : decode cc pc = .ok (.arraylength, 1)) (kk : W p l e R s m args below meth c H locs cells slots Q (F0 m (pc + 1) ls (.int (Int32.ofNat L) :: rest))) : W p l e R s m args below meth c H locs cells slots Q (F0 m pc ls (.ref (ad 2) :: rest)) := va_alen (v := (Int32.ofNat L)) hx hb hK hP 2 1 rfl rfl rfl hdg kk
theorem ol_3 {i : Int32} (hx : p.tables.exec = Jvm.exec) (hb : c.code = cc) (hK : va_K D CL (TY g) s) (hP : va_P D CL (WD g ad L μ) H) (hi : vp_in i 24) (hdg : decode cc pc = .ok (.laload, 1)) (kk : W p l e R s m args below meth c H locs cells slots Q (F0 m (pc + 1) ls (.long (μ.2 3 i.toNatClampNeg) :: rest))) : W p l e R s m args below meth c H locs cells slots Q (F0 m pc ls (.int i :: .ref (ad 3) :: rest)) := va_lald hx hb hK hP 3 1 rfl rfl hi hdg kk
theorem os_3 {i : Int32} {x : Int64} (hx : p.tables.exec = Jvm.exec) (hb : c.code = cc) (hK : va_K D CL (TY g) s) (hD : va_D A (WD g ad L μ)) (hP : va_P D CL (WD g ad L μ) H) (hS : va_S A s.heap H locs) (hi : vp_in i 24) (hdg : decode cc pc = .ok (.lastore, 1)) (hμ : wl μ 3 i.toNatClampNeg x = μ1) (kk : ∀ (H1 : Heap) (locs1 : List Loc), va_P D CL (WD g ad L μ1) H1 → va_S A s.heap H1 locs1 → W p l e R s m args below meth c H1 locs1 cells slots Q (F0 m (pc + 1) ls rest)) : W p l e R s m args below meth c H locs cells slots Q (F0 m pc ls (.long x :: .int i :: .ref (ad 3) :: rest)) := by
  subst hμ
  exact va_last hx hb hK hP hD hS 3 1 rfl rfl hi hdg (fun H1 locs1 h1 _ h3 => kk H1 locs1 h1 h3)
theorem on_3 (hx : p.tables.exec = Jvm.exec) (hb : c.code = cc) (hK : va_K D CL (TY g) s) (hP : va_P D CL (WD g ad L μ) H) (hdg : decode cc pc = .ok (.arraylength, 1)) (kk : W p l e R s m args below meth c H locs cells slots Q (F0 m (pc + 1) ls (.int 24 :: rest))) : W p l e R s m args below meth c H locs cells slots Q (F0 m pc ls (.ref (ad 3) :: rest)) := va_alen (v := 24) hx hb hK hP 3 1 rfl rfl rfl hdg kk
end oROWS
/-! documents: what one holds (positions, terms of the tokens, terms of the compounds, postings), and where it lies in the pool -/
abbrev Dox : Type := Nat × (Nat → Int64) × (Nat → Int64) × Int32
abbrev Dx : Type := Nat → Option Dox
def mt {α β : Type} (o : Option α) (x : Option β) (F : α → Option β) : Option β := match o with
  | none => x
  | some a => F a
theorem mt_n {α β : Type} {o : Option α} {x : Option β} {F : α → Option β} {r : β} (h : o = none) (hf : mt o x F = some r) : x = some r := by subst h; exact hf
theorem mt_s {α β : Type} {o : Option α} {x : Option β} {F : α → Option β} {r : β} {a : α} (h : o = some a) (hf : mt o x F = some r) : F a = some r := by subst h; exact hf
def dsel {α : Type} (b : Bool) (o : Option α) : Option α := match b with
  | true => o
  | false => none
theorem dsel_t {α : Type} (o : Option α) : dsel true o = o := rfl
def dv (dr : Nat → Option Nat) (i : Int32) (b : Bool) : Value := match b with
  | true => va_rf (dr i.toNatClampNeg)
  | false => .null
theorem dv_n {dr : Nat → Option Nat} {i : Int32} (h : dr i.toNatClampNeg = none) : dv dr i true = .null := by simp [dv, h, va_rf]
theorem dv_s {dr : Nat → Option Nat} {i : Int32} {a : Nat} (h : dr i.toNatClampNeg = some a) : dv dr i true = .ref a := by simp [dv, h, va_rf]
def dmem (q : Dox) (μ : Mem) : Mem := (fun _ _ => q.2.2.2, fun k => match k with
  | 1 => q.2.1
  | 2 => q.2.2.1
  | _ => μ.2 44)
def dad (a a1 a2 b : Nat) : Nat → Nat := fun k => match k with
  | 0 => a
  | 1 => a1
  | 2 => a2
  | _ => b
def DocAt (g : Nat → ClassId) (pl : va_W) (a : Nat) (q : Dox) : Prop := ∃ a1 a2 k k1 k2 : Nat, pl[k]? = some (a, .inr (9, [.ref a1, .ref a2, .int q.2.2.2])) ∧ pl[k1]? = some (a1, .inl (g 1, q.1, .inr (.inl q.2.1))) ∧ pl[k2]? = some (a2, .inl (g 1, q.1, .inr (.inl q.2.2.1)))
def DocOK (g : Nat → ClassId) (dr : Nat → Option Nat) (pl : va_W) (δ : Dx) : Prop := ∀ d, (dr d = none → δ d = none) ∧ ∀ a, dr d = some a → ∃ q, δ d = some q ∧ DocAt g pl a q
theorem wx_pl {g : Nat → ClassId} {ad : Nat → Nat} {dr : Nat → Option Nat} {pl : va_W} {μ : Mem} (k : Nat) : (WX g ad dr pl μ)[45 + k]? = pl[k]? := by
  unfold WX
  rw [List.getElem?_append_right (Nat.le_add_right 45 k)]
  exact congrArg (fun j => pl[j]?) (Nat.add_sub_cancel_left 45 k)
theorem doc_P {D : va_G} {g : Nat → ClassId} {ad : Nat → Nat} {dr : Nat → Option Nat} {pl : va_W} {μ : Mem} {H : Heap} {a : Nat} {q : Dox} (hP : va_P D CL (WX g ad dr pl μ) H) (h : DocAt g pl a q) : ∃ a1 a2 : Nat, va_P D CL (WD g (dad a a1 a2 (ad 44)) q.1 (dmem q μ)) H := by
  obtain ⟨a1, a2, k, k1, k2, h0, h1, h2⟩ := h
  refine ⟨a1, a2, ?_⟩
  intro j x hj
  rcases j with _ | _ | _ | _ | j
  · cases hj; exact hP (45 + k) _ ((wx_pl k).trans h0)
  · cases hj; exact hP (45 + k1) _ ((wx_pl k1).trans h1)
  · cases hj; exact hP (45 + k2) _ ((wx_pl k2).trans h2)
  · cases hj; exact hP 44 _ rfl
  · cases hj
section XQ
variable {p : Program} {l : Launch} {e : Env} {R : Room} {s : State} {m : MethodId} {args : Array Value} {below : List Frame} {meth : Method} {c : Code} {H : Heap} {locs : List Loc} {cells slots : Nat} {Q : State → Prop} {cc : ByteArray} {pc : Nat} {ls : Array Slot} {rest : List Value} {D : va_G} {g : Nat → ClassId} {ad : Nat → Nat} {dr : Nat → Option Nat} {pl : va_W} {μ : Mem}
theorem xq_42 {i : Int32} (hx : p.tables.exec = Jvm.exec) (hb : c.code = cc) (hK : va_K D CL (TY g) s) (hP : va_P D CL (WX g ad dr pl μ) H) (hi : vp_in i 40) (hdg : decode cc pc = .ok (.aaload, 1)) (kk : W p l e R s m args below meth c H locs cells slots Q (F0 m (pc + 1) ls (va_rf (dr i.toNatClampNeg) :: rest))) : W p l e R s m args below meth c H locs cells slots Q (F0 m pc ls (.int i :: .ref (ad 42) :: rest)) := va_aldq (C := "MorphIndex$Document") hx hb hK hP 42 3 rfl rfl hi hdg kk
end XQ
