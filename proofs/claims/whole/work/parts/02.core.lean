/-! what all methods share: the world, the room by levels, contracts in functional form, one row a call -/
abbrev classes : List vw_C := [(RX0, TX0, 2), (RX1, TX1, 6), (RX2, TX2, 6), (RX3, TX3, 4), (RX4, TX4, 13), (RX5, TX5, 17)]
abbrev Ev : Type := va_G × ClassId × ClassId × Nat × Nat × Nat
abbrev TY (E : Ev) : List (ClassId × FieldType) := [(E.2.1, .int), (E.2.2.1, .boolean)]
abbrev RM (L : Nat) : Room := { frames := L, cells := 0, slots := 0, locals := 64 * L }
abbrev wG (y : MethodName) (b : ByteArray) (n : Nat) (r : Option FieldType) : List Cond := .code y b n r :: GG
def nestW : Cond := .methodLinkNest RX1 49 yX4_dividedUp "OvenNoses"
def tO2 : Nat → Int32 := fun j => match j with | 0 => 40 | _ => 18
def tL5 : Nat → Int32 := fun j => match j with | 2 => 1 | _ => 0
def tM5 : Nat → Int32 := fun j => match j with | 0 => 9 | 1 => 9 | 2 => 99 | 3 => 60 | _ => 99
def KK (E : Ev) (A : Nat → Prop) (U : State) (H : Heap) : Prop :=
  va_K E.1 classes (TY E) U ∧ va_Nw nestW U ∧
  (va_Z RX2 "OVEN_MOSTS" "[I" (.ref E.2.2.2.1) A U H ∧ va_T .int E.2.2.2.1 2 (fun j => .int (tO2 j)) A U H) ∧
  (va_Z RX2 "DOUGH_LEASTS" "[I" (.ref E.2.2.2.2.1) A U H ∧ va_T .int E.2.2.2.2.1 5 (fun j => .int (tL5 j)) A U H) ∧
  (va_Z RX2 "DOUGH_MOSTS" "[I" (.ref E.2.2.2.2.2) A U H ∧ va_T .int E.2.2.2.2.2 5 (fun j => .int (tM5 j)) A U H)
theorem KK.pass {E : Ev} {A0 A1 : Nat → Prop} {s U : State} {H : Heap} {locs : List Loc} (h : KK E A0 s s.heap) (hS : va_S A0 s.heap H locs) (hA : ∀ q, A1 q → A0 q) (hU : U.heap = H) (hW : s.WarmedH U.vm) : KK E A1 U U.heap := by
  obtain ⟨h1, h2, ⟨z1, t1⟩, ⟨z2, t2⟩, ⟨z3, t3⟩⟩ := h
  have k : ∀ a : Nat, a < s.heap.size → ¬ A0 a → H[a]? = s.heap[a]? := fun a ha hn => hS.2.1 a ha hn
  rw [hU]
  exact ⟨va_K.moved hW.alike h1, va_Nw.warmM hW h2, ⟨((z1.kept k).moved hW.alike).narrow hA, ((t1.kept k).moved hW.alike).narrow hA⟩, ⟨((z2.kept k).moved hW.alike).narrow hA, ((t2.kept k).moved hW.alike).narrow hA⟩, ⟨((z3.kept k).moved hW.alike).narrow hA, ((t3.kept k).moved hW.alike).narrow hA⟩⟩
theorem KK.calling {E : Ev} {A : Nat → Prop} {U : State} {g : JFrame} {mk : MethodId} {a : Array Value} (h : KK E A U U.heap) : KK E A (U.calling g mk a) (U.calling g mk a).heap := by
  obtain ⟨h1, h2, ⟨z1, t1⟩, ⟨z2, t2⟩, ⟨z3, t3⟩⟩ := h
  have e : U.vm.Alike (U.calling g mk a).vm := Vm.Alike.refl U.vm
  exact ⟨va_K.moved e h1, va_Nw.same rfl rfl h2, ⟨z1.moved e, t1.moved e⟩, ⟨z2.moved e, t2.moved e⟩, ⟨z3.moved e, t3.moved e⟩⟩
/-- what a method's walk stands on -/
abbrev Cx (p : Program) (s : State) (m : MethodId) (args : Array Value) (meth : Method) (c : Code) (cc : ByteArray) (nL : Nat) (own : String) (rt : Option FieldType) : Prop :=
  p.tables.exec = Jvm.exec ∧ c.code = cc ∧ c.maxLocals = nL ∧ s.vm.findClass own = some m.cls ∧ (∀ w ∈ GG, w.before args s = true) ∧ meth.sig.returnType = rt ∧ meth.locks = false
/-- a method that changes nothing and answers an int -/
def PureI (l : Launch) (E : Ev) (L : Nat) (y : MethodName) (b : ByteArray) (n : Nat) (rt : FieldType) (av : List Value) (ws : va_W) (r : Int32) : Prop :=
  ∀ sz : Nat, Met l y (wG y b n (some rt)) (RM L) (va_Pc av (fun U => U.heap.size = sz ∧ va_P E.1 classes ws U.heap ∧ KK E (fun q => sz ≤ q) U U.heap)) (va_Qi (fun (r' : Int32) (_ : Unit) => r' = r) (fun _ _ => True) (fun q => sz ≤ q)) 0 0 (fun q => sz ≤ q)
def PureL (l : Launch) (E : Ev) (L : Nat) (y : MethodName) (b : ByteArray) (n : Nat) (av : List Value) (ws : va_W) (r : Int64) : Prop :=
  ∀ sz : Nat, Met l y (wG y b n (some .long)) (RM L) (va_Pc av (fun U => U.heap.size = sz ∧ va_P E.1 classes ws U.heap ∧ KK E (fun q => sz ≤ q) U U.heap)) (va_Ql (fun (r' : Int64) (_ : Unit) => r' = r) (fun _ _ => True) (fun q => sz ≤ q)) 0 0 (fun q => sz ≤ q)
def PureR (l : Launch) (E : Ev) (L : Nat) (y : MethodName) (b : ByteArray) (n : Nat) (rt : FieldType) (av : List Value) (ws : va_W) (a : Nat) : Prop :=
  ∀ sz : Nat, Met l y (wG y b n (some rt)) (RM L) (va_Pc av (fun U => U.heap.size = sz ∧ va_P E.1 classes ws U.heap ∧ KK E (fun q => sz ≤ q) U U.heap)) (va_Qr (fun (_ : Unit) => True) (fun _ a' _ => a' = a) (fun q => sz ≤ q)) 0 0 (fun q => sz ≤ q)
/-- a method that changes its world's cells -/
def MutI (l : Launch) (E : Ev) (L : Nat) (y : MethodName) (b : ByteArray) (n : Nat) (rt : FieldType) (av : List Value) (ws ws' : va_W) (r : Int32) : Prop :=
  ∀ sz : Nat, Met l y (wG y b n (some rt)) (RM L) (va_Pc av (fun U => U.heap.size = sz ∧ va_P E.1 classes ws U.heap ∧ KK E (va_A ws sz) U U.heap ∧ va_D (fun _ => True) ws)) (va_Qi (fun (r' : Int32) (_ : Unit) => r' = r) (fun _ t => va_P E.1 classes ws' t.heap) (va_A ws sz)) 0 0 (va_A ws sz)
def MutV (l : Launch) (E : Ev) (L : Nat) (y : MethodName) (b : ByteArray) (n : Nat) (av : List Value) (ws ws' : va_W) : Prop :=
  ∀ sz : Nat, Met l y (wG y b n none) (RM L) (va_Pc av (fun U => U.heap.size = sz ∧ va_P E.1 classes ws U.heap ∧ KK E (va_A ws sz) U U.heap ∧ va_D (fun _ => True) ws)) (va_Qv (fun (_ : Unit) => True) (fun _ t => va_P E.1 classes ws' t.heap) (va_A ws sz)) 0 0 (va_A ws sz)
/-- what a return gives -/
def RetI (p : Program) (l : Launch) (e : Env) (R : Room) (s : State) (m : MethodId) (args : Array Value) (below : List Frame) (meth : Method) (c : Code) (Q : State → Prop) (E : Ev) (A : Nat → Prop) (cc : ByteArray) (rt : FieldType) (ws : va_W) (r : Int32) : Prop :=
  ∀ (H : Heap) (locs : List Loc) (pc : Nat) (ls : Array Slot), narrow rt (.int r) = .int r → va_P E.1 classes ws H → va_S A s.heap H locs → decode cc pc = .ok (.ireturn, 1) → W p l e R s m args below meth c H locs 0 0 Q (F0 m pc ls [.int r])
def RetL (p : Program) (l : Launch) (e : Env) (R : Room) (s : State) (m : MethodId) (args : Array Value) (below : List Frame) (meth : Method) (c : Code) (Q : State → Prop) (E : Ev) (A : Nat → Prop) (cc : ByteArray) (ws : va_W) (r : Int64) : Prop :=
  ∀ (H : Heap) (locs : List Loc) (pc : Nat) (ls : Array Slot), va_P E.1 classes ws H → va_S A s.heap H locs → decode cc pc = .ok (.lreturn, 1) → W p l e R s m args below meth c H locs 0 0 Q (F0 m pc ls [.long r])
def RetR (p : Program) (l : Launch) (e : Env) (R : Room) (s : State) (m : MethodId) (args : Array Value) (below : List Frame) (meth : Method) (c : Code) (Q : State → Prop) (E : Ev) (A : Nat → Prop) (cc : ByteArray) (ws : va_W) (r : Nat) : Prop :=
  ∀ (H : Heap) (locs : List Loc) (pc : Nat) (ls : Array Slot), va_P E.1 classes ws H → va_S A s.heap H locs → decode cc pc = .ok (.areturn, 1) → W p l e R s m args below meth c H locs 0 0 Q (F0 m pc ls [.ref r])
def RetV (p : Program) (l : Launch) (e : Env) (R : Room) (s : State) (m : MethodId) (args : Array Value) (below : List Frame) (meth : Method) (c : Code) (Q : State → Prop) (E : Ev) (A : Nat → Prop) (cc : ByteArray) (ws : va_W) : Prop :=
  ∀ (H : Heap) (locs : List Loc) (pc : Nat) (ls : Array Slot), va_P E.1 classes ws H → va_S A s.heap H locs → decode cc pc = .ok (.return_, 1) → W p l e R s m args below meth c H locs 0 0 Q (F0 m pc ls [])
theorem P_at {D : va_G} {ws : va_W} {H : Heap} {t : State} (ht : t.heap = H) (hP : va_P D classes ws H) : va_P D classes ws t.heap := by rw [ht]; exact hP
section OF
variable {l : Launch} {E : Ev} {L : Nat} {y : MethodName} {b : ByteArray} {n : Nat} {rt : FieldType} {av : List Value} {ws ws' : va_W}
theorem PureI.of {r : Int32} (hy : plainName y.cls = true) (hlen : (lg_sl av).length ≤ n)
    (body : ∀ (p : Program) (e : Env) (s : State) (m : MethodId) (args : Array Value) (below : List Frame) (meth : Method) (c : Code) (Q : State → Prop) (A : Nat → Prop), Cx p s m args meth c b n y.cls (some rt) → KK E A s s.heap → (∀ q, s.heap.size ≤ q → A q) → RetI p l e (RM L) s m args below meth c Q E A b rt ws r →
      ∀ (H : Heap) (locs : List Loc) (ls : Array Slot), lv_has ls n (lv_args 0 av) → va_P E.1 classes ws H → va_S A s.heap H locs → W p l e (RM L) s m args below meth c H locs 0 0 Q (F0 m 0 ls [])) : PureI l E L y b n rt av ws r := by
  intro sz
  refine Met.ofW (cc := b) (maxL := n) (ret := some rt) hy rfl ?_
  intro p e s m args below meth c s₁ B hml hv
  obtain ⟨rfl, hsz, hP, hK⟩ := hv
  subst hsz
  have hl := lv_entry av hlen
  rw [lg_entry_eq]
  exact body p e s m _ below meth c _ (fun q => s.heap.size ≤ q) ⟨B.exec, B.bytes, hml, findClass_of_methodNamed B.named, fun w hw => atoms_spec (ws := wG y b n (some rt)) B.pre w (List.mem_cons_of_mem _ hw), B.returns, B.notSynchronized⟩ hK (fun _ h => h) (fun H locs pc ls hn hP hS hd => W.zret B.exec B.bytes B.returns hn (fun t ht hW => ⟨⟨r, (), rfl, rfl, trivial⟩, hS.F ht⟩) hS.2.2 hd B.notSynchronized) s.heap [] _ hl hP va_S.rf
theorem PureL.of {r : Int64} (hy : plainName y.cls = true) (hlen : (lg_sl av).length ≤ n)
    (body : ∀ (p : Program) (e : Env) (s : State) (m : MethodId) (args : Array Value) (below : List Frame) (meth : Method) (c : Code) (Q : State → Prop) (A : Nat → Prop), Cx p s m args meth c b n y.cls (some .long) → KK E A s s.heap → (∀ q, s.heap.size ≤ q → A q) → RetL p l e (RM L) s m args below meth c Q E A b ws r →
      ∀ (H : Heap) (locs : List Loc) (ls : Array Slot), lv_has ls n (lv_args 0 av) → va_P E.1 classes ws H → va_S A s.heap H locs → W p l e (RM L) s m args below meth c H locs 0 0 Q (F0 m 0 ls [])) : PureL l E L y b n av ws r := by
  intro sz
  refine Met.ofW (cc := b) (maxL := n) (ret := some .long) hy rfl ?_
  intro p e s m args below meth c s₁ B hml hv
  obtain ⟨rfl, hsz, hP, hK⟩ := hv
  subst hsz
  have hl := lv_entry av hlen
  rw [lg_entry_eq]
  exact body p e s m _ below meth c _ (fun q => s.heap.size ≤ q) ⟨B.exec, B.bytes, hml, findClass_of_methodNamed B.named, fun w hw => atoms_spec (ws := wG y b n (some .long)) B.pre w (List.mem_cons_of_mem _ hw), B.returns, B.notSynchronized⟩ hK (fun _ h => h) (fun H locs pc ls hP hS hd => W.lret B.exec B.bytes B.returns (fun t ht hW => ⟨⟨r, (), rfl, rfl, trivial⟩, hS.F ht⟩) hS.2.2 hd B.notSynchronized) s.heap [] _ hl hP va_S.rf
theorem PureR.of {r : Nat} {C : String} (hy : plainName y.cls = true) (hlen : (lg_sl av).length ≤ n)
    (body : ∀ (p : Program) (e : Env) (s : State) (m : MethodId) (args : Array Value) (below : List Frame) (meth : Method) (c : Code) (Q : State → Prop) (A : Nat → Prop), Cx p s m args meth c b n y.cls (some (.object C)) → KK E A s s.heap → (∀ q, s.heap.size ≤ q → A q) → RetR p l e (RM L) s m args below meth c Q E A b ws r →
      ∀ (H : Heap) (locs : List Loc) (ls : Array Slot), lv_has ls n (lv_args 0 av) → va_P E.1 classes ws H → va_S A s.heap H locs → W p l e (RM L) s m args below meth c H locs 0 0 Q (F0 m 0 ls [])) : PureR l E L y b n (.object C) av ws r := by
  intro sz
  refine Met.ofW (cc := b) (maxL := n) (ret := some (.object C)) hy rfl ?_
  intro p e s m args below meth c s₁ B hml hv
  obtain ⟨rfl, hsz, hP, hK⟩ := hv
  subst hsz
  have hl := lv_entry av hlen
  rw [lg_entry_eq]
  exact body p e s m _ below meth c _ (fun q => s.heap.size ≤ q) ⟨B.exec, B.bytes, hml, findClass_of_methodNamed B.named, fun w hw => atoms_spec (ws := wG y b n (some (.object C))) B.pre w (List.mem_cons_of_mem _ hw), B.returns, B.notSynchronized⟩ hK (fun _ h => h) (fun H locs pc ls hP hS hd => W.aret B.exec B.bytes B.returns (Or.inl ⟨C, rfl⟩) (Or.inr ⟨r, rfl⟩) (fun t ht hW => ⟨⟨(), r, rfl, trivial, rfl⟩, hS.F ht⟩) hS.2.2 hd B.notSynchronized) s.heap [] _ hl hP va_S.rf
theorem MutI.of {r : Int32} (hy : plainName y.cls = true) (hlen : (lg_sl av).length ≤ n)
    (body : ∀ (p : Program) (e : Env) (s : State) (m : MethodId) (args : Array Value) (below : List Frame) (meth : Method) (c : Code) (Q : State → Prop) (A : Nat → Prop), Cx p s m args meth c b n y.cls (some rt) → KK E A s s.heap → (∀ q, s.heap.size ≤ q → A q) → RetI p l e (RM L) s m args below meth c Q E A b rt ws' r →
      ∀ (H : Heap) (locs : List Loc) (ls : Array Slot), lv_has ls n (lv_args 0 av) → va_P E.1 classes ws H → va_D A ws → va_S A s.heap H locs → W p l e (RM L) s m args below meth c H locs 0 0 Q (F0 m 0 ls [])) : MutI l E L y b n rt av ws ws' r := by
  intro sz
  refine Met.ofW (cc := b) (maxL := n) (ret := some rt) hy rfl ?_
  intro p e s m args below meth c s₁ B hml hv
  obtain ⟨rfl, hsz, hP, hK, hD⟩ := hv
  subst hsz
  have hl := lv_entry av hlen
  rw [lg_entry_eq]
  exact body p e s m _ below meth c _ (va_A ws s.heap.size) ⟨B.exec, B.bytes, hml, findClass_of_methodNamed B.named, fun w hw => atoms_spec (ws := wG y b n (some rt)) B.pre w (List.mem_cons_of_mem _ hw), B.returns, B.notSynchronized⟩ hK (fun _ h => Or.inr h) (fun H locs pc ls hn hP hS hd => W.zret B.exec B.bytes B.returns hn (fun t ht hW => ⟨⟨r, (), rfl, rfl, P_at ht hP⟩, hS.F ht⟩) hS.2.2 hd B.notSynchronized) s.heap [] _ hl hP hD.self va_S.rf
theorem MutV.of (hy : plainName y.cls = true) (hlen : (lg_sl av).length ≤ n)
    (body : ∀ (p : Program) (e : Env) (s : State) (m : MethodId) (args : Array Value) (below : List Frame) (meth : Method) (c : Code) (Q : State → Prop) (A : Nat → Prop), Cx p s m args meth c b n y.cls none → KK E A s s.heap → (∀ q, s.heap.size ≤ q → A q) → RetV p l e (RM L) s m args below meth c Q E A b ws' →
      ∀ (H : Heap) (locs : List Loc) (ls : Array Slot), lv_has ls n (lv_args 0 av) → va_P E.1 classes ws H → va_D A ws → va_S A s.heap H locs → W p l e (RM L) s m args below meth c H locs 0 0 Q (F0 m 0 ls [])) : MutV l E L y b n av ws ws' := by
  intro sz
  refine Met.ofW (cc := b) (maxL := n) (ret := none) hy rfl ?_
  intro p e s m args below meth c s₁ B hml hv
  obtain ⟨rfl, hsz, hP, hK, hD⟩ := hv
  subst hsz
  have hl := lv_entry av hlen
  rw [lg_entry_eq]
  exact body p e s m _ below meth c _ (va_A ws s.heap.size) ⟨B.exec, B.bytes, hml, findClass_of_methodNamed B.named, fun w hw => atoms_spec (ws := wG y b n none) B.pre w (List.mem_cons_of_mem _ hw), B.returns, B.notSynchronized⟩ hK (fun _ h => Or.inr h) (fun H locs pc ls hP hS hd => W.vret B.exec B.bytes B.returns (fun t ht hW => ⟨⟨(), rfl, trivial, P_at ht hP⟩, hS.F ht⟩) hS.2.2 hd B.notSynchronized) s.heap [] _ hl hP hD.self va_S.rf
end OF
/-! ## links -/
def lkV (own : String) (idx : Nat) (y : MethodName) (b : ByteArray) (n : Nat) (rt : Option FieldType) (k : Nat) : Prop :=
  Cond.methodLink own idx y ∈ GG ∧ Cond.instanceMethod y ∈ GG ∧ Cond.selects y.cls y y ∈ GG ∧ Cond.initialized y.cls ∈ GG ∧ Cond.code y b n rt ∈ GG ∧ y.cls ≠ "java/lang/invoke/MethodHandle" ∧ y.cls ≠ "java/lang/invoke/VarHandle" ∧ (parseMethodDescriptor y.desc).map (fun d => d.parameters.length) = some k
def lkS (own : String) (idx : Nat) (y : MethodName) (b : ByteArray) (n : Nat) (rt : Option FieldType) (k : Nat) : Prop :=
  Cond.methodLink own idx y ∈ GG ∧ Cond.static y ∈ GG ∧ Cond.initialized y.cls ∈ GG ∧ Cond.code y b n rt ∈ GG ∧ y.cls ≠ "java/lang/invoke/MethodHandle" ∧ y.cls ≠ "java/lang/invoke/VarHandle" ∧ (parseMethodDescriptor y.desc).map (fun d => d.parameters.length) = some k
theorem GG_of {ws : List Cond} (h : ∀ w ∈ ws, w ∈ GG) : GoodIn GG ws := fun w hw => ⟨h w hw, good_of_word (GG_good (h w hw))⟩
theorem lkV.good {own : String} {idx : Nat} {y : MethodName} {b : ByteArray} {n : Nat} {rt : Option FieldType} {k : Nat} (h : lkV own idx y b n rt k) : GoodIn GG (wsV own idx y.cls y (wG y b n rt)) := GG_of (by
  intro w hw
  simp only [wsV, wG, List.mem_append, List.mem_cons, List.not_mem_nil, or_false] at hw
  rcases hw with (rfl | rfl | rfl | rfl) | rfl | hw
  · exact h.1
  · exact h.2.1
  · exact h.2.2.1
  · exact h.2.2.2.1
  · exact h.2.2.2.2.1
  · exact hw)
theorem lkS.good {own : String} {idx : Nat} {y : MethodName} {b : ByteArray} {n : Nat} {rt : Option FieldType} {k : Nat} (h : lkS own idx y b n rt k) : GoodIn GG (va_wsS own idx y (wG y b n rt)) := GG_of (by
  intro w hw
  simp only [va_wsS, wG, List.mem_append, List.mem_cons, List.not_mem_nil, or_false] at hw
  rcases hw with (rfl | rfl | rfl) | rfl | hw
  · exact h.1
  · exact h.2.1
  · exact h.2.2.1
  · exact h.2.2.2.1
  · exact hw)
/-! ## the cells that a call gave back stand in their places -/
def setAll : va_W → List Nat → va_W → va_W
  | ws, i :: is, x :: xs => setAll (ws.set i x) is xs
  | ws, _, _ => ws
theorem setAll_length : ∀ (is : List Nat) (ws xs : va_W), (setAll ws is xs).length = ws.length
  | [], ws, xs => by simp [setAll]
  | i :: is, ws, [] => by simp [setAll]
  | i :: is, ws, x :: xs => by simp [setAll, setAll_length is]
theorem setAll_out : ∀ (is : List Nat) (ws xs : va_W) (k : Nat), k ∉ is → (setAll ws is xs)[k]? = ws[k]?
  | [], ws, xs, k, _ => by simp [setAll]
  | i :: is, ws, [], k, _ => by simp [setAll]
  | i :: is, ws, x :: xs, k, h => by
    simp only [List.mem_cons, not_or] at h
    rw [setAll, setAll_out is _ xs k h.2, List.getElem?_set_ne (fun e => h.1 e.symm)]
theorem setAll_in : ∀ (is : List Nat) (ws xs : va_W) (j k : Nat) (q : Nat × va_E), va_nd is = true → is[j]? = some k → xs[j]? = some q → k < ws.length → (setAll ws is xs)[k]? = some q
  | [], ws, xs, j, k, q, _, h, _, _ => by simp at h
  | i :: is, ws, [], j, k, q, _, _, h, _ => by simp at h
  | i :: is, ws, x :: xs, 0, k, q, hn, h1, h2, hk => by
    simp only [va_nd, Bool.and_eq_true, decide_eq_true_eq] at hn
    simp at h1 h2
    subst h1; subst h2
    rw [setAll, setAll_out is _ xs i hn.1, List.getElem?_set_self hk]
  | i :: is, ws, x :: xs, j + 1, k, q, hn, h1, h2, hk => by
    simp only [va_nd, Bool.and_eq_true, decide_eq_true_eq] at hn
    rw [List.getElem?_cons_succ] at h1 h2
    rw [setAll]
    exact setAll_in is _ xs j k q hn.2 h1 h2 (by simpa using hk)
theorem at_map {is : List Nat} {ws w : va_W} (hs : is.map (fun i => ws[i]?) = w.map some) {k : Nat} {q : Nat × va_E} (hk : w[k]? = some q) : ∃ i : Nat, is[k]? = some i ∧ ws[i]? = some q := by
  have h1 : (is.map (fun i => ws[i]?))[k]? = some (some q) := by rw [hs, List.getElem?_map, hk]; rfl
  rw [List.getElem?_map] at h1
  cases hi : is[k]? with
  | none => rw [hi] at h1; cases h1
  | some i => rw [hi] at h1; exact ⟨i, rfl, Option.some.inj h1⟩
theorem at_map' {is : List Nat} {ws w : va_W} (hs : is.map (fun i => ws[i]?) = w.map some) {k i : Nat} (hk : is[k]? = some i) : ∃ q : Nat × va_E, w[k]? = some q ∧ ws[i]? = some q := by
  have h1 : (is.map (fun i => ws[i]?))[k]? = some (ws[i]?) := by rw [List.getElem?_map, hk]; rfl
  rw [hs, List.getElem?_map] at h1
  cases hi : w[k]? with
  | none => rw [hi] at h1; cases h1
  | some q => rw [hi] at h1; exact ⟨q, rfl, (Option.some.inj h1).symm⟩
/-- where each cell of the changed world comes from -/
theorem setAll_from {is : List Nat} {ws wc wc' : va_W} (hC : is.map (fun i => ws[i]?) = wc.map some) (hn : va_nd is = true) (ha : wc'.map Prod.fst = wc.map Prod.fst) {k : Nat} {q : Nat × va_E} (h : (setAll ws is wc')[k]? = some q) : (k ∉ is ∧ ws[k]? = some q) ∨ (∃ j : Nat, is[j]? = some k ∧ wc'[j]? = some q ∧ ∃ q0 : Nat × va_E, wc[j]? = some q0 ∧ ws[k]? = some q0 ∧ q0.1 = q.1) := by
  by_cases hk : k ∈ is
  · obtain ⟨j, hj⟩ := List.getElem?_of_mem hk
    obtain ⟨q0, h1, h2⟩ := at_map' hC hj
    have hl : k < ws.length := (List.getElem?_eq_some_iff.mp h2).1
    have e : (wc'.map Prod.fst)[j]? = (wc.map Prod.fst)[j]? := by rw [ha]
    rw [List.getElem?_map, List.getElem?_map, h1] at e
    cases hq : wc'[j]? with
    | none => rw [hq] at e; cases e
    | some q1 =>
      rw [hq] at e
      have e1 : q1.1 = q0.1 := Option.some.inj e
      rw [setAll_in is ws wc' j k q1 hn hj hq hl] at h
      cases h
      exact Or.inr ⟨j, hj, hq, q0, h1, h2, e1.symm⟩
  · rw [setAll_out is ws wc' k hk] at h
    exact Or.inl ⟨hk, h⟩
theorem setAll_D {A : Nat → Prop} {is : List Nat} {ws wc wc' : va_W} (hD : va_D A ws) (hC : is.map (fun i => ws[i]?) = wc.map some) (hn : va_nd is = true) (ha : wc'.map Prod.fst = wc.map Prod.fst) : va_D A (setAll ws is wc') := by
  have key : ∀ (k : Nat) (q : Nat × va_E), (setAll ws is wc')[k]? = some q → ∃ q0, ws[k]? = some q0 ∧ q0.1 = q.1 := by
    intro k q h
    rcases setAll_from hC hn ha h with ⟨-, h⟩ | ⟨j, -, -, q0, -, h, e⟩
    · exact ⟨q, h, rfl⟩
    · exact ⟨q0, h, e⟩
  refine ⟨fun i j x y hi hj hxy => ?_, fun k q hk => ?_⟩
  · obtain ⟨x0, h1, h2⟩ := key i x hi
    obtain ⟨y0, h3, h4⟩ := key j y hj
    exact hD.1 i j x0 y0 h1 h3 (h2.trans (hxy.trans h4.symm))
  · obtain ⟨q0, h1, h2⟩ := key k q hk
    rw [← h2]
    exact hD.2 k q0 h1
theorem setAll_P {A : Nat → Prop} {D : va_G} {is : List Nat} {ws wc wc' : va_W} {H H1 : Heap} (hP : va_P D classes ws H) (hD : va_D A ws) (hC : is.map (fun i => ws[i]?) = wc.map some) (hn : va_nd is = true) (ha : wc'.map Prod.fst = wc.map Prod.fst) (hP1 : va_P D classes wc' H1) (hk : ∀ q : Nat, q < H.size → ¬ va_A wc H.size q → H1[q]? = H[q]?) : va_P D classes (setAll ws is wc') H1 := by
  intro k q h
  rcases setAll_from hC hn ha h with ⟨hni, h⟩ | ⟨j, -, hq, -⟩
  · have hl := (hP k q h).lt
    refine (hP k q h).kept (hk q.1 hl ?_)
    rintro (⟨k2, e, h2⟩ | h2)
    · obtain ⟨i, h3, h4⟩ := at_map hC h2
      have := hD.1 k i q (q.1, e) h h4 rfl
      subst this
      exact hni (List.mem_of_getElem? h3)
    · omega
  · exact hP1 j q hq

/-! ## calls, a row each -/
section CALLS
variable {p : Program} {l : Launch} {e : Env} {R : Room} {s : State} {m : MethodId} {args : Array Value} {below : List Frame} {meth : Method} {c : Code} {H : Heap} {locs : List Loc} {cells slots : Nat} {Q : State → Prop}
variable {cc : ByteArray} {nL pc : Nat} {ls : Array Slot} {rest st0 : List Value} {A : Nat → Prop} {E : Ev} {own : String} {rt0 : Option FieldType} {ws wc wc' : va_W} {L n k idx a ci : Nat} {y : MethodName} {b : ByteArray} {rt : FieldType} {As : List Value} {fs : List Value} {C : vw_C}
theorem kept_all (hP : va_P E.1 classes ws H) {H1 : Heap} (hk : ∀ q : Nat, q < H.size → ¬ (fun q : Nat => H.size ≤ q) q → H1[q]? = H[q]?) : va_P E.1 classes ws H1 :=
  hP.kept (fun k q hq => hk q.1 (hP k q hq).lt (fun h => absurd (hP k q hq).lt (Nat.not_lt.mpr h)))
theorem pV {r : Int32} (X : Cx p s m args meth c cc nL own rt0) (hK : KK E A s s.heap) (hA : ∀ q, s.heap.size ≤ q → A q) (hP : va_P E.1 classes ws H) (hS : va_S A s.heap H locs) (hl : ls.size = nL)
    (hM : PureI l E L y b n rt (.ref a :: As) wc r) (lk : lkV own idx y b n (some rt) k) (is : List Nat) (hsub : is.filterMap (fun i => ws[i]?) = wc) (hr : wc[0]? = some (a, .inr (ci, fs))) (hcl : classes[ci]? = some C) (hC : C.1 = y.cls)
    (hR : (L + 1 ≤ R.frames ∧ 8 + (n + 11) + 64 * L ≤ R.locals) ∧ cells ≤ R.cells ∧ slots ≤ R.slots) (hlen : As.length = k) (hst : st0 = As.reverse ++ .ref a :: rest) (hrm : (rest.map fun v => v.category).sum ≤ 8) (hdg : decode cc pc = .ok (.invokevirtual idx, 3))
    (kk : ∀ (H1 : Heap) (locs1 : List Loc), va_P E.1 classes ws H1 → va_S A s.heap H1 locs1 → W p l e R s m args below meth c H1 locs1 cells slots Q (F0 m (pc + 3) ls (.int r :: rest))) : W p l e R s m args below meth c H locs cells slots Q (F0 m pc ls st0) := by
  obtain ⟨hx, hb, hml, ho, hts, -, -⟩ := X
  have hPc : va_P E.1 classes wc H := hP.sub is hsub
  have hA1 : ∀ q : Nat, H.size ≤ q → A q := fun q h => hA q (Nat.le_trans hS.1 h)
  refine va_calli (va_runV (As := As) (rest := rest) ⟨hx, hb, hml, ho, hts⟩ (hM H.size) (cwV k hts lk.good rfl rfl rfl ⟨rfl, lk.2.2.2.2.2⟩ hR.1) ⟨fun a U g mk q => ⟨q.1, q.2.1, q.2.2.1, q.2.2.2.calling⟩, ?_, fun U hU hW => ⟨rfl, by rw [hU], by rw [hU]; exact hPc, hK.pass hS hA1 hU hW⟩⟩ rfl hlen hl hst (lv_room hrm) hdg hR.2) hS (fun q _ h => hA1 q h) hA1 (fun r' u t H1 locs1 ht hvm hw hB hz hk hS1 => ?_)
  · rw [← hC]; exact va_recv hK.1 hPc hcl hr
  · cases hw
    exact kk H1 locs1 (kept_all hP hk) hS1
theorem pVL {r : Int64} (X : Cx p s m args meth c cc nL own rt0) (hK : KK E A s s.heap) (hA : ∀ q, s.heap.size ≤ q → A q) (hP : va_P E.1 classes ws H) (hS : va_S A s.heap H locs) (hl : ls.size = nL)
    (hM : PureL l E L y b n (.ref a :: As) wc r) (lk : lkV own idx y b n (some .long) k) (is : List Nat) (hsub : is.filterMap (fun i => ws[i]?) = wc) (hr : wc[0]? = some (a, .inr (ci, fs))) (hcl : classes[ci]? = some C) (hC : C.1 = y.cls)
    (hR : (L + 1 ≤ R.frames ∧ 8 + (n + 11) + 64 * L ≤ R.locals) ∧ cells ≤ R.cells ∧ slots ≤ R.slots) (hlen : As.length = k) (hst : st0 = As.reverse ++ .ref a :: rest) (hrm : (rest.map fun v => v.category).sum ≤ 8) (hdg : decode cc pc = .ok (.invokevirtual idx, 3))
    (kk : ∀ (H1 : Heap) (locs1 : List Loc), va_P E.1 classes ws H1 → va_S A s.heap H1 locs1 → W p l e R s m args below meth c H1 locs1 cells slots Q (F0 m (pc + 3) ls (.long r :: rest))) : W p l e R s m args below meth c H locs cells slots Q (F0 m pc ls st0) := by
  obtain ⟨hx, hb, hml, ho, hts, -, -⟩ := X
  have hPc : va_P E.1 classes wc H := hP.sub is hsub
  have hA1 : ∀ q : Nat, H.size ≤ q → A q := fun q h => hA q (Nat.le_trans hS.1 h)
  refine va_calll (va_runV (As := As) (rest := rest) ⟨hx, hb, hml, ho, hts⟩ (hM H.size) (cwV k hts lk.good rfl rfl rfl ⟨rfl, lk.2.2.2.2.2⟩ hR.1) ⟨fun a U g mk q => ⟨q.1, q.2.1, q.2.2.1, q.2.2.2.calling⟩, ?_, fun U hU hW => ⟨rfl, by rw [hU], by rw [hU]; exact hPc, hK.pass hS hA1 hU hW⟩⟩ rfl hlen hl hst (lv_room hrm) hdg hR.2) hS (fun q _ h => hA1 q h) hA1 (fun r' u t H1 locs1 ht hvm hw hB hz hk hS1 => ?_)
  · rw [← hC]; exact va_recv hK.1 hPc hcl hr
  · cases hw
    exact kk H1 locs1 (kept_all hP hk) hS1
theorem pVR {r : Nat} (X : Cx p s m args meth c cc nL own rt0) (hK : KK E A s s.heap) (hA : ∀ q, s.heap.size ≤ q → A q) (hP : va_P E.1 classes ws H) (hS : va_S A s.heap H locs) (hl : ls.size = nL)
    (hM : PureR l E L y b n rt (.ref a :: As) wc r) (lk : lkV own idx y b n (some rt) k) (is : List Nat) (hsub : is.filterMap (fun i => ws[i]?) = wc) (hr : wc[0]? = some (a, .inr (ci, fs))) (hcl : classes[ci]? = some C) (hC : C.1 = y.cls)
    (hR : (L + 1 ≤ R.frames ∧ 8 + (n + 11) + 64 * L ≤ R.locals) ∧ cells ≤ R.cells ∧ slots ≤ R.slots) (hlen : As.length = k) (hst : st0 = As.reverse ++ .ref a :: rest) (hrm : (rest.map fun v => v.category).sum ≤ 8) (hdg : decode cc pc = .ok (.invokevirtual idx, 3))
    (kk : ∀ (H1 : Heap) (locs1 : List Loc), va_P E.1 classes ws H1 → va_S A s.heap H1 locs1 → W p l e R s m args below meth c H1 locs1 cells slots Q (F0 m (pc + 3) ls (.ref r :: rest))) : W p l e R s m args below meth c H locs cells slots Q (F0 m pc ls st0) := by
  obtain ⟨hx, hb, hml, ho, hts, -, -⟩ := X
  have hPc : va_P E.1 classes wc H := hP.sub is hsub
  have hA1 : ∀ q : Nat, H.size ≤ q → A q := fun q h => hA q (Nat.le_trans hS.1 h)
  refine va_callr (va_runV (As := As) (rest := rest) ⟨hx, hb, hml, ho, hts⟩ (hM H.size) (cwV k hts lk.good rfl rfl rfl ⟨rfl, lk.2.2.2.2.2⟩ hR.1) ⟨fun a U g mk q => ⟨q.1, q.2.1, q.2.2.1, q.2.2.2.calling⟩, ?_, fun U hU hW => ⟨rfl, by rw [hU], by rw [hU]; exact hPc, hK.pass hS hA1 hU hW⟩⟩ rfl hlen hl hst (lv_room hrm) hdg hR.2) hS (fun q _ h => hA1 q h) hA1 (fun u ra t H1 locs1 ht hvm hw hB hz hk hS1 => ?_)
  · rw [← hC]; exact va_recv hK.1 hPc hcl hr
  · cases hB
    exact kk H1 locs1 (kept_all hP hk) hS1
theorem pS {r : Int32} (X : Cx p s m args meth c cc nL own rt0) (hK : KK E A s s.heap) (hA : ∀ q, s.heap.size ≤ q → A q) (hP : va_P E.1 classes ws H) (hS : va_S A s.heap H locs) (hl : ls.size = nL)
    (hM : PureI l E L y b n rt As [] r) (lk : lkS own idx y b n (some rt) k)
    (hR : (L + 1 ≤ R.frames ∧ 8 + (n + 11) + 64 * L ≤ R.locals) ∧ cells ≤ R.cells ∧ slots ≤ R.slots) (hlen : As.length = k) (hst : st0 = As.reverse ++ rest) (hrm : (rest.map fun v => v.category).sum ≤ 8) (hdg : decode cc pc = .ok (.invokestatic idx, 3))
    (kk : ∀ (H1 : Heap) (locs1 : List Loc), va_P E.1 classes ws H1 → va_S A s.heap H1 locs1 → W p l e R s m args below meth c H1 locs1 cells slots Q (F0 m (pc + 3) ls (.int r :: rest))) : W p l e R s m args below meth c H locs cells slots Q (F0 m pc ls st0) := by
  obtain ⟨hx, hb, hml, ho, hts, -, -⟩ := X
  have hA1 : ∀ q : Nat, H.size ≤ q → A q := fun q h => hA q (Nat.le_trans hS.1 h)
  refine va_calli (va_runS (As := As) (rest := rest) ⟨hx, hb, hml, ho, hts⟩ (hM H.size) (va_cwS k hts lk.good rfl rfl rfl lk.2.2.2.2 hR.1) ⟨fun a U g mk q => ⟨q.1, q.2.1, q.2.2.1, q.2.2.2.calling⟩, fun U hU hW => ⟨rfl, by rw [hU], fun k q h => by simp at h, hK.pass hS hA1 hU hW⟩⟩ rfl hlen hl hst (lv_room hrm) hdg hR.2) hS (fun q _ h => hA1 q h) hA1 (fun r' u t H1 locs1 ht hvm hw hB hz hk hS1 => ?_)
  cases hw
  exact kk H1 locs1 (kept_all hP hk) hS1
theorem pSN {r : Int32} (X : Cx p s m args meth c cc nL own rt0) (hK : KK E A s s.heap) (hA : ∀ q, s.heap.size ≤ q → A q) (hP : va_P E.1 classes ws H) (hS : va_S A s.heap H locs) (hl : ls.size = nL) {host : String}
    (hM : PureI l E L y b n rt As [] r) (hN : va_Nw (.methodLinkNest own idx y host) s) (lk : Cond.static y ∈ GG ∧ Cond.initialized y.cls ∈ GG ∧ Cond.code y b n (some rt) ∈ GG ∧ y.cls ≠ "java/lang/invoke/MethodHandle" ∧ y.cls ≠ "java/lang/invoke/VarHandle" ∧ (parseMethodDescriptor y.desc).map (fun d => d.parameters.length) = some k)
    (hR : (L + 1 ≤ R.frames ∧ 8 + (n + 11) + 64 * L ≤ R.locals) ∧ cells ≤ R.cells ∧ slots ≤ R.slots) (hlen : As.length = k) (hst : st0 = As.reverse ++ rest) (hrm : (rest.map fun v => v.category).sum ≤ 8) (hdg : decode cc pc = .ok (.invokestatic idx, 3))
    (kk : ∀ (H1 : Heap) (locs1 : List Loc), va_P E.1 classes ws H1 → va_S A s.heap H1 locs1 → W p l e R s m args below meth c H1 locs1 cells slots Q (F0 m (pc + 3) ls (.int r :: rest))) : W p l e R s m args below meth c H locs cells slots Q (F0 m pc ls st0) := by
  obtain ⟨hx, hb, hml, ho, hts, -, -⟩ := X
  have hA1 : ∀ q : Nat, H.size ≤ q → A q := fun q h => hA q (Nat.le_trans hS.1 h)
  have hG : GoodIn GG (wG y b n (some rt)) := GG_of (fun w hw => by
    rcases List.mem_cons.mp hw with rfl | hw
    · exact lk.2.2.1
    · exact hw)
  refine va_calli (va_runSN (As := As) (rest := rest) ⟨hx, hb, hml, ho, hts⟩ (hM H.size) ⟨va_cnB k hts hG rfl rfl rfl hN (hts _ lk.2.1) lk.2.2.2 hR.1, hts _ lk.1, trivial⟩ ⟨fun a U g mk q => ⟨q.1, q.2.1, q.2.2.1, q.2.2.2.calling⟩, fun U hU hW => ⟨rfl, by rw [hU], fun k q h => by simp at h, hK.pass hS hA1 hU hW⟩⟩ rfl hlen hl hst (lv_room hrm) hdg hR.2) hS (fun q _ h => hA1 q h) hA1 (fun r' u t H1 locs1 ht hvm hw hB hz hk hS1 => ?_)
  cases hw
  exact kk H1 locs1 (kept_all hP hk) hS1
theorem mV {r : Int32} (X : Cx p s m args meth c cc nL own rt0) (hK : KK E A s s.heap) (hA : ∀ q, s.heap.size ≤ q → A q) (hP : va_P E.1 classes ws H) (hD : va_D A ws) (hS : va_S A s.heap H locs) (hl : ls.size = nL)
    (hM : MutI l E L y b n rt (.ref a :: As) wc wc' r) (lk : lkV own idx y b n (some rt) k) (is : List Nat) (hnd : va_nd is = true) (hsub : is.map (fun i => ws[i]?) = wc.map some) (had : wc'.map Prod.fst = wc.map Prod.fst) (hr : wc[0]? = some (a, .inr (ci, fs))) (hcl : classes[ci]? = some C) (hC : C.1 = y.cls)
    (hR : (L + 1 ≤ R.frames ∧ 8 + (n + 11) + 64 * L ≤ R.locals) ∧ cells ≤ R.cells ∧ slots ≤ R.slots) (hlen : As.length = k) (hst : st0 = As.reverse ++ .ref a :: rest) (hrm : (rest.map fun v => v.category).sum ≤ 8) (hdg : decode cc pc = .ok (.invokevirtual idx, 3))
    (kk : ∀ (H1 : Heap) (locs1 : List Loc), va_P E.1 classes (setAll ws is wc') H1 → va_D A (setAll ws is wc') → va_S A s.heap H1 locs1 → W p l e R s m args below meth c H1 locs1 cells slots Q (F0 m (pc + 3) ls (.int r :: rest))) : W p l e R s m args below meth c H locs cells slots Q (F0 m pc ls st0) := by
  obtain ⟨hx, hb, hml, ho, hts, -, -⟩ := X
  have hPc : va_P E.1 classes wc H := fun k q hk => by obtain ⟨i, -, hi⟩ := at_map hsub hk; exact hP i q hi
  have hDc : va_D A wc := hD.sub is hnd hsub
  have hF := va_free (wc := wc) hD hS hA is hsub
  refine va_calli (va_runV (As := As) (rest := rest) ⟨hx, hb, hml, ho, hts⟩ (hM H.size) (cwV k hts lk.good rfl rfl rfl ⟨rfl, lk.2.2.2.2.2⟩ hR.1) ⟨fun a U g mk q => ⟨q.1, q.2.1, q.2.2.1, q.2.2.2.1.calling, q.2.2.2.2⟩, ?_, fun U hU hW => ⟨rfl, by rw [hU], by rw [hU]; exact hPc, hK.pass hS hF hU hW, hDc.weaken (fun _ _ _ _ => trivial)⟩⟩ rfl hlen hl hst (lv_room hrm) hdg hR.2) hS (fun q _ h => hF q h) hF (fun r' u t H1 locs1 ht hvm hw hB hz hk hS1 => ?_)
  · rw [← hC]; exact va_recv hK.1 hPc hcl hr
  · cases hw
    subst ht
    exact kk t.heap locs1 (setAll_P hP hD hsub hnd had hB hk) (setAll_D hD hsub hnd had) hS1
theorem mVv (X : Cx p s m args meth c cc nL own rt0) (hK : KK E A s s.heap) (hA : ∀ q, s.heap.size ≤ q → A q) (hP : va_P E.1 classes ws H) (hD : va_D A ws) (hS : va_S A s.heap H locs) (hl : ls.size = nL)
    (hM : MutV l E L y b n (.ref a :: As) wc wc') (lk : lkV own idx y b n none k) (is : List Nat) (hnd : va_nd is = true) (hsub : is.map (fun i => ws[i]?) = wc.map some) (had : wc'.map Prod.fst = wc.map Prod.fst) (hr : wc[0]? = some (a, .inr (ci, fs))) (hcl : classes[ci]? = some C) (hC : C.1 = y.cls)
    (hR : (L + 1 ≤ R.frames ∧ 8 + (n + 11) + 64 * L ≤ R.locals) ∧ cells ≤ R.cells ∧ slots ≤ R.slots) (hlen : As.length = k) (hst : st0 = As.reverse ++ .ref a :: rest) (hrm : (rest.map fun v => v.category).sum ≤ 8) (hdg : decode cc pc = .ok (.invokevirtual idx, 3))
    (kk : ∀ (H1 : Heap) (locs1 : List Loc), va_P E.1 classes (setAll ws is wc') H1 → va_D A (setAll ws is wc') → va_S A s.heap H1 locs1 → W p l e R s m args below meth c H1 locs1 cells slots Q (F0 m (pc + 3) ls rest)) : W p l e R s m args below meth c H locs cells slots Q (F0 m pc ls st0) := by
  obtain ⟨hx, hb, hml, ho, hts, -, -⟩ := X
  have hPc : va_P E.1 classes wc H := fun k q hk => by obtain ⟨i, -, hi⟩ := at_map hsub hk; exact hP i q hi
  have hDc : va_D A wc := hD.sub is hnd hsub
  have hF := va_free (wc := wc) hD hS hA is hsub
  refine va_callv (va_runV (As := As) (rest := rest) ⟨hx, hb, hml, ho, hts⟩ (hM H.size) (cwV k hts lk.good rfl rfl rfl ⟨rfl, lk.2.2.2.2.2⟩ hR.1) ⟨fun a U g mk q => ⟨q.1, q.2.1, q.2.2.1, q.2.2.2.1.calling, q.2.2.2.2⟩, ?_, fun U hU hW => ⟨rfl, by rw [hU], by rw [hU]; exact hPc, hK.pass hS hF hU hW, hDc.weaken (fun _ _ _ _ => trivial)⟩⟩ rfl hlen hl hst (lv_room hrm) hdg hR.2) hS (fun q _ h => hF q h) hF (fun u t H1 locs1 ht hvm hw hB hz hk hS1 => ?_)
  · rw [← hC]; exact va_recv hK.1 hPc hcl hr
  · subst ht
    exact kk t.heap locs1 (setAll_P hP hD hsub hnd had hB hk) (setAll_D hD hsub hnd had) hS1
end CALLS
/-! ## what an answer of a function in Option says -/
theorem og {α : Type} {c : Prop} {d : Decidable c} {a : Option α} {r : α} (h : (@ite _ c d a none) = some r) : c ∧ a = some r := by
  by_cases hc : c
  · rw [if_pos hc] at h; exact ⟨hc, h⟩
  · rw [if_neg hc] at h; cases h
theorem ot {α : Type} {c : Prop} {d : Decidable c} {a b : Option α} {r : α} (hc : c) (h : (@ite _ c d a b) = some r) : a = some r := by rw [if_pos hc] at h; exact h
theorem of {α : Type} {c : Prop} {d : Decidable c} {a b : Option α} {r : α} (hc : ¬ c) (h : (@ite _ c d a b) = some r) : b = some r := by rw [if_neg hc] at h; exact h
theorem ob {α β : Type} {o : Option α} {K : α → Option β} {r : β} (h : o.bind K = some r) : ∃ u, o = some u ∧ K u = some r := by
  cases o with
  | none => cases h
  | some u => exact ⟨u, rfl, h⟩
abbrev nz (r : Int32) : Prop := r = 0 ∨ r = 1
theorem nz_nar {r : Int32} (h : nz r) : narrow .boolean (.int r) = .int r := by
  rcases h with rfl | rfl <;> decide
/-- a loop's fuel -/
def FU : Nat := 1000
