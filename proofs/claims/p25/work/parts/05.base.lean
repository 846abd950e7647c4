/-! the frame of all contracts: the tables' words that a step may warm, the strings, the statics of a throw; a start's picture; calls by sites -/
def iIO : String := "java/lang/IndexOutOfBoundsException"
def iIA : String := "java/lang/IllegalArgumentException"
def iIS : String := "java/lang/IllegalStateException"
def nW : List Cond := [.methodLinkNest RX3 18 yX2_init RX3, .methodLinkNest RX2 11 yX0_init RX3, .methodLinkNest RX1 35 yX3_strengthOf RX3, .methodLinkNest RX1 42 yX3_eggBy RX3, .castable iIO iIO, .castable iIA iIA, .castable iIS iIS, .methodLinkNest RL 103 yX4_init RL, .declares ⟨"java/lang/RuntimeException", "<init>", "(Ljava/lang/String;)V"⟩, .declares ⟨"java/lang/Exception", "<init>", "(Ljava/lang/String;)V"⟩, .declares ⟨"java/lang/Throwable", "<init>", "(Ljava/lang/String;)V"⟩]
/-- there is a class of arrays of arrays of ints, also behind a step that warms -/
def gA (U : State) : Prop := (Cond.arrayOver (.array .int)).before #[] U = true
theorem gA.moved {u U : State} (hvm : u.vm.Alike U.vm) (h : gA u) : gA U := by
  obtain ⟨comp, c, k, h1, h2, h3, h4, h5⟩ := arrayOverA_spec h
  obtain ⟨k', hk', he⟩ := hvm.2.2 _ _ h3
  have e1 := va_idx_bare U.vm comp
  have e2 := va_idx_bare u.vm comp
  have e3 : U.vm.bare = u.vm.bare := by first | exact hvm.bare_eq | exact hvm.bare_eq.symm
  have hi : (U.vm.classes.findIdx? fun (x : Class) => match x.kind with | .array component _ => component == comp | _ => false) = some c :=
    e1.symm.trans ((congrArg (fun vm : Vm => vm.classes.findIdx? fun (x : Class) => match x.kind with | .array component _ => component == comp | _ => false) e3).trans (e2.trans h2))
  have hkind : k'.kind = .array comp (.array .int) := by rw [he]; exact h4
  have f1 : U.vm.findClass (FieldType.array .int).toString = some comp := by rw [hvm.findClass]; exact h1
  have f2 : U.vm.findClass ("[" ++ (FieldType.array .int).toString) = some c := by rw [hvm.findClass]; exact h5
  unfold gA Cond.before Cond.holds
  simp only [Cond.value]
  rw [f1, Option.bind_some]
  refine (congrArg (fun o : Option Nat => (o.bind (fun c => (U.vm.classes[c]?).map fun (k : Class) => match k.kind with | .array _ ty => decide (ty = FieldType.array .int) && decide (U.vm.findClass ("[" ++ (FieldType.array .int).toString) = some c) | _ => false) == some true)) hi).trans ?_
  simp [hk', hkind, f2]
def gN (U : State) : Prop := (∀ w ∈ nW, va_Nw w U) ∧ gA U
theorem nW_on : nW.all Cond.onTables = true := by decide +kernel
theorem gN.same {u U : State} (h : u.vm = U.vm) (g : gN u) : gN U := ⟨fun w hw => va_Nw.same (List.all_eq_true.mp nW_on w hw) h (g.1 w hw), g.2.moved (h ▸ Vm.Alike.refl u.vm)⟩
theorem gN.warm {s U : State} (hW : s.WarmedH U.vm) (g : gN s) : gN U := by
  refine ⟨?_, g.2.moved hW.alike⟩
  intro w hw
  have g1 := g.1 w hw
  simp only [nW, List.mem_cons, List.not_mem_nil, or_false] at hw
  rcases hw with rfl | rfl | rfl | rfl | rfl | rfl | rfl | rfl | rfl | rfl | rfl
  · exact va_Nw.warmM hW g1
  · exact va_Nw.warmM hW g1
  · exact va_Nw.warmM hW g1
  · exact va_Nw.warmM hW g1
  · exact va_Nw.warmC hW g1
  · exact va_Nw.warmC hW g1
  · exact va_Nw.warmC hW g1
  · exact va_Nw.warmM hW g1
  · exact va_Nw.warmD hW g1
  · exact va_Nw.warmD hW g1
  · exact va_Nw.warmD hW g1
theorem nW_tbl : ∀ w ∈ nW, w ∈ lw_tbl := fun w hw => by
  have h : nW = [29, 35, 246, 253, 159, 291, 447, 546, 161, 163, 165].filterMap (fun i => lw_tbl[i]?) := by decide +kernel
  rw [h] at hw
  obtain ⟨i, -, hi⟩ := List.mem_filterMap.mp hw
  exact List.mem_of_getElem? hi
theorem gN.of {args : Array Value} {s : State} (hts : ∀ w ∈ lw_tbl, w.before args s = true) : gN s := ⟨fun w hw => va_Nw.of (List.all_eq_true.mp nW_on w hw) (hts w (nW_tbl w hw)), hts (.arrayOver (.array .int)) (List.mem_of_getElem? (i := 435) (by decide +kernel))⟩
/-- a method's words: its code, then all good words of the tables -/
def ws_ (y : MethodName) (cc : ByteArray) (n : Nat) (ret : Option FieldType) : List Cond := Cond.code y cc n ret :: G_
def wsW_ (y : MethodName) (cc : ByteArray) (n : Nat) (ret : Option FieldType) (hh : List (Nat × Nat × Nat × Nat)) : List Cond := Cond.codeWith y cc n ret hh :: G_
theorem ws_in {y : MethodName} {cc : ByteArray} {n : Nat} {ret : Option FieldType} (h : Cond.code y cc n ret ∈ G_) : GoodIn G_ (ws_ y cc n ret) := fun w hw => (List.mem_cons.mp hw).elim (fun e => by rw [e]; exact G_GG _ h) (G_GG w)
theorem wsW_in {y : MethodName} {cc : ByteArray} {n : Nat} {ret : Option FieldType} {hh : List (Nat × Nat × Nat × Nat)} (h : Cond.codeWith y cc n ret hh ∈ G_) : GoodIn G_ (wsW_ y cc n ret hh) := fun w hw => (List.mem_cons.mp hw).elim (fun e => by rw [e]; exact G_GG _ h) (G_GG w)
def nMH (y : MethodName) (na : Nat) : Prop := y.cls ≠ "java/lang/invoke/MethodHandle" ∧ y.cls ≠ "java/lang/invoke/VarHandle" ∧ (parseMethodDescriptor y.desc).map (fun d => d.parameters.length) = some na
/-- the words of a virtual, a static, a constructor's call, and of those across the nest -/
def sV (own : String) (idx : Nat) (C : String) (y : MethodName) (cc : ByteArray) (n : Nat) (ret : Option FieldType) (na : Nat) : Prop := GoodIn G_ (wsV own idx C y (ws_ y cc n ret)) ∧ y.cls = C ∧ nMH y na
def sS (own : String) (idx : Nat) (y : MethodName) (cc : ByteArray) (n : Nat) (ret : Option FieldType) (na : Nat) : Prop := GoodIn G_ (va_wsS own idx y (ws_ y cc n ret)) ∧ nMH y na
def sI (own : String) (idx : Nat) (y : MethodName) (cc : ByteArray) (n : Nat) (na : Nat) : Prop := GoodIn G_ (ws_ y cc n none) ∧ Cond.initialized y.cls ∈ G_ ∧ Cond.methodLink own idx y ∈ G_ ∧ Cond.instanceMethod y ∈ G_ ∧ y.name = "<init>" ∧ nMH y na
def sSN (own : String) (idx : Nat) (y : MethodName) (cc : ByteArray) (n : Nat) (ret : Option FieldType) (na : Nat) : Prop := GoodIn G_ (ws_ y cc n ret) ∧ Cond.initialized y.cls ∈ G_ ∧ Cond.methodLinkNest own idx y RX3 ∈ nW ∧ Cond.static y ∈ G_ ∧ nMH y na
def sIN (own : String) (idx : Nat) (y : MethodName) (cc : ByteArray) (n : Nat) (na : Nat) : Prop := GoodIn G_ (ws_ y cc n none) ∧ Cond.initialized y.cls ∈ G_ ∧ Cond.methodLinkNest own idx y RX3 ∈ nW ∧ Cond.instanceMethod y ∈ G_ ∧ y.name = "<init>" ∧ nMH y na
def sW (own : String) (idx : Nat) (y : MethodName) (cc : ByteArray) (n : Nat) (ret : Option FieldType) (hh : List (Nat × Nat × Nat × Nat)) (na : Nat) : Prop := GoodIn G_ (va_wsS own idx y (wsW_ y cc n ret hh)) ∧ nMH y na
theorem sV.mk {own : String} {idx : Nat} {C : String} {y : MethodName} {cc : ByteArray} {n : Nat} {ret : Option FieldType} {na : Nat} (h1 : Cond.methodLink own idx y ∈ G_) (h2 : Cond.instanceMethod y ∈ G_) (h3 : Cond.selects C y y ∈ G_) (h4 : Cond.initialized C ∈ G_) (h5 : Cond.code y cc n ret ∈ G_) (h6 : y.cls = C ∧ nMH y na) : sV own idx C y cc n ret na := ⟨goodIn_app (fun w hw => by
  simp only [List.mem_cons, List.not_mem_nil, or_false] at hw
  rcases hw with rfl | rfl | rfl | rfl
  · exact G_GG _ h1
  · exact G_GG _ h2
  · exact G_GG _ h3
  · exact G_GG _ h4) (ws_in h5), h6⟩
theorem sS.mk {own : String} {idx : Nat} {y : MethodName} {cc : ByteArray} {n : Nat} {ret : Option FieldType} {na : Nat} (h1 : Cond.methodLink own idx y ∈ G_) (h2 : Cond.static y ∈ G_) (h4 : Cond.initialized y.cls ∈ G_) (h5 : Cond.code y cc n ret ∈ G_) (h6 : nMH y na) : sS own idx y cc n ret na := ⟨goodIn_app (fun w hw => by
  simp only [List.mem_cons, List.not_mem_nil, or_false] at hw
  rcases hw with rfl | rfl | rfl
  · exact G_GG _ h1
  · exact G_GG _ h2
  · exact G_GG _ h4) (ws_in h5), h6⟩
theorem sW.mk {own : String} {idx : Nat} {y : MethodName} {cc : ByteArray} {n : Nat} {ret : Option FieldType} {hh : List (Nat × Nat × Nat × Nat)} {na : Nat} (h1 : Cond.methodLink own idx y ∈ G_) (h2 : Cond.static y ∈ G_) (h4 : Cond.initialized y.cls ∈ G_) (h5 : Cond.codeWith y cc n ret hh ∈ G_) (h6 : nMH y na) : sW own idx y cc n ret hh na := ⟨goodIn_app (fun w hw => by
  simp only [List.mem_cons, List.not_mem_nil, or_false] at hw
  rcases hw with rfl | rfl | rfl
  · exact G_GG _ h1
  · exact G_GG _ h2
  · exact G_GG _ h4) (wsW_in h5), h6⟩
/-- what the start of a method holds: its picture, in a heap of that size -/
def PB (D : va_G) (ty : List (ClassId × FieldType)) (ws : va_W) (sz : Nat) (U : State) : Prop := U.heap.size = sz ∧ va_P D vwCl ws U.heap ∧ va_K D vwCl ty U ∧ va_D (fun _ => True) ws ∧ gN U
theorem PB.blind {av : List Value} {D : va_G} {ty : List (ClassId × FieldType)} {ws : va_W} {sz : Nat} : FrameBlind (va_Pc av (PB D ty ws sz)) := fun a U g mk q => by
  obtain ⟨q0, q1, qP, qK, qD, qN⟩ := q
  exact ⟨q0, q1, qP, va_K.moved (u := U) (U := U.calling g mk a) (Vm.Alike.refl U.vm) qK, qD, gN.same (u := U) rfl qN⟩
theorem PB.pre {s : State} {H : Heap} {av : List Value} {D : va_G} {ty : List (ClassId × FieldType)} {ws : va_W} (hP : va_P D vwCl ws H) (hK : va_K D vwCl ty s) (hD : va_D (fun _ => True) ws) (hG : gN s) : ∀ U : State, U.heap = H → s.WarmedH U.vm → va_Pc av (PB D ty ws H.size) av.toArray U := fun U hU hW => ⟨rfl, by rw [hU], by rw [hU]; exact hP, va_K.moved hW.alike hK, hD, gN.warm hW hG⟩
abbrev BP (D : va_G) {S : Type} (w1 : S → va_W) (A : Nat → Prop) : S → State → Prop := fun u t => va_P D vwCl (w1 u) t.heap ∧ va_D A (w1 u)
/-- contracts: an int, a long, a double, nothing comes back -/
abbrev Mi (l : Launch) (y : MethodName) (cc : ByteArray) (n : Nat) (ret : Option FieldType) (rm : Room) (D : va_G) (ty : List (ClassId × FieldType)) (av : List Value) (ws : va_W) {S : Type} (post : Int32 → S → Prop) (w1 : S → va_W) : Prop :=
  ∀ sz : Nat, Met l y (ws_ y cc n ret) rm (va_Pc av (PB D ty ws sz)) (va_Qi post (BP D w1 (va_A ws sz)) (va_A ws sz)) rm.cells rm.slots (va_A ws sz)
abbrev Ml (l : Launch) (y : MethodName) (cc : ByteArray) (n : Nat) (rm : Room) (D : va_G) (ty : List (ClassId × FieldType)) (av : List Value) (ws : va_W) {S : Type} (post : Int64 → S → Prop) (w1 : S → va_W) : Prop :=
  ∀ sz : Nat, Met l y (ws_ y cc n (some .long)) rm (va_Pc av (PB D ty ws sz)) (va_Ql post (BP D w1 (va_A ws sz)) (va_A ws sz)) rm.cells rm.slots (va_A ws sz)
abbrev Mv (l : Launch) (y : MethodName) (cc : ByteArray) (n : Nat) (rm : Room) (D : va_G) (ty : List (ClassId × FieldType)) (av : List Value) (ws : va_W) {S : Type} (post : S → Prop) (w1 : S → va_W) : Prop :=
  ∀ sz : Nat, Met l y (ws_ y cc n none) rm (va_Pc av (PB D ty ws sz)) (va_Qv post (BP D w1 (va_A ws sz)) (va_A ws sz)) rm.cells rm.slots (va_A ws sz)
abbrev Mr (l : Launch) (y : MethodName) (cc : ByteArray) (n : Nat) (rt : FieldType) (rm : Room) (D : va_G) (ty : List (ClassId × FieldType)) (av : List Value) (ws : va_W) {S : Type} (post : S → Prop) (w1 : S → Nat → va_W) : Prop :=
  ∀ sz : Nat, Met l y (ws_ y cc n (some rt)) rm (va_Pc av (PB D ty ws sz)) (va_Qr post (fun u a t => va_P D vwCl (w1 u a) t.heap ∧ va_D (va_A ws sz) (w1 u a)) (va_A ws sz)) rm.cells rm.slots (va_A ws sz)
/-- what a body stands on -/
abbrev BF (p : Program) (s : State) (m : MethodId) (args : Array Value) (meth : Method) (c : Code) (cc : ByteArray) (n : Nat) (own : String) (ret : Option FieldType) : Prop := CallFix p m c cc n s args G_ own ∧ meth.sig.returnType = ret ∧ meth.locks = false ∧ gN s
theorem Mi.of {l : Launch} {y : MethodName} {cc : ByteArray} {n : Nat} {ret : Option FieldType} {rm : Room} {D : va_G} {ty : List (ClassId × FieldType)} {av : List Value} {ws : va_W} {S : Type} {post : Int32 → S → Prop} {w1 : S → va_W} (hy : plainName y.cls = true) (hn : (lg_sl av).length ≤ n)
    (body : ∀ p e s m args below meth c A ls, BF p s m args meth c cc n y.cls ret → va_K D vwCl ty s → va_P D vwCl ws s.heap → va_D A ws → (∀ q : Nat, s.heap.size ≤ q → A q) → lv_has ls n (lv_args 0 av) → (y.name = meth.name) →
      W p l e rm s m args below meth c s.heap [] 0 0 (MQ below (va_Qi post (BP D w1 A) A) args s rm.cells rm.slots A) (F0 m 0 ls [])) : Mi l y cc n ret rm D ty av ws post w1 := by
  intro sz
  refine Met.ofW (cc := cc) (maxL := n) (ret := ret) hy rfl ?_
  intro p e s m args below meth c s₁ B hml hv
  obtain ⟨rfl, hsz, hP, hK, hD0, hG⟩ := hv
  have hts := atoms_spec (ws := ws_ y cc n ret) B.pre
  subst hsz
  have hl := lv_entry av (n := n) hn
  rw [lg_entry_eq]
  exact body p e s m _ below meth c (va_A ws s.heap.size) _ ⟨⟨B.exec, B.bytes, hml, findClass_of_methodNamed B.named, fun w h => hts w (List.mem_cons_of_mem _ h)⟩, B.returns, B.notSynchronized, hG⟩ hK hP hD0.self (fun q h => Or.inr h) hl (name_of_methodNamed B.named B.method).1.symm
theorem Ml.of {l : Launch} {y : MethodName} {cc : ByteArray} {n : Nat} {rm : Room} {D : va_G} {ty : List (ClassId × FieldType)} {av : List Value} {ws : va_W} {S : Type} {post : Int64 → S → Prop} {w1 : S → va_W} (hy : plainName y.cls = true) (hn : (lg_sl av).length ≤ n)
    (body : ∀ p e s m args below meth c A ls, BF p s m args meth c cc n y.cls (some .long) → va_K D vwCl ty s → va_P D vwCl ws s.heap → va_D A ws → (∀ q : Nat, s.heap.size ≤ q → A q) → lv_has ls n (lv_args 0 av) → (y.name = meth.name) →
      W p l e rm s m args below meth c s.heap [] 0 0 (MQ below (va_Ql post (BP D w1 A) A) args s rm.cells rm.slots A) (F0 m 0 ls [])) : Ml l y cc n rm D ty av ws post w1 := by
  intro sz
  refine Met.ofW (cc := cc) (maxL := n) (ret := some .long) hy rfl ?_
  intro p e s m args below meth c s₁ B hml hv
  obtain ⟨rfl, hsz, hP, hK, hD0, hG⟩ := hv
  have hts := atoms_spec (ws := ws_ y cc n (some .long)) B.pre
  subst hsz
  have hl := lv_entry av (n := n) hn
  rw [lg_entry_eq]
  exact body p e s m _ below meth c (va_A ws s.heap.size) _ ⟨⟨B.exec, B.bytes, hml, findClass_of_methodNamed B.named, fun w h => hts w (List.mem_cons_of_mem _ h)⟩, B.returns, B.notSynchronized, hG⟩ hK hP hD0.self (fun q h => Or.inr h) hl (name_of_methodNamed B.named B.method).1.symm
theorem Mv.of {l : Launch} {y : MethodName} {cc : ByteArray} {n : Nat} {rm : Room} {D : va_G} {ty : List (ClassId × FieldType)} {av : List Value} {ws : va_W} {S : Type} {post : S → Prop} {w1 : S → va_W} (hy : plainName y.cls = true) (hn : (lg_sl av).length ≤ n)
    (body : ∀ p e s m args below meth c A ls, BF p s m args meth c cc n y.cls none → va_K D vwCl ty s → va_P D vwCl ws s.heap → va_D A ws → (∀ q : Nat, s.heap.size ≤ q → A q) → lv_has ls n (lv_args 0 av) → (y.name = meth.name) →
      W p l e rm s m args below meth c s.heap [] 0 0 (MQ below (va_Qv post (BP D w1 A) A) args s rm.cells rm.slots A) (F0 m 0 ls [])) : Mv l y cc n rm D ty av ws post w1 := by
  intro sz
  refine Met.ofW (cc := cc) (maxL := n) (ret := none) hy rfl ?_
  intro p e s m args below meth c s₁ B hml hv
  obtain ⟨rfl, hsz, hP, hK, hD0, hG⟩ := hv
  have hts := atoms_spec (ws := ws_ y cc n none) B.pre
  subst hsz
  have hl := lv_entry av (n := n) hn
  rw [lg_entry_eq]
  exact body p e s m _ below meth c (va_A ws s.heap.size) _ ⟨⟨B.exec, B.bytes, hml, findClass_of_methodNamed B.named, fun w h => hts w (List.mem_cons_of_mem _ h)⟩, B.returns, B.notSynchronized, hG⟩ hK hP hD0.self (fun q h => Or.inr h) hl (name_of_methodNamed B.named B.method).1.symm
theorem Mr.of {l : Launch} {y : MethodName} {cc : ByteArray} {n : Nat} {rt : FieldType} {rm : Room} {D : va_G} {ty : List (ClassId × FieldType)} {av : List Value} {ws : va_W} {S : Type} {post : S → Prop} {w1 : S → Nat → va_W} (hy : plainName y.cls = true) (hn : (lg_sl av).length ≤ n)
    (body : ∀ p e s m args below meth c A ls, BF p s m args meth c cc n y.cls (some rt) → va_K D vwCl ty s → va_P D vwCl ws s.heap → va_D A ws → (∀ q : Nat, s.heap.size ≤ q → A q) → lv_has ls n (lv_args 0 av) → (y.name = meth.name) →
      W p l e rm s m args below meth c s.heap [] 0 0 (MQ below (va_Qr post (fun u a t => va_P D vwCl (w1 u a) t.heap ∧ va_D A (w1 u a)) A) args s rm.cells rm.slots A) (F0 m 0 ls [])) : Mr l y cc n rt rm D ty av ws post w1 := by
  intro sz
  refine Met.ofW (cc := cc) (maxL := n) (ret := some rt) hy rfl ?_
  intro p e s m args below meth c s₁ B hml hv
  obtain ⟨rfl, hsz, hP, hK, hD0, hG⟩ := hv
  have hts := atoms_spec (ws := ws_ y cc n (some rt)) B.pre
  subst hsz
  have hl := lv_entry av (n := n) hn
  rw [lg_entry_eq]
  exact body p e s m _ below meth c (va_A ws s.heap.size) _ ⟨⟨B.exec, B.bytes, hml, findClass_of_methodNamed B.named, fun w h => hts w (List.mem_cons_of_mem _ h)⟩, B.returns, B.notSynchronized, hG⟩ hK hP hD0.self (fun q h => Or.inr h) hl (name_of_methodNamed B.named B.method).1.symm
section
variable {p : Program} {l : Launch} {e : Env} {R : Room} {s : State} {m : MethodId} {args : Array Value} {below : List Frame} {meth : Method} {c : Code} {H : Heap} {locs : List Loc} {cells slots mc ms : Nat} {Q : State → Prop}
variable {cc cc' : ByteArray} {pc nL n' na idx : Nat} {own C : String} {y : MethodName} {ret : Option FieldType} {rm : Room} {D : va_G} {ty : List (ClassId × FieldType)} {b : Nat} {As st rest : List Value} {ws wc wr : va_W} {ls : Array Slot} {S : Type} {A A0 : Nat → Prop} {H0 : Heap} {a : Array Value} {Qc : Array Value → State → Outcome → State → Prop} {free : Addr → Prop}
/-- ends -/
theorem e_i {post : Int32 → S → Prop} {w1 : S → va_W} {v : Int32} {rt : FieldType} (hx : p.tables.exec = Jvm.exec) (hb : c.code = cc) (hr : meth.sig.returnType = some rt) (hlocks : meth.locks = false) (hS : va_S A s.heap H locs) (u : S) (hp : post v u) (hP : va_P D vwCl (w1 u) H) (hD : va_D A (w1 u)) (hn : narrow rt (.int v) = .int v) (hdg : decode cc pc = .ok (.ireturn, 1)) (hc : cells ≤ mc) (hs : slots ≤ ms) :
    W p l e R s m args below meth c H locs cells slots (MQ below (va_Qi post (BP D w1 A) A) args s mc ms A) (F0 m pc ls [.int v]) :=
  W.widen hc hs (W.zret hx hb hr hn (fun t ht _ => ⟨⟨v, u, rfl, hp, by rw [ht]; exact hP, hD⟩, hS.F ht⟩) hS.2.2 hdg hlocks)
theorem e_v {post : S → Prop} {w1 : S → va_W} (hx : p.tables.exec = Jvm.exec) (hb : c.code = cc) (hr : meth.sig.returnType = none) (hlocks : meth.locks = false) (hS : va_S A s.heap H locs) (u : S) (hp : post u) (hP : va_P D vwCl (w1 u) H) (hD : va_D A (w1 u)) (hdg : decode cc pc = .ok (.return_, 1)) (hc : cells ≤ mc) (hs : slots ≤ ms) :
    W p l e R s m args below meth c H locs cells slots (MQ below (va_Qv post (BP D w1 A) A) args s mc ms A) (F0 m pc ls []) :=
  W.widen hc hs (W.vret hx hb hr (fun t ht _ => ⟨⟨u, rfl, hp, by rw [ht]; exact hP, hD⟩, hS.F ht⟩) hS.2.2 hdg hlocks)
theorem e_l {post : Int64 → S → Prop} {w1 : S → va_W} {v : Int64} (hx : p.tables.exec = Jvm.exec) (hb : c.code = cc) (hr : meth.sig.returnType = some .long) (hlocks : meth.locks = false) (hS : va_S A s.heap H locs) (u : S) (hp : post v u) (hP : va_P D vwCl (w1 u) H) (hD : va_D A (w1 u)) (hdg : decode cc pc = .ok (.lreturn, 1)) (hc : cells ≤ mc) (hs : slots ≤ ms) :
    W p l e R s m args below meth c H locs cells slots (MQ below (va_Ql post (BP D w1 A) A) args s mc ms A) (F0 m pc ls [.long v]) :=
  W.widen hc hs (W.lret hx hb hr (fun t ht _ => ⟨⟨v, u, rfl, hp, by rw [ht]; exact hP, hD⟩, hS.F ht⟩) hS.2.2 hdg hlocks)
/-- runs of calls -/
theorem rV (F : CallFix p m c cc nL s args G_ own) (hG : gN s) (hK : va_K D vwCl ty s) (hP : va_P D vwCl wc H) (hD : va_D (fun _ => True) wc) (hs : sV own idx C y cc' n' ret na) (hM : Met l y (ws_ y cc' n' ret) rm (va_Pc (.ref b :: As) (PB D ty wc H.size)) Qc rm.cells rm.slots free)
    (ci q0 : Nat) {vc : vw_C} {fs : List Value} (hc : vwCl[ci]? = some vc) (he : wc[q0]? = some (b, .inr (ci, fs))) (hvc : vc.1 = C) (hn : As.length = na) (hl : ls.size = nL) (hst : st = As.reverse ++ .ref b :: rest) (hw : (rest.map fun v => v.category).sum ≤ 8) (hdg : decode cc pc = .ok (.invokevirtual idx, 3)) (hR : rm.frames + 1 ≤ R.frames ∧ 8 + (n' + 11) + rm.locals ≤ R.locals) (hf : cells + rm.cells ≤ R.cells ∧ slots + rm.slots ≤ R.slots) :
    va_Run p l e R s m args below meth c H locs cells slots rm.cells rm.slots (F0 m pc ls st) rest (Qc (Value.ref b :: As).toArray) free := by
  subst hst
  exact va_runV (As := As) (rest := rest) F hM (cwV na F.2.2.2.2 hs.1 rfl rfl rfl ⟨hs.2.1, hs.2.2⟩ hR) ⟨PB.blind, by
    have h := va_recv hK hP hc he
    rw [hvc] at h
    exact h, PB.pre hP hK hD hG⟩ rfl hn hl rfl (lv_room hw) hdg hf
theorem rS (F : CallFix p m c cc nL s args G_ own) (hG : gN s) (hK : va_K D vwCl ty s) (hP : va_P D vwCl wc H) (hD : va_D (fun _ => True) wc) (hs : sS own idx y cc' n' ret na) (hM : Met l y (ws_ y cc' n' ret) rm (va_Pc As (PB D ty wc H.size)) Qc rm.cells rm.slots free)
    (hn : As.length = na) (hl : ls.size = nL) (hst : st = As.reverse ++ rest) (hw : (rest.map fun v => v.category).sum ≤ 8) (hdg : decode cc pc = .ok (.invokestatic idx, 3)) (hR : rm.frames + 1 ≤ R.frames ∧ 8 + (n' + 11) + rm.locals ≤ R.locals) (hf : cells + rm.cells ≤ R.cells ∧ slots + rm.slots ≤ R.slots) :
    va_Run p l e R s m args below meth c H locs cells slots rm.cells rm.slots (F0 m pc ls st) rest (Qc As.toArray) free := by
  subst hst
  exact va_runS (As := As) (rest := rest) F hM (va_cwS na F.2.2.2.2 hs.1 rfl rfl rfl hs.2 hR) ⟨PB.blind, PB.pre hP hK hD hG⟩ rfl hn hl rfl (lv_room hw) hdg hf
theorem rI (F : CallFix p m c cc nL s args G_ own) (hG : gN s) (hK : va_K D vwCl ty s) (hP : va_P D vwCl wc H) (hD : va_D (fun _ => True) wc) (hs : sI own idx y cc' n' na) (hM : Met l y (ws_ y cc' n' none) rm (va_Pc (.ref b :: As) (PB D ty wc H.size)) Qc rm.cells rm.slots free)
    (hn : As.length = na) (hl : ls.size = nL) (hst : st = As.reverse ++ .ref b :: rest) (hw : (rest.map fun v => v.category).sum ≤ 8) (hdg : decode cc pc = .ok (.invokespecial idx, 3)) (hR : rm.frames + 1 ≤ R.frames ∧ 8 + (n' + 11) + rm.locals ≤ R.locals) (hf : cells + rm.cells ≤ R.cells ∧ slots + rm.slots ≤ R.slots) :
    va_Run p l e R s m args below meth c H locs cells slots rm.cells rm.slots (F0 m pc ls st) rest (Qc (Value.ref b :: As).toArray) free := by
  subst hst
  obtain ⟨h1, h2, h3, h4, h5, h6⟩ := hs
  exact va_runI (As := As) (rest := rest) F hM (cwI na F.2.2.2.2 h1 rfl rfl rfl (F.2.2.2.2 _ h2) (F.2.2.2.2 _ h3) (F.2.2.2.2 _ h4) h5 h6 hR) ⟨PB.blind, PB.pre hP hK hD hG⟩ rfl hn hl rfl (lv_room hw) hdg hf
theorem rSN (F : CallFix p m c cc nL s args G_ own) (hG : gN s) (hK : va_K D vwCl ty s) (hP : va_P D vwCl wc H) (hD : va_D (fun _ => True) wc) (hs : sSN own idx y cc' n' ret na) (hM : Met l y (ws_ y cc' n' ret) rm (va_Pc As (PB D ty wc H.size)) Qc rm.cells rm.slots free)
    (hn : As.length = na) (hl : ls.size = nL) (hst : st = As.reverse ++ rest) (hw : (rest.map fun v => v.category).sum ≤ 8) (hdg : decode cc pc = .ok (.invokestatic idx, 3)) (hR : rm.frames + 1 ≤ R.frames ∧ 8 + (n' + 11) + rm.locals ≤ R.locals) (hf : cells + rm.cells ≤ R.cells ∧ slots + rm.slots ≤ R.slots) :
    va_Run p l e R s m args below meth c H locs cells slots rm.cells rm.slots (F0 m pc ls st) rest (Qc As.toArray) free := by
  subst hst
  obtain ⟨h1, h2, h3, h4, h6⟩ := hs
  exact va_runSN (host := RX3) (As := As) (rest := rest) F hM ⟨va_cnB na F.2.2.2.2 h1 rfl rfl rfl (hG.1 _ h3) (F.2.2.2.2 _ h2) h6 hR, F.2.2.2.2 _ h4, trivial⟩ ⟨PB.blind, PB.pre hP hK hD hG⟩ rfl hn hl rfl (lv_room hw) hdg hf
theorem rIN (F : CallFix p m c cc nL s args G_ own) (hG : gN s) (hK : va_K D vwCl ty s) (hP : va_P D vwCl wc H) (hD : va_D (fun _ => True) wc) (hs : sIN own idx y cc' n' na) (hM : Met l y (ws_ y cc' n' none) rm (va_Pc (.ref b :: As) (PB D ty wc H.size)) Qc rm.cells rm.slots free)
    (hn : As.length = na) (hl : ls.size = nL) (hst : st = As.reverse ++ .ref b :: rest) (hw : (rest.map fun v => v.category).sum ≤ 8) (hdg : decode cc pc = .ok (.invokespecial idx, 3)) (hR : rm.frames + 1 ≤ R.frames ∧ 8 + (n' + 11) + rm.locals ≤ R.locals) (hf : cells + rm.cells ≤ R.cells ∧ slots + rm.slots ≤ R.slots) :
    va_Run p l e R s m args below meth c H locs cells slots rm.cells rm.slots (F0 m pc ls st) rest (Qc (Value.ref b :: As).toArray) free := by
  subst hst
  obtain ⟨h1, h2, h3, h4, h5, h6⟩ := hs
  exact va_runIN (host := RX3) (As := As) (rest := rest) F hM ⟨va_cnB na F.2.2.2.2 h1 rfl rfl rfl (hG.1 _ h3) (F.2.2.2.2 _ h2) h6 hR, h5, F.2.2.2.2 _ h4⟩ ⟨PB.blind, PB.pre hP hK hD hG⟩ rfl hn hl rfl (lv_room hw) hdg hf
/-- behind a call: the caller's other cells, then the callee's -/
theorem k_i {post : Int32 → S → Prop} {w1 : S → va_W} (hr : va_Run p l e R s m args below meth c H locs cells slots mc ms (F0 m pc ls st) rest (va_Qi post (BP D w1 (va_A wc H.size)) (va_A wc H.size) a) (va_A wc H.size)) (hP : va_P D vwCl ws H) (hD : va_D A0 ws) (hS : va_S A0 H0 H locs) (hA : ∀ q, H0.size ≤ q → A0 q)
    (isC isR : List Nat) (hC : isC.map (fun i => ws[i]?) = wc.map some) (hR : isR.map (fun i => ws[i]?) = wr.map some) (hnR : va_nd isR = true) (hdis : ∀ i ∈ isR, i ∉ isC)
    (kk : ∀ (r : Int32) (u : S) (H1 : Heap) (locs1 : List Loc), post r u → va_P D vwCl (wr ++ w1 u) H1 → va_D A0 (wr ++ w1 u) → va_S A0 H0 H1 locs1 → W p l e R s m args below meth c H1 locs1 (cells + mc) (slots + ms) Q (F0 m (pc + 3) ls (.int r :: rest))) : W p l e R s m args below meth c H locs cells slots Q (F0 m pc ls st) := by
  have hF := va_free hD hS hA isC hC
  refine va_calli hr hS (fun q _ h => hF q h) hF (fun r u t H1 locs1 ht _ hp hB _ hk hS1 => ?_)
  obtain ⟨hP1, hD1⟩ := hB
  rw [ht] at hP1
  obtain ⟨hP2, hD2⟩ := va_join hP hD isC isR hC hR hnR hdis hk hF hP1 hD1
  exact kk r u H1 locs1 hp hP2 hD2 hS1
theorem k_l {post : Int64 → S → Prop} {w1 : S → va_W} (hr : va_Run p l e R s m args below meth c H locs cells slots mc ms (F0 m pc ls st) rest (va_Ql post (BP D w1 (va_A wc H.size)) (va_A wc H.size) a) (va_A wc H.size)) (hP : va_P D vwCl ws H) (hD : va_D A0 ws) (hS : va_S A0 H0 H locs) (hA : ∀ q, H0.size ≤ q → A0 q)
    (isC isR : List Nat) (hC : isC.map (fun i => ws[i]?) = wc.map some) (hR : isR.map (fun i => ws[i]?) = wr.map some) (hnR : va_nd isR = true) (hdis : ∀ i ∈ isR, i ∉ isC)
    (kk : ∀ (r : Int64) (u : S) (H1 : Heap) (locs1 : List Loc), post r u → va_P D vwCl (wr ++ w1 u) H1 → va_D A0 (wr ++ w1 u) → va_S A0 H0 H1 locs1 → W p l e R s m args below meth c H1 locs1 (cells + mc) (slots + ms) Q (F0 m (pc + 3) ls (.long r :: rest))) : W p l e R s m args below meth c H locs cells slots Q (F0 m pc ls st) := by
  have hF := va_free hD hS hA isC hC
  refine va_calll hr hS (fun q _ h => hF q h) hF (fun r u t H1 locs1 ht _ hp hB _ hk hS1 => ?_)
  obtain ⟨hP1, hD1⟩ := hB
  rw [ht] at hP1
  obtain ⟨hP2, hD2⟩ := va_join hP hD isC isR hC hR hnR hdis hk hF hP1 hD1
  exact kk r u H1 locs1 hp hP2 hD2 hS1
theorem k_v {post : S → Prop} {w1 : S → va_W} (hr : va_Run p l e R s m args below meth c H locs cells slots mc ms (F0 m pc ls st) rest (va_Qv post (BP D w1 (va_A wc H.size)) (va_A wc H.size) a) (va_A wc H.size)) (hP : va_P D vwCl ws H) (hD : va_D A0 ws) (hS : va_S A0 H0 H locs) (hA : ∀ q, H0.size ≤ q → A0 q)
    (isC isR : List Nat) (hC : isC.map (fun i => ws[i]?) = wc.map some) (hR : isR.map (fun i => ws[i]?) = wr.map some) (hnR : va_nd isR = true) (hdis : ∀ i ∈ isR, i ∉ isC)
    (kk : ∀ (u : S) (H1 : Heap) (locs1 : List Loc), post u → va_P D vwCl (wr ++ w1 u) H1 → va_D A0 (wr ++ w1 u) → va_S A0 H0 H1 locs1 → W p l e R s m args below meth c H1 locs1 (cells + mc) (slots + ms) Q (F0 m (pc + 3) ls rest)) : W p l e R s m args below meth c H locs cells slots Q (F0 m pc ls st) := by
  have hF := va_free hD hS hA isC hC
  refine va_callv hr hS (fun q _ h => hF q h) hF (fun u t H1 locs1 ht _ hp hB _ hk hS1 => ?_)
  obtain ⟨hP1, hD1⟩ := hB
  rw [ht] at hP1
  obtain ⟨hP2, hD2⟩ := va_join hP hD isC isR hC hR hnR hdis hk hF hP1 hD1
  exact kk u H1 locs1 hp hP2 hD2 hS1
theorem k_r {post : S → Prop} {w1 : S → Nat → va_W} (hr : va_Run p l e R s m args below meth c H locs cells slots mc ms (F0 m pc ls st) rest (va_Qr post (fun u a t => va_P D vwCl (w1 u a) t.heap ∧ va_D (va_A wc H.size) (w1 u a)) (va_A wc H.size) a) (va_A wc H.size)) (hP : va_P D vwCl ws H) (hD : va_D A0 ws) (hS : va_S A0 H0 H locs) (hA : ∀ q, H0.size ≤ q → A0 q)
    (isC isR : List Nat) (hC : isC.map (fun i => ws[i]?) = wc.map some) (hR : isR.map (fun i => ws[i]?) = wr.map some) (hnR : va_nd isR = true) (hdis : ∀ i ∈ isR, i ∉ isC)
    (kk : ∀ (u : S) (ra : Nat) (H1 : Heap) (locs1 : List Loc), post u → va_P D vwCl (wr ++ w1 u ra) H1 → va_D A0 (wr ++ w1 u ra) → va_S A0 H0 H1 locs1 → W p l e R s m args below meth c H1 locs1 (cells + mc) (slots + ms) Q (F0 m (pc + 3) ls (.ref ra :: rest))) : W p l e R s m args below meth c H locs cells slots Q (F0 m pc ls st) := by
  have hF := va_free hD hS hA isC hC
  refine va_callr hr hS (fun q _ h => hF q h) hF (fun u ra t H1 locs1 ht _ hp hB _ hk hS1 => ?_)
  obtain ⟨hP1, hD1⟩ := hB
  rw [ht] at hP1
  obtain ⟨hP2, hD2⟩ := va_join hP hD isC isR hC hR hnR hdis hk hF hP1 hD1
  exact kk u ra H1 locs1 hp hP2 hD2 hS1
end
