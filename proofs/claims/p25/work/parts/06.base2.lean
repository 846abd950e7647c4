/-! bodies with their ends as rules; throws and their catching; arrays by places -/
def strL : List (Nat × String) := [(32, "what is not 0 or 1"), (39, "many is not 1 to 500"), (55, "day is not 0 to 5"), (57, "rain is not 0 to 9"), (59, "day is not 0 to 6"), (61, "takes is not 0 to 60"), (63, "shale is not 1 to 200"), (77, "there are 4 clamps"), (88, "there is no such clamp"), (90, "coal is not 1 to 60"), (95, "there is not so much coal, or the clamp has no shale"), (103, "water is not 0 to 400"), (112, "there are 4 pits"), (116, "there is no such clamp or pit"), (124, "nothing is burnt, the clamp burns, or the pit has no water"), (132, "there are 3 pans"), (134, "there is no such pit or pan"), (136, "water is not 1 to 150"), (138, "the pit has not so much water, or the pan no room for it"), (140, "there is no such pan"), (145, "barrels is not 1 to 20"), (147, "there are not so many barrels, or the pan has no alum"), (165, "there is no such clamp, or what is not 0 to 3"), (170, "there is no such pit, or what is not 0 to 3"), (173, "there is no such pan, or what is not 0 to 4"), (175, "what is not 0 to 9"), (181, "days is not 1 to 60"), (194, "what is not 2, 4, 5, 6 or 7"), (196, "there is no such pit")]
def gT (U : State) : Prop := (∀ q ∈ strL, ∃ a, vk_R RX3 q.1 q.2 a U) ∧ True
theorem gT.warm {s U : State} (hW : s.WarmedH U.vm) (h : gT s) : gT U := ⟨fun q hq => (h.1 q hq).elim fun a ha => ⟨a, ha.warm hW⟩, trivial⟩
theorem gT.same {u U : State} (h : U.vm = u.vm) (g : gT u) : gT U := ⟨fun q hq => (g.1 q hq).elim fun a ha => ⟨a, ha.same h⟩, trivial⟩
def gZ (A : Nat → Prop) (U : State) (H : Heap) : Prop := vx_Zq Bundle.tN "UNASSIGNED_STACK" Bundle.steD A U H ∧ vx_Zq Bundle.tN "SUPPRESSED_SENTINEL" Bundle.listD A U H
theorem gZ.moved {A : Nat → Prop} {u U : State} {H : Heap} (hvm : u.vm.Alike U.vm) (h : gZ A u H) : gZ A U H := ⟨h.1.moved hvm, h.2.moved hvm⟩
theorem gZ.kept {A : Nat → Prop} {U : State} {H H1 : Heap} (h : gZ A U H) (hq : ∀ a : Nat, a < H.size → ¬ A a → H1[a]? = H[a]?) : gZ A U H1 := ⟨h.1.kept hq, h.2.kept hq⟩
theorem gZ.narrow {A B : Nat → Prop} {U : State} {H : Heap} (h : gZ A U H) (hAB : ∀ q, B q → A q) : gZ B U H := ⟨h.1.narrow hAB, h.2.narrow hAB⟩
/-- the start of a method that may throw, or calls one that may -/
def PX (D : va_G) (ty : List (ClassId × FieldType)) (ws : va_W) (sz : Nat) (U : State) : Prop := PB D ty ws sz U ∧ gT U ∧ gZ (va_A ws sz) U U.heap
theorem PX.blind {av : List Value} {D : va_G} {ty : List (ClassId × FieldType)} {ws : va_W} {sz : Nat} : FrameBlind (va_Pc av (PX D ty ws sz)) := fun a U g mk q => by
  obtain ⟨q0, q1, qT, qZ⟩ := q
  exact ⟨q0, (PB.blind (av := av) (ty := ty) (ws := ws) a U g mk ⟨q0, q1⟩).2, gT.same (u := U) rfl qT, gZ.moved (u := U) (Vm.Alike.refl U.vm) qZ⟩
theorem PX.pre {s : State} {H : Heap} {av : List Value} {D : va_G} {ty : List (ClassId × FieldType)} {ws : va_W} (hP : va_P D vwCl ws H) (hK : va_K D vwCl ty s) (hD : va_D (fun _ => True) ws) (hG : gN s) (hT : gT s) (hZ : gZ (va_A ws H.size) s H) : ∀ U : State, U.heap = H → s.WarmedH U.vm → va_Pc av (PX D ty ws H.size) av.toArray U := fun U hU hW => ⟨rfl, (PB.pre (av := av) hP hK hD hG U hU hW).2, gT.warm hW hT, by rw [hU]; exact gZ.moved hW.alike hZ⟩
abbrev BX (D : va_G) (ws : va_W) (px : String → Prop) : String → Unit → State → Prop := fun E _ t => px E ∧ va_P D vwCl ws t.heap
/-- a contract that gives an int back or throws, nothing changed then -/
abbrev Xi (l : Launch) (y : MethodName) (cc : ByteArray) (n : Nat) (ret : Option FieldType) (rm : Room) (D : va_G) (ty : List (ClassId × FieldType)) (av : List Value) (ws : va_W) {S : Type} (post : Int32 → S → Prop) (w1 : S → va_W) (px : String → Prop) : Prop :=
  ∀ sz : Nat, vx_Met l y (ws_ y cc n ret) rm (va_Pc av (PX D ty ws sz)) (va_Qi post (BP D w1 (va_A ws sz)) (va_A ws sz)) (vx_X (fun _ : Unit => True) (BX D ws px) (va_A ws sz)) rm.cells rm.slots (va_A ws sz)
/-- a contract of a method with handlers that gives an int back -/
abbrev Mw (l : Launch) (y : MethodName) (cc : ByteArray) (n : Nat) (hh : List (Nat × Nat × Nat × Nat)) (rm : Room) (D : va_G) (ty : List (ClassId × FieldType)) (av : List Value) (ws : va_W) {S : Type} (post : Int32 → S → Prop) (w1 : S → va_W) : Prop :=
  ∀ sz : Nat, Met l y (wsW_ y cc n (some .int) hh) rm (va_Pc av (PX D ty ws sz)) (va_Qi post (BP D w1 (va_A ws sz)) (va_A ws sz)) rm.cells rm.slots (va_A ws sz)
/-- the three throws of the class -/
def nm2 : List String := ["java/lang/RuntimeException", "java/lang/Exception"]
def thrOK (cls : String) (ik ic : Nat) : Prop := Bundle.fit cls = true ∧ Cond.classLink RX3 ik cls ∈ G_ ∧ Cond.initialized cls ∈ G_ ∧ (∀ w ∈ (vx_atS RX3 ic cls nm2).filter goodWord, w ∈ G_) ∧ (∀ w ∈ (vx_atS RX3 ic cls nm2).filter (fun w => !goodWord w), w ∈ nW) ∧ (∀ w ∈ Cond.classLink RX3 ik cls :: Cond.initialized cls :: vx_atS RX3 ic cls nm2, vx_ot w = true)
theorem thr_IO : thrOK iIO 30 34 := ⟨by decide +kernel, qL_RX3_30, qN_java_lang_IndexOutOfBoundsException, G_x2, by decide +kernel, by decide +kernel⟩
theorem thr_IA : thrOK iIA 37 41 := ⟨by decide +kernel, qL_RX3_37, qN_java_lang_IllegalArgumentException, G_x0, by decide +kernel, by decide +kernel⟩
theorem thr_IS : thrOK iIS 75 79 := ⟨by decide +kernel, qL_RX3_75, qN_java_lang_IllegalStateException, G_x1, by decide +kernel, by decide +kernel⟩
theorem nm2_fit : ∀ n ∈ nm2, Bundle.fit n = true := by decide +kernel
theorem Xi.of {l : Launch} {y : MethodName} {cc : ByteArray} {n : Nat} {rt : FieldType} {rm : Room} {D : va_G} {ty : List (ClassId × FieldType)} {av : List Value} {ws : va_W} {S : Type} {post : Int32 → S → Prop} {w1 : S → va_W} {px : String → Prop} (hy : plainName y.cls = true) (hyc : y.cls = RX3) (hn : (lg_sl av).length ≤ n) (hst : l.stackTraces = false) (hrm : 5 < rm.frames ∧ 90 ≤ rm.locals ∧ 1 ≤ rm.cells ∧ 6 ≤ rm.slots)
    (body : ∀ p e s m args below meth c A ls (Q : State → Prop), BF p s m args meth c cc n y.cls (some rt) → va_K D vwCl ty s → va_P D vwCl ws s.heap → va_D A ws → (∀ q : Nat, s.heap.size ≤ q → A q) → lv_has ls n (lv_args 0 av) →
      (∀ (H : Heap) (locs : List Loc) (cells slots pc : Nat) (ls : Array Slot) (v : Int32) (u : S), decode cc pc = .ok (.ireturn, 1) → post v u → va_P D vwCl (w1 u) H → va_D A (w1 u) → va_S A s.heap H locs → narrow rt (.int v) = .int v → cells ≤ rm.cells → slots ≤ rm.slots → W p l e rm s m args below meth c H locs cells slots Q (F0 m pc ls [.int v])) →
      (∀ (H : Heap) (locs : List Loc) (pc ik ic i : Nat) (cls text : String) (ls : Array Slot), thrOK cls ik ic → (i, text) ∈ strL → decode cc pc = .ok (.new ik, 3) → decode cc (pc + 3) = .ok (.dup, 1) → decode cc (pc + 4) = .ok (.ldc i, 2) → decode cc (pc + 6) = .ok (.invokespecial ic, 3) → decode cc (pc + 9) = .ok (.athrow, 1) → px cls → va_P D vwCl ws H → va_S A s.heap H locs → ls.size = n → W p l e rm s m args below meth c H locs 0 0 Q (F0 m pc ls [])) →
      W p l e rm s m args below meth c s.heap [] 0 0 Q (F0 m 0 ls [])) : Xi l y cc n (some rt) rm D ty av ws post w1 px := by
  intro sz
  refine vx_ofW (cc := cc) (maxL := n) (ret := some rt) hy rfl ?_
  intro p e s m args below meth c s₁ B hml htab hv
  obtain ⟨rfl, ⟨hsz, hP, hK, hD0, hG⟩, hT, hZ⟩ := hv
  have hts := atoms_spec (ws := ws_ y cc n (some rt)) B.pre
  have ht : ∀ w ∈ G_, w.before _ s = true := fun w h => hts w (List.mem_cons_of_mem _ h)
  subst hsz
  have hl := lv_entry av (n := n) hn
  rw [lg_entry_eq]
  have hown := findClass_of_methodNamed B.named
  have hlocks := B.notSynchronized
  refine body p e s m _ below meth c (va_A ws s.heap.size) _ _ ⟨⟨B.exec, B.bytes, hml, hown, ht⟩, B.returns, hlocks, hG⟩ hK hP hD0.self (fun q h => Or.inr h) hl ?_ ?_
  · intro H locs cells slots pc ls v u hdg hp hP hD hS hn2 hc hs
    exact W.widen hc hs (vx_ret (W.zret B.exec B.bytes B.returns hn2 (fun t ht _ => ⟨⟨v, u, rfl, hp, by rw [ht]; exact hP, hD⟩, hS.F ht⟩) hS.2.2 hdg hlocks))
  · intro H locs pc ik ic i cls text ls hok hstr d0 d3 d4 d6 d9 hpx hP hS hsize
    obtain ⟨k1, k2, k3, k4, k5, k6⟩ := hok
    obtain ⟨sa, hsa⟩ := hT.1 _ hstr
    have hown3 : s.vm.findClass RX3 = some m.cls := by rw [← hyc]; exact hown
    exact vx_throwS (A := va_A ws s.heap.size) (names := nm2) B.exec B.bytes hst hown3 k1 nm2_fit (ht _ k2) (ht _ k3) hsa (vx_hat (fun w hw => ht w (k4 w hw)) k5 (fun w hw => va_Nw.use (List.all_eq_true.mp nW_on w hw) (hG.1 w hw))) k6 hZ.1 hZ.2 hS (hsize.trans hml.symm) d0 d3 d4 d6 d9 (fun x hx => (htab x hx).elim) (Nat.lt_of_lt_of_le hrm.1 (Nat.le_refl _)) (Nat.le_trans (by decide) hrm.2.1) (by have := hrm.2.2.1; show 0 + 1 ≤ rm.cells; omega) (by have := hrm.2.2.2; show 0 + 6 ≤ rm.slots; omega) hlocks
      (fun t _ h1 h2 => ⟨(), trivial, ⟨hpx, hP.kept (fun k q hk => h2 q.1 (hP k q hk).lt)⟩, ⟨Nat.le_trans hS.1 h1, fun q hq hA => (h2 q (Nat.lt_of_lt_of_le hq hS.1)).trans (hS.2.1 q hq hA)⟩⟩)
      hS.2.2 (by have := hrm.2.2.1; show 0 + 1 ≤ rm.cells; omega) (by have := hrm.2.2.2; show 0 + 6 ≤ rm.slots; omega)
theorem Mi.ofQ {l : Launch} {y : MethodName} {cc : ByteArray} {n : Nat} {rt : FieldType} {rm : Room} {D : va_G} {ty : List (ClassId × FieldType)} {av : List Value} {ws : va_W} {S : Type} {post : Int32 → S → Prop} {w1 : S → va_W} (hy : plainName y.cls = true) (hn : (lg_sl av).length ≤ n)
    (body : ∀ p e s m args below meth c A ls (Q : State → Prop), BF p s m args meth c cc n y.cls (some rt) → va_K D vwCl ty s → va_P D vwCl ws s.heap → va_D A ws → (∀ q : Nat, s.heap.size ≤ q → A q) → lv_has ls n (lv_args 0 av) →
      (∀ (H : Heap) (locs : List Loc) (cells slots pc : Nat) (ls : Array Slot) (v : Int32) (u : S), decode cc pc = .ok (.ireturn, 1) → post v u → va_P D vwCl (w1 u) H → va_D A (w1 u) → va_S A s.heap H locs → narrow rt (.int v) = .int v → cells ≤ rm.cells → slots ≤ rm.slots → W p l e rm s m args below meth c H locs cells slots Q (F0 m pc ls [.int v])) →
      W p l e rm s m args below meth c s.heap [] 0 0 Q (F0 m 0 ls [])) : Mi l y cc n (some rt) rm D ty av ws post w1 :=
  Mi.of hy hn (fun p e s m args below meth c A ls hB hK hP hD hA hl _ => body p e s m args below meth c A ls _ hB hK hP hD hA hl (fun H locs cells slots pc ls v u hdg hp hP hD hS hn2 hc hs => e_i hB.1.1 hB.1.2.1 hB.2.1 hB.2.2.1 hS u hp hP hD hn2 hdg hc hs))
theorem Ml.ofQ {l : Launch} {y : MethodName} {cc : ByteArray} {n : Nat} {rm : Room} {D : va_G} {ty : List (ClassId × FieldType)} {av : List Value} {ws : va_W} {S : Type} {post : Int64 → S → Prop} {w1 : S → va_W} (hy : plainName y.cls = true) (hn : (lg_sl av).length ≤ n)
    (body : ∀ p e s m args below meth c A ls (Q : State → Prop), BF p s m args meth c cc n y.cls (some .long) → va_K D vwCl ty s → va_P D vwCl ws s.heap → va_D A ws → (∀ q : Nat, s.heap.size ≤ q → A q) → lv_has ls n (lv_args 0 av) →
      (∀ (H : Heap) (locs : List Loc) (cells slots pc : Nat) (ls : Array Slot) (v : Int64) (u : S), decode cc pc = .ok (.lreturn, 1) → post v u → va_P D vwCl (w1 u) H → va_D A (w1 u) → va_S A s.heap H locs → cells ≤ rm.cells → slots ≤ rm.slots → W p l e rm s m args below meth c H locs cells slots Q (F0 m pc ls [.long v])) →
      W p l e rm s m args below meth c s.heap [] 0 0 Q (F0 m 0 ls [])) : Ml l y cc n rm D ty av ws post w1 :=
  Ml.of hy hn (fun p e s m args below meth c A ls hB hK hP hD hA hl _ => body p e s m args below meth c A ls _ hB hK hP hD hA hl (fun H locs cells slots pc ls v u hdg hp hP hD hS hc hs => e_l hB.1.1 hB.1.2.1 hB.2.1 hB.2.2.1 hS u hp hP hD hdg hc hs))
theorem Mv.ofQ {l : Launch} {y : MethodName} {cc : ByteArray} {n : Nat} {rm : Room} {D : va_G} {ty : List (ClassId × FieldType)} {av : List Value} {ws : va_W} {S : Type} {post : S → Prop} {w1 : S → va_W} (hy : plainName y.cls = true) (hn : (lg_sl av).length ≤ n)
    (body : ∀ p e s m args below meth c A ls (Q : State → Prop), BF p s m args meth c cc n y.cls none → va_K D vwCl ty s → va_P D vwCl ws s.heap → va_D A ws → (∀ q : Nat, s.heap.size ≤ q → A q) → lv_has ls n (lv_args 0 av) →
      (∀ (H : Heap) (locs : List Loc) (cells slots pc : Nat) (ls : Array Slot) (u : S), decode cc pc = .ok (.return_, 1) → post u → va_P D vwCl (w1 u) H → va_D A (w1 u) → va_S A s.heap H locs → cells ≤ rm.cells → slots ≤ rm.slots → W p l e rm s m args below meth c H locs cells slots Q (F0 m pc ls [])) → (y.name = meth.name) →
      W p l e rm s m args below meth c s.heap [] 0 0 Q (F0 m 0 ls [])) : Mv l y cc n rm D ty av ws post w1 :=
  Mv.of hy hn (fun p e s m args below meth c A ls hB hK hP hD hA hl hin => body p e s m args below meth c A ls _ hB hK hP hD hA hl (fun H locs cells slots pc ls u hdg hp hP hD hS hc hs => e_v hB.1.1 hB.1.2.1 hB.2.1 hB.2.2.1 hS u hp hP hD hdg hc hs) hin)
theorem Mw.ofQ {l : Launch} {y : MethodName} {cc : ByteArray} {n : Nat} {hh : List (Nat × Nat × Nat × Nat)} {rm : Room} {D : va_G} {ty : List (ClassId × FieldType)} {av : List Value} {ws : va_W} {S : Type} {post : Int32 → S → Prop} {w1 : S → va_W} (hy : plainName y.cls = true) (hn : (lg_sl av).length ≤ n) (hwg : Cond.codeWith y cc n (some .int) hh ∈ G_)
    (body : ∀ p e s m args below meth c A ls (Q : State → Prop), BF p s m args meth c cc n y.cls (some .int) → va_K D vwCl ty s → va_P D vwCl ws s.heap → va_D A ws → (∀ q : Nat, s.heap.size ≤ q → A q) → lv_has ls n (lv_args 0 av) → gT s → gZ A s s.heap → c.exceptionTable.toList = tableOf hh →
      (∀ (H : Heap) (locs : List Loc) (cells slots pc : Nat) (ls : Array Slot) (v : Int32) (u : S), decode cc pc = .ok (.ireturn, 1) → post v u → va_P D vwCl (w1 u) H → va_D A (w1 u) → va_S A s.heap H locs → cells ≤ rm.cells → slots ≤ rm.slots → W p l e rm s m args below meth c H locs cells slots Q (F0 m pc ls [.int v])) →
      W p l e rm s m args below meth c s.heap [] 0 0 Q (F0 m 0 ls [])) : Mw l y cc n hh rm D ty av ws post w1 := by
  intro sz
  refine va_MetW (cc := cc) (maxL := n) (ret := some .int) (hh := hh) hy rfl ?_
  intro p e s m args below meth c s₁ B hml hv
  obtain ⟨rfl, ⟨hsz, hP, hK, hD0, hG⟩, hT, hZ⟩ := hv
  have hts := atoms_spec (ws := wsW_ y cc n (some .int) hh) B.pre
  have ht : ∀ w ∈ G_, w.before _ s = true := fun w h => hts w (List.mem_cons_of_mem _ h)
  subst hsz
  have hl := lv_entry av (n := n) hn
  rw [lg_entry_eq]
  have hlocks := B.notSynchronized
  exact body p e s m _ below meth c (va_A ws s.heap.size) _ _ ⟨⟨B.exec, B.bytes, hml, findClass_of_methodNamed B.named, ht⟩, B.returns, hlocks, hG⟩ hK hP hD0.self (fun q h => Or.inr h) hl hT hZ (vx_table (x := y) B (hts _ List.mem_cons_self)) (fun H locs cells slots pc ls v u hdg hp hP hD hS hc hs => W.widen hc hs (W.iret B.exec B.bytes B.returns (fun t ht _ => ⟨⟨v, u, rfl, hp, by rw [ht]; exact hP, hD⟩, hS.F ht⟩) hS.2.2 hdg hlocks))
section
variable {p : Program} {l : Launch} {e : Env} {R : Room} {s : State} {m : MethodId} {args : Array Value} {below : List Frame} {meth : Method} {c : Code} {H : Heap} {locs : List Loc} {cells slots mc ms : Nat} {Q : State → Prop}
variable {cc cc' : ByteArray} {pc nL n' na idx : Nat} {own C : String} {y : MethodName} {ret : Option FieldType} {rm : Room} {D : va_G} {ty : List (ClassId × FieldType)} {b : Nat} {As st rest : List Value} {ws wc wr : va_W} {ls : Array Slot} {S : Type} {A A0 : Nat → Prop} {H0 : Heap} {a : Array Value} {Qc : Array Value → State → Outcome → State → Prop} {free : Addr → Prop}
theorem rX {XC : String → State → State → Prop} (F : CallFix p m c cc nL s args G_ own) (hG : gN s) (hT : gT s) (hZ : gZ (va_A wc H.size) s H) (hK : va_K D vwCl ty s) (hP : va_P D vwCl wc H) (hD : va_D (fun _ => True) wc) (hs : sV own idx C y cc' n' ret na) (hM : vx_Met l y (ws_ y cc' n' ret) rm (va_Pc (.ref b :: As) (PX D ty wc H.size)) Qc XC rm.cells rm.slots free)
    (ci q0 : Nat) {vc : vw_C} {fs : List Value} (hc : vwCl[ci]? = some vc) (he : wc[q0]? = some (b, .inr (ci, fs))) (hvc : vc.1 = C) (hn : As.length = na) (hl : ls.size = nL) (hst : st = As.reverse ++ .ref b :: rest) (hw : (rest.map fun v => v.category).sum ≤ 8) (hdg : decode cc pc = .ok (.invokevirtual idx, 3)) (hR : rm.frames + 1 ≤ R.frames ∧ 8 + (n' + 11) + rm.locals ≤ R.locals) (hf : cells + rm.cells ≤ R.cells ∧ slots + rm.slots ≤ R.slots) :
    vx_Run p l e R s m args below meth c H locs cells slots rm.cells rm.slots (F0 m pc ls st) rest (Qc (Value.ref b :: As).toArray) XC free := by
  subst hst
  exact vx_runV (As := As) (rest := rest) F hM (cwV na F.2.2.2.2 hs.1 rfl rfl rfl ⟨hs.2.1, hs.2.2⟩ hR) ⟨PX.blind, by
    have h := va_recv hK hP hc he
    rw [hvc] at h
    exact h, PX.pre hP hK hD hG hT hZ⟩ rfl hn hl rfl (lv_room hw) hdg hf
theorem rW {hh : List (Nat × Nat × Nat × Nat)} (F : CallFix p m c cc nL s args G_ own) (hG : gN s) (hT : gT s) (hZ : gZ (va_A wc H.size) s H) (hK : va_K D vwCl ty s) (hP : va_P D vwCl wc H) (hD : va_D (fun _ => True) wc) (hs : sW own idx y cc' n' ret hh na) (hM : Met l y (wsW_ y cc' n' ret hh) rm (va_Pc As (PX D ty wc H.size)) Qc rm.cells rm.slots free)
    (hn : As.length = na) (hl : ls.size = nL) (hst : st = As.reverse ++ rest) (hw : (rest.map fun v => v.category).sum ≤ 8) (hdg : decode cc pc = .ok (.invokestatic idx, 3)) (hR : rm.frames + 1 ≤ R.frames ∧ 8 + (n' + 11) + rm.locals ≤ R.locals) (hf : cells + rm.cells ≤ R.cells ∧ slots + rm.slots ≤ R.slots) :
    va_Run p l e R s m args below meth c H locs cells slots rm.cells rm.slots (F0 m pc ls st) rest (Qc As.toArray) free := by
  subst hst
  exact vx_runSW (As := As) (rest := rest) F hM (vx_cwSW na F.2.2.2.2 hs.1 rfl rfl rfl hs.2 hR) ⟨PX.blind, PX.pre hP hK hD hG hT hZ⟩ rfl hn hl rfl (lv_room hw) hdg hf
/-- a callee's part of the statics of a throw -/
theorem gZ.at (hZ : gZ A0 s H0) (hS : va_S A0 H0 H locs) : gZ A0 s H := hZ.kept (fun q h1 h2 => hS.2.1 q h1 h2)
/-- behind a call that may have thrown -/
theorem k_x {post : Int32 → S → Prop} {w1 : S → va_W} {px : String → Prop} (hr : vx_Run p l e R s m args below meth c H locs cells slots mc ms (F0 m pc ls st) rest (va_Qi post (BP D w1 (va_A wc H.size)) (va_A wc H.size) a) (vx_X (fun _ : Unit => True) (BX D wc px) (va_A wc H.size)) (va_A wc H.size)) (hP : va_P D vwCl ws H) (hD : va_D A0 ws) (hS : va_S A0 H0 H locs) (hA : ∀ q, H0.size ≤ q → A0 q)
    (isC isR : List Nat) (hC : isC.map (fun i => ws[i]?) = wc.map some) (hR : isR.map (fun i => ws[i]?) = wr.map some) (hnR : va_nd isR = true) (hdis : ∀ i ∈ isR, i ∉ isC) (hDc : va_D (fun _ => True) wc)
    (kx : ∀ (E : String) (ce : Cell) (q9 : Addr) (H1 : Heap) (locs1 : List Loc), px E → va_P D vwCl (wr ++ wc) H1 → va_D A0 (wr ++ wc) → va_S A0 H0 H1 locs1 → H1[q9]? = some ce → ce.vm = .none → s.vm.findClass E = some ce.cls → vx_W p l e R s m args below meth c H1 locs1 (cells + mc) (slots + ms) Q (F0 m pc ls rest) q9)
    (kk : ∀ (r : Int32) (u : S) (H1 : Heap) (locs1 : List Loc), post r u → va_P D vwCl (wr ++ w1 u) H1 → va_D A0 (wr ++ w1 u) → va_S A0 H0 H1 locs1 → W p l e R s m args below meth c H1 locs1 (cells + mc) (slots + ms) Q (F0 m (pc + 3) ls (.int r :: rest))) : W p l e R s m args below meth c H locs cells slots Q (F0 m pc ls st) := by
  have hF := va_free hD hS hA isC hC
  refine vx_calli hr hS (fun q _ h => hF q h) hF (fun q _ h => hF q h) (fun E ce q9 u t H1 locs1 ht _ _ hB _ hk hS1 hce hcv hcl => ?_) (fun r u t H1 locs1 ht _ hp hB _ hk hS1 => ?_)
  · obtain ⟨hpx, hP1⟩ := hB
    rw [ht] at hP1
    obtain ⟨hP2, hD2⟩ := va_join hP hD isC isR hC hR hnR hdis hk hF hP1 (hDc.self (sz := H.size))
    exact kx E ce q9 H1 locs1 hpx hP2 hD2 hS1 hce hcv hcl
  · obtain ⟨hP1, hD1⟩ := hB
    rw [ht] at hP1
    obtain ⟨hP2, hD2⟩ := va_join hP hD isC isR hC hR hnR hdis hk hF hP1 hD1
    exact kk r u H1 locs1 hp hP2 hD2 hS1
/-- arrays by a known place -/
theorem aI (hx : p.tables.exec = Jvm.exec) (hb : c.code = cc) (hK : va_K D vwCl ty s) (hP : va_P D vwCl ws H) (q0 t0 : Nat) {q : Nat} {cA : ClassId} {n : Nat} {f : Nat → Int32} (ha : ws[q0]? = some (q, .inl (cA, n, .inl f))) (ht : ty[t0]? = some (cA, .int)) {x : Int32} (i : Nat) (hi : x = nI i) (hlt : i < n) (hn : n < 2147483648) {v : Int32} (hv : f i = v) (hdg : decode cc pc = .ok (.iaload, 1))
    (kk : W p l e R s m args below meth c H locs cells slots Q (F0 m (pc + 1) ls (.int v :: rest))) : W p l e R s m args below meth c H locs cells slots Q (F0 m pc ls (.int x :: .ref q :: rest)) := by
  subst hi hv
  refine va_iald hx hb hK hP q0 t0 ha ht (vp_in_nI hlt (by omega)) hdg ?_
  rw [nI_clamp (by omega)]
  exact kk
theorem aZ (hx : p.tables.exec = Jvm.exec) (hb : c.code = cc) (hK : va_K D vwCl ty s) (hP : va_P D vwCl ws H) (q0 t0 : Nat) {q : Nat} {cA : ClassId} {n : Nat} {f : Nat → Int32} (ha : ws[q0]? = some (q, .inl (cA, n, .inl f))) (ht : ty[t0]? = some (cA, .boolean)) {x : Int32} (i : Nat) (hi : x = nI i) (hlt : i < n) (hn : n < 2147483648) {v : Int32} (hv : f i = v) (hdg : decode cc pc = .ok (.baload, 1))
    (kk : W p l e R s m args below meth c H locs cells slots Q (F0 m (pc + 1) ls (.int v :: rest))) : W p l e R s m args below meth c H locs cells slots Q (F0 m pc ls (.int x :: .ref q :: rest)) := by
  subst hi hv
  refine va_zald hx hb hK hP q0 t0 ha ht (vp_in_nI hlt (by omega)) hdg ?_
  rw [nI_clamp (by omega)]
  exact kk
theorem sI_ (hx : p.tables.exec = Jvm.exec) (hb : c.code = cc) (hK : va_K D vwCl ty s) (hP : va_P D vwCl ws H) (hD : va_D A0 ws) (hS : va_S A0 H0 H locs) (q0 t0 : Nat) {q : Nat} {cA : ClassId} {n : Nat} {f : Nat → Int32} (ha : ws[q0]? = some (q, .inl (cA, n, .inl f))) (ht : ty[t0]? = some (cA, .int)) {x y : Int32} (i : Nat) (hi : x = nI i) (hlt : i < n) (hn : n < 2147483648) (g : Nat → Int32) (hg : upd f i y = g) (hdg : decode cc pc = .ok (.iastore, 1))
    (kk : ∀ (H1 : Heap) (locs1 : List Loc), va_P D vwCl (ws.set q0 (q, .inl (cA, n, .inl g))) H1 → va_D A0 (ws.set q0 (q, .inl (cA, n, .inl g))) → va_S A0 H0 H1 locs1 → W p l e R s m args below meth c H1 locs1 cells slots Q (F0 m (pc + 1) ls rest)) : W p l e R s m args below meth c H locs cells slots Q (F0 m pc ls (.int y :: .int x :: .ref q :: rest)) := by
  subst hi hg
  refine va_iast hx hb hK hP hD hS q0 t0 ha ht (vp_in_nI hlt (by omega)) hdg ?_
  rw [nI_clamp (by omega)]
  exact kk
theorem sZ_ (hx : p.tables.exec = Jvm.exec) (hb : c.code = cc) (hK : va_K D vwCl ty s) (hP : va_P D vwCl ws H) (hD : va_D A0 ws) (hS : va_S A0 H0 H locs) (q0 t0 : Nat) {q : Nat} {cA : ClassId} {n : Nat} {f : Nat → Int32} (ha : ws[q0]? = some (q, .inl (cA, n, .inl f))) (ht : ty[t0]? = some (cA, .boolean)) {x y : Int32} (i : Nat) (hi : x = nI i) (hlt : i < n) (hn : n < 2147483648) (hy : vp_nar .boolean y = y) (g : Nat → Int32) (hg : upd f i y = g) (hdg : decode cc pc = .ok (.bastore, 1))
    (kk : ∀ (H1 : Heap) (locs1 : List Loc), va_P D vwCl (ws.set q0 (q, .inl (cA, n, .inl g))) H1 → va_D A0 (ws.set q0 (q, .inl (cA, n, .inl g))) → va_S A0 H0 H1 locs1 → W p l e R s m args below meth c H1 locs1 cells slots Q (F0 m (pc + 1) ls rest)) : W p l e R s m args below meth c H locs cells slots Q (F0 m pc ls (.int y :: .int x :: .ref q :: rest)) := by
  subst hi hg
  refine va_zast hx hb hK hP hD hS q0 t0 ha ht (vp_in_nI hlt (by omega)) hdg ?_
  rw [nI_clamp (by omega), hy]
  exact kk
/-- the int on top, told otherwise -/
theorem t_i {x : Int32} (y : Int32) (h : x = y) (k : W p l e R s m args below meth c H locs cells slots Q (F0 m pc ls (.int y :: rest))) : W p l e R s m args below meth c H locs cells slots Q (F0 m pc ls (.int x :: rest)) := by
  subst h
  exact k
def mn (x y : Int32) : Int32 := if y < x then y else x
def mx (x y : Int32) : Int32 := if x < y then y else x
theorem k_min (F : CallFix p m c cc nL s args G_ own) (hlink : Cond.methodLink own idx Lib.Math.min.name ∈ G_) (hl : ls.size = nL) (hfr : 1 ≤ R.frames) (hlo : (rest.map fun v => v.category).sum + 13 ≤ R.locals) (hc : cells ≤ R.cells) (hs : slots ≤ R.slots) {x y : Int32} (hdg : decode cc pc = .ok (.invokestatic idx, 3))
    (kk : W p l e R s m args below meth c H locs cells slots Q (F0 m (pc + 3) ls (.int (mn x y) :: rest))) : W p l e R s m args below meth c H locs cells slots Q (F0 m pc ls (.int y :: .int x :: rest)) :=
  va_mmin F.1 F.2.1 (F.2.2.1.trans hl.symm) F.2.2.2.1 (F.2.2.2.2 _ hlink) (F.2.2.2.2 _ qS_yJ9_min_7cf53) (F.2.2.2.2 _ qN_RJ9) (F.2.2.2.2 _ qC_yJ9_min_7cf53) hfr hlo hc hs hdg kk
theorem k_max (F : CallFix p m c cc nL s args G_ own) (hlink : Cond.methodLink own idx Lib.Math.max.name ∈ G_) (hl : ls.size = nL) (hfr : 1 ≤ R.frames) (hlo : (rest.map fun v => v.category).sum + 13 ≤ R.locals) (hc : cells ≤ R.cells) (hs : slots ≤ R.slots) {x y : Int32} (hdg : decode cc pc = .ok (.invokestatic idx, 3))
    (kk : W p l e R s m args below meth c H locs cells slots Q (F0 m (pc + 3) ls (.int (mx x y) :: rest))) : W p l e R s m args below meth c H locs cells slots Q (F0 m pc ls (.int y :: .int x :: rest)) :=
  va_mmax F.1 F.2.1 (F.2.2.1.trans hl.symm) F.2.2.2.1 (F.2.2.2.2 _ hlink) (F.2.2.2.2 _ qS_yJ9_max_7cf53) (F.2.2.2.2 _ qN_RJ9) (F.2.2.2.2 _ qC_yJ9_max_7cf53) hfr hlo hc hs hdg kk
end
