/-! rows of int arrays in segments behind the named cells; calls beside them; methods that no longer throw -/
abbrev TYQ (cI cZ cQ : ClassId) : List (ClassId × FieldType) := [(cI, .int), (cZ, .boolean), (cQ, .array .int)]
theorem tyQ {D : va_G} {cI cZ cJ : ClassId} {s : State} (hG : gN s) (hK : va_K D vwCl (TY cI cZ cJ) s) : ∃ cQ, va_K D vwCl (TYQ cI cZ cQ) s := by
  obtain ⟨comp, c, k, h1, h2, h3, h4, h5⟩ := arrayOverA_spec hG.2
  refine ⟨c, hK.1, fun j q hq => ?_⟩
  match j, hq with
  | 0, hq => exact hK.2 0 q hq
  | 1, hq => exact hK.2 1 q hq
  | 2, hq =>
    cases hq
    exact ⟨fun N z => ⟨(fun k h => by cases h), k, h3, comp, h4⟩, h5⟩
theorem tyI {D : va_G} {cI cZ cQ cJ : ClassId} {s : State} (hK : va_K D vwCl (TYQ cI cZ cQ) s) : va_K D vwCl (TY cI cZ cJ) s := ⟨hK.1, fun j q hq => by
  match j, hq with
  | 0, hq => exact hK.2 0 q hq
  | 1, hq => exact hK.2 1 q hq⟩
theorem fcI {D : va_G} {cI cZ cQ : ClassId} {s : State} (hK : va_K D vwCl (TYQ cI cZ cQ) s) : s.vm.findClass "[I" = some cI := by
  have h : s.vm.findClass ("[" ++ FieldType.int.toString) = some cI := (hK.2 0 _ rfl).2
  have e : ("[" ++ FieldType.int.toString : String) = "[I" := by decide +kernel
  rw [e] at h
  exact h
abbrev wS (X : va_W) (S : List va_W) : va_W := X ++ S.flatten
def MR (cI : ClassId) (K n : Nat) (r : Nat → Nat) (F : Nat → Nat → Int32) : va_W := (List.range n).map (fun i => (r i, .inl (cI, K, .inl (F i))))
def rf (n : Nat) (r : Nat → Nat) : Nat → Option Nat := fun i => if i < n then some (r i) else none
def upd2 (F : Nat → Nat → Int32) (i j : Nat) (x : Int32) : Nat → Nat → Int32 := fun a => if a = i then upd (F i) j x else F a
def updR (r : Nat → Nat) (n q : Nat) : Nat → Nat := fun i => if i = n then q else r i
theorem rf_at {n i : Nat} {r : Nat → Nat} (h : i < n) : rf n r i = some (r i) := if_pos h
theorem rf_0 (r : Nat → Nat) : (fun _ => none) = rf 0 r := funext fun i => by simp [rf]
theorem rf_up (n : Nat) (r : Nat → Nat) : va_up (rf n r) n (some (r n)) = rf (n + 1) r := funext fun i => by
  unfold va_up rf
  by_cases h : i = n
  · subst h; simp
  · by_cases h2 : i < n
    · simp [h, h2, Nat.lt_succ_of_lt h2]
    · simp [h, h2, show ¬ i < n + 1 by omega]
theorem rf_push (n : Nat) (r : Nat → Nat) (q : Nat) : va_up (rf n r) n (some q) = rf (n + 1) (updR r n q) := funext fun i => by
  unfold va_up rf updR
  by_cases h : i = n
  · subst h; simp
  · by_cases h2 : i < n
    · simp [h, h2, Nat.lt_succ_of_lt h2]
    · simp [h, h2, show ¬ i < n + 1 by omega]
theorem MR_at {cI : ClassId} {K n i : Nat} {r : Nat → Nat} {F : Nat → Nat → Int32} (h : i < n) : (MR cI K n r F)[i]? = some (r i, .inl (cI, K, .inl (F i))) := by
  unfold MR
  rw [List.getElem?_map, List.getElem?_range h]
  rfl
theorem MR_len {cI : ClassId} {K n : Nat} {r : Nat → Nat} {F : Nat → Nat → Int32} : (MR cI K n r F).length = n := by simp [MR]
theorem MR_set {cI : ClassId} {K n i j : Nat} {r : Nat → Nat} {F : Nat → Nat → Int32} {y : Int32} (h : i < n) : (MR cI K n r F).set i (r i, .inl (cI, K, .inl (upd (F i) j y))) = MR cI K n r (upd2 F i j y) := List.ext_getElem? fun k => by
  by_cases hk : k < n
  · by_cases e : k = i
    · subst e
      rw [List.getElem?_set_self (by rw [MR_len]; exact hk), MR_at hk]
      simp [upd2]
    · rw [List.getElem?_set_ne (Ne.symm e), MR_at hk, MR_at hk]
      simp [upd2, e]
  · rw [List.getElem?_eq_none (by rw [List.length_set, MR_len]; omega), List.getElem?_eq_none (by rw [MR_len]; omega)]
theorem fl_at {X : va_W} {S : List va_W} {d i : Nat} {R : va_W} {e : Nat × va_E} (hd : S[d]? = some R) (hi : R[i]? = some e) : (wS X S)[X.length + (S.take d).flatten.length + i]? = some e := by
  have hlt : i < R.length := (List.getElem?_eq_some_iff.mp hi).1
  have hdl : d < S.length := (List.getElem?_eq_some_iff.mp hd).1
  have hdg : S[d] = R := (List.getElem?_eq_some_iff.mp hd).2
  have e1 : S = S.take d ++ R :: S.drop (d + 1) := by
    rw [← hdg, List.getElem_cons_drop, List.take_append_drop]
  show (X ++ S.flatten)[_]? = _
  rw [List.getElem?_append_right (by omega), show X.length + (S.take d).flatten.length + i - X.length = (S.take d).flatten.length + i by omega]
  conv => lhs; arg 1; rw [e1]
  rw [List.flatten_append, List.flatten_cons, List.getElem?_append_right (by omega), show (S.take d).flatten.length + i - (S.take d).flatten.length = i by omega, List.getElem?_append_left hlt]
  exact hi
theorem fl_set {X : va_W} {S : List va_W} {d i : Nat} {R : va_W} {e : Nat × va_E} (hd : S[d]? = some R) (hi : i < R.length) : (wS X S).set (X.length + (S.take d).flatten.length + i) e = wS X (S.set d (R.set i e)) := by
  have hdl : d < S.length := (List.getElem?_eq_some_iff.mp hd).1
  have hdg : S[d] = R := (List.getElem?_eq_some_iff.mp hd).2
  have e1 : S = S.take d ++ R :: S.drop (d + 1) := by
    rw [← hdg, List.getElem_cons_drop, List.take_append_drop]
  have e2 : S.set d (R.set i e) = S.take d ++ R.set i e :: S.drop (d + 1) := by
    rw [List.set_eq_take_append_cons_drop, if_pos hdl]
  show (X ++ S.flatten).set _ e = X ++ (S.set d (R.set i e)).flatten
  rw [e2, List.set_append_right _ _ (by omega), show X.length + (S.take d).flatten.length + i - X.length = (S.take d).flatten.length + i by omega]
  congr 1
  conv => lhs; arg 1; rw [e1]
  rw [List.flatten_append, List.flatten_append, List.flatten_cons, List.flatten_cons, List.set_append_right _ _ (by omega), show (S.take d).flatten.length + i - (S.take d).flatten.length = i by omega, List.set_append_left _ _ hi]
theorem va_P.mem {D : va_G} {cl : List vw_C} {ws : va_W} {H : Heap} (h : va_P D cl ws H) {q : Nat × va_E} (hq : q ∈ ws) : va_at D cl q H := by
  obtain ⟨k, hk⟩ := List.getElem?_of_mem hq
  exact h k q hk
theorem va_P.subset {D : va_G} {cl : List vw_C} {ws ws' : va_W} {H : Heap} (h : va_P D cl ws H) (hs : ∀ q, q ∈ ws' → q ∈ ws) : va_P D cl ws' H := fun _ q hk => h.mem (hs q (List.mem_of_getElem? hk))
theorem va_D.nodup {A : Nat → Prop} {ws : va_W} (h : va_D A ws) : (ws.map Prod.fst).Nodup := by
  refine List.pairwise_iff_getElem.mpr (fun i j hi hj hij e => ?_)
  rw [List.length_map] at hi hj
  rw [List.getElem_map, List.getElem_map] at e
  have := h.1 i j _ _ (List.getElem?_eq_getElem hi) (List.getElem?_eq_getElem hj) e
  omega
theorem va_D.of_nodup {A : Nat → Prop} {ws : va_W} (h : (ws.map Prod.fst).Nodup) (hA : ∀ q, q ∈ ws → A q.1) : va_D A ws := by
  refine ⟨fun i j p q hp hq e => ?_, fun k q hk => hA q (List.mem_of_getElem? hk)⟩
  have h2 := List.pairwise_iff_getElem.mp h
  obtain ⟨hi, rfl⟩ := List.getElem?_eq_some_iff.mp hp
  obtain ⟨hj, rfl⟩ := List.getElem?_eq_some_iff.mp hq
  rcases Nat.lt_trichotomy i j with h3 | h3 | h3
  · exact absurd (by rw [List.getElem_map, List.getElem_map]; exact e) (h2 i j (by rw [List.length_map]; exact hi) (by rw [List.length_map]; exact hj) h3)
  · exact h3
  · exact absurd (by rw [List.getElem_map, List.getElem_map]; exact e.symm) (h2 j i (by rw [List.length_map]; exact hj) (by rw [List.length_map]; exact hi) h3)
theorem va_D.mem {A : Nat → Prop} {ws : va_W} (h : va_D A ws) {q : Nat × va_E} (hq : q ∈ ws) : A q.1 := by
  obtain ⟨k, hk⟩ := List.getElem?_of_mem hq
  exact h.2 k q hk
theorem va_D.perm {A : Nat → Prop} {ws ws' : va_W} (h : va_D A ws) (hp : ws'.Perm ws) : va_D A ws' :=
  va_D.of_nodup ((hp.map Prod.fst).nodup_iff.mpr h.nodup) (fun _ hq => h.mem (hp.mem_iff.mp hq))
theorem va_P.perm {D : va_G} {cl : List vw_C} {ws ws' : va_W} {H : Heap} (h : va_P D cl ws H) (hp : ws'.Perm ws) : va_P D cl ws' H := h.subset (fun _ hq => hp.mem_iff.mp hq)
theorem va_D.slist {A : Nat → Prop} {ws ws' : va_W} (h : va_D A ws) (hp : ws'.Sublist ws) : va_D A ws' :=
  va_D.of_nodup ((hp.map Prod.fst).nodup h.nodup) (fun _ hq => h.mem (hp.mem hq))
theorem va_P.slist {D : va_G} {cl : List vw_C} {ws ws' : va_W} {H : Heap} (h : va_P D cl ws H) (hp : ws'.Sublist ws) : va_P D cl ws' H := h.subset (fun _ hq => hp.mem hq)
/-- the last segments are left out -/
theorem wS_cut (X : va_W) (S T : List va_W) : (wS X S).Sublist (wS X (S ++ T)) := by
  show (X ++ S.flatten).Sublist (X ++ (S ++ T).flatten)
  rw [List.flatten_append, ← List.append_assoc]
  exact List.sublist_append_left _ _
/-- a row that lies among the named cells comes to its segment -/
theorem wS_push (X : va_W) {S : List va_W} {d : Nat} {R : va_W} (hd : S[d]? = some R) (q x : Nat × va_E) : (wS (X ++ [x]) (S.set d (R ++ [q]))).Perm (wS (X ++ [q, x]) S) := by
  have hdl : d < S.length := (List.getElem?_eq_some_iff.mp hd).1
  have hdg : S[d] = R := (List.getElem?_eq_some_iff.mp hd).2
  have e1 : S = S.take d ++ R :: S.drop (d + 1) := by
    rw [← hdg, List.getElem_cons_drop, List.take_append_drop]
  have e2 : S.set d (R ++ [q]) = S.take d ++ (R ++ [q]) :: S.drop (d + 1) := by
    rw [List.set_eq_take_append_cons_drop, if_pos hdl]
  show ((X ++ [x]) ++ (S.set d (R ++ [q])).flatten).Perm ((X ++ [q, x]) ++ S.flatten)
  rw [e2]
  conv => rhs; rw [e1]
  rw [List.flatten_append, List.flatten_append, List.flatten_cons, List.flatten_cons]
  generalize (S.take d).flatten = a
  generalize (S.drop (d + 1)).flatten = b
  rw [List.append_assoc X, List.append_assoc X]
  refine List.Perm.append_left X ?_
  show (x :: (a ++ ((R ++ [q]) ++ b))).Perm (q :: x :: (a ++ (R ++ b)))
  refine List.Perm.trans ?_ (List.Perm.swap q x _)
  refine List.Perm.cons x ?_
  rw [List.append_assoc R, ← List.append_assoc a, ← List.append_assoc a]
  exact List.perm_middle
theorem MR_push {cI : ClassId} {K n : Nat} {r : Nat → Nat} {F F' : Nat → Nat → Int32} {q : Nat} (hF : ∀ i, i < n → F' i = F i) : MR cI K n r F ++ [(q, .inl (cI, K, .inl (F' n)))] = MR cI K (n + 1) (updR r n q) F' := by
  unfold MR
  rw [List.range_succ, List.map_append]
  congr 1
  · apply List.map_congr_left
    intro i hi
    have hi := List.mem_range.mp hi
    rw [hF i hi]
    simp [updR, show ¬ i = n by omega]
  · simp [updR]
/-- contracts of methods that return, at a start where a throw is told -/
abbrev Mp (l : Launch) (y : MethodName) (cc : ByteArray) (n : Nat) (ret : Option FieldType) (rm : Room) (D : va_G) (ty : List (ClassId × FieldType)) (av : List Value) (ws : va_W) {S : Type} (post : Int32 → S → Prop) (w1 : S → va_W) : Prop :=
  ∀ sz : Nat, Met l y (ws_ y cc n ret) rm (va_Pc av (PX D ty ws sz)) (va_Qi post (BP D w1 (va_A ws sz)) (va_A ws sz)) rm.cells rm.slots (va_A ws sz)
theorem Mp.ofX {l : Launch} {y : MethodName} {cc : ByteArray} {n : Nat} {ret : Option FieldType} {rm : Room} {D : va_G} {ty : List (ClassId × FieldType)} {av : List Value} {ws : va_W} {S : Type} {post post' : Int32 → S → Prop} {w1 : S → va_W} {px : String → Prop} (h : Xi l y cc n ret rm D ty av ws post w1 px) (hx : ∀ E, ¬ px E) (hp : ∀ r u, post r u → post' r u) : Mp l y cc n ret rm D ty av ws post' w1 := by
  intro sz p e ha hc hk s m args below hf happ hP hK
  obtain ⟨n, o, h1, h2, h3, h4⟩ := h sz p e ha hc hk s m args below hf happ hP hK
  rcases h4 with ⟨⟨⟨r, u, a1, a2, a3⟩, a4⟩, h5⟩ | ⟨q, -, E, ce, L, ⟨u, -, hB, -⟩, -⟩
  · exact ⟨n, o, h1, h2, h3, ⟨⟨r, u, a1, hp r u a2, a3⟩, a4⟩, h5⟩
  · exact absurd hB.1 (hx E)
theorem Mp.ofQ {l : Launch} {y : MethodName} {cc : ByteArray} {n : Nat} {rt : FieldType} {rm : Room} {D : va_G} {ty : List (ClassId × FieldType)} {av : List Value} {ws : va_W} {S : Type} {post : Int32 → S → Prop} {w1 : S → va_W} (hy : plainName y.cls = true) (hn : (lg_sl av).length ≤ n)
    (body : ∀ p e s m args below meth c A ls (Q : State → Prop), BF p s m args meth c cc n y.cls (some rt) → va_K D vwCl ty s → va_P D vwCl ws s.heap → va_D A ws → (∀ q : Nat, s.heap.size ≤ q → A q) → lv_has ls n (lv_args 0 av) → gT s → gZ A s s.heap →
      (∀ (H : Heap) (locs : List Loc) (cells slots pc : Nat) (ls : Array Slot) (v : Int32) (u : S), decode cc pc = .ok (.ireturn, 1) → post v u → va_P D vwCl (w1 u) H → va_D A (w1 u) → va_S A s.heap H locs → narrow rt (.int v) = .int v → cells ≤ rm.cells → slots ≤ rm.slots → W p l e rm s m args below meth c H locs cells slots Q (F0 m pc ls [.int v])) →
      W p l e rm s m args below meth c s.heap [] 0 0 Q (F0 m 0 ls [])) : Mp l y cc n (some rt) rm D ty av ws post w1 := by
  intro sz
  refine Met.ofW (cc := cc) (maxL := n) (ret := some rt) hy rfl ?_
  intro p e s m args below meth c s₁ B hml hv
  obtain ⟨rfl, ⟨hsz, hP, hK, hD0, hG⟩, hT, hZ⟩ := hv
  have hts := atoms_spec (ws := ws_ y cc n (some rt)) B.pre
  subst hsz
  have hl := lv_entry av (n := n) hn
  rw [lg_entry_eq]
  exact body p e s m _ below meth c (va_A ws s.heap.size) _ _ ⟨⟨B.exec, B.bytes, hml, findClass_of_methodNamed B.named, fun w h => hts w (List.mem_cons_of_mem _ h)⟩, B.returns, B.notSynchronized, hG⟩ hK hP hD0.self (fun q h => Or.inr h) hl hT hZ (fun H locs cells slots pc ls v u hdg hp hP hD hS hn2 hc hs => e_i B.exec B.bytes B.returns B.notSynchronized hS u hp hP hD hn2 hdg hc hs)
theorem Mr.ofQ {l : Launch} {y : MethodName} {cc : ByteArray} {n : Nat} {rt : FieldType} {rm : Room} {D : va_G} {ty : List (ClassId × FieldType)} {av : List Value} {ws : va_W} {S : Type} {post : S → Prop} {w1 : S → Nat → va_W} (hrt : (∃ n, rt = .object n) ∨ ∃ t, rt = .array t) (hy : plainName y.cls = true) (hn : (lg_sl av).length ≤ n)
    (body : ∀ p e s m args below meth c A ls (Q : State → Prop), BF p s m args meth c cc n y.cls (some rt) → va_K D vwCl ty s → va_P D vwCl ws s.heap → va_D A ws → (∀ q : Nat, s.heap.size ≤ q → A q) → lv_has ls n (lv_args 0 av) →
      (∀ (H : Heap) (locs : List Loc) (cells slots pc : Nat) (ls : Array Slot) (a : Nat) (u : S), decode cc pc = .ok (.areturn, 1) → post u → va_P D vwCl (w1 u a) H → va_D A (w1 u a) → va_S A s.heap H locs → cells ≤ rm.cells → slots ≤ rm.slots → W p l e rm s m args below meth c H locs cells slots Q (F0 m pc ls [.ref a])) →
      W p l e rm s m args below meth c s.heap [] 0 0 Q (F0 m 0 ls [])) : Mr l y cc n rt rm D ty av ws post w1 :=
  Mr.of hy hn (fun p e s m args below meth c A ls hB hK hP hD hA hl _ => body p e s m args below meth c A ls _ hB hK hP hD hA hl (fun H locs cells slots pc ls a u hdg hp hP hD hS hc hs =>
    W.widen hc hs (W.aret hB.1.1 hB.1.2.1 hB.2.1 hrt (Or.inr ⟨a, rfl⟩) (fun t ht _ => ⟨⟨u, a, rfl, hp, by rw [ht]; exact hP, hD⟩, hS.F ht⟩) hS.2.2 hdg hB.2.2.1)))
theorem va_D.left {A : Nat → Prop} {X pl : va_W} (h : va_D A (X ++ pl)) : va_D A X := h.slist (List.sublist_append_left _ _)
section
variable {p : Program} {l : Launch} {e : Env} {R : Room} {s : State} {m : MethodId} {args : Array Value} {below : List Frame} {meth : Method} {c : Code} {H : Heap} {locs : List Loc} {cells slots mc ms : Nat} {Q : State → Prop}
variable {cc cc' : ByteArray} {pc nL n' na idx : Nat} {own C : String} {y : MethodName} {ret : Option FieldType} {rm : Room} {D : va_G} {ty : List (ClassId × FieldType)} {b : Nat} {As st rest : List Value} {ws wc wr X pl : va_W} {T : List va_W} {ls : Array Slot} {S : Type} {A A0 : Nat → Prop} {H0 : Heap} {a : Array Value} {Qc : Array Value → State → Outcome → State → Prop} {free : Addr → Prop} {cI cZ cQ : ClassId}
/-- a value that several ways come to -/
theorem w_cut {J : Nat} {st0 : List Value} (v : Int32) (hJ : W p l e R s m args below meth c H locs cells slots Q (F0 m J ls (.int v :: rest))) (k : W p l e R s m args below meth c H locs cells slots Q (F0 m J ls (.int v :: rest)) → W p l e R s m args below meth c H locs cells slots Q (F0 m pc ls st0)) : W p l e R s m args below meth c H locs cells slots Q (F0 m pc ls st0) := k hJ
/-- calls of methods that start where a throw is told -/
theorem rVP (F : CallFix p m c cc nL s args G_ own) (hG : gN s) (hT : gT s) (hZ : gZ (va_A wc H.size) s H) (hK : va_K D vwCl ty s) (hP : va_P D vwCl wc H) (hD : va_D (fun _ => True) wc) (hs : sV own idx C y cc' n' ret na) (hM : Met l y (ws_ y cc' n' ret) rm (va_Pc (.ref b :: As) (PX D ty wc H.size)) Qc rm.cells rm.slots free)
    (ci q0 : Nat) {vc : vw_C} {fs : List Value} (hc : vwCl[ci]? = some vc) (he : wc[q0]? = some (b, .inr (ci, fs))) (hvc : vc.1 = C) (hn : As.length = na) (hl : ls.size = nL) (hst : st = As.reverse ++ .ref b :: rest) (hw : (rest.map fun v => v.category).sum ≤ 8) (hdg : decode cc pc = .ok (.invokevirtual idx, 3)) (hR : rm.frames + 1 ≤ R.frames ∧ 8 + (n' + 11) + rm.locals ≤ R.locals) (hf : cells + rm.cells ≤ R.cells ∧ slots + rm.slots ≤ R.slots) :
    va_Run p l e R s m args below meth c H locs cells slots rm.cells rm.slots (F0 m pc ls st) rest (Qc (Value.ref b :: As).toArray) free := by
  subst hst
  exact va_runV (As := As) (rest := rest) F hM (cwV na F.2.2.2.2 hs.1 rfl rfl rfl ⟨hs.2.1, hs.2.2⟩ hR) ⟨PX.blind, by
    have h := va_recv hK hP hc he
    rw [hvc] at h
    exact h, PX.pre hP hK hD hG hT hZ⟩ rfl hn hl rfl (lv_room hw) hdg hf
theorem rSP (F : CallFix p m c cc nL s args G_ own) (hG : gN s) (hT : gT s) (hZ : gZ (va_A wc H.size) s H) (hK : va_K D vwCl ty s) (hP : va_P D vwCl wc H) (hD : va_D (fun _ => True) wc) (hs : sS own idx y cc' n' ret na) (hM : Met l y (ws_ y cc' n' ret) rm (va_Pc As (PX D ty wc H.size)) Qc rm.cells rm.slots free)
    (hn : As.length = na) (hl : ls.size = nL) (hst : st = As.reverse ++ rest) (hw : (rest.map fun v => v.category).sum ≤ 8) (hdg : decode cc pc = .ok (.invokestatic idx, 3)) (hR : rm.frames + 1 ≤ R.frames ∧ 8 + (n' + 11) + rm.locals ≤ R.locals) (hf : cells + rm.cells ≤ R.cells ∧ slots + rm.slots ≤ R.slots) :
    va_Run p l e R s m args below meth c H locs cells slots rm.cells rm.slots (F0 m pc ls st) rest (Qc As.toArray) free := by
  subst hst
  exact va_runS (As := As) (rest := rest) F hM (va_cwS na F.2.2.2.2 hs.1 rfl rfl rfl hs.2 hR) ⟨PX.blind, PX.pre hP hK hD hG hT hZ⟩ rfl hn hl rfl (lv_room hw) hdg hf
/-- behind a call beside which segments lie -/
theorem k_iQ {post : Int32 → S → Prop} {w1 : S → va_W} (hr : va_Run p l e R s m args below meth c H locs cells slots mc ms (F0 m pc ls st) rest (va_Qi post (BP D w1 (va_A wc H.size)) (va_A wc H.size) a) (va_A wc H.size)) (hP : va_P D vwCl (wS X T) H) (hD : va_D A0 (wS X T)) (hS : va_S A0 H0 H locs) (hA : ∀ q, H0.size ≤ q → A0 q)
    (isC isR : List Nat) (hC : isC.map (fun i => X[i]?) = wc.map some) (hR : isR.map (fun i => X[i]?) = wr.map some) (hnR : va_nd isR = true) (hdis : ∀ i ∈ isR, i ∉ isC)
    (kk : ∀ (r : Int32) (u : S) (H1 : Heap) (locs1 : List Loc), post r u → va_P D vwCl (wS (wr ++ w1 u) T) H1 → va_D A0 (wS (wr ++ w1 u) T) → va_S A0 H0 H1 locs1 → W p l e R s m args below meth c H1 locs1 (cells + mc) (slots + ms) Q (F0 m (pc + 3) ls (.int r :: rest))) : W p l e R s m args below meth c H locs cells slots Q (F0 m pc ls st) := by
  have hF := va_free hD.left hS hA isC hC
  refine va_calli hr hS (fun q _ h => hF q h) hF (fun r u t H1 locs1 ht _ hp hB _ hk hS1 => ?_)
  obtain ⟨hP1, hD1⟩ := hB
  rw [ht] at hP1
  obtain ⟨hP2, hD2⟩ := va_joinQ hP hD isC isR hC hR hnR hdis hk hF hP1 hD1
  exact kk r u H1 locs1 hp hP2 hD2 hS1
/-- behind a call that uses the segments too -/
theorem k_iP {T1 : S → List va_W} {wc0 : va_W} {post : Int32 → S → Prop} {w1 : S → va_W} (hr : va_Run p l e R s m args below meth c H locs cells slots mc ms (F0 m pc ls st) rest (va_Qi post (BP D (fun u => wS (w1 u) (T1 u)) (va_A (wS wc0 T) H.size)) (va_A (wS wc0 T) H.size) a) (va_A (wS wc0 T) H.size)) (hP : va_P D vwCl (wS X T) H) (hD : va_D A0 (wS X T)) (hS : va_S A0 H0 H locs) (hA : ∀ q, H0.size ≤ q → A0 q)
    (isC isR : List Nat) (hC : isC.map (fun i => X[i]?) = wc0.map some) (hR : isR.map (fun i => X[i]?) = wr.map some) (hnR : va_nd isR = true) (hdis : ∀ i ∈ isR, i ∉ isC)
    (kk : ∀ (r : Int32) (u : S) (H1 : Heap) (locs1 : List Loc), post r u → va_P D vwCl (wS (wr ++ w1 u) (T1 u)) H1 → va_D A0 (wS (wr ++ w1 u) (T1 u)) → va_S A0 H0 H1 locs1 → W p l e R s m args below meth c H1 locs1 (cells + mc) (slots + ms) Q (F0 m (pc + 3) ls (.int r :: rest))) : W p l e R s m args below meth c H locs cells slots Q (F0 m pc ls st) := by
  have hF : ∀ q, va_A (wS wc0 T) H.size q → A0 q := fun q hq => by
    rcases hq with ⟨k, e, h⟩ | h
    · exact hD.2 _ _ (va_part isC hC k _ h)
    · exact hA _ (Nat.le_trans hS.1 h)
  refine va_calli hr hS (fun q _ h => hF q h) hF (fun r u t H1 locs1 ht _ hp hB _ hk hS1 => ?_)
  obtain ⟨hP1, hD1⟩ := hB
  rw [ht] at hP1
  obtain ⟨hP2, hD2⟩ := va_joinP hP hD isC isR hC hR hnR hdis hk hF hP1 hD1
  exact kk r u H1 locs1 hp hP2 hD2 hS1
/-- a callee that leaves its cells as they were -/
theorem keep_P {H1 : Heap} (hP : va_P D vwCl ws H) (hD : va_D A0 ws) {isC : List Nat} (hC : isC.map (fun i => ws[i]?) = wc.map some) (hk : ∀ q : Nat, q < H.size → ¬ va_A wc H.size q → H1[q]? = H[q]?) (hP1 : va_P D vwCl wc H1) : va_P D vwCl ws H1 := fun k q hq => by
  obtain ⟨q1, q2⟩ := q
  have hlt := (hP k _ hq).lt
  by_cases hin : va_A wc H.size q1
  · rcases hin with ⟨k2, e, h2⟩ | h2
    · obtain ⟨i, h5, h6⟩ := va_in_of isC hC h2
      have hik := hD.1 _ _ _ _ h6 hq rfl
      subst hik
      rw [hq] at h6
      cases h6
      exact hP1 k2 _ h2
    · omega
  · exact (hP k _ hq).kept (hk q1 hlt hin)
theorem k_iR {post : Int32 → S → Prop} {w1 : S → va_W} (hw1 : ∀ u, w1 u = wc) (hr : va_Run p l e R s m args below meth c H locs cells slots mc ms (F0 m pc ls st) rest (va_Qi post (BP D w1 (va_A wc H.size)) (va_A wc H.size) a) (va_A wc H.size)) (hP : va_P D vwCl ws H) (hD : va_D A0 ws) (hS : va_S A0 H0 H locs) (hA : ∀ q, H0.size ≤ q → A0 q)
    (isC : List Nat) (hC : isC.map (fun i => ws[i]?) = wc.map some)
    (kk : ∀ (r : Int32) (u : S) (H1 : Heap) (locs1 : List Loc), post r u → va_P D vwCl ws H1 → va_S A0 H0 H1 locs1 → W p l e R s m args below meth c H1 locs1 (cells + mc) (slots + ms) Q (F0 m (pc + 3) ls (.int r :: rest))) : W p l e R s m args below meth c H locs cells slots Q (F0 m pc ls st) := by
  have hF := va_free hD hS hA isC hC
  refine va_calli hr hS (fun q _ h => hF q h) hF (fun r u t H1 locs1 ht _ hp hB _ hk hS1 => ?_)
  have hP1 := hB.1
  rw [ht, hw1 u] at hP1
  exact kk r u H1 locs1 hp (keep_P hP hD hC hk hP1) hS1
/-- a callee that leaves its cells as they were, and makes one -/
theorem k_rM {post : S → Prop} {w1 : S → Nat → va_W} {en : S → Nat → va_E} (hw1 : ∀ u q, w1 u q = wc ++ [(q, en u q)]) (hr : va_Run p l e R s m args below meth c H locs cells slots mc ms (F0 m pc ls st) rest (va_Qr post (fun u a t => va_P D vwCl (w1 u a) t.heap ∧ va_D (va_A wc H.size) (w1 u a)) (va_A wc H.size) a) (va_A wc H.size)) (hP : va_P D vwCl ws H) (hD : va_D A0 ws) (hS : va_S A0 H0 H locs) (hA : ∀ q, H0.size ≤ q → A0 q)
    (isC : List Nat) (hC : isC.map (fun i => ws[i]?) = wc.map some)
    (kk : ∀ (u : S) (ra : Nat) (H1 : Heap) (locs1 : List Loc), post u → va_P D vwCl (ws ++ [(ra, en u ra)]) H1 → va_D A0 (ws ++ [(ra, en u ra)]) → va_S A0 H0 H1 locs1 → W p l e R s m args below meth c H1 locs1 (cells + mc) (slots + ms) Q (F0 m (pc + 3) ls (.ref ra :: rest))) : W p l e R s m args below meth c H locs cells slots Q (F0 m pc ls st) := by
  have hF := va_free hD hS hA isC hC
  refine va_callr hr hS (fun q _ h => hF q h) hF (fun u ra t H1 locs1 ht _ hp hB _ hk hS1 => ?_)
  obtain ⟨hP1, hD1⟩ := hB
  rw [ht, hw1 u ra] at hP1
  rw [hw1 u ra] at hD1
  have hlast : (wc ++ [(ra, en u ra)])[wc.length]? = some (ra, en u ra) := by rw [List.getElem?_append_right (Nat.le_refl _), Nat.sub_self]; rfl
  have hnew : H.size ≤ ra := by
    rcases hD1.2 _ _ hlast with ⟨k2, e, h2⟩ | h2
    · have h3 : (wc ++ [(ra, en u ra)])[k2]? = some (ra, e) := by rw [List.getElem?_append_left (List.getElem?_eq_some_iff.mp h2).1]; exact h2
      have h4 := hD1.1 _ _ _ _ h3 hlast rfl
      have h5 := (List.getElem?_eq_some_iff.mp h2).1
      omega
    · exact h2
  have hPw := keep_P hP hD hC hk (hP1.slist (List.sublist_append_left _ _))
  refine kk u ra H1 locs1 hp (va_P.app hPw (fun k q hq => ?_)) (va_D.app hD ⟨fun i j p q hp hq _ => ?_, fun k q hq => ?_⟩ (fun i j x y hx hy hxy => ?_)) hS1
  · have h0 : k < 1 := (List.getElem?_eq_some_iff.mp hq).1
    rw [show k = 0 by omega] at hq
    cases hq
    exact hP1 _ _ hlast
  · have h1 : i < 1 := (List.getElem?_eq_some_iff.mp hp).1
    have h2 : j < 1 := (List.getElem?_eq_some_iff.mp hq).1
    omega
  · have h0 : k < 1 := (List.getElem?_eq_some_iff.mp hq).1
    rw [show k = 0 by omega] at hq
    cases hq
    exact hA _ (Nat.le_trans hS.1 hnew)
  · have h0 : j < 1 := (List.getElem?_eq_some_iff.mp hy).1
    rw [show j = 0 by omega] at hy
    cases hy
    have := (hP i x hx).lt
    have h9 : x.1 = ra := hxy
    omega
/-- rows of a segment -/
theorem rl_ {K n d : Nat} {r : Nat → Nat} {F : Nat → Nat → Int32} (hx : p.tables.exec = Jvm.exec) (hb : c.code = cc) (hK : va_K D vwCl (TYQ cI cZ cQ) s) (hP : va_P D vwCl (wS X T) H) (hd : T[d]? = some (MR cI K n r F)) (i : Nat) (hi : i < n) {x : Int32} (j : Nat) (hj : x = nI j) (hlt : j < K) (hn : K < 2147483648) {v : Int32} (hv : F i j = v) (hdg : decode cc pc = .ok (.iaload, 1))
    (kk : W p l e R s m args below meth c H locs cells slots Q (F0 m (pc + 1) ls (.int v :: rest))) : W p l e R s m args below meth c H locs cells slots Q (F0 m pc ls (.int x :: .ref (r i) :: rest)) :=
  aI hx hb hK hP (X.length + (T.take d).flatten.length + i) 0 (fl_at hd (MR_at hi)) rfl j hj hlt hn hv hdg kk
theorem rs_ {K n d : Nat} {r : Nat → Nat} {F : Nat → Nat → Int32} (hx : p.tables.exec = Jvm.exec) (hb : c.code = cc) (hK : va_K D vwCl (TYQ cI cZ cQ) s) (hP : va_P D vwCl (wS X T) H) (hD : va_D A0 (wS X T)) (hS : va_S A0 H0 H locs) (hd : T[d]? = some (MR cI K n r F)) (i : Nat) (hi : i < n) {x y : Int32} (j : Nat) (hj : x = nI j) (hlt : j < K) (hn : K < 2147483648) (G : Nat → Nat → Int32) (hg : upd2 F i j y = G) (hdg : decode cc pc = .ok (.iastore, 1))
    (kk : ∀ (H1 : Heap) (locs1 : List Loc), va_P D vwCl (wS X (T.set d (MR cI K n r G))) H1 → va_D A0 (wS X (T.set d (MR cI K n r G))) → va_S A0 H0 H1 locs1 → W p l e R s m args below meth c H1 locs1 cells slots Q (F0 m (pc + 1) ls rest)) : W p l e R s m args below meth c H locs cells slots Q (F0 m pc ls (.int y :: .int x :: .ref (r i) :: rest)) := by
  subst hg
  refine sI_ hx hb hK hP hD hS (X.length + (T.take d).flatten.length + i) 0 (fl_at hd (MR_at hi)) rfl j hj hlt hn _ rfl hdg (fun H1 locs1 hP hD hS => ?_)
  have e : (wS X T).set (X.length + (T.take d).flatten.length + i) (r i, .inl (cI, K, .inl (upd (F i) j y))) = wS X (T.set d (MR cI K n r (upd2 F i j y))) := by
    rw [fl_set hd (by rw [MR_len]; exact hi), MR_set hi]
  rw [e] at hP hD
  exact kk H1 locs1 hP hD hS
/-- arrays of such rows -/
theorem l_ax (hx : p.tables.exec = Jvm.exec) (hb : c.code = cc) (hK : va_K D vwCl (TYQ cI cZ cQ) s) (hP : va_P D vwCl ws H) (q0 : Nat) {a N k : Nat} {r : Nat → Nat} (ha : ws[q0]? = some (a, .inl (cQ, N, .inr (.inr (.inr (.inr (rf k r))))))) {i : Int32} (j : Nat) (hi : i = nI j) (hlt : j < k) (hkN : k ≤ N) (hN : N < 1000) (hdg : decode cc pc = .ok (.aaload, 1))
    (kk : W p l e R s m args below meth c H locs cells slots Q (F0 m (pc + 1) ls (.ref (r j) :: rest))) : W p l e R s m args below meth c H locs cells slots Q (F0 m pc ls (.int i :: .ref a :: rest)) := by
  subst hi
  have ej : (nI j).toNatClampNeg = j := nI_clamp (by omega)
  have hjN : j < N := by omega
  exact W.aald (v := .ref (r j)) (ty := .array .int) hx hb (hP q0 _ ha) ((hK.2 2 (cQ, .array .int) rfl).1 N (fun j => va_rf (rf k r j))) rfl (fun q => by cases q) (by show ¬ (nI j < 0 ∨ (arrV _ _ _).slots.size ≤ _); rw [arrV_size]; exact nI_in (N := N) hjN (by omega)) (by show (arrV _ _ _).slots[_]? = _; rw [ej, arrV_read _ _ hjN, rf_at hlt]; rfl) rfl rfl hdg kk
theorem q_ax (hx : p.tables.exec = Jvm.exec) (hb : c.code = cc) (hK : va_K D vwCl (TYQ cI cZ cQ) s) (hP : va_P D vwCl ws H) (q0 : Nat) {a N : Nat} {f : Nat → Option Nat} (ha : ws[q0]? = some (a, .inl (cQ, N, .inr (.inr (.inr (.inr f)))))) (hdg : decode cc pc = .ok (.arraylength, 1))
    (kk : W p l e R s m args below meth c H locs cells slots Q (F0 m (pc + 1) ls (.int (nI N) :: rest))) : W p l e R s m args below meth c H locs cells slots Q (F0 m pc ls (.ref a :: rest)) :=
  va_alen hx hb hK hP q0 2 ha rfl (v := nI N) rfl hdg kk
theorem n_ax (hx : p.tables.exec = Jvm.exec) (hb : c.code = cc) (ht : ∀ w ∈ G_, w.before args s = true) (hG : gN s) (hown : s.vm.findClass RX4 = some m.cls) (hK : va_K D vwCl (TYQ cI cZ cQ) s) (hP : va_P D vwCl (wS X T) H) (hD : va_D A0 (wS X T)) (hS : va_S A0 H0 H locs) (hA : ∀ q, H0.size ≤ q → A0 q) (r : Nat → Nat) {n : Int32} (N : Nat) (hn : n = nI N) (hN : N < 1000) (hc : cells + 1 ≤ R.cells) (hs : slots + N ≤ R.slots) (hdg : decode cc pc = .ok (.anewarray 16, 3))
    (kk : ∀ (q : Nat) (H1 : Heap), va_P D vwCl (wS (X ++ [(q, .inl (cQ, N, .inr (.inr (.inr (.inr (rf 0 r))))))]) T) H1 → va_D A0 (wS (X ++ [(q, .inl (cQ, N, .inr (.inr (.inr (.inr (rf 0 r))))))]) T) → va_S A0 H0 H1 locs → W p l e R s m args below meth c H1 locs (cells + 1) (slots + N) Q (F0 m (pc + 3) ls (.ref q :: rest))) : W p l e R s m args below meth c H locs cells slots Q (F0 m pc ls (.int n :: rest)) := by
  subst hn
  have e4 : (nI N).toNatClampNeg = N := nI_clamp (by omega)
  refine W.anewA (t := .int) hx hb hown (ht _ qL_RX4_16) hG.2 rfl hdg rfl (nI_pos (by omega)) (by rw [e4]; show N * 4 ≤ 536870912; omega) hc (by rw [e4]; exact hs) fun cA kA comp f1 f2 f3 f4 => ?_
  have eQ : cA = cQ := Option.some.inj (f1.symm.trans (hK.2 2 (cQ, .array .int) rfl).2)
  subst eQ
  rw [e4]
  generalize hH1 : H.push ({ cls := cA, slots := Array.replicate N .null, vm := .none } : Cell) = H1
  have z1 : H1.size = H.size + 1 := by rw [← hH1, Array.size_push]
  have e1 : H1[H.size]? = some (arrV cA N (fun _ => .null)) := by rw [← hH1, Array.getElem?_push_size, ← arrV_new]
  have o1 : ∀ q : Nat, q < H.size → H1[q]? = H[q]? := fun q hq => by rw [← hH1, Array.getElem?_push, if_neg (Nat.ne_of_lt hq)]
  have hk : ∀ (k : Nat) (x : Nat × va_E), (wS X T)[k]? = some x → H1[x.1]? = H[x.1]? := fun k x hx => o1 x.1 ((hP k x hx).lt)
  have hP9 : va_P D vwCl (wS X T ++ [(H.size, .inl (cA, N, .inr (.inr (.inr (.inr (rf 0 r))))))]) H1 := (hP.kept hk).app (fun k x hx => by
    have hz : k < 1 := (List.getElem?_eq_some_iff.mp hx).1
    rw [show k = 0 by omega] at hx
    cases hx
    show H1[H.size]? = some (vp_cell _ _)
    rw [e1, ← rf_0]
    rfl)
  refine kk H.size H1 (va_P.swap hP9) (va_D.swap (hD.push hP rfl (hA _ hS.1))) ⟨Nat.le_trans hS.1 (by omega), fun x h1 h2 => (o1 x (Nat.lt_of_lt_of_le h1 hS.1)).trans (hS.2.1 x h1 h2), hS.2.2⟩
theorem s_ax (hx : p.tables.exec = Jvm.exec) (hb : c.code = cc) (hG : gN s) (hK : va_K D vwCl (TYQ cI cZ cQ) s) (hP : va_P D vwCl ws H) (hD : va_D A0 ws) (hS : va_S A0 H0 H locs) (q0 qk : Nat) {a v N : Nat} {f : Nat → Option Nat} {x : vp_A} (ha : ws[q0]? = some (a, .inl (cQ, N, .inr (.inr (.inr (.inr f)))))) (hv : ws[qk]? = some (v, .inl (cI, x))) {i : Int32} (j : Nat) (hi : i = nI j) (hlt : j < N) (hN : N < 1000) (g : Nat → Option Nat) (hg : va_up f j (some v) = g) (hdg : decode cc pc = .ok (.aastore, 1))
    (kk : ∀ (H1 : Heap) (locs1 : List Loc), va_P D vwCl (ws.set q0 (a, .inl (cQ, N, .inr (.inr (.inr (.inr g)))))) H1 → va_D A0 (ws.set q0 (a, .inl (cQ, N, .inr (.inr (.inr (.inr g)))))) → va_S A0 H0 H1 locs1 → W p l e R s m args below meth c H1 locs1 cells slots Q (F0 m (pc + 1) ls rest)) : W p l e R s m args below meth c H locs cells slots Q (F0 m pc ls (.ref v :: .int i :: .ref a :: rest)) := by
  subst hi hg
  have ej : (nI j).toNatClampNeg = j := nI_clamp (by omega)
  obtain ⟨comp, c1, k, h1, h2, h3, h4, h5⟩ := arrayOverA_spec hG.2
  have eQ : c1 = cQ := Option.some.inj (h5.symm.trans (hK.2 2 (cQ, .array .int) rfl).2)
  subst eQ
  have eI : comp = cI := Option.some.inj (h1.symm.trans (hK.2 0 (cI, .int) rfl).2)
  subst eI
  obtain ⟨-, kS, hkS, compS, hkindS⟩ := (hK.2 0 (comp, .int) rfl).1 0 (fun _ => .null)
  have hvm0 : (vp_cell comp x).vm = .none := by
    obtain ⟨n, f | f | f | f | f⟩ := x <;> rfl
  have hcl0 : (vp_cell comp x).cls = comp := by
    obtain ⟨n, f | f | f | f | f⟩ := x <;> rfl
  refine W.aast hx hb (hP q0 _ ha) (fun q h => by cases h) (fun h => by cases h) h3 h4 rfl hkS ⟨nI_pos (by omega), by show _ < (arrV _ _ _).slots.size; rw [arrV_size, ej]; exact hlt⟩ (hP qk _ hv) (fun q h => by rw [hvm0] at h; cases h) (by rw [hcl0]; exact hkS) (by rw [hcl0]; exact va_asg _ _) rfl rfl hdg fun H1 e z oq => ?_
  refine kk H1 _ (hP.set hD ha ?_ oq) (hD.set ha) (hS.put z oq (hD.2 q0 _ ha))
  show H1[a]? = some (vp_cell _ _)
  rw [e]
  rw [vp_cell_q, vp_cell_q, arrV_store, ej]
  congr 2
  funext q
  by_cases hq : q = j
  · subst hq
    simp [updV, va_up, va_rf]
  · simp [updV, va_up, hq]
/-- new int[n], new int[n][k], with segments behind -/
theorem n_iS (hx : p.tables.exec = Jvm.exec) (hb : c.code = cc) (ht : ∀ w ∈ G_, w.before args s = true) (hK : va_K D vwCl (TYQ cI cZ cQ) s) (hP : va_P D vwCl (wS X T) H) (hD : va_D A0 (wS X T)) (hS : va_S A0 H0 H locs) (hA : ∀ q, H0.size ≤ q → A0 q) {n : Int32} (N : Nat) (hn : n = nI N) (hN : N < 1000) (hc : cells + 1 ≤ R.cells) (hs : slots + N ≤ R.slots) (hdg : decode cc pc = .ok (.newarray .int, 2))
    (kk : ∀ (q : Nat) (H1 : Heap), va_P D vwCl (wS (X ++ [(q, .inl (cI, N, .inl (fun _ => 0)))]) T) H1 → va_D A0 (wS (X ++ [(q, .inl (cI, N, .inl (fun _ => 0)))]) T) → va_S A0 H0 H1 locs → W p l e R s m args below meth c H1 locs (cells + 1) (slots + N) Q (F0 m (pc + 2) ls (.ref q :: rest))) : W p l e R s m args below meth c H locs cells slots Q (F0 m pc ls (.int n :: rest)) :=
  n_int (cJ := cI) hx hb ht (tyI hK) hP hD hS hA N hn hN hc hs hdg (fun q H1 hP hD hS => kk q H1 (va_P.swap hP) (va_D.swap hD) hS)
theorem n_mS (hx : p.tables.exec = Jvm.exec) (hb : c.code = cc) (ht : ∀ w ∈ G_, w.before args s = true) (hG : gN s) (hown : s.vm.findClass RL = some m.cls) (hK : va_K D vwCl (TYQ cI cZ cQ) s) (hP : va_P D vwCl (wS X T) H) (hD : va_D A0 (wS X T)) (hS : va_S A0 H0 H locs) (hA : ∀ q, H0.size ≤ q → A0 q) {n k : Int32} (N K : Nat) (hn : n = nI N) (hk : k = nI K) (hN : N < 1000) (hK1 : K < 1000) (hc : cells + (1 + N) ≤ R.cells) (hs : slots + (N + N * K) ≤ R.slots) (hdg : decode cc pc = .ok (.multianewarray 124 2, 4))
    (kk : ∀ (q : Nat) (r : Nat → Nat) (H1 : Heap), va_P D vwCl (wS (X ++ [(q, .inl (cQ, N, .inr (.inr (.inr (.inr (rf N r))))))]) (T ++ [MR cI K N r (fun _ _ => 0)])) H1 → va_D A0 (wS (X ++ [(q, .inl (cQ, N, .inr (.inr (.inr (.inr (rf N r))))))]) (T ++ [MR cI K N r (fun _ _ => 0)])) → va_S A0 H0 H1 locs → W p l e R s m args below meth c H1 locs (cells + 1 + N) (slots + N + N * K) Q (F0 m (pc + 4) ls (.ref q :: rest))) : W p l e R s m args below meth c H locs cells slots Q (F0 m pc ls (.int k :: .int n :: rest)) := by
  subst hn hk
  have e0 : wS X T ++ va_pl [] (fun _ => .inl (cI, K, .inl (fun _ => 0))) = wS X T := by simp [va_pl]
  refine va_mna (X := wS X T) (L := []) (f := fun _ => .inl (cI, K, .inl (fun _ => 0))) (cy := cI) (z := (K, .inl (fun _ => 0))) (own := RL) (index := 124) (ty := .int) (N' := N) (K' := K) hx hb hown (ht _ qL_RL_124) hG.2 (ht _ qR_int) (hK.2 0 (cI, .int) rfl).2 hK (by rw [e0]; exact hP) (by rw [e0]; exact hD) hS hA (nI_pos (by omega)) (nI_pos (by omega)) (nI_clamp (by omega)) (nI_clamp (by omega)) (by omega) (by show K * 4 ≤ 536870912; omega) (by omega) rfl rfl hc hs (fun c => ?_) hdg (fun q r cA H1 _ _ hK1 hP hD hS => ?_)
  · show ({ cls := c, slots := Array.replicate K (.int 0), vm := .none } : Cell) = _
    rw [arrV_new]
    rfl
  · have eQ : cA = cQ := Option.some.inj ((hK1.2 3 (cA, .array .int) rfl).2.symm.trans (hK.2 2 (cQ, .array .int) rfl).2)
    subst eQ
    have e1 : va_pl ([] ++ (List.range N).map r) (vr_up (fun _ => .inl (cI, K, .inl (fun _ => 0))) ((List.range N).map r) (.inl (cI, (K, .inl (fun _ => 0))))) = MR cI K N r (fun _ _ => 0) := by
      unfold va_pl MR
      rw [List.nil_append, List.map_map]
      apply List.map_congr_left
      intro i hi
      show (r i, vr_up _ _ _ (r i)) = _
      rw [vr_up_in (List.mem_map_of_mem hi)]
    have e2 : ∀ x : Nat × va_E, (wS X T ++ [x]) ++ MR cI K N r (fun _ _ => 0) = X ++ (T.flatten) ++ [x] ++ MR cI K N r (fun _ _ => 0) := fun x => rfl
    have e3 : ∀ x : Nat × va_E, (wS (X ++ [x]) (T ++ [MR cI K N r (fun _ _ => 0)])).Perm ((wS X T ++ [x]) ++ MR cI K N r (fun _ _ => 0)) := fun x => by
      show ((X ++ [x]) ++ (T ++ [MR cI K N r (fun _ _ => 0)]).flatten).Perm _
      rw [List.flatten_append, List.flatten_cons, List.flatten_nil, List.append_nil, ← List.append_assoc]
      refine List.Perm.append_right _ ?_
      show ((X ++ [x]) ++ T.flatten).Perm ((X ++ T.flatten) ++ [x])
      rw [List.append_assoc, List.append_assoc]
      exact List.Perm.append_left X List.perm_append_comm
    rw [e1] at hP hD
    exact kk q r H1 (hP.perm (e3 _)) (hD.perm (e3 _)) hS
end
def q4 (a b c d : Nat → Int32) : Nat → Nat → Int32 := fun i j => if j = 0 then a i else if j = 1 then b i else if j = 2 then c i else if j = 3 then d i else 0
def q2 (a b : Nat → Int32) : Nat → Nat → Int32 := fun i j => if j = 0 then a i else if j = 1 then b i else 0
def q3 (a b c : Nat → Int32) : Nat → Nat → Int32 := fun i j => if j = 0 then a i else if j = 1 then b i else if j = 2 then c i else 0
theorem q4_u0 (a b c d : Nat → Int32) (i : Nat) (x : Int32) : upd2 (q4 a b c d) i 0 x = q4 (upd a i x) b c d := funext fun k => funext fun j => by
  unfold upd2; by_cases h : k = i
  · subst h; rw [if_pos rfl]; unfold upd q4; by_cases h0 : j = 0 <;> simp [h0]
  · rw [if_neg h]; unfold upd q4; by_cases h0 : j = 0 <;> simp [h0, h]
theorem q4_u1 (a b c d : Nat → Int32) (i : Nat) (x : Int32) : upd2 (q4 a b c d) i 1 x = q4 a (upd b i x) c d := funext fun k => funext fun j => by
  unfold upd2; by_cases h : k = i
  · subst h; rw [if_pos rfl]; unfold upd q4; by_cases h0 : j = 1 <;> simp [h0]
  · rw [if_neg h]; unfold upd q4; by_cases h0 : j = 1 <;> simp [h0, h]
theorem q4_u2 (a b c d : Nat → Int32) (i : Nat) (x : Int32) : upd2 (q4 a b c d) i 2 x = q4 a b (upd c i x) d := funext fun k => funext fun j => by
  unfold upd2; by_cases h : k = i
  · subst h; rw [if_pos rfl]; unfold upd q4; by_cases h0 : j = 2 <;> simp [h0]
  · rw [if_neg h]; unfold upd q4; by_cases h0 : j = 2 <;> simp [h0, h]
theorem q4_u3 (a b c d : Nat → Int32) (i : Nat) (x : Int32) : upd2 (q4 a b c d) i 3 x = q4 a b c (upd d i x) := funext fun k => funext fun j => by
  unfold upd2; by_cases h : k = i
  · subst h; rw [if_pos rfl]; unfold upd q4; by_cases h0 : j = 3 <;> simp [h0]
  · rw [if_neg h]; unfold upd q4; by_cases h0 : j = 3 <;> simp [h0, h]
theorem q2_u0 (a b : Nat → Int32) (i : Nat) (x : Int32) : upd2 (q2 a b) i 0 x = q2 (upd a i x) b := funext fun k => funext fun j => by
  unfold upd2; by_cases h : k = i
  · subst h; rw [if_pos rfl]; unfold upd q2; by_cases h0 : j = 0 <;> simp [h0]
  · rw [if_neg h]; unfold upd q2; by_cases h0 : j = 0 <;> simp [h0, h]
theorem q2_u1 (a b : Nat → Int32) (i : Nat) (x : Int32) : upd2 (q2 a b) i 1 x = q2 a (upd b i x) := funext fun k => funext fun j => by
  unfold upd2; by_cases h : k = i
  · subst h; rw [if_pos rfl]; unfold upd q2; by_cases h0 : j = 1 <;> simp [h0]
  · rw [if_neg h]; unfold upd q2; by_cases h0 : j = 1 <;> simp [h0, h]
theorem q3_u0 (a b c : Nat → Int32) (i : Nat) (x : Int32) : upd2 (q3 a b c) i 0 x = q3 (upd a i x) b c := funext fun k => funext fun j => by
  unfold upd2; by_cases h : k = i
  · subst h; rw [if_pos rfl]; unfold upd q3; by_cases h0 : j = 0 <;> simp [h0]
  · rw [if_neg h]; unfold upd q3; by_cases h0 : j = 0 <;> simp [h0, h]
theorem q3_u1 (a b c : Nat → Int32) (i : Nat) (x : Int32) : upd2 (q3 a b c) i 1 x = q3 a (upd b i x) c := funext fun k => funext fun j => by
  unfold upd2; by_cases h : k = i
  · subst h; rw [if_pos rfl]; unfold upd q3; by_cases h0 : j = 1 <;> simp [h0]
  · rw [if_neg h]; unfold upd q3; by_cases h0 : j = 1 <;> simp [h0, h]
theorem q3_u2 (a b c : Nat → Int32) (i : Nat) (x : Int32) : upd2 (q3 a b c) i 2 x = q3 a b (upd c i x) := funext fun k => funext fun j => by
  unfold upd2; by_cases h : k = i
  · subst h; rw [if_pos rfl]; unfold upd q3; by_cases h0 : j = 2 <;> simp [h0]
  · rw [if_neg h]; unfold upd q3; by_cases h0 : j = 2 <;> simp [h0, h]
