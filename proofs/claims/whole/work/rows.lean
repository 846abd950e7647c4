section
-- ===== PART A: goes FIRST, ahead of the names: the tables' words, and 'selects' of the private methods out of them =====
/-- a private method of a class that the tables say can be made, by its rows of tables_1 -/
def lw_okq (q : MethodName × Nat) : Prop := (q.1.cls ≠ "java/lang/invoke/MethodHandle" ∧ q.1.cls ≠ "java/lang/invoke/VarHandle") ∧ Cond.instantiable q.1.cls q.2 ∈ tables_1 ∧ Cond.privateMethod q.1 ∈ tables_1 ∧ Cond.instanceMethod q.1 ∈ tables_1
theorem lw_p0 : lw_okq (⟨"AlumWorks", "countIn", "(LAlumWorks$State;I)I"⟩, 4) := ⟨⟨by decide +kernel, by decide +kernel⟩, List.mem_of_getElem? (i := 15) (by decide +kernel), List.mem_of_getElem? (i := 168) (by decide +kernel), List.mem_of_getElem? (i := 169) (by decide +kernel)⟩
theorem lw_p1 : lw_okq (⟨"AlumWorks", "rainOf", "(I)I"⟩, 4) := ⟨⟨by decide +kernel, by decide +kernel⟩, List.mem_of_getElem? (i := 15) (by decide +kernel), List.mem_of_getElem? (i := 172) (by decide +kernel), List.mem_of_getElem? (i := 173) (by decide +kernel)⟩
theorem lw_p2 : lw_okq (⟨"java/lang/Throwable", "fillInStackTrace", "(I)Ljava/lang/Throwable;"⟩, 6) := ⟨⟨by decide +kernel, by decide +kernel⟩, List.mem_of_getElem? (i := 259) (by decide +kernel), List.mem_of_getElem? (i := 257) (by decide +kernel), List.mem_of_getElem? (i := 258) (by decide +kernel)⟩
theorem lw_p3 : lw_okq (⟨"AlumWorks", "crystalsOf", "(II)I"⟩, 4) := ⟨⟨by decide +kernel, by decide +kernel⟩, List.mem_of_getElem? (i := 15) (by decide +kernel), List.mem_of_getElem? (i := 436) (by decide +kernel), List.mem_of_getElem? (i := 437) (by decide +kernel)⟩
theorem lw_p4 : lw_okq (⟨"AlumWorks", "goOn", "(LAlumWorks$State;I)V"⟩, 4) := ⟨⟨by decide +kernel, by decide +kernel⟩, List.mem_of_getElem? (i := 15) (by decide +kernel), List.mem_of_getElem? (i := 488) (by decide +kernel), List.mem_of_getElem? (i := 489) (by decide +kernel)⟩
theorem lw_p5 : lw_okq (⟨"AlumWorks", "shipOf", "(I)I"⟩, 4) := ⟨⟨by decide +kernel, by decide +kernel⟩, List.mem_of_getElem? (i := 15) (by decide +kernel), List.mem_of_getElem? (i := 492) (by decide +kernel), List.mem_of_getElem? (i := 493) (by decide +kernel)⟩
theorem lw_p6 : lw_okq (⟨"AlumWorksModel", "fail", "(I)I"⟩, 10) := ⟨⟨by decide +kernel, by decide +kernel⟩, List.mem_of_getElem? (i := 571) (by decide +kernel), List.mem_of_getElem? (i := 619) (by decide +kernel), List.mem_of_getElem? (i := 620) (by decide +kernel)⟩
theorem lw_p7 : lw_okq (⟨"AlumWorksModel", "isClamp", "(I)Z"⟩, 10) := ⟨⟨by decide +kernel, by decide +kernel⟩, List.mem_of_getElem? (i := 571) (by decide +kernel), List.mem_of_getElem? (i := 640) (by decide +kernel), List.mem_of_getElem? (i := 641) (by decide +kernel)⟩
theorem lw_p8 : lw_okq (⟨"AlumWorksModel", "isPit", "(I)Z"⟩, 10) := ⟨⟨by decide +kernel, by decide +kernel⟩, List.mem_of_getElem? (i := 571) (by decide +kernel), List.mem_of_getElem? (i := 652) (by decide +kernel), List.mem_of_getElem? (i := 653) (by decide +kernel)⟩
theorem lw_p9 : lw_okq (⟨"AlumWorksModel", "isPan", "(I)Z"⟩, 10) := ⟨⟨by decide +kernel, by decide +kernel⟩, List.mem_of_getElem? (i := 571) (by decide +kernel), List.mem_of_getElem? (i := 664) (by decide +kernel), List.mem_of_getElem? (i := 665) (by decide +kernel)⟩
theorem lw_p10 : lw_okq (⟨"AlumWorksModel", "comes", "(II)I"⟩, 10) := ⟨⟨by decide +kernel, by decide +kernel⟩, List.mem_of_getElem? (i := 571) (by decide +kernel), List.mem_of_getElem? (i := 676) (by decide +kernel), List.mem_of_getElem? (i := 677) (by decide +kernel)⟩
theorem lw_p11 : lw_okq (⟨"AlumWorksModel", "panEgg", "(I)I"⟩, 10) := ⟨⟨by decide +kernel, by decide +kernel⟩, List.mem_of_getElem? (i := 571) (by decide +kernel), List.mem_of_getElem? (i := 680) (by decide +kernel), List.mem_of_getElem? (i := 681) (by decide +kernel)⟩
theorem lw_p12 : lw_okq (⟨"AlumWorksModel", "pitTold", "(II)I"⟩, 10) := ⟨⟨by decide +kernel, by decide +kernel⟩, List.mem_of_getElem? (i := 571) (by decide +kernel), List.mem_of_getElem? (i := 698) (by decide +kernel), List.mem_of_getElem? (i := 699) (by decide +kernel)⟩
theorem lw_p13 : lw_okq (⟨"AlumWorksModel", "panTold", "(II)I"⟩, 10) := ⟨⟨by decide +kernel, by decide +kernel⟩, List.mem_of_getElem? (i := 571) (by decide +kernel), List.mem_of_getElem? (i := 709) (by decide +kernel), List.mem_of_getElem? (i := 710) (by decide +kernel)⟩
theorem lw_p14 : lw_okq (⟨"AlumWorksModel", "counted", "(I)I"⟩, 10) := ⟨⟨by decide +kernel, by decide +kernel⟩, List.mem_of_getElem? (i := 571) (by decide +kernel), List.mem_of_getElem? (i := 717) (by decide +kernel), List.mem_of_getElem? (i := 718) (by decide +kernel)⟩
theorem lw_p15 : lw_okq (⟨"AlumWorksModel", "rain", "()I"⟩, 10) := ⟨⟨by decide +kernel, by decide +kernel⟩, List.mem_of_getElem? (i := 571) (by decide +kernel), List.mem_of_getElem? (i := 721) (by decide +kernel), List.mem_of_getElem? (i := 722) (by decide +kernel)⟩
def lw_privs_1 : List (MethodName × Nat) := [(⟨"AlumWorks", "countIn", "(LAlumWorks$State;I)I"⟩, 4), (⟨"AlumWorks", "rainOf", "(I)I"⟩, 4), (⟨"java/lang/Throwable", "fillInStackTrace", "(I)Ljava/lang/Throwable;"⟩, 6), (⟨"AlumWorks", "crystalsOf", "(II)I"⟩, 4), (⟨"AlumWorks", "goOn", "(LAlumWorks$State;I)V"⟩, 4), (⟨"AlumWorks", "shipOf", "(I)I"⟩, 4), (⟨"AlumWorksModel", "fail", "(I)I"⟩, 10), (⟨"AlumWorksModel", "isClamp", "(I)Z"⟩, 10), (⟨"AlumWorksModel", "isPit", "(I)Z"⟩, 10), (⟨"AlumWorksModel", "isPan", "(I)Z"⟩, 10), (⟨"AlumWorksModel", "comes", "(II)I"⟩, 10), (⟨"AlumWorksModel", "panEgg", "(I)I"⟩, 10), (⟨"AlumWorksModel", "pitTold", "(II)I"⟩, 10), (⟨"AlumWorksModel", "panTold", "(II)I"⟩, 10), (⟨"AlumWorksModel", "counted", "(I)I"⟩, 10), (⟨"AlumWorksModel", "rain", "()I"⟩, 10)]
theorem lw_r1 : ∀ q ∈ lw_privs_1, lw_okq q := List.forall_mem_cons.mpr ⟨lw_p0, List.forall_mem_cons.mpr ⟨lw_p1, List.forall_mem_cons.mpr ⟨lw_p2, List.forall_mem_cons.mpr ⟨lw_p3, List.forall_mem_cons.mpr ⟨lw_p4, List.forall_mem_cons.mpr ⟨lw_p5, List.forall_mem_cons.mpr ⟨lw_p6, List.forall_mem_cons.mpr ⟨lw_p7, List.forall_mem_cons.mpr ⟨lw_p8, List.forall_mem_cons.mpr ⟨lw_p9, List.forall_mem_cons.mpr ⟨lw_p10, List.forall_mem_cons.mpr ⟨lw_p11, List.forall_mem_cons.mpr ⟨lw_p12, List.forall_mem_cons.mpr ⟨lw_p13, List.forall_mem_cons.mpr ⟨lw_p14, List.forall_mem_cons.mpr ⟨lw_p15, fun _ h => absurd h List.not_mem_nil⟩⟩⟩⟩⟩⟩⟩⟩⟩⟩⟩⟩⟩⟩⟩⟩
theorem lw_p16 : lw_okq (⟨"AlumWorksModel", "daysOn", "(I)V"⟩, 10) := ⟨⟨by decide +kernel, by decide +kernel⟩, List.mem_of_getElem? (i := 571) (by decide +kernel), List.mem_of_getElem? (i := 729) (by decide +kernel), List.mem_of_getElem? (i := 730) (by decide +kernel)⟩
theorem lw_p17 : lw_okq (⟨"AlumWorksModel", "dayOn", "()V"⟩, 10) := ⟨⟨by decide +kernel, by decide +kernel⟩, List.mem_of_getElem? (i := 571) (by decide +kernel), List.mem_of_getElem? (i := 733) (by decide +kernel), List.mem_of_getElem? (i := 734) (by decide +kernel)⟩
theorem lw_p18 : lw_okq (⟨"AlumWorksModel", "burn", "(I)V"⟩, 10) := ⟨⟨by decide +kernel, by decide +kernel⟩, List.mem_of_getElem? (i := 571) (by decide +kernel), List.mem_of_getElem? (i := 737) (by decide +kernel), List.mem_of_getElem? (i := 738) (by decide +kernel)⟩
theorem lw_p19 : lw_okq (⟨"AlumWorksModel", "cook", "(I)V"⟩, 10) := ⟨⟨by decide +kernel, by decide +kernel⟩, List.mem_of_getElem? (i := 571) (by decide +kernel), List.mem_of_getElem? (i := 742) (by decide +kernel), List.mem_of_getElem? (i := 743) (by decide +kernel)⟩
theorem lw_p20 : lw_okq (⟨"AlumWorksModel", "kept", "()[[I"⟩, 10) := ⟨⟨by decide +kernel, by decide +kernel⟩, List.mem_of_getElem? (i := 571) (by decide +kernel), List.mem_of_getElem? (i := 750) (by decide +kernel), List.mem_of_getElem? (i := 751) (by decide +kernel)⟩
theorem lw_p21 : lw_okq (⟨"AlumWorksModel", "bringBack", "([[I)V"⟩, 10) := ⟨⟨by decide +kernel, by decide +kernel⟩, List.mem_of_getElem? (i := 571) (by decide +kernel), List.mem_of_getElem? (i := 762) (by decide +kernel), List.mem_of_getElem? (i := 763) (by decide +kernel)⟩
def lw_privs_2 : List (MethodName × Nat) := [(⟨"AlumWorksModel", "daysOn", "(I)V"⟩, 10), (⟨"AlumWorksModel", "dayOn", "()V"⟩, 10), (⟨"AlumWorksModel", "burn", "(I)V"⟩, 10), (⟨"AlumWorksModel", "cook", "(I)V"⟩, 10), (⟨"AlumWorksModel", "kept", "()[[I"⟩, 10), (⟨"AlumWorksModel", "bringBack", "([[I)V"⟩, 10)]
theorem lw_r2 : ∀ q ∈ lw_privs_2, lw_okq q := List.forall_mem_cons.mpr ⟨lw_p16, List.forall_mem_cons.mpr ⟨lw_p17, List.forall_mem_cons.mpr ⟨lw_p18, List.forall_mem_cons.mpr ⟨lw_p19, List.forall_mem_cons.mpr ⟨lw_p20, List.forall_mem_cons.mpr ⟨lw_p21, fun _ h => absurd h List.not_mem_nil⟩⟩⟩⟩⟩⟩
def lw_privs : List (MethodName × Nat) := lw_privs_1 ++ (lw_privs_2)
def lw_tbl : List Cond := k2_sels lw_privs ++ tables_1
theorem lw_privs_ok : ∀ q ∈ lw_privs, lw_okq q := by
  show ∀ q ∈ lw_privs_1 ++ (lw_privs_2), lw_okq q
  exact List.forall_mem_append.mpr ⟨lw_r1, lw_r2⟩
/-- the streams that the claim lets the run draw from -/
abbrev lw_cs : List Choice := [Jvm.Choice.named "NaN.bits"]
theorem lw_bits : nanBits ∈ lw_cs := by first | decide | exact List.mem_cons_self | simp [lw_cs, nanBits]
/-! ===== BEGIN words of one list among another's, by their places ===== -/
theorem goodIn_r {big : List Cond} (ws : List Cond) (ps : List Nat) (hp : ws = ps.filterMap (fun i => big[i]?)) (h : ws.all goodWord = true) : GoodIn big ws := by
  intro w hw
  have h1 := List.all_eq_true.mp h w hw
  rw [hp] at hw
  obtain ⟨i, -, hi⟩ := List.mem_filterMap.mp hw
  have hm : w ∈ big := by first | exact List.mem_of_getElem? hi | exact List.getElem?_mem hi
  exact ⟨hm, good_of_word h1⟩
theorem goodIn_app {big a b : List Cond} (ha : GoodIn big a) (hb : GoodIn big b) : GoodIn big (a ++ b) := fun w h => (List.mem_append.mp h).elim (ha w) (hb w)
theorem goodIn_ca {big a b : List Cond} {c : Cond} (ha : GoodIn big (c :: a)) (hb : GoodIn big b) : GoodIn big (c :: (a ++ b)) := fun w h => (List.mem_cons.mp h).elim (fun e => ha w (List.mem_cons.mpr (Or.inl e))) (fun h => (List.mem_append.mp h).elim (fun h => ha w (List.mem_cons.mpr (Or.inr h))) (hb w))
theorem goodIn_sub {big ws : List Cond} (hm : ∀ w ∈ ws, w ∈ big) (h : ws.all goodWord = true) : GoodIn big ws := fun w hw => ⟨hm w hw, good_of_word (List.all_eq_true.mp h w hw)⟩
/-! ===== END ===== -/

/-! ===== BEGIN exceptions that leave a method, and their catching by the caller (launches without stack traces) ===== -/
section VXA
/-! The laws vx_back, vx_callV, vx_callS, vx_callSW, vx_throw0, vx_throwS follow proofs of the library, with one case more: JvmDerived/Free/Laws.lean (Back.of_free), Shelf42/LK1.lean (callV, callS), Shelf/KitTraced.lean (throwNew0V, throwNewS). -/
/-- where a method has thrown q: the class by its name, the cell, what was written, the world -/
def vx_T (XC : String → State → State → Prop) (st : State) (q : Addr) (t : State) (mc ms : Nat) (free : Addr → Prop) : Prop :=
  ∃ (E : String) (ce : Cell) (L : List Loc), XC E st t ∧ t.heap[q]? = some ce ∧ ce.vm = .none ∧ st.vm.findClass E = some ce.cls ∧ st.WarmedH t.vm ∧ st.sameButNew ({ t with vm := st.vm } : State) L mc ms ∧ ∀ z ∈ L, free z.base
def vx_Q (Qc : Array Value → State → Outcome → State → Prop) (XC : String → State → State → Prop) (mc ms : Nat) (free : Addr → Prop) : Array Value → State → Outcome → State → Prop := fun a st o t =>
  (Qc a st o t ∧ ∃ L, FrameEnd st o t L mc ms ∧ ∀ q ∈ L, free q.base) ∨ ∃ q, o = .threw q ∧ vx_T XC st q t mc ms free
/-- a callee that returns or throws -/
def vx_Met (l : Launch) (y : MethodName) (ws : List Cond) (rm : Room) (Pc : Array Value → State → Prop) (Qc : Array Value → State → Outcome → State → Prop) (XC : String → State → State → Prop) (mc ms : Nat) (free : Addr → Prop) : Prop :=
  MetFree l y (headSpec ws rm) Pc (fun _ _ _ _ _ => True) (vx_Q Qc XC mc ms free)
def vx_Post (XC : String → State → State → Prop) (mc ms : Nat) (free : Addr → Prop) : Pt → Array Value → Addr → Pt → Prop := fun A a q B =>
  ∃ (g : JFrame) (mk : MethodId) (t : State) (L : List Loc) (E : String) (ce : Cell), B.U.heap = t.heap ∧ B.U.vm = t.vm ∧ XC E (A.U.calling g mk a) t ∧ t.heap[q]? = some ce ∧ ce.vm = .none ∧ A.U.vm.findClass E = some ce.cls ∧ B.locs = A.locs ++ L ∧ (∀ z ∈ L, free z.base) ∧ B.cells = A.cells + mc ∧ B.slots = A.slots + ms
def vx_Back (l : Launch) (R : Room) (p : Program) (e : Env) (below : List Frame) (s : State) (sargs : Array Value) (y : MethodName) (len W9 : Nat)
    (Pre : Pt → Array Value → Prop) (Post : Pt → Array Value → Option Value → Pt → Prop) (PostX : Pt → Array Value → Addr → Pt → Prop) : Prop :=
  ∀ (m : MethodId) (meth : Method) (c : Code) (A : Pt) (g : JFrame) (ig : Instr) (mk : MethodId) (a : Array Value),
    Stand p l e R s m sargs below meth c A.U A.locs A.cells A.slots → g.method = m → g.locals.size = c.maxLocals → decode c.code g.pc = .ok (ig, len) →
    2 * g.monitorRoom + (g.stack.map fun v => v.category).sum ≤ W9 → A.U.methodNamed? y = some mk → Pre A a →
    (∃ (v : Option Value) (B : Pt), Stand p l e R s m sargs below meth c B.U B.locs B.cells B.slots ∧ Post A a v B ∧
      Steps p.tables e below (doInvoke e (A.U.setTop g) [] mk a).1 (B.U.setTop { g with pc := g.pc + len, stack := v.toList ++ g.stack })) ∨
    (∃ (q : Addr) (B : Pt), Stand p l e R s m sargs below meth c B.U B.locs B.cells B.slots ∧ PostX A a q B ∧
      Steps p.tables e below (doInvoke e (A.U.setTop g) [] mk a).1 ((B.U.setTop g).pushFrame (.throwing q)))
section Payer
variable {l : Launch} {R : Room} {p : Program} {e : Env} {below : List Frame} {s : State} {sargs : Array Value} {y : MethodName} {len W9 : Nat}
theorem vx_back {ws : List Cond} {rm : Room} {Pc : Array Value → State → Prop} {Qc : Array Value → State → Outcome → State → Prop} {XC : String → State → State → Prop} {mc ms : Nat} {free : Addr → Prop} {bytes : ByteArray} {maxL : Nat} {ret : Option FieldType}
    (hM : vx_Met l y ws rm Pc Qc XC mc ms free) (hblind : FrameBlind Pc) (hrc : rm.cells = mc) (hrs : rm.slots = ms)
    (hframes : rm.frames + 1 ≤ R.frames) (hlocals : W9 + (maxL + 11) + rm.locals ≤ R.locals)
    (hws : ∀ w ∈ ws, ∀ a' U, s.WarmedH U.vm → w.before a' U = true) (hcode : Cond.code y bytes maxL ret ∈ ws) (hinit : ∀ a' U, s.WarmedH U.vm → (Cond.initialized y.cls).before a' U = true) :
    vx_Back l R p e below s sargs y len W9 (PreOf R mc ms Pc) (PostOf Qc mc ms free) (vx_Post XC mc ms free) := by
  intro m meth c A g ig mk a X hg hsize hdg hW hn hp
  have h1 : (headSpec ws rm).pre.before a A.U = true := atoms_intro fun w hw => hws w hw _ _ X.warmed
  have h2 : (Cond.code y bytes maxL ret).before a A.U = true := hws _ hcode _ _ X.warmed
  have h3 : (Cond.initialized y.cls).before a A.U = true := hinit _ _ X.warmed
  have h4 : A.cells + (headSpec ws rm).room.cells ≤ R.cells := by rw [show (headSpec ws rm).room.cells = mc from hrc]; exact hp.1
  have h5 : A.slots + (headSpec ws rm).room.slots ≤ R.slots := by rw [show (headSpec ws rm).room.slots = ms from hrs]; exact hp.2.1
  have hPc : Pc a (A.U.calling g mk a) := hblind _ _ _ _ hp.2.2
  obtain ⟨U, Ls, c0, s0⟩ := A
  dsimp only [Pt.U, Pt.locs, Pt.cells, Pt.slots] at h1 h2 h3 h4 h5 X hn hPc ⊢
  obtain ⟨methY, cY, hmY, hcY, -, hlY, -, -, -, -⟩ := Cond.code_spec hn h2
  obtain ⟨kY, hkY, -⟩ := className_of_methodNamed hn
  have hinitY : kY.init = .initialized := Cond.initialized_spec (findClass_of_methodNamed hn) hkY h3
  have h : At U g.method c below := by rw [hg]; exact X.here
  have hlocals9 : W9 + (maxL + 11) + (headSpec ws rm).room.locals ≤ R.locals := hlocals
  have happ : (headSpec ws rm).appliesLoose y e.platform (U.calling g mk a) = true :=
    Spec.appliesLoose_calling (g := g) h hdg hn hkY hinitY
      (X.room_calling (g := g) (R' := (headSpec ws rm).room) hsize hmY hcY hframes (by rw [hlY]; omega) h4 h5) h1
  obtain ⟨mid, hmid⟩ := h.above
  have hfr : (U.setTop g).frames = (.java g :: mid) ++ below := by rw [State.frames_setTop' g h.top, hmid]; rfl
  obtain ⟨o, s₂, hsteps, -, hend, hq⟩ := Steps.callFree hM p X.admits X.cas X.clock (acts := []) hfr happ hPc trivial
  have hq' : vx_Q Qc XC mc ms free a (U.calling g mk a) o s₂ := hq
  rw [State.frames_setTop' g h.top] at hend
  obtain ⟨g₀, hg0⟩ := Option.isSome_iff_exists.mp h.top
  obtain ⟨r, hr⟩ := State.topJava?_eq_some.mp hg0
  have hr' : (({ U with heap := s₂.heap, slotsUsed := s₂.slotsUsed } : State).setVm s₂.vm).frames = .java g₀ :: r := hr
  rcases hq' with ⟨hqc, L, hfe, hL⟩ | ⟨q, rfl, E, ce, L, hx, hce, hcv, hcl, hW₂, hsm, hL⟩
  · obtain ⟨⟨v, rfl⟩, hW₂, e2, q2, q3, q4, q5, q6⟩ := id hfe
    have e3 : s₂ = ({ (U.calling g mk a).setFrames s₂.frames with heap := s₂.heap, slotsUsed := s₂.slotsUsed } : State).setVm s₂.vm := by
      have : s₂ = ({ s₂ with vm := (U.calling g mk a).vm } : State).setVm s₂.vm := rfl
      rw [e2] at this
      exact this
    obtain ⟨c₂, i₂, len₂, hc₂, hd₂, hf₂⟩ := hend
    have hW' : U.WarmedH s₂.vm := hW₂
    have hcc : c₂ = c := by
      have h1 : s₂.code? g.method = U.code? g.method := by
        rw [State.code?_eq, State.code?_eq, hW'.alike.method?]
      exact Option.some.inj (hc₂.symm.trans (h1.trans h.code))
    subst hcc
    have hlen : len₂ = len := by rw [hdg] at hd₂; cases hd₂; rfl
    subst hlen
    have hs₂ : s₂ = (({ U with heap := s₂.heap, slotsUsed := s₂.slotsUsed } : State).setVm s₂.vm).setTop { g with pc := g.pc + len₂, stack := v.toList ++ g.stack } := by
      refine e3.trans ?_
      rw [hf₂, State.calling_eq h.top, State.setFrames_setFrames, State.setTop_of_frames _ hr', hr]
      rfl
    have hsame : U.sameButNew ({ U with heap := s₂.heap, slotsUsed := s₂.slotsUsed } : State) L mc ms := by
      refine ⟨?_, q2, q3, q4, q5, q6⟩
      obtain ⟨t, ht, -⟩ := State.frames_cons hr
      show ({ U with heap := s₂.heap, slotsUsed := s₂.slotsUsed } : State) = { U.setFrames U.frames with heap := s₂.heap, slotsUsed := s₂.slotsUsed }
      rw [State.setFrames_self ht]
    subst hg
    refine Or.inl ⟨v, ⟨(({ U with heap := s₂.heap, slotsUsed := s₂.slotsUsed } : State).setVm s₂.vm), Ls ++ L, c0 + mc, s0 + ms⟩,
      ⟨X.admits, X.cas, X.clock, X.frames, X.room, X.hears, X.method, X.code, (X.here.setHeapUsed s₂.heap s₂.slotsUsed).setVm hW'.alike, X.tail, State.WarmedH.trans X.warmed hW', X.limits, X.bytes, X.same.trans (hsame.setVm s.vm)⟩,
      ⟨g, mk, s₂, L, rfl, rfl, hqc, rfl, hL, rfl, rfl⟩, ?_⟩
    show Steps p.tables e below _ ((({ U with heap := s₂.heap, slotsUsed := s₂.slotsUsed } : State).setVm s₂.vm).setTop { g with pc := g.pc + len₂, stack := v.toList ++ g.stack })
    rw [← hs₂]
    exact hsteps
  · obtain ⟨e2, q2, q3, q4, q5, q6⟩ := id hsm
    have e3 : s₂ = ({ (U.calling g mk a).setFrames s₂.frames with heap := s₂.heap, slotsUsed := s₂.slotsUsed } : State).setVm s₂.vm := by
      have : s₂ = ({ s₂ with vm := (U.calling g mk a).vm } : State).setVm s₂.vm := rfl
      rw [e2] at this
      exact this
    have hf₂ : s₂.frames = .throwing q :: .java g :: U.frames.tail := hend
    have hW' : U.WarmedH s₂.vm := hW₂
    have hs₂ : s₂ = ((({ U with heap := s₂.heap, slotsUsed := s₂.slotsUsed } : State).setVm s₂.vm).setTop g).pushFrame (.throwing q) := by
      refine e3.trans ?_
      rw [hf₂, State.calling_eq h.top, State.setFrames_setFrames, State.pushFrame, State.frames_setTop _ hr', State.setTop_of_frames _ hr', State.setFrames_setFrames, hr]
      rfl
    have hsame : U.sameButNew ({ U with heap := s₂.heap, slotsUsed := s₂.slotsUsed } : State) L mc ms := by
      refine ⟨?_, q2, q3, q4, q5, q6⟩
      obtain ⟨t, ht, -⟩ := State.frames_cons hr
      show ({ U with heap := s₂.heap, slotsUsed := s₂.slotsUsed } : State) = { U.setFrames U.frames with heap := s₂.heap, slotsUsed := s₂.slotsUsed }
      rw [State.setFrames_self ht]
    subst hg
    refine Or.inr ⟨q, ⟨(({ U with heap := s₂.heap, slotsUsed := s₂.slotsUsed } : State).setVm s₂.vm), Ls ++ L, c0 + mc, s0 + ms⟩,
      ⟨X.admits, X.cas, X.clock, X.frames, X.room, X.hears, X.method, X.code, (X.here.setHeapUsed s₂.heap s₂.slotsUsed).setVm hW'.alike, X.tail, State.WarmedH.trans X.warmed hW', X.limits, X.bytes, X.same.trans (hsame.setVm s.vm)⟩,
      ⟨g, mk, s₂, L, E, ce, rfl, rfl, hx, hce, hcv, hcl, rfl, hL, rfl, rfl⟩, ?_⟩
    show Steps p.tables e below _ (((({ U with heap := s₂.heap, slotsUsed := s₂.slotsUsed } : State).setVm s₂.vm).setTop g).pushFrame (.throwing q))
    rw [← hs₂]
    exact hsteps
end Payer
section Calls
variable {p : Program} {l : Launch} {e : Env} {R : Room} {s : State} {m : MethodId} {args : Array Value} {below : List Frame} {meth : Method} {c : Code} {T : State} {locs : List Loc} {cells slots : Nat}
theorem vx_callV (X : Stand p l e R s m args below meth c T locs cells slots) (hexec : p.tables.exec = Jvm.exec) {own C : String} {index : Nat} {y : MethodName} {bytes : ByteArray} {maxL : Nat} {ret : Option FieldType}
    (hown : s.vm.findClass own = some m.cls) (hlink : (Cond.methodLink own index y).before args s = true) (hinst : (Cond.instanceMethod y).before args s = true) (hsel : (Cond.selects C y y).before args s = true)
    (hcode : (Cond.code y bytes maxL ret).before args s = true) (hy : y.cls ≠ "java/lang/invoke/MethodHandle" ∧ y.cls ≠ "java/lang/invoke/VarHandle")
    {W9 : Nat} {Pre : Pt → Array Value → Prop} {Post : Pt → Array Value → Option Value → Pt → Prop} {PostX : Pt → Array Value → Addr → Pt → Prop} (hK : vx_Back l R p e below s args y 3 W9 Pre Post PostX)
    {b : Addr} {cellB : Cell} (hcell : T.heap[b]? = some cellB) (hobj : cellB.vm.isStatics = false) (hcls : s.vm.findClass C = some cellB.cls)
    {g : JFrame} (hg : g.method = m) (hsize : g.locals.size = c.maxLocals) {argsL rest : List Value} (hlen : ∀ sig, parseMethodDescriptor y.desc = some sig → argsL.length = sig.parameters.length)
    (hstack : g.stack = argsL.reverse ++ .ref b :: rest) (hW : 2 * g.monitorRoom + (rest.map fun v => v.category).sum ≤ W9) (hdg : decode c.code g.pc = .ok (.invokevirtual index, 3))
    (hpre : ∀ vm₁, s.WarmedH vm₁ → Pre ⟨T.setVm vm₁, locs, cells, slots⟩ (Value.ref b :: argsL).toArray) :
    (∃ (v : Option Value) (vm₁ : Vm) (B : Pt), s.WarmedH vm₁ ∧ Stand p l e R s m args below meth c B.U B.locs B.cells B.slots ∧ Post ⟨T.setVm vm₁, locs, cells, slots⟩ (Value.ref b :: argsL).toArray v B ∧
      ∀ target, Steps p.tables e below (B.U.setTop { g with pc := g.pc + 3, stack := v.toList ++ rest }) target → Steps p.tables e below (T.setTop g) target) ∨
    (∃ (q : Addr) (vm₁ : Vm) (B : Pt), s.WarmedH vm₁ ∧ Stand p l e R s m args below meth c B.U B.locs B.cells B.slots ∧ PostX ⟨T.setVm vm₁, locs, cells, slots⟩ (Value.ref b :: argsL).toArray q B ∧
      Steps p.tables e below (T.setTop g) ((B.U.setTop { g with stack := rest }).pushFrame (.throwing q))) := by
  obtain ⟨mk, methM, hnamed, hmethM, hstM, habM⟩ := Cond.instanceMethod_spec hinst
  obtain ⟨methM', cM, hmethM', -, -, -, -, -, -, hsigM⟩ := Cond.code_spec hnamed hcode
  cases hmethM.symm.trans hmethM'
  obtain ⟨c2, r2, m2, q1, q2, q3, q4, kP, hkP, hkPi⟩ := Cond.selects_spec hsel
  cases hcls.symm.trans q1
  cases (State.methodFound?_of_named hnamed hy).symm.trans q2
  cases hnamed.symm.trans q3
  have hselP : selectMethod e.platform s.vm cellB.cls mk = .method mk := by rw [Launch.admits_selectMethod X.admits]; exact q4
  obtain ⟨vm₁, X₁, hstep₁⟩ := X.invokevirtual hexec hown hlink hnamed hmethM hstM hkP hkPi hy (a := b) (cell := cellB) hcell
    (fun z h => by rw [h] at hobj; cases hobj) hselP hmethM habM hkP hkPi (g := g) hg (argsL := argsL) (rest := rest) (hlen _ hsigM) hstack hdg
  rcases hK m meth c ⟨T.setVm vm₁, locs, cells, slots⟩ { g with stack := rest } (.invokevirtual index) mk (Value.ref b :: argsL).toArray X₁ hg hsize hdg hW (X₁.named hnamed) (hpre vm₁ X₁.warmed) with ⟨v, B, X', hpost, hsteps⟩ | ⟨q, B, X', hpost, hsteps⟩
  · exact Or.inl ⟨v, vm₁, B, X₁.warmed, X', hpost, fun target h => hstep₁ _ fun acts => by rw [doInvoke_state]; exact hsteps.trans h⟩
  · exact Or.inr ⟨q, vm₁, B, X₁.warmed, X', hpost, hstep₁ _ fun acts => by rw [doInvoke_state]; exact hsteps⟩
theorem vx_callS (X : Stand p l e R s m args below meth c T locs cells slots) (hexec : p.tables.exec = Jvm.exec) {own : String} {index : Nat} {y : MethodName} {bytes : ByteArray} {maxL : Nat} {ret : Option FieldType}
    (hown : s.vm.findClass own = some m.cls) (hlink : (Cond.methodLink own index y).before args s = true) (hstat : (Cond.static y).before args s = true) (hinit : (Cond.initialized y.cls).before args s = true)
    (hcode : (Cond.code y bytes maxL ret).before args s = true) (hy : y.cls ≠ "java/lang/invoke/MethodHandle" ∧ y.cls ≠ "java/lang/invoke/VarHandle")
    {W9 : Nat} {Pre : Pt → Array Value → Prop} {Post : Pt → Array Value → Option Value → Pt → Prop} {PostX : Pt → Array Value → Addr → Pt → Prop} (hK : vx_Back l R p e below s args y 3 W9 Pre Post PostX)
    {g : JFrame} (hg : g.method = m) (hsize : g.locals.size = c.maxLocals) {argsL rest : List Value} (hlen : ∀ sig, parseMethodDescriptor y.desc = some sig → argsL.length = sig.parameters.length)
    (hstack : g.stack = argsL.reverse ++ rest) (hW : 2 * g.monitorRoom + (rest.map fun v => v.category).sum ≤ W9) (hdg : decode c.code g.pc = .ok (.invokestatic index, 3))
    (hpre : ∀ vm₁, s.WarmedH vm₁ → Pre ⟨T.setVm vm₁, locs, cells, slots⟩ argsL.toArray) :
    (∃ (v : Option Value) (vm₁ : Vm) (B : Pt), s.WarmedH vm₁ ∧ Stand p l e R s m args below meth c B.U B.locs B.cells B.slots ∧ Post ⟨T.setVm vm₁, locs, cells, slots⟩ argsL.toArray v B ∧
      ∀ target, Steps p.tables e below (B.U.setTop { g with pc := g.pc + 3, stack := v.toList ++ rest }) target → Steps p.tables e below (T.setTop g) target) ∨
    (∃ (q : Addr) (vm₁ : Vm) (B : Pt), s.WarmedH vm₁ ∧ Stand p l e R s m args below meth c B.U B.locs B.cells B.slots ∧ PostX ⟨T.setVm vm₁, locs, cells, slots⟩ argsL.toArray q B ∧
      Steps p.tables e below (T.setTop g) ((B.U.setTop { g with stack := rest }).pushFrame (.throwing q))) := by
  obtain ⟨mk, hnamed⟩ := Cond.code_named hcode
  obtain ⟨methM, cM, hmethM, -, -, -, -, -, -, hsigM⟩ := Cond.code_spec hnamed hcode
  have hstatic : methM.isStatic = true := Cond.static_spec hnamed hmethM hstat
  obtain ⟨kP, hkP, -⟩ := className_of_methodNamed hnamed
  have hinitP : kP.init = .initialized := Cond.initialized_spec (findClass_of_methodNamed hnamed) hkP hinit
  obtain ⟨vm₁, X₁, hstep₁⟩ := X.invokestatic hexec hown hlink hnamed hmethM hstatic hkP hinitP hy (g := g) hg (argsL := argsL) (rest := rest) (hlen _ hsigM) hstack hdg
  rcases hK m meth c ⟨T.setVm vm₁, locs, cells, slots⟩ { g with stack := rest } (.invokestatic index) mk argsL.toArray X₁ hg hsize hdg hW (X₁.named hnamed) (hpre vm₁ X₁.warmed) with ⟨v, B, X', hpost, hsteps⟩ | ⟨q, B, X', hpost, hsteps⟩
  · exact Or.inl ⟨v, vm₁, B, X₁.warmed, X', hpost, fun target h => hstep₁ _ fun acts => by rw [doInvoke_state]; exact hsteps.trans h⟩
  · exact Or.inr ⟨q, vm₁, B, X₁.warmed, X', hpost, hstep₁ _ fun acts => by rw [doInvoke_state]; exact hsteps⟩
end Calls
theorem vx_cls {s : State} {T : State} {vm₁ : Vm} {E : String} {k : ClassId} (hW : s.WarmedH vm₁) (h : (T.setVm vm₁).vm.findClass E = some k) : s.vm.findClass E = some k := by
  have h1 : vm₁.findClass E = some k := h
  rw [hW.alike.findClass] at h1
  exact h1
/-- the method's frame g, with q thrown over it -/
def vx_W (p : Program) (l : Launch) (e : Env) (R : Room) (s : State) (m : MethodId) (args : Array Value) (below : List Frame) (meth : Method) (c : Code) (H : Heap) (locs : List Loc) (cells slots : Nat) (Q : State → Prop) (g : JFrame) (q : Addr) : Prop :=
  ∀ T : State, T.heap = H → Stand p l e R s m args below meth c T locs cells slots → ∃ t, Steps p.tables e below ((T.setTop g).pushFrame (.throwing q)) t ∧ Q t
def vx_Run (p : Program) (l : Launch) (e : Env) (R : Room) (s : State) (m : MethodId) (args : Array Value) (below : List Frame) (meth : Method) (c : Code) (H : Heap) (locs : List Loc) (cells slots mc ms : Nat) (g : JFrame) (rest : List Value) (Qa : State → Outcome → State → Prop) (XC : String → State → State → Prop) (free : Addr → Prop) : Prop :=
  ∀ T : State, T.heap = H → Stand p l e R s m args below meth c T locs cells slots →
    (∃ (v : Option Value) (st₀ t T' : State) (L : List Loc), st₀.heap = H ∧ Stand p l e R s m args below meth c T' (locs ++ L) (cells + mc) (slots + ms) ∧ (∀ q ∈ L, free q.base) ∧ T'.heap = t.heap ∧ T'.vm = t.vm ∧ Qa st₀ (.returned v) t ∧
      Goes p e below T g T' { g with pc := g.pc + 3, stack := v.toList ++ rest }) ∨
    (∃ (q : Addr) (st₀ t T' : State) (L : List Loc) (E : String) (ce : Cell), st₀.heap = H ∧ Stand p l e R s m args below meth c T' (locs ++ L) (cells + mc) (slots + ms) ∧ (∀ z ∈ L, free z.base) ∧ T'.heap = t.heap ∧ T'.vm = t.vm ∧ XC E st₀ t ∧ t.heap[q]? = some ce ∧ ce.vm = .none ∧ s.vm.findClass E = some ce.cls ∧
      Steps p.tables e below (T.setTop g) ((T'.setTop { g with stack := rest }).pushFrame (.throwing q)))
def vx_X {S : Type} (px : S → Prop) (B : String → S → State → Prop) (A : Nat → Prop) : String → State → State → Prop := fun E st t => ∃ u : S, px u ∧ B E u t ∧ va_F A st t
section Runs
variable {p : Program} {l : Launch} {e : Env} {R : Room} {s : State} {m : MethodId} {args : Array Value} {below : List Frame} {meth : Method} {c : Code} {H : Heap} {locs : List Loc} {cells slots : Nat}
variable {y : MethodName} {bytes cc : ByteArray} {maxL nL mc ms n index : Nat} {ret : Option FieldType} {ws : List Cond} {rm : Room} {Pc : Array Value → State → Prop} {Qc : Array Value → State → Outcome → State → Prop} {XC : String → State → State → Prop} {free : Addr → Prop} {Ts : List Cond} {own C : String} {b : Addr} {As rest : List Value} {g : JFrame}
theorem vx_callBack (cb : CallB R s args own index y bytes maxL ret ws rm mc ms n) (hM : vx_Met l y ws rm Pc Qc XC mc ms free) (hbl : FrameBlind Pc) : vx_Back l R p e below s args y 3 8 (PreOf R mc ms Pc) (PostOf Qc mc ms free) (vx_Post XC mc ms free) := by
  obtain ⟨hrc, hrs, hfr, hlo, hws, hcw, -, hini, -⟩ := cb
  exact vx_back (bytes := bytes) (maxL := maxL) (ret := ret) hM hbl hrc hrs hfr hlo hws hcw (fun a' U hW => word_at hW (Or.inl (by first | rfl | simp [Cond.onTables, Cond.keeps, Cond.steady])) hini)
theorem vx_runV (S : CallFix p m c cc nL s args Ts own) (hM : vx_Met l y ws rm Pc Qc XC mc ms free) (cw : CallW R s args own C index y bytes maxL ret ws rm mc ms n) (hp : PreV s H C b Pc As)
    (hg : g.method = m) (hn : As.length = n) (hsize : g.locals.size = nL) (hstack : g.stack = As.reverse ++ .ref b :: rest) (hW : 2 * g.monitorRoom + (rest.map fun v => v.category).sum ≤ 8) (hdg : decode cc g.pc = .ok (.invokevirtual index, 3)) (hf : cells + mc ≤ R.cells ∧ slots + ms ≤ R.slots) :
    vx_Run p l e R s m args below meth c H locs cells slots mc ms g rest (Qc (Value.ref b :: As).toArray) XC free := by
  have hK : vx_Back l R p e below s args y 3 8 (PreOf R mc ms Pc) (PostOf Qc mc ms free) (vx_Post XC mc ms free) := vx_callBack cw.1 hM hp.1
  obtain ⟨⟨-, -, -, -, -, -, hcode, -, hy, hlen, hl⟩, hin, hse⟩ := cw
  obtain ⟨hx, hb, hml, ho, -⟩ := S
  obtain ⟨-, ⟨cellB, hcB, hoB, hclB⟩, hPc⟩ := hp
  intro T hT X
  rcases vx_callV X hx (C := C) (bytes := bytes) (maxL := maxL) (ret := ret) ho hl hin hse hcode hy hK (by rw [hT]; exact hcB) hoB hclB hg (hsize.trans hml.symm) (argsL := As) (rest := rest) (fun sig h => hn.trans (hlen sig h)) hstack hW (by rw [hb]; exact hdg)
    (fun vm₁ hW₁ => ⟨hf.1, hf.2, hPc (T.setVm vm₁) hT hW₁⟩) with ⟨v, vm₁, ⟨U', l2, c2, s2⟩, hW₁, X', ⟨g', mk, t, L, e1, e2, hq, h1, hL, h2, h3⟩, st⟩ | ⟨q, vm₁, ⟨U', l2, c2, s2⟩, hW₁, X', ⟨g', mk, t, L, E, ce, e1, e2, hq, hce, hcv, hcl, h1, hL, h2, h3⟩, st⟩
  · dsimp only [Pt.U, Pt.locs, Pt.cells, Pt.slots] at X' e1 e2 h1 h2 h3 st
    subst h1; subst h2; subst h3
    exact Or.inl ⟨v, (T.setVm vm₁).calling g' mk (Value.ref b :: As).toArray, t, U', L, hT, X', hL, e1, e2, hq, st⟩
  · dsimp only [Pt.U, Pt.locs, Pt.cells, Pt.slots] at X' e1 e2 h1 h2 h3 st hcl
    subst h1; subst h2; subst h3
    exact Or.inr ⟨q, (T.setVm vm₁).calling g' mk (Value.ref b :: As).toArray, t, U', L, E, ce, hT, X', hL, e1, e2, hq, hce, hcv, vx_cls hW₁ hcl, st⟩
theorem vx_runS (S : CallFix p m c cc nL s args Ts own) (hM : vx_Met l y ws rm Pc Qc XC mc ms free) (cw : CallB R s args own index y bytes maxL ret ws rm mc ms n ∧ (Cond.static y).before args s = true) (hp : PreS s H Pc As)
    (hg : g.method = m) (hn : As.length = n) (hsize : g.locals.size = nL) (hstack : g.stack = As.reverse ++ rest) (hW : 2 * g.monitorRoom + (rest.map fun v => v.category).sum ≤ 8) (hdg : decode cc g.pc = .ok (.invokestatic index, 3)) (hf : cells + mc ≤ R.cells ∧ slots + ms ≤ R.slots) :
    vx_Run p l e R s m args below meth c H locs cells slots mc ms g rest (Qc As.toArray) XC free := by
  have hK : vx_Back l R p e below s args y 3 8 (PreOf R mc ms Pc) (PostOf Qc mc ms free) (vx_Post XC mc ms free) := vx_callBack cw.1 hM hp.1
  obtain ⟨⟨-, -, -, -, -, -, hcode, hini, hy, hlen, hl⟩, hstt⟩ := cw
  obtain ⟨hx, hb, hml, ho, -⟩ := S
  intro T hT X
  rcases vx_callS X hx (bytes := bytes) (maxL := maxL) (ret := ret) ho hl hstt hini hcode hy hK hg (hsize.trans hml.symm) (argsL := As) (rest := rest) (fun sig h => hn.trans (hlen sig h)) hstack hW (by rw [hb]; exact hdg)
    (fun vm₁ hW₁ => ⟨hf.1, hf.2, hp.2 (T.setVm vm₁) hT hW₁⟩) with ⟨v, vm₁, ⟨U', l2, c2, s2⟩, hW₁, X', ⟨g', mk, t, L, e1, e2, hq, h1, hL, h2, h3⟩, st⟩ | ⟨q, vm₁, ⟨U', l2, c2, s2⟩, hW₁, X', ⟨g', mk, t, L, E, ce, e1, e2, hq, hce, hcv, hcl, h1, hL, h2, h3⟩, st⟩
  · dsimp only [Pt.U, Pt.locs, Pt.cells, Pt.slots] at X' e1 e2 h1 h2 h3 st
    subst h1; subst h2; subst h3
    exact Or.inl ⟨v, (T.setVm vm₁).calling g' mk As.toArray, t, U', L, hT, X', hL, e1, e2, hq, st⟩
  · dsimp only [Pt.U, Pt.locs, Pt.cells, Pt.slots] at X' e1 e2 h1 h2 h3 st hcl
    subst h1; subst h2; subst h3
    exact Or.inr ⟨q, (T.setVm vm₁).calling g' mk As.toArray, t, U', L, E, ce, hT, X', hL, e1, e2, hq, hce, hcv, vx_cls hW₁ hcl, st⟩
end Runs
section Rows
variable {p : Program} {l : Launch} {e : Env} {R : Room} {s : State} {m : MethodId} {args : Array Value} {below : List Frame} {meth : Method} {c : Code} {H : Heap} {locs : List Loc} {cells slots : Nat} {Q : State → Prop}
variable {mc ms : Nat} {free : Addr → Prop} {A0 A1 : Nat → Prop} {H0 : Heap} {a : Array Value} {pc : Nat} {ls : Array Slot} {st0 rest : List Value}
theorem vx_keep {st₀ t T' : State} {L : List Loc} (h0 : st₀.heap = H) (e1 : T'.heap = t.heap) (hS : va_S A0 H0 H locs) (hA : ∀ q, q < H.size → A1 q → A0 q) (hf : ∀ q, free q → A0 q) (hL : ∀ q ∈ L, free q.base) (hF : va_F A1 st₀ t) :
    H.size ≤ T'.heap.size ∧ (∀ q : Nat, q < H.size → ¬ A1 q → T'.heap[q]? = H[q]?) ∧ va_S A0 H0 T'.heap (locs ++ L) := by
  obtain ⟨hz, hk⟩ := hF
  rw [h0] at hz hk
  exact ⟨by rw [e1]; exact hz, fun q h1 h2 => by rw [e1]; exact hk q h1 h2,
    ⟨Nat.le_trans hS.1 (by rw [e1]; exact hz), fun q h1 h2 => by rw [e1, hk q (Nat.lt_of_lt_of_le h1 hS.1) (fun z => h2 (hA q (Nat.lt_of_lt_of_le h1 hS.1) z))]; exact hS.2.1 q h1 h2, fun q hq => by
      rcases List.mem_append.mp hq with h | h
      · exact hS.2.2 q h
      · exact hf _ (hL q h)⟩⟩
theorem vx_calli {S SX : Type} {post : Int32 → S → Prop} {px : SX → Prop} {B : S → State → Prop} {BX : String → SX → State → Prop} {AX : Nat → Prop} (hr : vx_Run p l e R s m args below meth c H locs cells slots mc ms (F0 m pc ls st0) rest (va_Qi post B A1 a) (vx_X px BX AX) free) (hS : va_S A0 H0 H locs) (hA : ∀ q, q < H.size → A1 q → A0 q) (hf : ∀ q, free q → A0 q) (hAX : ∀ q, q < H.size → AX q → A0 q)
    (kx : ∀ (E : String) (ce : Cell) (q9 : Addr) (u : SX) (t : State) (H1 : Heap) (locs1 : List Loc), t.heap = H1 → s.vm.Alike t.vm → px u → BX E u t → H.size ≤ H1.size → (∀ q : Nat, q < H.size → ¬ AX q → H1[q]? = H[q]?) → va_S A0 H0 H1 locs1 → H1[q9]? = some ce → ce.vm = .none → s.vm.findClass E = some ce.cls → vx_W p l e R s m args below meth c H1 locs1 (cells + mc) (slots + ms) Q (F0 m pc ls rest) q9)
    (kk : ∀ (r : Int32) (u : S) (t : State) (H1 : Heap) (locs1 : List Loc), t.heap = H1 → s.vm.Alike t.vm → post r u → B u t → H.size ≤ H1.size → (∀ q : Nat, q < H.size → ¬ A1 q → H1[q]? = H[q]?) → va_S A0 H0 H1 locs1 → W p l e R s m args below meth c H1 locs1 (cells + mc) (slots + ms) Q (F0 m (pc + 3) ls (.int r :: rest))) : W p l e R s m args below meth c H locs cells slots Q (F0 m pc ls st0) := by
  intro T hT X
  rcases hr T hT X with ⟨v, st₀, t, T', L, h0, X', hL, e1, e2, ⟨⟨r, u, hv, hp, hb⟩, hF⟩, st⟩ | ⟨q, st₀, t, T', L, E, ce, h0, X', hL, e1, e2, ⟨u, hp, hb, hF⟩, hce, hcv, hcl, st⟩
  · cases hv
    obtain ⟨k1, k2, k3⟩ := vx_keep h0 e1 hS hA hf hL hF
    obtain ⟨t2, a1, b1⟩ := kk r u t T'.heap (locs ++ L) e1.symm (by rw [← e2]; exact X'.warmed.alike) hp hb k1 k2 k3 T' rfl X'
    exact ⟨t2, st t2 a1, b1⟩
  · obtain ⟨k1, k2, k3⟩ := vx_keep h0 e1 hS hAX hf hL hF
    obtain ⟨t2, a1, b1⟩ := kx E ce q u t T'.heap (locs ++ L) e1.symm (by rw [← e2]; exact X'.warmed.alike) hp hb k1 k2 k3 (by rw [e1]; exact hce) hcv hcl T' rfl X'
    exact ⟨t2, st.trans a1, b1⟩
theorem vx_calll {S SX : Type} {post : Int64 → S → Prop} {px : SX → Prop} {B : S → State → Prop} {BX : String → SX → State → Prop} {AX : Nat → Prop} (hr : vx_Run p l e R s m args below meth c H locs cells slots mc ms (F0 m pc ls st0) rest (va_Ql post B A1 a) (vx_X px BX AX) free) (hS : va_S A0 H0 H locs) (hA : ∀ q, q < H.size → A1 q → A0 q) (hf : ∀ q, free q → A0 q) (hAX : ∀ q, q < H.size → AX q → A0 q)
    (kx : ∀ (E : String) (ce : Cell) (q9 : Addr) (u : SX) (t : State) (H1 : Heap) (locs1 : List Loc), t.heap = H1 → s.vm.Alike t.vm → px u → BX E u t → H.size ≤ H1.size → (∀ q : Nat, q < H.size → ¬ AX q → H1[q]? = H[q]?) → va_S A0 H0 H1 locs1 → H1[q9]? = some ce → ce.vm = .none → s.vm.findClass E = some ce.cls → vx_W p l e R s m args below meth c H1 locs1 (cells + mc) (slots + ms) Q (F0 m pc ls rest) q9)
    (kk : ∀ (r : Int64) (u : S) (t : State) (H1 : Heap) (locs1 : List Loc), t.heap = H1 → s.vm.Alike t.vm → post r u → B u t → H.size ≤ H1.size → (∀ q : Nat, q < H.size → ¬ A1 q → H1[q]? = H[q]?) → va_S A0 H0 H1 locs1 → W p l e R s m args below meth c H1 locs1 (cells + mc) (slots + ms) Q (F0 m (pc + 3) ls (.long r :: rest))) : W p l e R s m args below meth c H locs cells slots Q (F0 m pc ls st0) := by
  intro T hT X
  rcases hr T hT X with ⟨v, st₀, t, T', L, h0, X', hL, e1, e2, ⟨⟨r, u, hv, hp, hb⟩, hF⟩, st⟩ | ⟨q, st₀, t, T', L, E, ce, h0, X', hL, e1, e2, ⟨u, hp, hb, hF⟩, hce, hcv, hcl, st⟩
  · cases hv
    obtain ⟨k1, k2, k3⟩ := vx_keep h0 e1 hS hA hf hL hF
    obtain ⟨t2, a1, b1⟩ := kk r u t T'.heap (locs ++ L) e1.symm (by rw [← e2]; exact X'.warmed.alike) hp hb k1 k2 k3 T' rfl X'
    exact ⟨t2, st t2 a1, b1⟩
  · obtain ⟨k1, k2, k3⟩ := vx_keep h0 e1 hS hAX hf hL hF
    obtain ⟨t2, a1, b1⟩ := kx E ce q u t T'.heap (locs ++ L) e1.symm (by rw [← e2]; exact X'.warmed.alike) hp hb k1 k2 k3 (by rw [e1]; exact hce) hcv hcl T' rfl X'
    exact ⟨t2, st.trans a1, b1⟩
theorem vx_callf {S SX : Type} {post : UInt32 → S → Prop} {px : SX → Prop} {B : S → State → Prop} {BX : String → SX → State → Prop} {AX : Nat → Prop} (hr : vx_Run p l e R s m args below meth c H locs cells slots mc ms (F0 m pc ls st0) rest (va_Qf post B A1 a) (vx_X px BX AX) free) (hS : va_S A0 H0 H locs) (hA : ∀ q, q < H.size → A1 q → A0 q) (hf : ∀ q, free q → A0 q) (hAX : ∀ q, q < H.size → AX q → A0 q)
    (kx : ∀ (E : String) (ce : Cell) (q9 : Addr) (u : SX) (t : State) (H1 : Heap) (locs1 : List Loc), t.heap = H1 → s.vm.Alike t.vm → px u → BX E u t → H.size ≤ H1.size → (∀ q : Nat, q < H.size → ¬ AX q → H1[q]? = H[q]?) → va_S A0 H0 H1 locs1 → H1[q9]? = some ce → ce.vm = .none → s.vm.findClass E = some ce.cls → vx_W p l e R s m args below meth c H1 locs1 (cells + mc) (slots + ms) Q (F0 m pc ls rest) q9)
    (kk : ∀ (r : UInt32) (u : S) (t : State) (H1 : Heap) (locs1 : List Loc), t.heap = H1 → s.vm.Alike t.vm → post r u → B u t → H.size ≤ H1.size → (∀ q : Nat, q < H.size → ¬ A1 q → H1[q]? = H[q]?) → va_S A0 H0 H1 locs1 → W p l e R s m args below meth c H1 locs1 (cells + mc) (slots + ms) Q (F0 m (pc + 3) ls (.float r :: rest))) : W p l e R s m args below meth c H locs cells slots Q (F0 m pc ls st0) := by
  intro T hT X
  rcases hr T hT X with ⟨v, st₀, t, T', L, h0, X', hL, e1, e2, ⟨⟨r, u, hv, hp, hb⟩, hF⟩, st⟩ | ⟨q, st₀, t, T', L, E, ce, h0, X', hL, e1, e2, ⟨u, hp, hb, hF⟩, hce, hcv, hcl, st⟩
  · cases hv
    obtain ⟨k1, k2, k3⟩ := vx_keep h0 e1 hS hA hf hL hF
    obtain ⟨t2, a1, b1⟩ := kk r u t T'.heap (locs ++ L) e1.symm (by rw [← e2]; exact X'.warmed.alike) hp hb k1 k2 k3 T' rfl X'
    exact ⟨t2, st t2 a1, b1⟩
  · obtain ⟨k1, k2, k3⟩ := vx_keep h0 e1 hS hAX hf hL hF
    obtain ⟨t2, a1, b1⟩ := kx E ce q u t T'.heap (locs ++ L) e1.symm (by rw [← e2]; exact X'.warmed.alike) hp hb k1 k2 k3 (by rw [e1]; exact hce) hcv hcl T' rfl X'
    exact ⟨t2, st.trans a1, b1⟩
theorem vx_calld {S SX : Type} {post : UInt64 → S → Prop} {px : SX → Prop} {B : S → State → Prop} {BX : String → SX → State → Prop} {AX : Nat → Prop} (hr : vx_Run p l e R s m args below meth c H locs cells slots mc ms (F0 m pc ls st0) rest (va_Qd post B A1 a) (vx_X px BX AX) free) (hS : va_S A0 H0 H locs) (hA : ∀ q, q < H.size → A1 q → A0 q) (hf : ∀ q, free q → A0 q) (hAX : ∀ q, q < H.size → AX q → A0 q)
    (kx : ∀ (E : String) (ce : Cell) (q9 : Addr) (u : SX) (t : State) (H1 : Heap) (locs1 : List Loc), t.heap = H1 → s.vm.Alike t.vm → px u → BX E u t → H.size ≤ H1.size → (∀ q : Nat, q < H.size → ¬ AX q → H1[q]? = H[q]?) → va_S A0 H0 H1 locs1 → H1[q9]? = some ce → ce.vm = .none → s.vm.findClass E = some ce.cls → vx_W p l e R s m args below meth c H1 locs1 (cells + mc) (slots + ms) Q (F0 m pc ls rest) q9)
    (kk : ∀ (r : UInt64) (u : S) (t : State) (H1 : Heap) (locs1 : List Loc), t.heap = H1 → s.vm.Alike t.vm → post r u → B u t → H.size ≤ H1.size → (∀ q : Nat, q < H.size → ¬ A1 q → H1[q]? = H[q]?) → va_S A0 H0 H1 locs1 → W p l e R s m args below meth c H1 locs1 (cells + mc) (slots + ms) Q (F0 m (pc + 3) ls (.double r :: rest))) : W p l e R s m args below meth c H locs cells slots Q (F0 m pc ls st0) := by
  intro T hT X
  rcases hr T hT X with ⟨v, st₀, t, T', L, h0, X', hL, e1, e2, ⟨⟨r, u, hv, hp, hb⟩, hF⟩, st⟩ | ⟨q, st₀, t, T', L, E, ce, h0, X', hL, e1, e2, ⟨u, hp, hb, hF⟩, hce, hcv, hcl, st⟩
  · cases hv
    obtain ⟨k1, k2, k3⟩ := vx_keep h0 e1 hS hA hf hL hF
    obtain ⟨t2, a1, b1⟩ := kk r u t T'.heap (locs ++ L) e1.symm (by rw [← e2]; exact X'.warmed.alike) hp hb k1 k2 k3 T' rfl X'
    exact ⟨t2, st t2 a1, b1⟩
  · obtain ⟨k1, k2, k3⟩ := vx_keep h0 e1 hS hAX hf hL hF
    obtain ⟨t2, a1, b1⟩ := kx E ce q u t T'.heap (locs ++ L) e1.symm (by rw [← e2]; exact X'.warmed.alike) hp hb k1 k2 k3 (by rw [e1]; exact hce) hcv hcl T' rfl X'
    exact ⟨t2, st.trans a1, b1⟩
theorem vx_callv {S SX : Type} {post : S → Prop} {px : SX → Prop} {B : S → State → Prop} {BX : String → SX → State → Prop} {AX : Nat → Prop} (hr : vx_Run p l e R s m args below meth c H locs cells slots mc ms (F0 m pc ls st0) rest (va_Qv post B A1 a) (vx_X px BX AX) free) (hS : va_S A0 H0 H locs) (hA : ∀ q, q < H.size → A1 q → A0 q) (hf : ∀ q, free q → A0 q) (hAX : ∀ q, q < H.size → AX q → A0 q)
    (kx : ∀ (E : String) (ce : Cell) (q9 : Addr) (u : SX) (t : State) (H1 : Heap) (locs1 : List Loc), t.heap = H1 → s.vm.Alike t.vm → px u → BX E u t → H.size ≤ H1.size → (∀ q : Nat, q < H.size → ¬ AX q → H1[q]? = H[q]?) → va_S A0 H0 H1 locs1 → H1[q9]? = some ce → ce.vm = .none → s.vm.findClass E = some ce.cls → vx_W p l e R s m args below meth c H1 locs1 (cells + mc) (slots + ms) Q (F0 m pc ls rest) q9)
    (kk : ∀ (u : S) (t : State) (H1 : Heap) (locs1 : List Loc), t.heap = H1 → s.vm.Alike t.vm → post u → B u t → H.size ≤ H1.size → (∀ q : Nat, q < H.size → ¬ A1 q → H1[q]? = H[q]?) → va_S A0 H0 H1 locs1 → W p l e R s m args below meth c H1 locs1 (cells + mc) (slots + ms) Q (F0 m (pc + 3) ls (rest))) : W p l e R s m args below meth c H locs cells slots Q (F0 m pc ls st0) := by
  intro T hT X
  rcases hr T hT X with ⟨v, st₀, t, T', L, h0, X', hL, e1, e2, ⟨⟨u, hv, hp, hb⟩, hF⟩, st⟩ | ⟨q, st₀, t, T', L, E, ce, h0, X', hL, e1, e2, ⟨u, hp, hb, hF⟩, hce, hcv, hcl, st⟩
  · cases hv
    obtain ⟨k1, k2, k3⟩ := vx_keep h0 e1 hS hA hf hL hF
    obtain ⟨t2, a1, b1⟩ := kk u t T'.heap (locs ++ L) e1.symm (by rw [← e2]; exact X'.warmed.alike) hp hb k1 k2 k3 T' rfl X'
    exact ⟨t2, st t2 a1, b1⟩
  · obtain ⟨k1, k2, k3⟩ := vx_keep h0 e1 hS hAX hf hL hF
    obtain ⟨t2, a1, b1⟩ := kx E ce q u t T'.heap (locs ++ L) e1.symm (by rw [← e2]; exact X'.warmed.alike) hp hb k1 k2 k3 (by rw [e1]; exact hce) hcv hcl T' rfl X'
    exact ⟨t2, st.trans a1, b1⟩
/-- caught by the row x of this method's table; the rows ahead don't take it -/
theorem vx_catch {own name : String} {E : String} {ce : Cell} {q : Addr} (hown : s.vm.findClass own = some m.cls) (pre : List ExceptionTableEntry) (x : ExceptionTableEntry) (suf : List ExceptionTableEntry) (hsplit : c.exceptionTable.toList = pre ++ x :: suf)
    (hpass : ∀ z ∈ pre, covers z pc = false ∨ (z.catchType ≠ 0 ∧ ∃ nm : String, (Cond.classLink own z.catchType nm).before args s = true ∧ va_Nc E nm s)) (hx : covers x pc = true) (h0 : x.catchType ≠ 0)
    (hlink : (Cond.classLink own x.catchType name).before args s = true) (hcast : (Cond.castable E name).before args s = true) (hcell : H[q]? = some ce) (hv : ce.vm = .none) (hcl : s.vm.findClass E = some ce.cls)
    (kk : W p l e R s m args below meth c H locs cells slots Q (F0 m x.handlerPc ls [.ref q])) : vx_W p l e R s m args below meth c H locs cells slots Q (F0 m pc ls rest) q := by
  intro T hT X
  have hpl : e.platform.magicAccessors = ({} : Platform).magicAccessors := by rw [X.admits.platform]
  obtain ⟨c3, c4, hc3, hc4, hasg⟩ := Cond.castable_spec hcast
  cases Option.some.inj (hc3.symm.trans hcl)
  obtain ⟨c5, hc5, hcl5⟩ := Cond.classLink_spec hown hlink e.platform hpl
  cases Option.some.inj (hc4.symm.trans hc5)
  obtain ⟨vm', X', st⟩ := X.thenCaughtThrough q (g := F0 m pc ls rest) rfl (Steps.refl _) (by rw [hT]; exact hcell) (by rw [hv]; rfl) (by obtain ⟨k9, h9, -⟩ := Vm.findClass_spec hcl; exact ⟨k9, h9⟩) pre x suf hsplit
    (fun z hz => by
      rcases hpass z hz with h | ⟨hz0, nm, hl1, hn1⟩
      · exact Or.inl h
      · obtain ⟨c6, hc6, hcl6⟩ := Cond.classLink_spec hown hl1 e.platform hpl
        obtain ⟨a8, b8, h1, h2, h3⟩ := hn1
        cases Option.some.inj (h1.symm.trans hcl)
        cases Option.some.inj (h2.symm.trans hc6)
        exact Or.inr ⟨hz0, _, hcl6, h3⟩) hx (Or.inr ⟨h0, c4, hcl5, hasg⟩)
  obtain ⟨t, a1, b1⟩ := kk (T.setVm vm') hT X'
  exact ⟨t, st.trans a1, b1⟩
end Rows
section Ends
variable {p : Program} {l : Launch} {e : Env} {R : Room} {s : State} {m : MethodId} {args : Array Value} {below : List Frame} {meth : Method} {c : Code} {H : Heap} {locs : List Loc} {cells slots : Nat} {Q : State → Prop}
variable {mc ms : Nat} {free : Addr → Prop} {A0 A1 : Nat → Prop} {H0 : Heap} {a : Array Value} {ls : Array Slot} {st0 rest : List Value}
variable {Qc : Array Value → State → Outcome → State → Prop} {XC : String → State → State → Prop}
/-- what a body that may throw owes at its end -/
def vx_MQ (below : List Frame) (Qc : Array Value → State → Outcome → State → Prop) (XC : String → State → State → Prop) (a : Array Value) (s : State) (mc ms : Nat) (free : Addr → Prop) : State → Prop := fun t =>
  ∃ o, t.status = .running ∧ Ended t below o ∧ vx_Q Qc XC mc ms free a s o t
theorem vx_ret {g : JFrame} {mc ms : Nat} (k : W p l e R s m args below meth c H locs cells slots (MQ below Qc args s mc ms free) g) : W p l e R s m args below meth c H locs cells slots (vx_MQ below Qc XC args s mc ms free) g := by
  intro T hT X
  obtain ⟨t, a1, o, b1, b2, b3, b4⟩ := k T hT X
  exact ⟨t, a1, o, b1, b2, Or.inl ⟨b3, b4⟩⟩
/-- not caught here: it goes on to the caller -/
theorem vx_widen {g : JFrame} {q : Addr} {k n : Nat} (h1 : cells ≤ k) (h2 : slots ≤ n) (kk : vx_W p l e R s m args below meth c H locs k n Q g q) : vx_W p l e R s m args below meth c H locs cells slots Q g q := fun T hT X => kk T hT (stand_widen X h1 h2)
theorem vx_out {pc : Nat} {E : String} {ce : Cell} {q : Addr} {mc ms : Nat} (hout : ∀ x ∈ c.exceptionTable.toList, covers x pc = false) (hlocks : meth.locks = false) (hcell : H[q]? = some ce) (hv : ce.vm = .none) (hcl : s.vm.findClass E = some ce.cls)
    (hx : ∀ t : State, t.heap = H → s.vm.Alike t.vm → XC E s t) (hf : ∀ z ∈ locs, free z.base) (hc : cells ≤ mc) (hs : slots ≤ ms) :
    vx_W p l e R s m args below meth c H locs cells slots (vx_MQ below Qc XC args s mc ms free) (F0 m pc ls rest) q := by
  intro T hT X
  obtain ⟨st1, hrun, hend, hW, hsm⟩ := X.leaveThrown q (g := F0 m pc ls rest) rfl rfl rfl hout hlocks
  have hcell9 : (T.setFrames (.throwing q :: below)).heap[q]? = some ce := by
    show T.heap[q]? = some ce
    rw [hT]; exact hcell
  exact ⟨_, st1, .threw q, hrun, hend, Or.inr ⟨q, rfl, E, ce, locs, hx _ hT hW.alike, hcell9, hv, hcl, hW, hsm.mono hc hs, hf⟩⟩
theorem vx_frame {U : State} {k n : Nat} (h : s.sameButNew ({ U with vm := s.vm } : State) locs k n) : s.heap.size ≤ U.heap.size ∧ ∀ q : Nat, q < s.heap.size → (∀ z ∈ locs, z.base ≠ q) → U.heap[q]? = s.heap[q]? := by
  obtain ⟨-, h2, -, -, -, h6⟩ := h
  refine ⟨h2, fun q hq hz => ?_⟩
  obtain ⟨c9, e1, e2, e3, e4⟩ := h6 q _ (Array.getElem?_eq_getElem hq)
  have hs : c9.slots = (s.heap[q]).slots := Array.ext_getElem? fun i => e4 i fun hm => hz _ hm rfl
  have h9 : c9 = s.heap[q] := by
    rw [hs] at e2
    exact e2
  have e5 : U.heap[q]? = some c9 := e1
  rw [e5, h9, Array.getElem?_eq_getElem hq]
/-- the words of a throw but the four that speak of the heap -/
def vx_no (w : Cond) : Bool := decide (w ≠ .isRef (.static Bundle.tN "UNASSIGNED_STACK" Bundle.steD)) && decide (w ≠ .isRef (.static Bundle.tN "SUPPRESSED_SENTINEL" Bundle.listD)) && decide (w ≠ .laysStatic Bundle.tN "UNASSIGNED_STACK" Bundle.steD) && decide (w ≠ .laysStatic Bundle.tN "SUPPRESSED_SENTINEL" Bundle.listD)
def vx_at0 (own : String) (ic : Nat) (X : String) (names : List String) : List Cond := (Bundle.ownAtoms0 own ic X names).filter vx_no
def vx_atS (own : String) (ic : Nat) (X : String) (names : List String) : List Cond := (Bundle.ownAtoms own ic X names).filter vx_no
/-- a word that the tables alone decide, or a good one -/
def vx_ot (w : Cond) : Bool := w.onTables || goodWord w
theorem vx_ot_at {args a' : Array Value} {s U : State} {w : Cond} (hW : s.WarmedH U.vm) (hvm : s.vm = U.vm) (hg : vx_ot w = true) (h : w.before args s = true) : w.before a' U = true := by
  simp only [vx_ot, Bool.or_eq_true] at hg
  rcases hg with hg | hg
  · exact va_tabs hg hvm h
  · exact word_at hW (good_of_word hg) h
/-- a list's words: the good ones out of the method's own list, the others by premises of their own -/
theorem vx_hat {args : Array Value} {s : State} {L B : List Cond} (h1 : ∀ w ∈ L.filter goodWord, w.before args s = true) (h2 : ∀ w ∈ L.filter (fun w => !goodWord w), w ∈ B) (h3 : ∀ w ∈ B, w.before args s = true) : ∀ w ∈ L, w.before args s = true := by
  intro w hw
  by_cases g : goodWord w = true
  · exact h1 w (List.mem_filter.mpr ⟨hw, g⟩)
  · refine h3 w (h2 w (List.mem_filter.mpr ⟨hw, ?_⟩))
    show (!goodWord w) = true
    cases hgw : goodWord w
    · rfl
    · exact absurd hgw g
theorem vx_c {args : Array Value} {s : State} {w : Cond} {B : List Cond} (h : w.before args s = true) (t : ∀ w ∈ B, w.before args s = true) : ∀ w' ∈ w :: B, w'.before args s = true := fun w' h' => (List.mem_cons.mp h').elim (fun e => by rw [e]; exact h) (t w')
theorem vx_n {args : Array Value} {s : State} : ∀ w ∈ ([] : List Cond), w.before args s = true := fun _ h => nomatch h
theorem vx_own {args : Array Value} {s : State} {L : List Cond} (h1 : ∀ w ∈ L.filter vx_no, w.before args s = true)
    (hU : (Cond.isRef (.static Bundle.tN "UNASSIGNED_STACK" Bundle.steD)).before args s = true) (hN : (Cond.isRef (.static Bundle.tN "SUPPRESSED_SENTINEL" Bundle.listD)).before args s = true)
    (lU : (Cond.laysStatic Bundle.tN "UNASSIGNED_STACK" Bundle.steD).before args s = true) (lN : (Cond.laysStatic Bundle.tN "SUPPRESSED_SENTINEL" Bundle.listD).before args s = true) : ∀ w ∈ L, w.before args s = true := by
  intro w hw
  by_cases e1 : w = .isRef (.static Bundle.tN "UNASSIGNED_STACK" Bundle.steD)
  · rw [e1]; exact hU
  · by_cases e2 : w = .isRef (.static Bundle.tN "SUPPRESSED_SENTINEL" Bundle.listD)
    · rw [e2]; exact hN
    · by_cases e3 : w = .laysStatic Bundle.tN "UNASSIGNED_STACK" Bundle.steD
      · rw [e3]; exact lU
      · by_cases e4 : w = .laysStatic Bundle.tN "SUPPRESSED_SENTINEL" Bundle.listD
        · rw [e4]; exact lN
        · exact h1 w (List.mem_filter.mpr ⟨hw, by unfold vx_no; rw [decide_eq_true e1, decide_eq_true e2, decide_eq_true e3, decide_eq_true e4]; rfl⟩)
/-- where a static field lies, its class's statics cell in H -/
def vx_L (C n d : String) (A : Nat → Prop) (U : State) (H : Heap) : Prop := ∃ (c : ClassId) (k : Class) (i : Nat) (f : Field) (a : Nat) (cell : Cell), U.vm.findClass C = some c ∧ U.fieldFound? C n d = some (c, k, i, f) ∧ f.isStatic = true ∧ k.statics = some a ∧ H[a]? = some cell ∧ cell.vm.isStatics = true ∧ cell.cls = c ∧ f.slot < cell.slots.size ∧ k.staticTypes[f.slot]? = some f.type ∧ ¬ A a
theorem vx_L.moved {C n d : String} {A : Nat → Prop} {u U : State} {H : Heap} (hvm : u.vm.Alike U.vm) (h : vx_L C n d A u H) : vx_L C n d A U H := by
  obtain ⟨c, k, i, f, a, cell, h1, h2, h3, h4, h5, h6, h7, h8, h9, h10⟩ := h
  obtain ⟨k', hi', he⟩ := State.fieldFound?_setVm hvm h2
  exact ⟨c, k', i, f, a, cell, by rw [hvm.findClass]; exact h1, hi', h3, by rw [he]; exact h4, h5, h6, h7, h8, by rw [he]; exact h9, h10⟩
theorem vx_L.kept {C n d : String} {A : Nat → Prop} {U : State} {H H1 : Heap} (h : vx_L C n d A U H) (hq : ∀ a : Nat, a < H.size → ¬ A a → H1[a]? = H[a]?) : vx_L C n d A U H1 := by
  obtain ⟨c, k, i, f, a, cell, h1, h2, h3, h4, h5, h6, h7, h8, h9, h10⟩ := h
  exact ⟨c, k, i, f, a, cell, h1, h2, h3, h4, by rw [hq a (Array.getElem?_eq_some_iff.mp h5).1 h10]; exact h5, h6, h7, h8, h9, h10⟩
theorem vx_L.narrow {C n d : String} {A B : Nat → Prop} {U : State} {H : Heap} (h : vx_L C n d A U H) (hAB : ∀ q, B q → A q) : vx_L C n d B U H := by
  obtain ⟨c, k, i, f, a, cell, h1, h2, h3, h4, h5, h6, h7, h8, h9, h10⟩ := h
  exact ⟨c, k, i, f, a, cell, h1, h2, h3, h4, h5, h6, h7, h8, h9, fun z => h10 (hAB _ z)⟩
theorem vx_L.word {C n d : String} {A : Nat → Prop} {s : State} {args : Array Value} (h : vx_L C n d A s s.heap) : (Cond.laysStatic C n d).before args s = true := by
  obtain ⟨c, k, i, f, a, cell, h1, h2, h3, h4, h5, h6, h7, h8, h9, -⟩ := h
  show (Cond.laysStatic C n d).holds args s none s [] = true
  exact Cond.laysStatic_of h1 h2 h3 h4 h5 h6 h7 h8 h9
/-- .. and what it holds: null or some reference -/
def vx_Zq (C n d : String) (A : Nat → Prop) (U : State) (H : Heap) : Prop := va_Zq C n d A U H ∧ vx_L C n d A U H
theorem vx_Zq.moved {C n d : String} {A : Nat → Prop} {u U : State} {H : Heap} (hvm : u.vm.Alike U.vm) (h : vx_Zq C n d A u H) : vx_Zq C n d A U H := ⟨va_Zq.moved hvm h.1, vx_L.moved hvm h.2⟩
theorem vx_Zq.kept {C n d : String} {A : Nat → Prop} {U : State} {H H1 : Heap} (h : vx_Zq C n d A U H) (hq : ∀ a : Nat, a < H.size → ¬ A a → H1[a]? = H[a]?) : vx_Zq C n d A U H1 := ⟨va_Zq.kept h.1 hq, vx_L.kept h.2 hq⟩
theorem vx_Zq.narrow {C n d : String} {A B : Nat → Prop} {U : State} {H : Heap} (h : vx_Zq C n d A U H) (hAB : ∀ q, B q → A q) : vx_Zq C n d B U H := ⟨va_Zq.narrow h.1 hAB, vx_L.narrow h.2 hAB⟩
theorem vx_Zqof {args : Array Value} {s : State} {C n d : String} {A : Nat → Prop} (hl : (Cond.laysStatic C n d).before args s = true) (hini : (Cond.initialized C).before args s = true) (h : (Cond.isRef (.static C n d)).before args s = true) (hA : ∀ a : Nat, a < s.heap.size → ¬ A a) : vx_Zq C n d A s s.heap := by
  refine ⟨va_Zqof hl hini h hA, ?_⟩
  obtain ⟨c, k, i, f, a, cell, h1, h2, h3, h4, h5, h6, h7, h8, h9⟩ := Cond.laysStatic_spec hl
  exact ⟨c, k, i, f, a, cell, h1, h2, h3, h4, h5, h6, h7, h8, h9, hA a (Array.getElem?_eq_some_iff.mp h5).1⟩
theorem vx_isRef {C n d : String} {v : Value} {A : Nat → Prop} {s : State} {args : Array Value} (h : va_Z C n d v A s s.heap) (hv : v.isRef = true) : (Cond.isRef (.static C n d)).before args s = true := by
  obtain ⟨cf, kf, fi, f, a, cell, h1, h2, h3, h4, h5, h6, h7, -⟩ := h
  have he : (Term.static C n d).eval args s none [] s = some v := by
    simp [Term.eval, State.fieldNamed?, h1, h2, h4, h5, h6, h7]
  simp only [Cond.before, Cond.holds, Cond.value, he]
  cases v <;> simp_all [Value.isRef]
theorem vx_isRefq {C n d : String} {A : Nat → Prop} {s : State} {args : Array Value} (h : va_Zq C n d A s s.heap) : (Cond.isRef (.static C n d)).before args s = true := by
  rcases h with h | ⟨t, h⟩
  · exact vx_isRef h rfl
  · exact vx_isRef h rfl
/-- the same frame, seen from here: as if the method were called anew in this heap -/
theorem vx_rebase {T : State} (X : Stand p l e R s m args below meth c T locs cells slots) {R' : Room} (hf : R'.frames ≤ R.frames) (hl : R'.locals ≤ R.locals) (hc : cells + R'.cells ≤ R.cells) (hs : slots + R'.slots ≤ R.slots) :
    Stand p l e R' ((T.setVm s.vm).setFrames (.invoking m args :: below)) m args below meth c T [] 0 0 := by
  have htop : (T.setVm s.vm).topJava?.isSome := X.here.top
  have hF : ((T.setVm s.vm).setFrames (.invoking m args :: below)).frames = .invoking m args :: below := State.frames_setFrames _ (State.cur_lt_of_top htop)
  obtain ⟨g₀, hg0⟩ := Option.isSome_iff_exists.mp htop
  obtain ⟨r, hr⟩ := State.topJava?_eq_some.mp hg0
  have hl9 : e.platform.stackLimits (T.setVm s.vm).me = e.platform.stackLimits s.me := X.limits
  have hb9 : (T.setVm s.vm).me.stackBytes = s.me.stackBytes := X.bytes
  refine ⟨X.admits, X.cas, X.clock, hF, ?_, X.hears, X.method, X.code, X.here, X.tail, X.warmed, ?_, ?_, ?_⟩
  · have h := X.room
    have hU : ((T.setVm s.vm).setFrames (.invoking m args :: below)).localsInUse = s.localsInUse := by
      rw [State.localsInUse_invoking hF (meth := meth) (c := c) X.method X.code, State.localsInUse_invoking X.frames X.method X.code]
    simp only [State.hasRoom, Bool.and_eq_true, decide_eq_true_eq] at h ⊢
    obtain ⟨⟨⟨⟨h1, h2, h3, h4, h5, h6⟩, h7⟩, h8⟩, h9⟩ := h
    rw [X.frames, List.length_cons] at h2 h3
    have q1 := X.heapSize
    have q2 := X.used
    simp only [hF, hU, List.length_cons, State.stackLimits_setFrames, State.stackBytes_setFrames, hl9, hb9]
    refine ⟨⟨⟨⟨by omega, by omega, by omega, by omega, by omega, h6⟩, ?_⟩, ?_⟩, X.book⟩
    · show T.heap.size + R'.cells ≤ e.platform.maxCells
      omega
    · show T.slotsUsed + R'.slots ≤ e.platform.maxSlots
      omega
  · rw [State.stackLimits_setFrames]; rfl
  · rw [State.stackBytes_setFrames]; rfl
  · refine ⟨?_, Nat.le_refl _, Nat.le_refl _, ?_, ?_, fun a c9 h9 => ⟨c9, h9, rfl, rfl, fun _ _ => rfl⟩⟩
    · obtain ⟨t, ht, -⟩ := State.frames_cons hr
      show T.setVm s.vm = { ((T.setVm s.vm).setFrames (.invoking m args :: below)).setFrames (T.setVm s.vm).frames with heap := T.heap, slotsUsed := T.slotsUsed }
      rw [State.setFrames_setFrames, State.setFrames_self ht]
      rfl
    · show T.slotsUsed = T.slotsUsed + ((T.heap.toList.drop T.heap.size).map (·.slots.size)).sum
      rw [List.drop_eq_nil_of_le (Nat.le_of_eq Array.length_toList)]
      rfl
    · show ((T.heap.toList.drop T.heap.size).map (·.slots.size)).sum ≤ 0
      rw [List.drop_eq_nil_of_le (Nat.le_of_eq Array.length_toList)]
      exact Nat.le_refl _
/-- 'throw new E()': new; dup; invokespecial; athrow -/
theorem vx_throw0 {cc : ByteArray} {pc : Nat} (hexec : p.tables.exec = Jvm.exec) (hb : c.code = cc) (hl : l.stackTraces = false) {own cls : String} {names : List String} {ik ic mc ms : Nat} {A : Nat → Prop}
    (hown : s.vm.findClass own = some m.cls) (hcls : Bundle.fit cls = true) (hnames : ∀ n ∈ names, Bundle.fit n = true)
    (hk : (Cond.classLink own ik cls).before args s = true) (hini : (Cond.initialized cls).before args s = true) (hat : ∀ w ∈ vx_at0 own ic cls names, w.before args s = true)
    (hgood : ∀ w ∈ Cond.classLink own ik cls :: Cond.initialized cls :: vx_at0 own ic cls names, vx_ot w = true)
    (hU : vx_Zq Bundle.tN "UNASSIGNED_STACK" Bundle.steD A s s.heap) (hN : vx_Zq Bundle.tN "SUPPRESSED_SENTINEL" Bundle.listD A s s.heap) (hS : va_S A s.heap H locs) (hsize : ls.size = c.maxLocals)
    (d0 : decode cc pc = .ok (.new ik, 3)) (d3 : decode cc (pc + 3) = .ok (.dup, 1)) (d4 : decode cc (pc + 4) = .ok (.invokespecial ic, 3)) (d7 : decode cc (pc + 7) = .ok (.athrow, 1))
    (hout : ∀ x ∈ c.exceptionTable.toList, covers x (pc + 7) = false)
    (hRframes : names.length + 3 < R.frames) (hRlocals : (rest.map fun v => v.category).sum + (13 * (names.length + 1) + 42) ≤ R.locals) (hRcells : cells + 1 ≤ R.cells) (hRslots : slots + 6 ≤ R.slots) (hlocks : meth.locks = false)
    (hx : ∀ t : State, s.vm.Alike t.vm → H.size ≤ t.heap.size → (∀ q : Nat, q < H.size → t.heap[q]? = H[q]?) → XC cls s t)
    (hf : ∀ z ∈ locs, free z.base) (hc : cells + 1 ≤ mc) (hs : slots + 6 ≤ ms) :
    W p l e R s m args below meth c H locs cells slots (vx_MQ below Qc XC args s mc ms free) (F0 m pc ls rest) := by
  intro T hT X
  have htr : e.platform.stackTraces = false := (show e.platform.stackTraces = l.stackTraces by rw [X.admits.platform]).trans hl
  have Y := vx_rebase X (R' := { frames := R.frames, locals := R.locals, cells := 1, slots := 6 }) (Nat.le_refl _) (Nat.le_refl _) hRcells hRslots
  obtain ⟨s', hA⟩ : ∃ z, z = (T.setVm s.vm).setFrames (.invoking m args :: below) := ⟨_, rfl⟩
  rw [← hA] at Y
  have hvm : s'.vm = s.vm := by rw [hA]; rfl
  have hhp : s'.heap = H := by rw [hA]; exact hT
  have hW0 : s.WarmedH s'.vm := by rw [hvm]; exact State.WarmedH.refl s
  have hat' : ∀ w ∈ vx_at0 own ic cls names, w.before args s' = true := fun w hw => vx_ot_at hW0 hvm.symm (hgood w (List.mem_cons_of_mem _ (List.mem_cons_of_mem _ hw))) (hat w hw)
  have hk' : (Cond.classLink own ik cls).before args s' = true := vx_ot_at hW0 hvm.symm (hgood _ List.mem_cons_self) hk
  have hini' : (Cond.initialized cls).before args s' = true := vx_ot_at hW0 hvm.symm (hgood _ (List.mem_cons_of_mem _ List.mem_cons_self)) hini
  have hU' : vx_Zq Bundle.tN "UNASSIGNED_STACK" Bundle.steD A s' s'.heap := by rw [hhp]; exact vx_Zq.moved hW0.alike (hU.kept hS.2.1)
  have hN' : vx_Zq Bundle.tN "SUPPRESSED_SENTINEL" Bundle.listD A s' s'.heap := by rw [hhp]; exact vx_Zq.moved hW0.alike (hN.kept hS.2.1)
  have h : ∀ w ∈ Bundle.ownAtoms0 own ic cls names, w.before args s' = true := vx_own hat' (vx_isRefq hU'.1) (vx_isRefq hN'.1) hU'.2.word hN'.2.word
  have hown' : s'.vm.findClass own = some m.cls := by rw [hvm]; exact hown
  have hins : (Cond.instantiable cls 6).before args s' = true := h _ (by simp [Bundle.ownAtoms0])
  obtain ⟨vm₁, cX, kX, hfX, hkX, -, -, X₁, st1⟩ := Y.newCold hexec (own := own) (C := cls) (index := ik) (n := 6) hown' hk' hins hini'
    (g := F0 m pc ls rest) rfl (by rw [hb]; exact d0) (Nat.le_refl _) (Nat.le_refl _)
  generalize hT1 : (T.setVm vm₁).pushCell { cls := cX, slots := kX.instanceTypes.map defaultValue, vm := .none } = T1 at X₁ st1
  have hcat : (Value.ref T.heap.size).category = 1 := rfl
  have hcellA : T1.heap[T.heap.size]? = some (freshCell cX kX) := by rw [← hT1]; exact State.heap_pushCell_size _ _
  have d3' : decode c.code (pc + 3) = .ok (.dup, 1) := by rw [hb]; exact d3
  obtain ⟨U, hsteps, hrun, hend, hW, hsame, ce, hce, hO⟩ := X₁.ctorThrow0 hexec htr (own := own) (cls := cls) (names := names) (ic := ic) hown' hcls hnames h (fun x hx => nomatch hx) hfX hkX hcellA (by rw [hhp, hT]; exact Nat.le_refl _)
    (g := { method := m, pc := pc + 4, locals := ls, stack := .ref T.heap.size :: .ref T.heap.size :: rest, locked := none }) rfl hsize rfl rfl (rest := rest) rfl
    (by rw [hb]; exact d4) (by rw [hb]; exact d7) hout hRframes (by simp only [List.map_cons, List.sum_cons, hcat]; omega) hlocks
  obtain ⟨f1, f2⟩ := vx_frame hsame
  rw [hhp] at f1 f2
  have hWs : s.WarmedH U.vm := State.WarmedH.trans hW0 hW
  have hcl : s.vm.findClass cls = some ce.cls := by
    have h9 := hO.cls
    rw [hvm] at h9
    exact h9
  have hall : s.sameButNew ({ U with vm := s.vm } : State) locs mc ms := by
    subst hA
    obtain ⟨e1, e2⟩ := hsame
    rw [State.setFrames_setFrames] at e1
    have h2 : (T.setVm s.vm).sameButNew ({ U with vm := s.vm } : State) [] (0 + 1) (0 + 6) := ⟨e1, e2⟩
    have h3 := X.same.trans h2
    rw [List.append_nil] at h3
    exact h3.mono hc hs
  refine ⟨U, ?_, .threw T.heap.size, hrun, hend, Or.inr ⟨T.heap.size, rfl, cls, ce, locs, hx U hWs.alike f1 (fun q hq => f2 q hq (fun z hz => nomatch hz)), hce, hO.vm, hcl, hWs, hall, hf⟩⟩
  refine st1 _ ?_
  show Steps p.tables e below (T1.setTop { method := m, pc := pc + 3, locals := ls, stack := .ref T.heap.size :: rest, locked := none }) _
  jvm_step X₁.here [X₁.here.top, hexec, d3', Value.category]
  exact hsteps
/-- 'throw new E("text")': new; dup; ldc; invokespecial; athrow -/
theorem vx_throwS {cc : ByteArray} {pc : Nat} (hexec : p.tables.exec = Jvm.exec) (hb : c.code = cc) (hl : l.stackTraces = false) {own cls text : String} {names : List String} {ik is ic mc ms sa : Nat} {A : Nat → Prop}
    (hown : s.vm.findClass own = some m.cls) (hcls : Bundle.fit cls = true) (hnames : ∀ n ∈ names, Bundle.fit n = true)
    (hk : (Cond.classLink own ik cls).before args s = true) (hini : (Cond.initialized cls).before args s = true) (hstr : vk_R own is text sa s) (hat : ∀ w ∈ vx_atS own ic cls names, w.before args s = true)
    (hgood : ∀ w ∈ Cond.classLink own ik cls :: Cond.initialized cls :: vx_atS own ic cls names, vx_ot w = true)
    (hU : vx_Zq Bundle.tN "UNASSIGNED_STACK" Bundle.steD A s s.heap) (hN : vx_Zq Bundle.tN "SUPPRESSED_SENTINEL" Bundle.listD A s s.heap) (hS : va_S A s.heap H locs) (hsize : ls.size = c.maxLocals)
    (d0 : decode cc pc = .ok (.new ik, 3)) (d3 : decode cc (pc + 3) = .ok (.dup, 1)) (d4 : decode cc (pc + 4) = .ok (.ldc is, 2)) (d6 : decode cc (pc + 6) = .ok (.invokespecial ic, 3)) (d9 : decode cc (pc + 9) = .ok (.athrow, 1))
    (hout : ∀ x ∈ c.exceptionTable.toList, covers x (pc + 9) = false)
    (hRframes : names.length + 3 < R.frames) (hRlocals : (rest.map fun v => v.category).sum + (13 * (names.length + 1) + 43) ≤ R.locals) (hRcells : cells + 1 ≤ R.cells) (hRslots : slots + 6 ≤ R.slots) (hlocks : meth.locks = false)
    (hx : ∀ t : State, s.vm.Alike t.vm → H.size ≤ t.heap.size → (∀ q : Nat, q < H.size → t.heap[q]? = H[q]?) → XC cls s t)
    (hf : ∀ z ∈ locs, free z.base) (hc : cells + 1 ≤ mc) (hs : slots + 6 ≤ ms) :
    W p l e R s m args below meth c H locs cells slots (vx_MQ below Qc XC args s mc ms free) (F0 m pc ls rest) := by
  intro T hT X
  have htr : e.platform.stackTraces = false := (show e.platform.stackTraces = l.stackTraces by rw [X.admits.platform]).trans hl
  have Y := vx_rebase X (R' := { frames := R.frames, locals := R.locals, cells := 1, slots := 6 }) (Nat.le_refl _) (Nat.le_refl _) hRcells hRslots
  obtain ⟨s', hA⟩ : ∃ z, z = (T.setVm s.vm).setFrames (.invoking m args :: below) := ⟨_, rfl⟩
  rw [← hA] at Y
  have hvm : s'.vm = s.vm := by rw [hA]; rfl
  have hhp : s'.heap = H := by rw [hA]; exact hT
  have hW0 : s.WarmedH s'.vm := by rw [hvm]; exact State.WarmedH.refl s
  have hat' : ∀ w ∈ vx_atS own ic cls names, w.before args s' = true := fun w hw => vx_ot_at hW0 hvm.symm (hgood w (List.mem_cons_of_mem _ (List.mem_cons_of_mem _ hw))) (hat w hw)
  have hk' : (Cond.classLink own ik cls).before args s' = true := vx_ot_at hW0 hvm.symm (hgood _ List.mem_cons_self) hk
  have hini' : (Cond.initialized cls).before args s' = true := vx_ot_at hW0 hvm.symm (hgood _ (List.mem_cons_of_mem _ List.mem_cons_self)) hini
  have hU' : vx_Zq Bundle.tN "UNASSIGNED_STACK" Bundle.steD A s' s'.heap := by rw [hhp]; exact vx_Zq.moved hW0.alike (hU.kept hS.2.1)
  have hN' : vx_Zq Bundle.tN "SUPPRESSED_SENTINEL" Bundle.listD A s' s'.heap := by rw [hhp]; exact vx_Zq.moved hW0.alike (hN.kept hS.2.1)
  have h : ∀ w ∈ Bundle.ownAtoms own ic cls names, w.before args s' = true := vx_own hat' (vx_isRefq hU'.1) (vx_isRefq hN'.1) hU'.2.word hN'.2.word
  have hown' : s'.vm.findClass own = some m.cls := by rw [hvm]; exact hown
  have hins : (Cond.instantiable cls 6).before args s' = true := h _ (by simp [Bundle.ownAtoms])
  obtain ⟨vm₁, cX, kX, hfX, hkX, -, -, X₁, st1⟩ := Y.newCold hexec (own := own) (C := cls) (index := ik) (n := 6) hown' hk' hins hini'
    (g := F0 m pc ls rest) rfl (by rw [hb]; exact d0) (Nat.le_refl _) (Nat.le_refl _)
  generalize hT1 : (T.setVm vm₁).pushCell { cls := cX, slots := kX.instanceTypes.map defaultValue, vm := .none } = T1 at X₁ st1
  have hcat : (Value.ref T.heap.size).category = 1 := rfl
  have hcellA : T1.heap[T.heap.size]? = some (freshCell cX kX) := by rw [← hT1]; exact State.heap_pushCell_size _ _
  have d3' : decode c.code (pc + 3) = .ok (.dup, 1) := by rw [hb]; exact d3
  have d4' : decode c.code (pc + 4) = .ok (.ldc is, 2) := by rw [hb]; exact d4
  have hstr' : vk_R own is text sa s' := vk_R.warm hW0 hstr
  obtain ⟨U, hsteps, hrun, hend, hW, hsame, ce, hce, hO⟩ := X₁.ctorThrowS hexec htr (own := own) (cls := cls) (names := names) (ic := ic) hown' hcls hnames h (fun x hx => nomatch hx) hfX hkX hcellA (by rw [hhp, hT]; exact Nat.le_refl _) (msg := .ref sa) rfl
    (g := { method := m, pc := pc + 6, locals := ls, stack := .ref sa :: .ref T.heap.size :: .ref T.heap.size :: rest, locked := none }) rfl hsize rfl rfl (rest := rest) rfl
    (by rw [hb]; exact d6) (by rw [hb]; exact d9) hout hRframes (by simp only [List.map_cons, List.sum_cons, hcat]; omega) hlocks
  obtain ⟨f1, f2⟩ := vx_frame hsame
  rw [hhp] at f1 f2
  have hWs : s.WarmedH U.vm := State.WarmedH.trans hW0 hW
  have hcl : s.vm.findClass cls = some ce.cls := by
    have h9 := hO.cls
    rw [hvm] at h9
    exact h9
  have hall : s.sameButNew ({ U with vm := s.vm } : State) locs mc ms := by
    subst hA
    obtain ⟨e1, e2⟩ := hsame
    rw [State.setFrames_setFrames] at e1
    have h2 : (T.setVm s.vm).sameButNew ({ U with vm := s.vm } : State) [] (0 + 1) (0 + 6) := ⟨e1, e2⟩
    have h3 := X.same.trans h2
    rw [List.append_nil] at h3
    exact h3.mono hc hs
  refine ⟨U, ?_, .threw T.heap.size, hrun, hend, Or.inr ⟨T.heap.size, rfl, cls, ce, locs, hx U hWs.alike f1 (fun q hq => f2 q hq (fun z hz => nomatch hz)), hce, hO.vm, hcl, hWs, hall, hf⟩⟩
  refine st1 _ ?_
  show Steps p.tables e below (T1.setTop { method := m, pc := pc + 3, locals := ls, stack := .ref T.heap.size :: rest, locked := none }) _
  jvm_step X₁.here [X₁.here.top, hexec, d3', Value.category]
  exact X₁.ldcString hexec (own := own) (text := text) (index := is) (a := sa) hown' hstr'.1 hstr'.2
    (g := { method := m, pc := pc + 4, locals := ls, stack := .ref T.heap.size :: .ref T.heap.size :: rest, locked := none }) rfl d4' _ hsteps
/-- 'throw new E("text")', the text by a wide index -/
theorem vx_throwSW {cc : ByteArray} {pc : Nat} (hexec : p.tables.exec = Jvm.exec) (hb : c.code = cc) (hl : l.stackTraces = false) {own cls text : String} {names : List String} {ik is ic mc ms sa : Nat} {A : Nat → Prop}
    (hown : s.vm.findClass own = some m.cls) (hcls : Bundle.fit cls = true) (hnames : ∀ n ∈ names, Bundle.fit n = true)
    (hk : (Cond.classLink own ik cls).before args s = true) (hini : (Cond.initialized cls).before args s = true) (hstr : vk_R own is text sa s) (hat : ∀ w ∈ vx_atS own ic cls names, w.before args s = true)
    (hgood : ∀ w ∈ Cond.classLink own ik cls :: Cond.initialized cls :: vx_atS own ic cls names, vx_ot w = true)
    (hU : vx_Zq Bundle.tN "UNASSIGNED_STACK" Bundle.steD A s s.heap) (hN : vx_Zq Bundle.tN "SUPPRESSED_SENTINEL" Bundle.listD A s s.heap) (hS : va_S A s.heap H locs) (hsize : ls.size = c.maxLocals)
    (d0 : decode cc pc = .ok (.new ik, 3)) (d3 : decode cc (pc + 3) = .ok (.dup, 1)) (d4 : decode cc (pc + 4) = .ok (.ldc_w is, 3)) (d7 : decode cc (pc + 7) = .ok (.invokespecial ic, 3)) (d10 : decode cc (pc + 10) = .ok (.athrow, 1))
    (hout : ∀ x ∈ c.exceptionTable.toList, covers x (pc + 10) = false)
    (hRframes : names.length + 3 < R.frames) (hRlocals : (rest.map fun v => v.category).sum + (13 * (names.length + 1) + 43) ≤ R.locals) (hRcells : cells + 1 ≤ R.cells) (hRslots : slots + 6 ≤ R.slots) (hlocks : meth.locks = false)
    (hx : ∀ t : State, s.vm.Alike t.vm → H.size ≤ t.heap.size → (∀ q : Nat, q < H.size → t.heap[q]? = H[q]?) → XC cls s t)
    (hf : ∀ z ∈ locs, free z.base) (hc : cells + 1 ≤ mc) (hs : slots + 6 ≤ ms) :
    W p l e R s m args below meth c H locs cells slots (vx_MQ below Qc XC args s mc ms free) (F0 m pc ls rest) := by
  intro T hT X
  have htr : e.platform.stackTraces = false := (show e.platform.stackTraces = l.stackTraces by rw [X.admits.platform]).trans hl
  have Y := vx_rebase X (R' := { frames := R.frames, locals := R.locals, cells := 1, slots := 6 }) (Nat.le_refl _) (Nat.le_refl _) hRcells hRslots
  obtain ⟨s', hA⟩ : ∃ z, z = (T.setVm s.vm).setFrames (.invoking m args :: below) := ⟨_, rfl⟩
  rw [← hA] at Y
  have hvm : s'.vm = s.vm := by rw [hA]; rfl
  have hhp : s'.heap = H := by rw [hA]; exact hT
  have hW0 : s.WarmedH s'.vm := by rw [hvm]; exact State.WarmedH.refl s
  have hat' : ∀ w ∈ vx_atS own ic cls names, w.before args s' = true := fun w hw => vx_ot_at hW0 hvm.symm (hgood w (List.mem_cons_of_mem _ (List.mem_cons_of_mem _ hw))) (hat w hw)
  have hk' : (Cond.classLink own ik cls).before args s' = true := vx_ot_at hW0 hvm.symm (hgood _ List.mem_cons_self) hk
  have hini' : (Cond.initialized cls).before args s' = true := vx_ot_at hW0 hvm.symm (hgood _ (List.mem_cons_of_mem _ List.mem_cons_self)) hini
  have hU' : vx_Zq Bundle.tN "UNASSIGNED_STACK" Bundle.steD A s' s'.heap := by rw [hhp]; exact vx_Zq.moved hW0.alike (hU.kept hS.2.1)
  have hN' : vx_Zq Bundle.tN "SUPPRESSED_SENTINEL" Bundle.listD A s' s'.heap := by rw [hhp]; exact vx_Zq.moved hW0.alike (hN.kept hS.2.1)
  have h : ∀ w ∈ Bundle.ownAtoms own ic cls names, w.before args s' = true := vx_own hat' (vx_isRefq hU'.1) (vx_isRefq hN'.1) hU'.2.word hN'.2.word
  have hown' : s'.vm.findClass own = some m.cls := by rw [hvm]; exact hown
  have hins : (Cond.instantiable cls 6).before args s' = true := h _ (by simp [Bundle.ownAtoms])
  obtain ⟨vm₁, cX, kX, hfX, hkX, -, -, X₁, st1⟩ := Y.newCold hexec (own := own) (C := cls) (index := ik) (n := 6) hown' hk' hins hini'
    (g := F0 m pc ls rest) rfl (by rw [hb]; exact d0) (Nat.le_refl _) (Nat.le_refl _)
  generalize hT1 : (T.setVm vm₁).pushCell { cls := cX, slots := kX.instanceTypes.map defaultValue, vm := .none } = T1 at X₁ st1
  have hcat : (Value.ref T.heap.size).category = 1 := rfl
  have hcellA : T1.heap[T.heap.size]? = some (freshCell cX kX) := by rw [← hT1]; exact State.heap_pushCell_size _ _
  have d3' : decode c.code (pc + 3) = .ok (.dup, 1) := by rw [hb]; exact d3
  have d4' : decode c.code (pc + 4) = .ok (.ldc_w is, 3) := by rw [hb]; exact d4
  have hstr' : vk_R own is text sa s' := vk_R.warm hW0 hstr
  obtain ⟨U, hsteps, hrun, hend, hW, hsame, ce, hce, hO⟩ := X₁.ctorThrowS hexec htr (own := own) (cls := cls) (names := names) (ic := ic) hown' hcls hnames h (fun x hx => nomatch hx) hfX hkX hcellA (by rw [hhp, hT]; exact Nat.le_refl _) (msg := .ref sa) rfl
    (g := { method := m, pc := pc + 7, locals := ls, stack := .ref sa :: .ref T.heap.size :: .ref T.heap.size :: rest, locked := none }) rfl hsize rfl rfl (rest := rest) rfl
    (by rw [hb]; exact d7) (by rw [hb]; exact d10) hout hRframes (by simp only [List.map_cons, List.sum_cons, hcat]; omega) hlocks
  obtain ⟨f1, f2⟩ := vx_frame hsame
  rw [hhp] at f1 f2
  have hWs : s.WarmedH U.vm := State.WarmedH.trans hW0 hW
  have hcl : s.vm.findClass cls = some ce.cls := by
    have h9 := hO.cls
    rw [hvm] at h9
    exact h9
  have hall : s.sameButNew ({ U with vm := s.vm } : State) locs mc ms := by
    subst hA
    obtain ⟨e1, e2⟩ := hsame
    rw [State.setFrames_setFrames] at e1
    have h2 : (T.setVm s.vm).sameButNew ({ U with vm := s.vm } : State) [] (0 + 1) (0 + 6) := ⟨e1, e2⟩
    have h3 := X.same.trans h2
    rw [List.append_nil] at h3
    exact h3.mono hc hs
  refine ⟨U, ?_, .threw T.heap.size, hrun, hend, Or.inr ⟨T.heap.size, rfl, cls, ce, locs, hx U hWs.alike f1 (fun q hq => f2 q hq (fun z hz => nomatch hz)), hce, hO.vm, hcl, hWs, hall, hf⟩⟩
  refine st1 _ ?_
  show Steps p.tables e below (T1.setTop { method := m, pc := pc + 3, locals := ls, stack := .ref T.heap.size :: rest, locked := none }) _
  jvm_step X₁.here [X₁.here.top, hexec, d3', Value.category]
  exact X₁.ldcStringW hexec (own := own) (text := text) (index := is) (a := sa) hown' hstr'.1 hstr'.2
    (g := { method := m, pc := pc + 4, locals := ls, stack := .ref T.heap.size :: .ref T.heap.size :: rest, locked := none }) rfl d4' _ hsteps
end Ends
section Bodies
variable {l : Launch}
theorem vx_ofW {y : MethodName} {ws ws' : List Cond} {rm : Room} {Pc : Array Value → State → Prop} {Qc : Array Value → State → Outcome → State → Prop} {XC : String → State → State → Prop} {mc ms : Nat} {free : Addr → Prop} {cc : ByteArray} {maxL : Nat} {ret : Option FieldType}
    (hy : plainName y.cls = true) (hw : ws = Cond.code y cc maxL ret :: ws')
    (body : ∀ p e s m args below meth c s₁, BodyLoose p l y (headSpec ws rm) cc maxL ret e s m args below meth c s₁ → c.maxLocals = maxL → (∀ x ∈ c.exceptionTable.toList, False) → Pc args s →
      W p l e (headSpec ws rm).room s m args below meth c s.heap [] 0 0 (vx_MQ below Qc XC args s mc ms free) (entryFrame m args maxL)) : vx_Met l y ws rm Pc Qc XC mc ms free := by
  refine MetFree.of_bodyS (code := cc) (maxLocals := maxL) (ret := ret) hy ?_ ?_
  · intro args s m h hn
    obtain ⟨meth, c, h1, h2, h3, h4, h5, h6, -, -⟩ := Cond.code_spec hn (atoms_spec (ws := ws) h _ (by rw [hw]; exact List.mem_cons_self))
    exact ⟨meth, c, h1, h2, h3, h4, h5, h6⟩
  · intro p e s m args below meth c s₁ B hml hP _
    have hh0 : s₁.heap = s.heap := by rw [B.state]; rfl
    have ht : ∀ x ∈ c.exceptionTable.toList, False := by
      obtain ⟨meth9, c9, h1, h2, -, -, -, -, h7, -⟩ := Cond.code_spec B.named (atoms_spec (ws := ws) B.pre _ (by rw [hw]; exact List.mem_cons_self))
      cases Option.some.inj (h1.symm.trans B.method)
      cases Option.some.inj (h2.symm.trans (Stand.of_body B).code)
      intro x hx
      rw [Array.isEmpty_iff.mp h7] at hx
      cases hx
    obtain ⟨t, a1, o, b1, b2, b3⟩ := body p e s m args below meth c s₁ B hml ht hP s₁ hh0 (Stand.of_body B)
    exact ⟨t, o, a1, b1, b2, b3⟩
/-- the table of a body with handlers -/
theorem vx_table {p : Program} {x y : MethodName} {S : Spec} {cc bytes : ByteArray} {maxL maxL' : Nat} {ret ret' : Option FieldType} {e : Env} {s s₁ : State} {m : MethodId} {args : Array Value} {below : List Frame} {meth : Method} {c : Code} {hh : List (Nat × Nat × Nat × Nat)}
    (B : BodyLoose p l y S cc maxL ret e s m args below meth c s₁) (h : (Cond.codeWith y bytes maxL' ret' hh).before args s = true) : c.exceptionTable.toList = tableOf hh := by
  obtain ⟨m9, meth9, c9, hn9, h1, h2, -, -, h6, -⟩ := Cond.codeWith_spec h
  cases Option.some.inj (hn9.symm.trans B.named)
  cases Option.some.inj (h1.symm.trans B.method)
  cases Option.some.inj (h2.symm.trans (Stand.of_body B).code)
  rw [← h6, table_eq]
end Bodies
end VXA
/-! ===== END ===== -/
/-! ===== BEGIN a static call of a method with an exception table ===== -/
section VXS
variable {p : Program} {l : Launch} {e : Env} {R : Room} {s : State} {m : MethodId} {args : Array Value} {below : List Frame} {meth : Method} {c : Code} {T : State} {H : Heap} {locs : List Loc} {cells slots : Nat}
abbrev vx_CSW (R : Room) (s : State) (args : Array Value) (own : String) (index : Nat) (y : MethodName) (bytes : ByteArray) (maxL : Nat) (ret : Option FieldType) (hh : List (Nat × Nat × Nat × Nat)) (ws : List Cond) (rm : Room) (mc ms n : Nat) : Prop :=
  (rm.cells = mc ∧ rm.slots = ms ∧ rm.frames + 1 ≤ R.frames ∧ 8 + (maxL + 11) + rm.locals ≤ R.locals ∧ (∀ w ∈ ws, ∀ (a' : Array Value) (U : State), s.WarmedH U.vm → w.before a' U = true) ∧ Cond.codeWith y bytes maxL ret hh ∈ ws) ∧
  (Cond.codeWith y bytes maxL ret hh).before args s = true ∧ (Cond.initialized y.cls).before args s = true ∧ (y.cls ≠ "java/lang/invoke/MethodHandle" ∧ y.cls ≠ "java/lang/invoke/VarHandle") ∧
  (∀ sig, parseMethodDescriptor y.desc = some sig → n = sig.parameters.length) ∧ (Cond.methodLink own index y).before args s = true ∧ (Cond.static y).before args s = true
theorem vx_cwSW {own : String} {index maxL mc ms : Nat} {y : MethodName} {bytes : ByteArray} {ret : Option FieldType} {hh : List (Nat × Nat × Nat × Nat)} {Ts ws ws' : List Cond} {rm : Room} (n : Nat) (ht : ∀ w ∈ Ts, w.before args s = true) (hT : GoodIn Ts (va_wsS own index y ws)) (hw : ws = Cond.codeWith y bytes maxL ret hh :: ws') (hrc : rm.cells = mc) (hrs : rm.slots = ms)
    (hd : y.cls ≠ "java/lang/invoke/MethodHandle" ∧ y.cls ≠ "java/lang/invoke/VarHandle" ∧ (parseMethodDescriptor y.desc).map (fun d => d.parameters.length) = some n) (hR : rm.frames + 1 ≤ R.frames ∧ 8 + (maxL + 11) + rm.locals ≤ R.locals) :
    vx_CSW R s args own index y bytes maxL ret hh ws rm mc ms n := by
  have ok : ∀ w ∈ va_wsS own index y ws, w.before args s = true := fun w h => ht w (hT w h).1
  have hG : GoodIn Ts ws := fun w h => hT w (by unfold va_wsS; exact List.mem_append_right _ h)
  have hc : Cond.codeWith y bytes maxL ret hh ∈ ws := by rw [hw]; exact List.mem_cons_self
  refine ⟨⟨hrc, hrs, hR.1, hR.2, pay_in ht hG, hc⟩, ht _ (hG _ hc).1, ok _ (by simp [va_wsS]), ⟨hd.1, hd.2.1⟩, fun sig h => ?_, ok _ (by simp [va_wsS]), ok _ (by simp [va_wsS])⟩
  have h2 := hd.2.2
  rw [h] at h2
  exact (Option.some.inj h2).symm
theorem vx_callSW (X : Stand p l e R s m args below meth c T locs cells slots) (hexec : p.tables.exec = Jvm.exec) {own : String} {index : Nat} {y : MethodName} {bytes : ByteArray} {maxL : Nat} {ret : Option FieldType} {hh : List (Nat × Nat × Nat × Nat)}
    (hown : s.vm.findClass own = some m.cls) (hlink : (Cond.methodLink own index y).before args s = true) (hstat : (Cond.static y).before args s = true) (hinit : (Cond.initialized y.cls).before args s = true)
    (hcode : (Cond.codeWith y bytes maxL ret hh).before args s = true) (hy : y.cls ≠ "java/lang/invoke/MethodHandle" ∧ y.cls ≠ "java/lang/invoke/VarHandle")
    {W9 : Nat} {Pre : Pt → Array Value → Prop} {Post : Pt → Array Value → Option Value → Pt → Prop} (hK : Back l R p e below s args y 3 W9 Pre Post)
    {g : JFrame} (hg : g.method = m) (hsize : g.locals.size = c.maxLocals) {argsL rest : List Value} (hlen : ∀ sig, parseMethodDescriptor y.desc = some sig → argsL.length = sig.parameters.length)
    (hstack : g.stack = argsL.reverse ++ rest) (hW : 2 * g.monitorRoom + (rest.map fun v => v.category).sum ≤ W9) (hdg : decode c.code g.pc = .ok (.invokestatic index, 3))
    (hpre : ∀ vm₁, s.WarmedH vm₁ → Pre ⟨T.setVm vm₁, locs, cells, slots⟩ argsL.toArray) :
    ∃ (v : Option Value) (vm₁ : Vm) (B : Pt), s.WarmedH vm₁ ∧ Stand p l e R s m args below meth c B.U B.locs B.cells B.slots ∧ Post ⟨T.setVm vm₁, locs, cells, slots⟩ argsL.toArray v B ∧
      ∀ target, Steps p.tables e below (B.U.setTop { g with pc := g.pc + 3, stack := v.toList ++ rest }) target → Steps p.tables e below (T.setTop g) target := by
  obtain ⟨mk, methM, cM, hnamed, hmethM, -, -, -, -, -, -, hsigM⟩ := Cond.codeWith_spec hcode
  have hstatic : methM.isStatic = true := Cond.static_spec hnamed hmethM hstat
  obtain ⟨kP, hkP, -⟩ := className_of_methodNamed hnamed
  have hinitP : kP.init = .initialized := Cond.initialized_spec (findClass_of_methodNamed hnamed) hkP hinit
  obtain ⟨vm₁, X₁, hstep₁⟩ := X.invokestatic hexec hown hlink hnamed hmethM hstatic hkP hinitP hy (g := g) hg (argsL := argsL) (rest := rest) (hlen _ hsigM) hstack hdg
  obtain ⟨v, B, X', hpost, hsteps⟩ := hK m meth c ⟨T.setVm vm₁, locs, cells, slots⟩ { g with stack := rest } (.invokestatic index) mk argsL.toArray X₁ hg hsize hdg hW (X₁.named hnamed) (hpre vm₁ X₁.warmed)
  exact ⟨v, vm₁, B, X₁.warmed, X', hpost, fun target h => hstep₁ _ fun acts => by rw [doInvoke_state]; exact hsteps.trans h⟩
theorem vx_runSW {y : MethodName} {bytes cc : ByteArray} {maxL nL mc ms n index : Nat} {ret : Option FieldType} {hh : List (Nat × Nat × Nat × Nat)} {ws : List Cond} {rm : Room} {Pc : Array Value → State → Prop} {Qc : Array Value → State → Outcome → State → Prop} {free : Addr → Prop} {Ts : List Cond} {own : String} {As rest : List Value} {g : JFrame}
    (S : CallFix p m c cc nL s args Ts own) (hM : Met l y ws rm Pc Qc mc ms free) (cw : vx_CSW R s args own index y bytes maxL ret hh ws rm mc ms n) (hp : PreS s H Pc As)
    (hg : g.method = m) (hn : As.length = n) (hsize : g.locals.size = nL) (hstack : g.stack = As.reverse ++ rest) (hW : 2 * g.monitorRoom + (rest.map fun v => v.category).sum ≤ 8) (hdg : decode cc g.pc = .ok (.invokestatic index, 3)) (hf : cells + mc ≤ R.cells ∧ slots + ms ≤ R.slots) :
    va_Run p l e R s m args below meth c H locs cells slots mc ms g rest (Qc As.toArray) (free) := by
  obtain ⟨⟨hrc, hrs, hfr, hlo, hws, hcw⟩, hcode, hini, hy, hlen, hl, hstt⟩ := cw
  have hK : Back l R p e below s args y 3 8 (PreOf R mc ms Pc) (PostOf Qc mc ms free) := va_backW (hh := hh) (bytes := bytes) (maxL := maxL) (ret := ret) hM hp.1 hrc hrs hfr hlo hws hcw (fun a' U hW => word_at hW (Or.inl (by first | rfl | simp [Cond.onTables, Cond.keeps, Cond.steady])) hini)
  obtain ⟨hx, hb, hml, ho, -⟩ := S
  intro T hT X
  obtain ⟨v, vm₁, ⟨U', l2, c2, s2⟩, hW₁, X', ⟨g', mk, t, L, e1, e2, hq, h1, hL, h2, h3⟩, st⟩ := vx_callSW X hx (hh := hh) (bytes := bytes) (maxL := maxL) (ret := ret) ho hl hstt hini hcode hy hK hg (hsize.trans hml.symm) (argsL := As) (rest := rest) (fun sig h => hn.trans (hlen sig h)) hstack hW (by rw [hb]; exact hdg)
    (fun vm₁ hW₁ => ⟨hf.1, hf.2, hp.2 (T.setVm vm₁) hT hW₁⟩)
  dsimp only [Pt.U, Pt.locs, Pt.cells, Pt.slots] at X' e1 e2 h1 h2 h3 st
  subst h1; subst h2; subst h3
  exact ⟨v, (T.setVm vm₁).calling g' mk As.toArray, t, U', L, hT, X', hL, e1, e2, hq, st⟩
/-- not caught here, past rows that name other classes: it goes on to the caller -/
theorem vx_outP {p : Program} {l : Launch} {e : Env} {R : Room} {s : State} {m : MethodId} {args : Array Value} {below : List Frame} {meth : Method} {c : Code} {H : Heap} {locs : List Loc} {cells slots : Nat} {free : Addr → Prop} {ls : Array Slot} {rest : List Value} {Qc : Array Value → State → Outcome → State → Prop} {XC : String → State → State → Prop}
    {pc : Nat} {own E : String} {ce : Cell} {q : Addr} {mc ms : Nat} (hown : s.vm.findClass own = some m.cls) (hlocks : meth.locks = false)
    (hpass : ∀ z ∈ c.exceptionTable.toList, covers z pc = false ∨ (z.catchType ≠ 0 ∧ ∃ nm : String, (Cond.classLink own z.catchType nm).before args s = true ∧ va_Nc E nm s)) (hcell : H[q]? = some ce) (hv : ce.vm = .none) (hcl : s.vm.findClass E = some ce.cls)
    (hx : ∀ t : State, t.heap = H → s.vm.Alike t.vm → XC E s t) (hf : ∀ z ∈ locs, free z.base) (hc : cells ≤ mc) (hs : slots ≤ ms) :
    vx_W p l e R s m args below meth c H locs cells slots (vx_MQ below Qc XC args s mc ms free) (F0 m pc ls rest) q := by
  intro T hT X
  have hpl : e.platform.magicAccessors = ({} : Platform).magicAccessors := by rw [X.admits.platform]
  obtain ⟨vm', hW', X', st⟩ := X.outThrough hlocks q (g := F0 m pc ls rest) rfl rfl rfl (cell := ce) (by rw [hT]; exact hcell) (by rw [hv]; rfl)
    (by obtain ⟨k9, h9, -⟩ := Vm.findClass_spec hcl; exact ⟨k9, h9⟩) (fun z hz => by
      rcases hpass z hz with h | ⟨hz0, nm, hl1, hn1⟩
      · exact Or.inl h
      · obtain ⟨c6, hc6, hcl6⟩ := Cond.classLink_spec hown hl1 e.platform hpl
        obtain ⟨a8, b8, h1, h2, h3⟩ := hn1
        cases Option.some.inj (h1.symm.trans hcl)
        cases Option.some.inj (h2.symm.trans hc6)
        exact Or.inr ⟨hz0, _, hcl6, h3⟩)
  obtain ⟨g₀, hfr⟩ := X'.frames_eq
  have hcell9 : ((T.setVm vm').setFrames (.throwing q :: below)).heap[q]? = some ce := by
    show T.heap[q]? = some ce
    rw [hT]; exact hcell
  have hend : Ended ((T.setVm vm').setFrames (.throwing q :: below)) below (.threw q) := State.frames_setFrames _ (State.cur_lt_of_frames hfr)
  refine ⟨(T.setVm vm').setFrames (.throwing q :: below), ?_, .threw q, X'.here.running, hend, Or.inr ⟨q, rfl, E, ce, locs, hx _ hT (X'.ends _).1.alike, hcell9, hv, hcl, (X'.ends _).1, (X'.ends _).2.mono hc hs, hf⟩⟩
  rw [X.pushThrowing_eq]
  exact st
/-- a thing of a world lies in the heap -/
theorem vx_lt {D : va_G} {cl : List vw_C} {ws : va_W} {H1 : Heap} (h : va_P D cl ws H1) {k : Nat} {q : Nat × va_E} (hk : ws[k]? = some q) : q.1 < H1.size := (h k q hk).lt
end VXS
/-! ===== END ===== -/
/-! ===== BEGIN methods with a table of their own: called by a name, returning or throwing ===== -/
section VXH
/-! vx_backW, vx_callVX, vx_callSX, vx_callVW, vx_runVW, vx_runVX, vx_runSX, vx_ofWH follow the same proofs as their sisters above (Free/Laws.lean, Shelf42/LK1.lean); vx_outP calls Shelf42/NT130.lean (outThrough). -/
section
variable {l : Launch} {R : Room} {p : Program} {e : Env} {below : List Frame} {s : State} {sargs : Array Value} {y : MethodName} {len W9 : Nat}
theorem vx_backW {ws : List Cond} {rm : Room} {Pc : Array Value → State → Prop} {Qc : Array Value → State → Outcome → State → Prop} {XC : String → State → State → Prop} {mc ms : Nat} {free : Addr → Prop} {bytes : ByteArray} {maxL : Nat} {ret : Option FieldType} {hh : List (Nat × Nat × Nat × Nat)}
    (hM : vx_Met l y ws rm Pc Qc XC mc ms free) (hblind : FrameBlind Pc) (hrc : rm.cells = mc) (hrs : rm.slots = ms)
    (hframes : rm.frames + 1 ≤ R.frames) (hlocals : W9 + (maxL + 11) + rm.locals ≤ R.locals)
    (hws : ∀ w ∈ ws, ∀ a' U, s.WarmedH U.vm → w.before a' U = true) (hcode : Cond.codeWith y bytes maxL ret hh ∈ ws) (hinit : ∀ a' U, s.WarmedH U.vm → (Cond.initialized y.cls).before a' U = true) :
    vx_Back l R p e below s sargs y len W9 (PreOf R mc ms Pc) (PostOf Qc mc ms free) (vx_Post XC mc ms free) := by
  intro m meth c A g ig mk a X hg hsize hdg hW hn hp
  have h1 : (headSpec ws rm).pre.before a A.U = true := atoms_intro fun w hw => hws w hw _ _ X.warmed
  have h2 : (Cond.codeWith y bytes maxL ret hh).before a A.U = true := hws _ hcode _ _ X.warmed
  have h3 : (Cond.initialized y.cls).before a A.U = true := hinit _ _ X.warmed
  have h4 : A.cells + (headSpec ws rm).room.cells ≤ R.cells := by rw [show (headSpec ws rm).room.cells = mc from hrc]; exact hp.1
  have h5 : A.slots + (headSpec ws rm).room.slots ≤ R.slots := by rw [show (headSpec ws rm).room.slots = ms from hrs]; exact hp.2.1
  have hPc : Pc a (A.U.calling g mk a) := hblind _ _ _ _ hp.2.2
  obtain ⟨U, Ls, c0, s0⟩ := A
  dsimp only [Pt.U, Pt.locs, Pt.cells, Pt.slots] at h1 h2 h3 h4 h5 X hn hPc ⊢
  obtain ⟨m9, methY, cY, hn9, hmY, hcY, -, hlY, -⟩ := Cond.codeWith_spec h2
  cases Option.some.inj (hn9.symm.trans hn)
  obtain ⟨kY, hkY, -⟩ := className_of_methodNamed hn
  have hinitY : kY.init = .initialized := Cond.initialized_spec (findClass_of_methodNamed hn) hkY h3
  have h : At U g.method c below := by rw [hg]; exact X.here
  have hlocals9 : W9 + (maxL + 11) + (headSpec ws rm).room.locals ≤ R.locals := hlocals
  have happ : (headSpec ws rm).appliesLoose y e.platform (U.calling g mk a) = true :=
    Spec.appliesLoose_calling (g := g) h hdg hn hkY hinitY
      (X.room_calling (g := g) (R' := (headSpec ws rm).room) hsize hmY hcY hframes (by rw [hlY]; omega) h4 h5) h1
  obtain ⟨mid, hmid⟩ := h.above
  have hfr : (U.setTop g).frames = (.java g :: mid) ++ below := by rw [State.frames_setTop' g h.top, hmid]; rfl
  obtain ⟨o, s₂, hsteps, -, hend, hq⟩ := Steps.callFree hM p X.admits X.cas X.clock (acts := []) hfr happ hPc trivial
  have hq' : vx_Q Qc XC mc ms free a (U.calling g mk a) o s₂ := hq
  rw [State.frames_setTop' g h.top] at hend
  obtain ⟨g₀, hg0⟩ := Option.isSome_iff_exists.mp h.top
  obtain ⟨r, hr⟩ := State.topJava?_eq_some.mp hg0
  have hr' : (({ U with heap := s₂.heap, slotsUsed := s₂.slotsUsed } : State).setVm s₂.vm).frames = .java g₀ :: r := hr
  rcases hq' with ⟨hqc, L, hfe, hL⟩ | ⟨q, rfl, E, ce, L, hx, hce, hcv, hcl, hW₂, hsm, hL⟩
  · obtain ⟨⟨v, rfl⟩, hW₂, e2, q2, q3, q4, q5, q6⟩ := id hfe
    have e3 : s₂ = ({ (U.calling g mk a).setFrames s₂.frames with heap := s₂.heap, slotsUsed := s₂.slotsUsed } : State).setVm s₂.vm := by
      have : s₂ = ({ s₂ with vm := (U.calling g mk a).vm } : State).setVm s₂.vm := rfl
      rw [e2] at this
      exact this
    obtain ⟨c₂, i₂, len₂, hc₂, hd₂, hf₂⟩ := hend
    have hW' : U.WarmedH s₂.vm := hW₂
    have hcc : c₂ = c := by
      have h1 : s₂.code? g.method = U.code? g.method := by
        rw [State.code?_eq, State.code?_eq, hW'.alike.method?]
      exact Option.some.inj (hc₂.symm.trans (h1.trans h.code))
    subst hcc
    have hlen : len₂ = len := by rw [hdg] at hd₂; cases hd₂; rfl
    subst hlen
    have hs₂ : s₂ = (({ U with heap := s₂.heap, slotsUsed := s₂.slotsUsed } : State).setVm s₂.vm).setTop { g with pc := g.pc + len₂, stack := v.toList ++ g.stack } := by
      refine e3.trans ?_
      rw [hf₂, State.calling_eq h.top, State.setFrames_setFrames, State.setTop_of_frames _ hr', hr]
      rfl
    have hsame : U.sameButNew ({ U with heap := s₂.heap, slotsUsed := s₂.slotsUsed } : State) L mc ms := by
      refine ⟨?_, q2, q3, q4, q5, q6⟩
      obtain ⟨t, ht, -⟩ := State.frames_cons hr
      show ({ U with heap := s₂.heap, slotsUsed := s₂.slotsUsed } : State) = { U.setFrames U.frames with heap := s₂.heap, slotsUsed := s₂.slotsUsed }
      rw [State.setFrames_self ht]
    subst hg
    refine Or.inl ⟨v, ⟨(({ U with heap := s₂.heap, slotsUsed := s₂.slotsUsed } : State).setVm s₂.vm), Ls ++ L, c0 + mc, s0 + ms⟩,
      ⟨X.admits, X.cas, X.clock, X.frames, X.room, X.hears, X.method, X.code, (X.here.setHeapUsed s₂.heap s₂.slotsUsed).setVm hW'.alike, X.tail, State.WarmedH.trans X.warmed hW', X.limits, X.bytes, X.same.trans (hsame.setVm s.vm)⟩,
      ⟨g, mk, s₂, L, rfl, rfl, hqc, rfl, hL, rfl, rfl⟩, ?_⟩
    show Steps p.tables e below _ ((({ U with heap := s₂.heap, slotsUsed := s₂.slotsUsed } : State).setVm s₂.vm).setTop { g with pc := g.pc + len₂, stack := v.toList ++ g.stack })
    rw [← hs₂]
    exact hsteps
  · obtain ⟨e2, q2, q3, q4, q5, q6⟩ := id hsm
    have e3 : s₂ = ({ (U.calling g mk a).setFrames s₂.frames with heap := s₂.heap, slotsUsed := s₂.slotsUsed } : State).setVm s₂.vm := by
      have : s₂ = ({ s₂ with vm := (U.calling g mk a).vm } : State).setVm s₂.vm := rfl
      rw [e2] at this
      exact this
    have hf₂ : s₂.frames = .throwing q :: .java g :: U.frames.tail := hend
    have hW' : U.WarmedH s₂.vm := hW₂
    have hs₂ : s₂ = ((({ U with heap := s₂.heap, slotsUsed := s₂.slotsUsed } : State).setVm s₂.vm).setTop g).pushFrame (.throwing q) := by
      refine e3.trans ?_
      rw [hf₂, State.calling_eq h.top, State.setFrames_setFrames, State.pushFrame, State.frames_setTop _ hr', State.setTop_of_frames _ hr', State.setFrames_setFrames, hr]
      rfl
    have hsame : U.sameButNew ({ U with heap := s₂.heap, slotsUsed := s₂.slotsUsed } : State) L mc ms := by
      refine ⟨?_, q2, q3, q4, q5, q6⟩
      obtain ⟨t, ht, -⟩ := State.frames_cons hr
      show ({ U with heap := s₂.heap, slotsUsed := s₂.slotsUsed } : State) = { U.setFrames U.frames with heap := s₂.heap, slotsUsed := s₂.slotsUsed }
      rw [State.setFrames_self ht]
    subst hg
    refine Or.inr ⟨q, ⟨(({ U with heap := s₂.heap, slotsUsed := s₂.slotsUsed } : State).setVm s₂.vm), Ls ++ L, c0 + mc, s0 + ms⟩,
      ⟨X.admits, X.cas, X.clock, X.frames, X.room, X.hears, X.method, X.code, (X.here.setHeapUsed s₂.heap s₂.slotsUsed).setVm hW'.alike, X.tail, State.WarmedH.trans X.warmed hW', X.limits, X.bytes, X.same.trans (hsame.setVm s.vm)⟩,
      ⟨g, mk, s₂, L, E, ce, rfl, rfl, hx, hce, hcv, hcl, rfl, hL, rfl, rfl⟩, ?_⟩
    show Steps p.tables e below _ (((({ U with heap := s₂.heap, slotsUsed := s₂.slotsUsed } : State).setVm s₂.vm).setTop g).pushFrame (.throwing q))
    rw [← hs₂]
    exact hsteps
end
variable {p : Program} {l : Launch} {e : Env} {R : Room} {s : State} {m : MethodId} {args : Array Value} {below : List Frame} {meth : Method} {c : Code} {T : State} {H : Heap} {locs : List Loc} {cells slots : Nat}
theorem vx_callVX (X : Stand p l e R s m args below meth c T locs cells slots) (hexec : p.tables.exec = Jvm.exec) {own C : String} {index : Nat} {y : MethodName} {bytes : ByteArray} {maxL : Nat} {ret : Option FieldType} {hh : List (Nat × Nat × Nat × Nat)}
    (hown : s.vm.findClass own = some m.cls) (hlink : (Cond.methodLink own index y).before args s = true) (hinst : (Cond.instanceMethod y).before args s = true) (hsel : (Cond.selects C y y).before args s = true)
    (hcode : (Cond.codeWith y bytes maxL ret hh).before args s = true) (hy : y.cls ≠ "java/lang/invoke/MethodHandle" ∧ y.cls ≠ "java/lang/invoke/VarHandle")
    {W9 : Nat} {Pre : Pt → Array Value → Prop} {Post : Pt → Array Value → Option Value → Pt → Prop} {PostX : Pt → Array Value → Addr → Pt → Prop} (hK : vx_Back l R p e below s args y 3 W9 Pre Post PostX)
    {b : Addr} {cellB : Cell} (hcell : T.heap[b]? = some cellB) (hobj : cellB.vm.isStatics = false) (hcls : s.vm.findClass C = some cellB.cls)
    {g : JFrame} (hg : g.method = m) (hsize : g.locals.size = c.maxLocals) {argsL rest : List Value} (hlen : ∀ sig, parseMethodDescriptor y.desc = some sig → argsL.length = sig.parameters.length)
    (hstack : g.stack = argsL.reverse ++ .ref b :: rest) (hW : 2 * g.monitorRoom + (rest.map fun v => v.category).sum ≤ W9) (hdg : decode c.code g.pc = .ok (.invokevirtual index, 3))
    (hpre : ∀ vm₁, s.WarmedH vm₁ → Pre ⟨T.setVm vm₁, locs, cells, slots⟩ (Value.ref b :: argsL).toArray) :
    (∃ (v : Option Value) (vm₁ : Vm) (B : Pt), s.WarmedH vm₁ ∧ Stand p l e R s m args below meth c B.U B.locs B.cells B.slots ∧ Post ⟨T.setVm vm₁, locs, cells, slots⟩ (Value.ref b :: argsL).toArray v B ∧
      ∀ target, Steps p.tables e below (B.U.setTop { g with pc := g.pc + 3, stack := v.toList ++ rest }) target → Steps p.tables e below (T.setTop g) target) ∨
    (∃ (q : Addr) (vm₁ : Vm) (B : Pt), s.WarmedH vm₁ ∧ Stand p l e R s m args below meth c B.U B.locs B.cells B.slots ∧ PostX ⟨T.setVm vm₁, locs, cells, slots⟩ (Value.ref b :: argsL).toArray q B ∧
      Steps p.tables e below (T.setTop g) ((B.U.setTop { g with stack := rest }).pushFrame (.throwing q))) := by
  obtain ⟨mk, methM, hnamed, hmethM, hstM, habM⟩ := Cond.instanceMethod_spec hinst
  obtain ⟨m8, methM', cM, hn8, hmethM', -, -, -, -, -, -, hsigM⟩ := Cond.codeWith_spec hcode
  cases Option.some.inj (hn8.symm.trans hnamed)
  cases hmethM.symm.trans hmethM'
  obtain ⟨c2, r2, m2, q1, q2, q3, q4, kP, hkP, hkPi⟩ := Cond.selects_spec hsel
  cases hcls.symm.trans q1
  cases (State.methodFound?_of_named hnamed hy).symm.trans q2
  cases hnamed.symm.trans q3
  have hselP : selectMethod e.platform s.vm cellB.cls mk = .method mk := by rw [Launch.admits_selectMethod X.admits]; exact q4
  obtain ⟨vm₁, X₁, hstep₁⟩ := X.invokevirtual hexec hown hlink hnamed hmethM hstM hkP hkPi hy (a := b) (cell := cellB) hcell
    (fun z h => by rw [h] at hobj; cases hobj) hselP hmethM habM hkP hkPi (g := g) hg (argsL := argsL) (rest := rest) (hlen _ hsigM) hstack hdg
  rcases hK m meth c ⟨T.setVm vm₁, locs, cells, slots⟩ { g with stack := rest } (.invokevirtual index) mk (Value.ref b :: argsL).toArray X₁ hg hsize hdg hW (X₁.named hnamed) (hpre vm₁ X₁.warmed) with ⟨v, B, X', hpost, hsteps⟩ | ⟨q, B, X', hpost, hsteps⟩
  · exact Or.inl ⟨v, vm₁, B, X₁.warmed, X', hpost, fun target h => hstep₁ _ fun acts => by rw [doInvoke_state]; exact hsteps.trans h⟩
  · exact Or.inr ⟨q, vm₁, B, X₁.warmed, X', hpost, hstep₁ _ fun acts => by rw [doInvoke_state]; exact hsteps⟩
theorem vx_callSX (X : Stand p l e R s m args below meth c T locs cells slots) (hexec : p.tables.exec = Jvm.exec) {own : String} {index : Nat} {y : MethodName} {bytes : ByteArray} {maxL : Nat} {ret : Option FieldType} {hh : List (Nat × Nat × Nat × Nat)}
    (hown : s.vm.findClass own = some m.cls) (hlink : (Cond.methodLink own index y).before args s = true) (hstat : (Cond.static y).before args s = true) (hinit : (Cond.initialized y.cls).before args s = true)
    (hcode : (Cond.codeWith y bytes maxL ret hh).before args s = true) (hy : y.cls ≠ "java/lang/invoke/MethodHandle" ∧ y.cls ≠ "java/lang/invoke/VarHandle")
    {W9 : Nat} {Pre : Pt → Array Value → Prop} {Post : Pt → Array Value → Option Value → Pt → Prop} {PostX : Pt → Array Value → Addr → Pt → Prop} (hK : vx_Back l R p e below s args y 3 W9 Pre Post PostX)
    {g : JFrame} (hg : g.method = m) (hsize : g.locals.size = c.maxLocals) {argsL rest : List Value} (hlen : ∀ sig, parseMethodDescriptor y.desc = some sig → argsL.length = sig.parameters.length)
    (hstack : g.stack = argsL.reverse ++ rest) (hW : 2 * g.monitorRoom + (rest.map fun v => v.category).sum ≤ W9) (hdg : decode c.code g.pc = .ok (.invokestatic index, 3))
    (hpre : ∀ vm₁, s.WarmedH vm₁ → Pre ⟨T.setVm vm₁, locs, cells, slots⟩ argsL.toArray) :
    (∃ (v : Option Value) (vm₁ : Vm) (B : Pt), s.WarmedH vm₁ ∧ Stand p l e R s m args below meth c B.U B.locs B.cells B.slots ∧ Post ⟨T.setVm vm₁, locs, cells, slots⟩ argsL.toArray v B ∧
      ∀ target, Steps p.tables e below (B.U.setTop { g with pc := g.pc + 3, stack := v.toList ++ rest }) target → Steps p.tables e below (T.setTop g) target) ∨
    (∃ (q : Addr) (vm₁ : Vm) (B : Pt), s.WarmedH vm₁ ∧ Stand p l e R s m args below meth c B.U B.locs B.cells B.slots ∧ PostX ⟨T.setVm vm₁, locs, cells, slots⟩ argsL.toArray q B ∧
      Steps p.tables e below (T.setTop g) ((B.U.setTop { g with stack := rest }).pushFrame (.throwing q))) := by
  obtain ⟨mk, methM, cM, hnamed, hmethM, -, -, -, -, -, -, hsigM⟩ := Cond.codeWith_spec hcode
  have hstatic : methM.isStatic = true := Cond.static_spec hnamed hmethM hstat
  obtain ⟨kP, hkP, -⟩ := className_of_methodNamed hnamed
  have hinitP : kP.init = .initialized := Cond.initialized_spec (findClass_of_methodNamed hnamed) hkP hinit
  obtain ⟨vm₁, X₁, hstep₁⟩ := X.invokestatic hexec hown hlink hnamed hmethM hstatic hkP hinitP hy (g := g) hg (argsL := argsL) (rest := rest) (hlen _ hsigM) hstack hdg
  rcases hK m meth c ⟨T.setVm vm₁, locs, cells, slots⟩ { g with stack := rest } (.invokestatic index) mk argsL.toArray X₁ hg hsize hdg hW (X₁.named hnamed) (hpre vm₁ X₁.warmed) with ⟨v, B, X', hpost, hsteps⟩ | ⟨q, B, X', hpost, hsteps⟩
  · exact Or.inl ⟨v, vm₁, B, X₁.warmed, X', hpost, fun target h => hstep₁ _ fun acts => by rw [doInvoke_state]; exact hsteps.trans h⟩
  · exact Or.inr ⟨q, vm₁, B, X₁.warmed, X', hpost, hstep₁ _ fun acts => by rw [doInvoke_state]; exact hsteps⟩
theorem vx_callVW (X : Stand p l e R s m args below meth c T locs cells slots) (hexec : p.tables.exec = Jvm.exec) {own C : String} {index : Nat} {y : MethodName} {bytes : ByteArray} {maxL : Nat} {ret : Option FieldType} {hh : List (Nat × Nat × Nat × Nat)}
    (hown : s.vm.findClass own = some m.cls) (hlink : (Cond.methodLink own index y).before args s = true) (hinst : (Cond.instanceMethod y).before args s = true) (hsel : (Cond.selects C y y).before args s = true)
    (hcode : (Cond.codeWith y bytes maxL ret hh).before args s = true) (hy : y.cls ≠ "java/lang/invoke/MethodHandle" ∧ y.cls ≠ "java/lang/invoke/VarHandle")
    {W9 : Nat} {Pre : Pt → Array Value → Prop} {Post : Pt → Array Value → Option Value → Pt → Prop} (hK : Back l R p e below s args y 3 W9 Pre Post)
    {b : Addr} {cellB : Cell} (hcell : T.heap[b]? = some cellB) (hobj : cellB.vm.isStatics = false) (hcls : s.vm.findClass C = some cellB.cls)
    {g : JFrame} (hg : g.method = m) (hsize : g.locals.size = c.maxLocals) {argsL rest : List Value} (hlen : ∀ sig, parseMethodDescriptor y.desc = some sig → argsL.length = sig.parameters.length)
    (hstack : g.stack = argsL.reverse ++ .ref b :: rest) (hW : 2 * g.monitorRoom + (rest.map fun v => v.category).sum ≤ W9) (hdg : decode c.code g.pc = .ok (.invokevirtual index, 3))
    (hpre : ∀ vm₁, s.WarmedH vm₁ → Pre ⟨T.setVm vm₁, locs, cells, slots⟩ (Value.ref b :: argsL).toArray) :
    ∃ (v : Option Value) (vm₁ : Vm) (B : Pt), s.WarmedH vm₁ ∧ Stand p l e R s m args below meth c B.U B.locs B.cells B.slots ∧ Post ⟨T.setVm vm₁, locs, cells, slots⟩ (Value.ref b :: argsL).toArray v B ∧
      ∀ target, Steps p.tables e below (B.U.setTop { g with pc := g.pc + 3, stack := v.toList ++ rest }) target → Steps p.tables e below (T.setTop g) target := by
  obtain ⟨mk, methM, hnamed, hmethM, hstM, habM⟩ := Cond.instanceMethod_spec hinst
  obtain ⟨m8, methM', cM, hn8, hmethM', -, -, -, -, -, -, hsigM⟩ := Cond.codeWith_spec hcode
  cases Option.some.inj (hn8.symm.trans hnamed)
  cases hmethM.symm.trans hmethM'
  obtain ⟨c2, r2, m2, q1, q2, q3, q4, kP, hkP, hkPi⟩ := Cond.selects_spec hsel
  cases hcls.symm.trans q1
  cases (State.methodFound?_of_named hnamed hy).symm.trans q2
  cases hnamed.symm.trans q3
  have hselP : selectMethod e.platform s.vm cellB.cls mk = .method mk := by rw [Launch.admits_selectMethod X.admits]; exact q4
  obtain ⟨vm₁, X₁, hstep₁⟩ := X.invokevirtual hexec hown hlink hnamed hmethM hstM hkP hkPi hy (a := b) (cell := cellB) hcell
    (fun z h => by rw [h] at hobj; cases hobj) hselP hmethM habM hkP hkPi (g := g) hg (argsL := argsL) (rest := rest) (hlen _ hsigM) hstack hdg
  obtain ⟨v, B, X', hpost, hsteps⟩ := hK m meth c ⟨T.setVm vm₁, locs, cells, slots⟩ { g with stack := rest } (.invokevirtual index) mk (Value.ref b :: argsL).toArray X₁ hg hsize hdg hW (X₁.named hnamed) (hpre vm₁ X₁.warmed)
  exact ⟨v, vm₁, B, X₁.warmed, X', hpost, fun target h => hstep₁ _ fun acts => by rw [doInvoke_state]; exact hsteps.trans h⟩
abbrev vx_CVW (R : Room) (s : State) (args : Array Value) (own C : String) (index : Nat) (y : MethodName) (bytes : ByteArray) (maxL : Nat) (ret : Option FieldType) (hh : List (Nat × Nat × Nat × Nat)) (ws : List Cond) (rm : Room) (mc ms n : Nat) : Prop :=
  (rm.cells = mc ∧ rm.slots = ms ∧ rm.frames + 1 ≤ R.frames ∧ 8 + (maxL + 11) + rm.locals ≤ R.locals ∧ (∀ w ∈ ws, ∀ (a' : Array Value) (U : State), s.WarmedH U.vm → w.before a' U = true) ∧ Cond.codeWith y bytes maxL ret hh ∈ ws) ∧
  (Cond.codeWith y bytes maxL ret hh).before args s = true ∧ (Cond.initialized y.cls).before args s = true ∧ (y.cls ≠ "java/lang/invoke/MethodHandle" ∧ y.cls ≠ "java/lang/invoke/VarHandle") ∧
  (∀ sig, parseMethodDescriptor y.desc = some sig → n = sig.parameters.length) ∧ (Cond.methodLink own index y).before args s = true ∧ (Cond.instanceMethod y).before args s = true ∧ (Cond.selects C y y).before args s = true
theorem vx_cwVW {own C : String} {index maxL mc ms : Nat} {y : MethodName} {bytes : ByteArray} {ret : Option FieldType} {hh : List (Nat × Nat × Nat × Nat)} {Ts ws ws' : List Cond} {rm : Room} (n : Nat) (ht : ∀ w ∈ Ts, w.before args s = true) (hT : GoodIn Ts (wsV own index C y ws)) (hw : ws = Cond.codeWith y bytes maxL ret hh :: ws') (hrc : rm.cells = mc) (hrs : rm.slots = ms)
    (hd : y.cls = C ∧ y.cls ≠ "java/lang/invoke/MethodHandle" ∧ y.cls ≠ "java/lang/invoke/VarHandle" ∧ (parseMethodDescriptor y.desc).map (fun d => d.parameters.length) = some n) (hR : rm.frames + 1 ≤ R.frames ∧ 8 + (maxL + 11) + rm.locals ≤ R.locals) :
    vx_CVW R s args own C index y bytes maxL ret hh ws rm mc ms n := by
  obtain ⟨hC, hd⟩ := hd
  subst hC
  have ok : ∀ w ∈ wsV own index y.cls y ws, w.before args s = true := fun w h => ht w (hT w h).1
  have hG : GoodIn Ts ws := fun w h => hT w (by unfold wsV; exact List.mem_append_right _ h)
  have hc : Cond.codeWith y bytes maxL ret hh ∈ ws := by rw [hw]; exact List.mem_cons_self
  refine ⟨⟨hrc, hrs, hR.1, hR.2, pay_in ht hG, hc⟩, ht _ (hG _ hc).1, ok _ (by simp [wsV]), ⟨hd.1, hd.2.1⟩, fun sig h => ?_, ok _ (by simp [wsV]), ok _ (by simp [wsV]), ok _ (by simp [wsV])⟩
  have h2 := hd.2.2
  rw [h] at h2
  exact (Option.some.inj h2).symm
theorem vx_runVW {y : MethodName} {bytes cc : ByteArray} {maxL nL mc ms n index : Nat} {ret : Option FieldType} {hh : List (Nat × Nat × Nat × Nat)} {ws : List Cond} {rm : Room} {Pc : Array Value → State → Prop} {Qc : Array Value → State → Outcome → State → Prop} {free : Addr → Prop} {Ts : List Cond} {own C : String} {b : Addr} {As rest : List Value} {g : JFrame}
    (S : CallFix p m c cc nL s args Ts own) (hM : Met l y ws rm Pc Qc mc ms free) (cw : vx_CVW R s args own C index y bytes maxL ret hh ws rm mc ms n) (hp : PreV s H C b Pc As)
    (hg : g.method = m) (hn : As.length = n) (hsize : g.locals.size = nL) (hstack : g.stack = As.reverse ++ .ref b :: rest) (hW : 2 * g.monitorRoom + (rest.map fun v => v.category).sum ≤ 8) (hdg : decode cc g.pc = .ok (.invokevirtual index, 3)) (hf : cells + mc ≤ R.cells ∧ slots + ms ≤ R.slots) :
    va_Run p l e R s m args below meth c H locs cells slots mc ms g rest (Qc (Value.ref b :: As).toArray) free := by
  obtain ⟨⟨hrc, hrs, hfr, hlo, hws, hcw⟩, hcode, hini, hy, hlen, hl, hin, hse⟩ := cw
  have hK : Back l R p e below s args y 3 8 (PreOf R mc ms Pc) (PostOf Qc mc ms free) := va_backW (hh := hh) (bytes := bytes) (maxL := maxL) (ret := ret) hM hp.1 hrc hrs hfr hlo hws hcw (fun a' U hW => word_at hW (Or.inl (by first | rfl | simp [Cond.onTables, Cond.keeps, Cond.steady])) hini)
  obtain ⟨hx, hb, hml, ho, -⟩ := S
  obtain ⟨-, ⟨cellB, hcB, hoB, hclB⟩, hPc⟩ := hp
  intro T hT X
  obtain ⟨v, vm₁, ⟨U', l2, c2, s2⟩, hW₁, X', ⟨g', mk, t, L, e1, e2, hq, h1, hL, h2, h3⟩, st⟩ := vx_callVW X hx (C := C) (hh := hh) (bytes := bytes) (maxL := maxL) (ret := ret) ho hl hin hse hcode hy hK (by rw [hT]; exact hcB) hoB hclB hg (hsize.trans hml.symm) (argsL := As) (rest := rest) (fun sig h => hn.trans (hlen sig h)) hstack hW (by rw [hb]; exact hdg)
    (fun vm₁ hW₁ => ⟨hf.1, hf.2, hPc (T.setVm vm₁) hT hW₁⟩)
  dsimp only [Pt.U, Pt.locs, Pt.cells, Pt.slots] at X' e1 e2 h1 h2 h3 st
  subst h1; subst h2; subst h3
  exact ⟨v, (T.setVm vm₁).calling g' mk (Value.ref b :: As).toArray, t, U', L, hT, X', hL, e1, e2, hq, st⟩
section
variable {y : MethodName} {bytes cc : ByteArray} {maxL nL mc ms n index : Nat} {ret : Option FieldType} {ws : List Cond} {rm : Room} {Pc : Array Value → State → Prop} {Qc : Array Value → State → Outcome → State → Prop} {XC : String → State → State → Prop} {free : Addr → Prop} {Ts : List Cond} {own C : String} {b : Addr} {As rest : List Value} {g : JFrame}
theorem vx_runVX {hh : List (Nat × Nat × Nat × Nat)} (S : CallFix p m c cc nL s args Ts own) (hM : vx_Met l y ws rm Pc Qc XC mc ms free) (cw : vx_CVW R s args own C index y bytes maxL ret hh ws rm mc ms n) (hp : PreV s H C b Pc As)
    (hg : g.method = m) (hn : As.length = n) (hsize : g.locals.size = nL) (hstack : g.stack = As.reverse ++ .ref b :: rest) (hW : 2 * g.monitorRoom + (rest.map fun v => v.category).sum ≤ 8) (hdg : decode cc g.pc = .ok (.invokevirtual index, 3)) (hf : cells + mc ≤ R.cells ∧ slots + ms ≤ R.slots) :
    vx_Run p l e R s m args below meth c H locs cells slots mc ms g rest (Qc (Value.ref b :: As).toArray) XC free := by
  obtain ⟨⟨hrc, hrs, hfr, hlo, hws, hcw⟩, hcode, hini, hy, hlen, hl, hin, hse⟩ := cw
  have hK : vx_Back l R p e below s args y 3 8 (PreOf R mc ms Pc) (PostOf Qc mc ms free) (vx_Post XC mc ms free) := vx_backW (hh := hh) (bytes := bytes) (maxL := maxL) (ret := ret) hM hp.1 hrc hrs hfr hlo hws hcw (fun a' U hW => word_at hW (Or.inl (by first | rfl | simp [Cond.onTables, Cond.keeps, Cond.steady])) hini)
  obtain ⟨hx, hb, hml, ho, -⟩ := S
  obtain ⟨-, ⟨cellB, hcB, hoB, hclB⟩, hPc⟩ := hp
  intro T hT X
  rcases vx_callVX X hx (C := C) (hh := hh) (bytes := bytes) (maxL := maxL) (ret := ret) ho hl hin hse hcode hy hK (by rw [hT]; exact hcB) hoB hclB hg (hsize.trans hml.symm) (argsL := As) (rest := rest) (fun sig h => hn.trans (hlen sig h)) hstack hW (by rw [hb]; exact hdg)
    (fun vm₁ hW₁ => ⟨hf.1, hf.2, hPc (T.setVm vm₁) hT hW₁⟩) with ⟨v, vm₁, ⟨U', l2, c2, s2⟩, hW₁, X', ⟨g', mk, t, L, e1, e2, hq, h1, hL, h2, h3⟩, st⟩ | ⟨q, vm₁, ⟨U', l2, c2, s2⟩, hW₁, X', ⟨g', mk, t, L, E, ce, e1, e2, hq, hce, hcv, hcl, h1, hL, h2, h3⟩, st⟩
  · dsimp only [Pt.U, Pt.locs, Pt.cells, Pt.slots] at X' e1 e2 h1 h2 h3 st
    subst h1; subst h2; subst h3
    exact Or.inl ⟨v, (T.setVm vm₁).calling g' mk (Value.ref b :: As).toArray, t, U', L, hT, X', hL, e1, e2, hq, st⟩
  · dsimp only [Pt.U, Pt.locs, Pt.cells, Pt.slots] at X' e1 e2 h1 h2 h3 st hcl
    subst h1; subst h2; subst h3
    exact Or.inr ⟨q, (T.setVm vm₁).calling g' mk (Value.ref b :: As).toArray, t, U', L, E, ce, hT, X', hL, e1, e2, hq, hce, hcv, vx_cls hW₁ hcl, st⟩
theorem vx_runSX {hh : List (Nat × Nat × Nat × Nat)} (S : CallFix p m c cc nL s args Ts own) (hM : vx_Met l y ws rm Pc Qc XC mc ms free) (cw : vx_CSW R s args own index y bytes maxL ret hh ws rm mc ms n) (hp : PreS s H Pc As)
    (hg : g.method = m) (hn : As.length = n) (hsize : g.locals.size = nL) (hstack : g.stack = As.reverse ++ rest) (hW : 2 * g.monitorRoom + (rest.map fun v => v.category).sum ≤ 8) (hdg : decode cc g.pc = .ok (.invokestatic index, 3)) (hf : cells + mc ≤ R.cells ∧ slots + ms ≤ R.slots) :
    vx_Run p l e R s m args below meth c H locs cells slots mc ms g rest (Qc As.toArray) XC free := by
  obtain ⟨⟨hrc, hrs, hfr, hlo, hws, hcw⟩, hcode, hini, hy, hlen, hl, hstt⟩ := cw
  have hK : vx_Back l R p e below s args y 3 8 (PreOf R mc ms Pc) (PostOf Qc mc ms free) (vx_Post XC mc ms free) := vx_backW (hh := hh) (bytes := bytes) (maxL := maxL) (ret := ret) hM hp.1 hrc hrs hfr hlo hws hcw (fun a' U hW => word_at hW (Or.inl (by first | rfl | simp [Cond.onTables, Cond.keeps, Cond.steady])) hini)
  obtain ⟨hx, hb, hml, ho, -⟩ := S
  intro T hT X
  rcases vx_callSX X hx (hh := hh) (bytes := bytes) (maxL := maxL) (ret := ret) ho hl hstt hini hcode hy hK hg (hsize.trans hml.symm) (argsL := As) (rest := rest) (fun sig h => hn.trans (hlen sig h)) hstack hW (by rw [hb]; exact hdg)
    (fun vm₁ hW₁ => ⟨hf.1, hf.2, hp.2 (T.setVm vm₁) hT hW₁⟩) with ⟨v, vm₁, ⟨U', l2, c2, s2⟩, hW₁, X', ⟨g', mk, t, L, e1, e2, hq, h1, hL, h2, h3⟩, st⟩ | ⟨q, vm₁, ⟨U', l2, c2, s2⟩, hW₁, X', ⟨g', mk, t, L, E, ce, e1, e2, hq, hce, hcv, hcl, h1, hL, h2, h3⟩, st⟩
  · dsimp only [Pt.U, Pt.locs, Pt.cells, Pt.slots] at X' e1 e2 h1 h2 h3 st
    subst h1; subst h2; subst h3
    exact Or.inl ⟨v, (T.setVm vm₁).calling g' mk As.toArray, t, U', L, hT, X', hL, e1, e2, hq, st⟩
  · dsimp only [Pt.U, Pt.locs, Pt.cells, Pt.slots] at X' e1 e2 h1 h2 h3 st hcl
    subst h1; subst h2; subst h3
    exact Or.inr ⟨q, (T.setVm vm₁).calling g' mk As.toArray, t, U', L, E, ce, hT, X', hL, e1, e2, hq, hce, hcv, vx_cls hW₁ hcl, st⟩
end
end VXH
theorem vx_ofWH {l : Launch} {y : MethodName} {ws ws' : List Cond} {rm : Room} {Pc : Array Value → State → Prop} {Qc : Array Value → State → Outcome → State → Prop} {XC : String → State → State → Prop} {mc ms : Nat} {free : Addr → Prop} {cc : ByteArray} {maxL : Nat} {ret : Option FieldType} {hh : List (Nat × Nat × Nat × Nat)}
    (hy : plainName y.cls = true) (hw : ws = Cond.codeWith y cc maxL ret hh :: ws')
    (body : ∀ p e s m args below meth c s₁, BodyLoose p l y (headSpec ws rm) cc maxL ret e s m args below meth c s₁ → c.maxLocals = maxL → Pc args s →
      W p l e (headSpec ws rm).room s m args below meth c s.heap [] 0 0 (vx_MQ below Qc XC args s mc ms free) (entryFrame m args maxL)) : vx_Met l y ws rm Pc Qc XC mc ms free := by
  refine MetFree.of_bodyS (code := cc) (maxLocals := maxL) (ret := ret) hy ?_ ?_
  · intro args s m h hn
    obtain ⟨m9, meth, c, hn9, h1, h2, h3, h4, -, h5, h6, -⟩ := Cond.codeWith_spec (atoms_spec (ws := ws) h _ (by rw [hw]; exact List.mem_cons_self))
    cases hn.symm.trans hn9
    exact ⟨meth, c, h1, h2, h3, h4, h5, h6⟩
  · intro p e s m args below meth c s₁ B hml hP _
    have hh0 : s₁.heap = s.heap := by rw [B.state]; rfl
    obtain ⟨t, a1, o, b1, b2, b3⟩ := body p e s m args below meth c s₁ B hml hP s₁ hh0 (Stand.of_body B)
    exact ⟨t, o, a1, b1, b2, b3⟩
/-! ===== END ===== -/
end
section
/-! ===== BEGIN printed: names, fields, word lists, decode rows ===== -/
def RX0 : String := "AlumWorks$Clamps"
def TX0 : u_T := fun k => match k with
  | 0 => ("AlumWorks$Clamps", "shale", "[I", true)
  | 1 => ("AlumWorks$Clamps", "coal", "[I", true)
  | 2 => ("AlumWorks$Clamps", "burnt", "[I", true)
  | 3 => ("AlumWorks$Clamps", "burns", "[Z", true)
  | _ => ("AlumWorks$Clamps", "many", "I", false)
def tyX0 : Nat → FieldType := fun k => match k with
  | 0 => .array .int
  | 1 => .array .int
  | 2 => .array .int
  | 3 => .array .boolean
  | _ => .int
abbrev wsX00 : List Cond := u_ws RX0 TX0 5
theorem nmX0 : ∀ a, a < 5 → ∀ b, b < 5 → a ≠ b → (TX0 a).2.1 ≠ (TX0 b).2.1 := by decide +kernel
theorem tyX0_ok : ∀ k, k < 5 → parseFieldDescriptor (TX0 k).2.2.1 = some (tyX0 k) := by decide +kernel
abbrev cX0_init : ByteArray := prog_2_method_1_code
def yX0_init : MethodName := ⟨RX0, "<init>", "()V"⟩
abbrev cX0_has : ByteArray := prog_2_method_2_code
def yX0_has : MethodName := ⟨RX0, "has", "(I)Z"⟩
abbrev cX0_full : ByteArray := prog_2_method_3_code
def yX0_full : MethodName := ⟨RX0, "full", "()Z"⟩
abbrev cX0_add : ByteArray := prog_2_method_4_code
def yX0_add : MethodName := ⟨RX0, "add", "(I)I"⟩
abbrev cX0_tell : ByteArray := prog_2_method_5_code
def yX0_tell : MethodName := ⟨RX0, "tell", "(II)I"⟩
abbrev cX0_burning : ByteArray := prog_2_method_6_code
def yX0_burning : MethodName := ⟨RX0, "burning", "()I"⟩
abbrev cX0_burn : ByteArray := prog_2_method_7_code
def yX0_burn : MethodName := ⟨RX0, "burn", "(I)V"⟩
abbrev cX0_burnOne : ByteArray := prog_2_method_8_code
def yX0_burnOne : MethodName := ⟨RX0, "burnOne", "(II)V"⟩
abbrev cX0_copyOf : ByteArray := prog_2_method_9_code
def yX0_copyOf : MethodName := ⟨RX0, "copyOf", "(LAlumWorks$Clamps;)V"⟩
def RX1 : String := "AlumWorks$Liquors"
def TX1 : u_T := fun k => match k with
  | 0 => ("AlumWorks$Liquors", "water", "[I", true)
  | 1 => ("AlumWorks$Liquors", "alum", "[I", true)
  | 2 => ("AlumWorks$Liquors", "boils", "[Z", true)
  | 3 => ("AlumWorks$Liquors", "most", "I", true)
  | _ => ("AlumWorks$Liquors", "many", "I", false)
def tyX1 : Nat → FieldType := fun k => match k with
  | 0 => .array .int
  | 1 => .array .int
  | 2 => .array .boolean
  | 3 => .int
  | _ => .int
abbrev wsX10 : List Cond := u_ws RX1 TX1 5
theorem nmX1 : ∀ a, a < 5 → ∀ b, b < 5 → a ≠ b → (TX1 a).2.1 ≠ (TX1 b).2.1 := by decide +kernel
theorem tyX1_ok : ∀ k, k < 5 → parseFieldDescriptor (TX1 k).2.2.1 = some (tyX1 k) := by decide +kernel
abbrev cX1_init : ByteArray := prog_3_method_1_code
def yX1_init : MethodName := ⟨RX1, "<init>", "(I)V"⟩
abbrev cX1_has : ByteArray := prog_3_method_2_code
def yX1_has : MethodName := ⟨RX1, "has", "(I)Z"⟩
abbrev cX1_full : ByteArray := prog_3_method_3_code
def yX1_full : MethodName := ⟨RX1, "full", "()Z"⟩
abbrev cX1_add : ByteArray := prog_3_method_4_code
def yX1_add : MethodName := ⟨RX1, "add", "(I)I"⟩
abbrev cX1_empty : ByteArray := prog_3_method_5_code
def yX1_empty : MethodName := ⟨RX1, "empty", "(I)V"⟩
abbrev cX1_strength : ByteArray := prog_3_method_6_code
def yX1_strength : MethodName := ⟨RX1, "strength", "(I)I"⟩
abbrev cX1_egg : ByteArray := prog_3_method_7_code
def yX1_egg : MethodName := ⟨RX1, "egg", "(I)I"⟩
abbrev cX1_tell : ByteArray := prog_3_method_8_code
def yX1_tell : MethodName := ⟨RX1, "tell", "(II)I"⟩
abbrev cX1_allAlum : ByteArray := prog_3_method_9_code
def yX1_allAlum : MethodName := ⟨RX1, "allAlum", "()I"⟩
abbrev cX1_filled : ByteArray := prog_3_method_10_code
def yX1_filled : MethodName := ⟨RX1, "filled", "()I"⟩
abbrev cX1_strengths : ByteArray := prog_3_method_11_code
def yX1_strengths : MethodName := ⟨RX1, "strengths", "()I"⟩
abbrev cX1_takeWeather : ByteArray := prog_3_method_12_code
def yX1_takeWeather : MethodName := ⟨RX1, "takeWeather", "(I)V"⟩
abbrev cX1_copyOf : ByteArray := prog_3_method_13_code
def yX1_copyOf : MethodName := ⟨RX1, "copyOf", "(LAlumWorks$Liquors;)V"⟩
def RX2 : String := "AlumWorks$State"
def TX2 : u_T := fun k => match k with
  | 0 => ("AlumWorks$State", "clamps", "LAlumWorks$Clamps;", true)
  | 1 => ("AlumWorks$State", "pits", "LAlumWorks$Liquors;", true)
  | 2 => ("AlumWorks$State", "pans", "LAlumWorks$Liquors;", true)
  | 3 => ("AlumWorks$State", "day", "I", false)
  | 4 => ("AlumWorks$State", "coal", "I", false)
  | 5 => ("AlumWorks$State", "barrels", "I", false)
  | 6 => ("AlumWorks$State", "fine", "I", false)
  | 7 => ("AlumWorks$State", "coarse", "I", false)
  | 8 => ("AlumWorks$State", "coins", "I", false)
  | _ => ("AlumWorks$State", "shipped", "I", false)
def tyX2 : Nat → FieldType := fun k => match k with
  | 0 => .object "AlumWorks$Clamps"
  | 1 => .object "AlumWorks$Liquors"
  | 2 => .object "AlumWorks$Liquors"
  | 3 => .int
  | 4 => .int
  | 5 => .int
  | 6 => .int
  | 7 => .int
  | 8 => .int
  | _ => .int
abbrev wsX20 : List Cond := u_ws RX2 TX2 10
theorem nmX2 : ∀ a, a < 10 → ∀ b, b < 10 → a ≠ b → (TX2 a).2.1 ≠ (TX2 b).2.1 := by decide +kernel
theorem tyX2_ok : ∀ k, k < 10 → parseFieldDescriptor (TX2 k).2.2.1 = some (tyX2 k) := by decide +kernel
abbrev cX2_init : ByteArray := prog_4_method_1_code
def yX2_init : MethodName := ⟨RX2, "<init>", "()V"⟩
abbrev cX2_copyOf : ByteArray := prog_4_method_2_code
def yX2_copyOf : MethodName := ⟨RX2, "copyOf", "(LAlumWorks$State;)V"⟩
abbrev cX2_letDayGo : ByteArray := prog_4_method_3_code
def yX2_letDayGo : MethodName := ⟨RX2, "letDayGo", "(II)V"⟩
abbrev cX2_boilPans : ByteArray := prog_4_method_4_code
def yX2_boilPans : MethodName := ⟨RX2, "boilPans", "()V"⟩
abbrev cX2_loadShip : ByteArray := prog_4_method_5_code
def yX2_loadShip : MethodName := ⟨RX2, "loadShip", "(I)V"⟩
def RX3 : String := "AlumWorks"
def TX3 : u_T := fun k => match k with
  | 0 => ("AlumWorks", "rains", "[I", true)
  | 1 => ("AlumWorks", "ships", "[I", true)
  | 2 => ("AlumWorks", "now", "LAlumWorks$State;", true)
  | _ => ("AlumWorks", "ahead", "LAlumWorks$State;", true)
def tyX3 : Nat → FieldType := fun k => match k with
  | 0 => .array .int
  | 1 => .array .int
  | 2 => .object "AlumWorks$State"
  | _ => .object "AlumWorks$State"
abbrev wsX30 : List Cond := u_ws RX3 TX3 4
theorem nmX3 : ∀ a, a < 4 → ∀ b, b < 4 → a ≠ b → (TX3 a).2.1 ≠ (TX3 b).2.1 := by decide +kernel
theorem tyX3_ok : ∀ k, k < 4 → parseFieldDescriptor (TX3 k).2.2.1 = some (tyX3 k) := by decide +kernel
abbrev cX3_init : ByteArray := prog_1_method_1_code
def yX3_init : MethodName := ⟨RX3, "<init>", "()V"⟩
abbrev cX3_bring : ByteArray := prog_1_method_2_code
def yX3_bring : MethodName := ⟨RX3, "bring", "(II)I"⟩
abbrev cX3_setRain : ByteArray := prog_1_method_3_code
def yX3_setRain : MethodName := ⟨RX3, "setRain", "(II)I"⟩
abbrev cX3_setShip : ByteArray := prog_1_method_4_code
def yX3_setShip : MethodName := ⟨RX3, "setShip", "(II)I"⟩
abbrev cX3_pile : ByteArray := prog_1_method_5_code
def yX3_pile : MethodName := ⟨RX3, "pile", "(I)I"⟩
abbrev cX3_light : ByteArray := prog_1_method_6_code
def yX3_light : MethodName := ⟨RX3, "light", "(II)I"⟩
abbrev cX3_dig : ByteArray := prog_1_method_7_code
def yX3_dig : MethodName := ⟨RX3, "dig", "(I)I"⟩
abbrev cX3_steep : ByteArray := prog_1_method_8_code
def yX3_steep : MethodName := ⟨RX3, "steep", "(II)I"⟩
abbrev cX3_pan : ByteArray := prog_1_method_9_code
def yX3_pan : MethodName := ⟨RX3, "pan", "()I"⟩
abbrev cX3_draw : ByteArray := prog_1_method_10_code
def yX3_draw : MethodName := ⟨RX3, "draw", "(III)I"⟩
abbrev cX3_boil : ByteArray := prog_1_method_11_code
def yX3_boil : MethodName := ⟨RX3, "boil", "(I)Z"⟩
abbrev cX3_pour : ByteArray := prog_1_method_12_code
def yX3_pour : MethodName := ⟨RX3, "pour", "(II)I"⟩
abbrev cX3_clamp : ByteArray := prog_1_method_13_code
def yX3_clamp : MethodName := ⟨RX3, "clamp", "(II)I"⟩
abbrev cX3_pit : ByteArray := prog_1_method_14_code
def yX3_pit : MethodName := ⟨RX3, "pit", "(II)I"⟩
abbrev cX3_about : ByteArray := prog_1_method_15_code
def yX3_about : MethodName := ⟨RX3, "about", "(II)I"⟩
abbrev cX3_count : ByteArray := prog_1_method_16_code
def yX3_count : MethodName := ⟨RX3, "count", "(I)I"⟩
abbrev cX3_pass : ByteArray := prog_1_method_17_code
def yX3_pass : MethodName := ⟨RX3, "pass", "(I)I"⟩
abbrev cX3_right : ByteArray := prog_1_method_18_code
def yX3_right : MethodName := ⟨RX3, "right", "(I)I"⟩
abbrev cX3_foresee : ByteArray := prog_1_method_19_code
def yX3_foresee : MethodName := ⟨RX3, "foresee", "(II)I"⟩
abbrev cX3_barrels : ByteArray := prog_1_method_20_code
def yX3_barrels : MethodName := ⟨RX3, "barrels", "(I)I"⟩
abbrev cX3_dry : ByteArray := prog_1_method_21_code
def yX3_dry : MethodName := ⟨RX3, "dry", "(I)I"⟩
abbrev cX3_mean : ByteArray := prog_1_method_22_code
def yX3_mean : MethodName := ⟨RX3, "mean", "()D"⟩
abbrev cX3_digest : ByteArray := prog_1_method_23_code
def yX3_digest : MethodName := ⟨RX3, "digest", "()J"⟩
abbrev cX3_within : ByteArray := prog_1_method_24_code
def yX3_within : MethodName := ⟨RX3, "within", "(III)Z"⟩
abbrev cX3_strengthOf : ByteArray := prog_1_method_25_code
def yX3_strengthOf : MethodName := ⟨RX3, "strengthOf", "(II)I"⟩
abbrev cX3_eggBy : ByteArray := prog_1_method_26_code
def yX3_eggBy : MethodName := ⟨RX3, "eggBy", "(I)I"⟩
abbrev cX3_crystalsByBarrel : ByteArray := prog_1_method_27_code
def yX3_crystalsByBarrel : MethodName := ⟨RX3, "crystalsByBarrel", "(I)I"⟩
abbrev cX3_crystalsOf : ByteArray := prog_1_method_28_code
def yX3_crystalsOf : MethodName := ⟨RX3, "crystalsOf", "(II)I"⟩
abbrev cX3_rainOf : ByteArray := prog_1_method_29_code
def yX3_rainOf : MethodName := ⟨RX3, "rainOf", "(I)I"⟩
abbrev cX3_shipOf : ByteArray := prog_1_method_30_code
def yX3_shipOf : MethodName := ⟨RX3, "shipOf", "(I)I"⟩
abbrev cX3_goOn : ByteArray := prog_1_method_31_code
def yX3_goOn : MethodName := ⟨RX3, "goOn", "(LAlumWorks$State;I)V"⟩
abbrev cX3_countIn : ByteArray := prog_1_method_32_code
def yX3_countIn : MethodName := ⟨RX3, "countIn", "(LAlumWorks$State;I)I"⟩
abbrev cX3_mix : ByteArray := prog_1_method_33_code
def yX3_mix : MethodName := ⟨RX3, "mix", "(JI)J"⟩
abbrev cX3_mixLiquors : ByteArray := prog_1_method_34_code
def yX3_mixLiquors : MethodName := ⟨RX3, "mixLiquors", "(JLAlumWorks$Liquors;I)J"⟩
def RX4 : String := "AlumWorksModel"
def TX4 : u_T := fun k => match k with
  | 0 => ("AlumWorksModel", "thrown", "I", false)
  | 1 => ("AlumWorksModel", "clamps", "I", false)
  | 2 => ("AlumWorksModel", "pits", "I", false)
  | 3 => ("AlumWorksModel", "pans", "I", false)
  | 4 => ("AlumWorksModel", "stores", "[I", true)
  | 5 => ("AlumWorksModel", "rains", "[I", true)
  | 6 => ("AlumWorksModel", "ships", "[I", true)
  | 7 => ("AlumWorksModel", "heaps", "[I", true)
  | 8 => ("AlumWorksModel", "holes", "[I", true)
  | _ => ("AlumWorksModel", "kettles", "[I", true)
def tyX4 : Nat → FieldType := fun k => match k with
  | 0 => .int
  | 1 => .int
  | 2 => .int
  | 3 => .int
  | 4 => .array .int
  | 5 => .array .int
  | 6 => .array .int
  | 7 => .array .int
  | 8 => .array .int
  | _ => .array .int
abbrev wsX40 : List Cond := u_ws RX4 TX4 10
theorem nmX4 : ∀ a, a < 10 → ∀ b, b < 10 → a ≠ b → (TX4 a).2.1 ≠ (TX4 b).2.1 := by decide +kernel
theorem tyX4_ok : ∀ k, k < 10 → parseFieldDescriptor (TX4 k).2.2.1 = some (tyX4 k) := by decide +kernel
abbrev cX4_init : ByteArray := prog_6_method_1_code
def yX4_init : MethodName := ⟨RX4, "<init>", "()V"⟩
abbrev cX4_thrown : ByteArray := prog_6_method_2_code
def yX4_thrown : MethodName := ⟨RX4, "thrown", "()I"⟩
abbrev cX4_fail : ByteArray := prog_6_method_3_code
def yX4_fail : MethodName := ⟨RX4, "fail", "(I)I"⟩
abbrev cX4_isIn : ByteArray := prog_6_method_4_code
def yX4_isIn : MethodName := ⟨RX4, "isIn", "(III)Z"⟩
abbrev cX4_isClamp : ByteArray := prog_6_method_5_code
def yX4_isClamp : MethodName := ⟨RX4, "isClamp", "(I)Z"⟩
abbrev cX4_isPit : ByteArray := prog_6_method_6_code
def yX4_isPit : MethodName := ⟨RX4, "isPit", "(I)Z"⟩
abbrev cX4_isPan : ByteArray := prog_6_method_7_code
def yX4_isPan : MethodName := ⟨RX4, "isPan", "(I)Z"⟩
abbrev cX4_bring : ByteArray := prog_6_method_8_code
def yX4_bring : MethodName := ⟨RX4, "bring", "(II)I"⟩
abbrev cX4_setRain : ByteArray := prog_6_method_9_code
def yX4_setRain : MethodName := ⟨RX4, "setRain", "(II)I"⟩
abbrev cX4_setShip : ByteArray := prog_6_method_10_code
def yX4_setShip : MethodName := ⟨RX4, "setShip", "(II)I"⟩
abbrev cX4_pile : ByteArray := prog_6_method_11_code
def yX4_pile : MethodName := ⟨RX4, "pile", "(I)I"⟩
abbrev cX4_light : ByteArray := prog_6_method_12_code
def yX4_light : MethodName := ⟨RX4, "light", "(II)I"⟩
abbrev cX4_dig : ByteArray := prog_6_method_13_code
def yX4_dig : MethodName := ⟨RX4, "dig", "(I)I"⟩
abbrev cX4_steep : ByteArray := prog_6_method_14_code
def yX4_steep : MethodName := ⟨RX4, "steep", "(II)I"⟩
abbrev cX4_pan : ByteArray := prog_6_method_15_code
def yX4_pan : MethodName := ⟨RX4, "pan", "()I"⟩
abbrev cX4_draw : ByteArray := prog_6_method_16_code
def yX4_draw : MethodName := ⟨RX4, "draw", "(III)I"⟩
abbrev cX4_boil : ByteArray := prog_6_method_17_code
def yX4_boil : MethodName := ⟨RX4, "boil", "(I)Z"⟩
abbrev cX4_strength : ByteArray := prog_6_method_18_code
def yX4_strength : MethodName := ⟨RX4, "strength", "(II)I"⟩
abbrev cX4_egg : ByteArray := prog_6_method_19_code
def yX4_egg : MethodName := ⟨RX4, "egg", "(I)I"⟩
abbrev cX4_panEgg : ByteArray := prog_6_method_20_code
def yX4_panEgg : MethodName := ⟨RX4, "panEgg", "(I)I"⟩
abbrev cX4_comes : ByteArray := prog_6_method_21_code
def yX4_comes : MethodName := ⟨RX4, "comes", "(II)I"⟩
abbrev cX4_pour : ByteArray := prog_6_method_22_code
def yX4_pour : MethodName := ⟨RX4, "pour", "(II)I"⟩
abbrev cX4_clamp : ByteArray := prog_6_method_23_code
def yX4_clamp : MethodName := ⟨RX4, "clamp", "(II)I"⟩
abbrev cX4_told : ByteArray := prog_6_method_24_code
def yX4_told : MethodName := ⟨RX4, "told", "(III)I"⟩
abbrev cX4_pitTold : ByteArray := prog_6_method_25_code
def yX4_pitTold : MethodName := ⟨RX4, "pitTold", "(II)I"⟩
abbrev cX4_panTold : ByteArray := prog_6_method_26_code
def yX4_panTold : MethodName := ⟨RX4, "panTold", "(II)I"⟩
abbrev cX4_pit : ByteArray := prog_6_method_27_code
def yX4_pit : MethodName := ⟨RX4, "pit", "(II)I"⟩
abbrev cX4_about : ByteArray := prog_6_method_28_code
def yX4_about : MethodName := ⟨RX4, "about", "(II)I"⟩
abbrev cX4_rain : ByteArray := prog_6_method_29_code
def yX4_rain : MethodName := ⟨RX4, "rain", "()I"⟩
abbrev cX4_counted : ByteArray := prog_6_method_30_code
def yX4_counted : MethodName := ⟨RX4, "counted", "(I)I"⟩
abbrev cX4_count : ByteArray := prog_6_method_31_code
def yX4_count : MethodName := ⟨RX4, "count", "(I)I"⟩
abbrev cX4_burn : ByteArray := prog_6_method_32_code
def yX4_burn : MethodName := ⟨RX4, "burn", "(I)V"⟩
abbrev cX4_cook : ByteArray := prog_6_method_33_code
def yX4_cook : MethodName := ⟨RX4, "cook", "(I)V"⟩
abbrev cX4_dayOn : ByteArray := prog_6_method_34_code
def yX4_dayOn : MethodName := ⟨RX4, "dayOn", "()V"⟩
abbrev cX4_daysOn : ByteArray := prog_6_method_35_code
def yX4_daysOn : MethodName := ⟨RX4, "daysOn", "(I)V"⟩
abbrev cX4_pass : ByteArray := prog_6_method_36_code
def yX4_pass : MethodName := ⟨RX4, "pass", "(I)I"⟩
abbrev cX4_kept : ByteArray := prog_6_method_37_code
def yX4_kept : MethodName := ⟨RX4, "kept", "()[[I"⟩
abbrev cX4_bringBack : ByteArray := prog_6_method_38_code
def yX4_bringBack : MethodName := ⟨RX4, "bringBack", "([[I)V"⟩
abbrev cX4_right : ByteArray := prog_6_method_39_code
def yX4_right : MethodName := ⟨RX4, "right", "(I)I"⟩
abbrev cX4_foresee : ByteArray := prog_6_method_40_code
def yX4_foresee : MethodName := ⟨RX4, "foresee", "(II)I"⟩
abbrev cX4_barrels : ByteArray := prog_6_method_41_code
def yX4_barrels : MethodName := ⟨RX4, "barrels", "(I)I"⟩
abbrev cX4_dry : ByteArray := prog_6_method_42_code
def yX4_dry : MethodName := ⟨RX4, "dry", "(I)I"⟩
abbrev cX4_mean : ByteArray := prog_6_method_43_code
def yX4_mean : MethodName := ⟨RX4, "mean", "()D"⟩
abbrev cX4_digest : ByteArray := prog_6_method_44_code
def yX4_digest : MethodName := ⟨RX4, "digest", "()J"⟩
def RJx8e188 : String := "java/lang/Cloneable"
def TJx8e188 : u_T := fun k => match k with
  | _ => ("", "", "", false)
def tyJx8e188 : Nat → FieldType := fun k => match k with
  | _ => .int
abbrev wsJx8e1880 : List Cond := u_ws RJx8e188 TJx8e188 0
theorem nmJx8e188 : ∀ a, a < 0 → ∀ b, b < 0 → a ≠ b → (TJx8e188 a).2.1 ≠ (TJx8e188 b).2.1 := by decide +kernel
theorem tyJx8e188_ok : ∀ k, k < 0 → parseFieldDescriptor (TJx8e188 k).2.2.1 = some (tyJx8e188 k) := by decide +kernel
def RJ9 : String := "java/lang/Math"
def TJ9 : u_T := fun k => match k with
  | _ => ("", "", "", false)
def tyJ9 : Nat → FieldType := fun k => match k with
  | _ => .int
abbrev wsJ90 : List Cond := u_ws RJ9 TJ9 0
theorem nmJ9 : ∀ a, a < 0 → ∀ b, b < 0 → a ≠ b → (TJ9 a).2.1 ≠ (TJ9 b).2.1 := by decide +kernel
theorem tyJ9_ok : ∀ k, k < 0 → parseFieldDescriptor (TJ9 k).2.2.1 = some (tyJ9 k) := by decide +kernel
abbrev cJ9_floorMod_7cf53 : ByteArray := prog_12_method_50_code
def yJ9_floorMod_7cf53 : MethodName := ⟨RJ9, "floorMod", "(II)I"⟩
abbrev cJ9_max_7cf53 : ByteArray := prog_12_method_65_code
def yJ9_max_7cf53 : MethodName := ⟨RJ9, "max", "(II)I"⟩
abbrev cJ9_min_7cf53 : ByteArray := prog_12_method_69_code
def yJ9_min_7cf53 : MethodName := ⟨RJ9, "min", "(II)I"⟩
def RJ0 : String := "java/lang/String"
def TJ0 : u_T := fun k => match k with
  | _ => ("", "", "", false)
def tyJ0 : Nat → FieldType := fun k => match k with
  | _ => .int
abbrev wsJ00 : List Cond := u_ws RJ0 TJ0 0
theorem nmJ0 : ∀ a, a < 0 → ∀ b, b < 0 → a ≠ b → (TJ0 a).2.1 ≠ (TJ0 b).2.1 := by decide +kernel
theorem tyJ0_ok : ∀ k, k < 0 → parseFieldDescriptor (TJ0 k).2.2.1 = some (tyJ0 k) := by decide +kernel
def RJ10 : String := "java/lang/System"
def TJ10 : u_T := fun k => match k with
  | _ => ("", "", "", false)
def tyJ10 : Nat → FieldType := fun k => match k with
  | _ => .int
abbrev wsJ100 : List Cond := u_ws RJ10 TJ10 0
theorem nmJ10 : ∀ a, a < 0 → ∀ b, b < 0 → a ≠ b → (TJ10 a).2.1 ≠ (TJ10 b).2.1 := by decide +kernel
theorem tyJ10_ok : ∀ k, k < 0 → parseFieldDescriptor (TJ10 k).2.2.1 = some (tyJ10 k) := by decide +kernel
def RL : String := "AlumWorksLaw"
abbrev cL_bring : ByteArray := method_3_code
def yL_bring : MethodName := ⟨RL, "bring", "(LAlumWorks;II[J)I"⟩
abbrev cL_setRain : ByteArray := method_4_code
def yL_setRain : MethodName := ⟨RL, "setRain", "(LAlumWorks;II[J)I"⟩
abbrev cL_setShip : ByteArray := method_5_code
def yL_setShip : MethodName := ⟨RL, "setShip", "(LAlumWorks;II[J)I"⟩
abbrev cL_pile : ByteArray := method_6_code
def yL_pile : MethodName := ⟨RL, "pile", "(LAlumWorks;I[J)I"⟩
abbrev cL_light : ByteArray := method_7_code
def yL_light : MethodName := ⟨RL, "light", "(LAlumWorks;II[J)I"⟩
abbrev cL_dig : ByteArray := method_8_code
def yL_dig : MethodName := ⟨RL, "dig", "(LAlumWorks;I[J)I"⟩
abbrev cL_steep : ByteArray := method_9_code
def yL_steep : MethodName := ⟨RL, "steep", "(LAlumWorks;II[J)I"⟩
abbrev cL_pan : ByteArray := method_10_code
def yL_pan : MethodName := ⟨RL, "pan", "(LAlumWorks;[J)I"⟩
abbrev cL_draw : ByteArray := method_11_code
def yL_draw : MethodName := ⟨RL, "draw", "(LAlumWorks;III[J)I"⟩
abbrev cL_boil : ByteArray := method_12_code
def yL_boil : MethodName := ⟨RL, "boil", "(LAlumWorks;I[J)I"⟩
abbrev cL_pour : ByteArray := method_13_code
def yL_pour : MethodName := ⟨RL, "pour", "(LAlumWorks;II[J)I"⟩
abbrev cL_clamp : ByteArray := method_14_code
def yL_clamp : MethodName := ⟨RL, "clamp", "(LAlumWorks;II[J)I"⟩
abbrev cL_pit : ByteArray := method_15_code
def yL_pit : MethodName := ⟨RL, "pit", "(LAlumWorks;II[J)I"⟩
abbrev cL_about : ByteArray := method_16_code
def yL_about : MethodName := ⟨RL, "about", "(LAlumWorks;II[J)I"⟩
abbrev cL_count : ByteArray := method_17_code
def yL_count : MethodName := ⟨RL, "count", "(LAlumWorks;I[J)I"⟩
abbrev cL_pass : ByteArray := method_18_code
def yL_pass : MethodName := ⟨RL, "pass", "(LAlumWorks;I[J)I"⟩
abbrev cL_right : ByteArray := method_19_code
def yL_right : MethodName := ⟨RL, "right", "(LAlumWorks;I[J)I"⟩
abbrev cL_foresee : ByteArray := method_20_code
def yL_foresee : MethodName := ⟨RL, "foresee", "(LAlumWorks;II[J)I"⟩
abbrev cL_barrels : ByteArray := method_21_code
def yL_barrels : MethodName := ⟨RL, "barrels", "(LAlumWorks;I[J)I"⟩
abbrev cL_dry : ByteArray := method_22_code
def yL_dry : MethodName := ⟨RL, "dry", "(LAlumWorks;I[J)I"⟩
abbrev cL_law : ByteArray := code
def yL_law : MethodName := ⟨RL, "law", "([I)Z"⟩
theorem dX0_init_0 : decode cX0_init 0 = .ok (.aload_n 0, 1) := by decide +kernel
theorem dX0_init_1 : decode cX0_init 1 = .ok (.invokespecial 3, 3) := by decide +kernel
theorem dX0_init_4 : decode cX0_init 4 = .ok (.aload_n 0, 1) := by decide +kernel
theorem dX0_init_5 : decode cX0_init 5 = .ok (.iconst 4, 1) := by decide +kernel
theorem dX0_init_6 : decode cX0_init 6 = .ok (.newarray .int, 2) := by decide +kernel
theorem dX0_init_8 : decode cX0_init 8 = .ok (.putfield 9, 3) := by decide +kernel
theorem dX0_init_11 : decode cX0_init 11 = .ok (.aload_n 0, 1) := by decide +kernel
theorem dX0_init_12 : decode cX0_init 12 = .ok (.iconst 4, 1) := by decide +kernel
theorem dX0_init_13 : decode cX0_init 13 = .ok (.newarray .int, 2) := by decide +kernel
theorem dX0_init_15 : decode cX0_init 15 = .ok (.putfield 15, 3) := by decide +kernel
theorem dX0_init_18 : decode cX0_init 18 = .ok (.aload_n 0, 1) := by decide +kernel
theorem dX0_init_19 : decode cX0_init 19 = .ok (.iconst 4, 1) := by decide +kernel
theorem dX0_init_20 : decode cX0_init 20 = .ok (.newarray .int, 2) := by decide +kernel
theorem dX0_init_22 : decode cX0_init 22 = .ok (.putfield 18, 3) := by decide +kernel
theorem dX0_init_25 : decode cX0_init 25 = .ok (.aload_n 0, 1) := by decide +kernel
theorem dX0_init_26 : decode cX0_init 26 = .ok (.iconst 4, 1) := by decide +kernel
theorem dX0_init_27 : decode cX0_init 27 = .ok (.newarray .boolean, 2) := by decide +kernel
theorem dX0_init_29 : decode cX0_init 29 = .ok (.putfield 21, 3) := by decide +kernel
theorem dX0_init_32 : decode cX0_init 32 = .ok (.aload_n 0, 1) := by decide +kernel
theorem dX0_init_33 : decode cX0_init 33 = .ok (.iconst 0, 1) := by decide +kernel
theorem dX0_init_34 : decode cX0_init 34 = .ok (.putfield 25, 3) := by decide +kernel
theorem dX0_init_37 : decode cX0_init 37 = .ok (.return_, 1) := by decide +kernel
theorem dX0_has_0 : decode cX0_has 0 = .ok (.iload_n 1, 1) := by decide +kernel
theorem dX0_has_1 : decode cX0_has 1 = .ok (.ifCond .lt 15, 3) := by decide +kernel
theorem dX0_has_4 : decode cX0_has 4 = .ok (.iload_n 1, 1) := by decide +kernel
theorem dX0_has_5 : decode cX0_has 5 = .ok (.aload_n 0, 1) := by decide +kernel
theorem dX0_has_6 : decode cX0_has 6 = .ok (.getfield 25, 3) := by decide +kernel
theorem dX0_has_9 : decode cX0_has 9 = .ok (.if_icmp .ge 7, 3) := by decide +kernel
theorem dX0_has_12 : decode cX0_has 12 = .ok (.iconst 1, 1) := by decide +kernel
theorem dX0_has_13 : decode cX0_has 13 = .ok (.goto 4, 3) := by decide +kernel
theorem dX0_has_16 : decode cX0_has 16 = .ok (.iconst 0, 1) := by decide +kernel
theorem dX0_has_17 : decode cX0_has 17 = .ok (.ireturn, 1) := by decide +kernel
theorem dX0_full_0 : decode cX0_full 0 = .ok (.aload_n 0, 1) := by decide +kernel
theorem dX0_full_1 : decode cX0_full 1 = .ok (.getfield 25, 3) := by decide +kernel
theorem dX0_full_4 : decode cX0_full 4 = .ok (.iconst 4, 1) := by decide +kernel
theorem dX0_full_5 : decode cX0_full 5 = .ok (.if_icmp .lt 7, 3) := by decide +kernel
theorem dX0_full_8 : decode cX0_full 8 = .ok (.iconst 1, 1) := by decide +kernel
theorem dX0_full_9 : decode cX0_full 9 = .ok (.goto 4, 3) := by decide +kernel
theorem dX0_full_12 : decode cX0_full 12 = .ok (.iconst 0, 1) := by decide +kernel
theorem dX0_full_13 : decode cX0_full 13 = .ok (.ireturn, 1) := by decide +kernel
theorem dX0_add_0 : decode cX0_add 0 = .ok (.aload_n 0, 1) := by decide +kernel
theorem dX0_add_1 : decode cX0_add 1 = .ok (.getfield 25, 3) := by decide +kernel
theorem dX0_add_4 : decode cX0_add 4 = .ok (.istore_n 2, 1) := by decide +kernel
theorem dX0_add_5 : decode cX0_add 5 = .ok (.aload_n 0, 1) := by decide +kernel
theorem dX0_add_6 : decode cX0_add 6 = .ok (.getfield 9, 3) := by decide +kernel
theorem dX0_add_9 : decode cX0_add 9 = .ok (.iload_n 2, 1) := by decide +kernel
theorem dX0_add_10 : decode cX0_add 10 = .ok (.iload_n 1, 1) := by decide +kernel
theorem dX0_add_11 : decode cX0_add 11 = .ok (.iastore, 1) := by decide +kernel
theorem dX0_add_12 : decode cX0_add 12 = .ok (.aload_n 0, 1) := by decide +kernel
theorem dX0_add_13 : decode cX0_add 13 = .ok (.dup, 1) := by decide +kernel
theorem dX0_add_14 : decode cX0_add 14 = .ok (.getfield 25, 3) := by decide +kernel
theorem dX0_add_17 : decode cX0_add 17 = .ok (.iconst 1, 1) := by decide +kernel
theorem dX0_add_18 : decode cX0_add 18 = .ok (.iadd, 1) := by decide +kernel
theorem dX0_add_19 : decode cX0_add 19 = .ok (.putfield 25, 3) := by decide +kernel
theorem dX0_add_22 : decode cX0_add 22 = .ok (.iload_n 2, 1) := by decide +kernel
theorem dX0_add_23 : decode cX0_add 23 = .ok (.ireturn, 1) := by decide +kernel
theorem dX0_tell_0 : decode cX0_tell 0 = .ok (.iload_n 2, 1) := by decide +kernel
theorem dX0_tell_1 : decode cX0_tell 1 = .ok (.tableswitch 48 0 2 #[27, 34, 41], 27) := by decide +kernel
theorem dX0_tell_28 : decode cX0_tell 28 = .ok (.aload_n 0, 1) := by decide +kernel
theorem dX0_tell_29 : decode cX0_tell 29 = .ok (.getfield 9, 3) := by decide +kernel
theorem dX0_tell_32 : decode cX0_tell 32 = .ok (.iload_n 1, 1) := by decide +kernel
theorem dX0_tell_33 : decode cX0_tell 33 = .ok (.iaload, 1) := by decide +kernel
theorem dX0_tell_34 : decode cX0_tell 34 = .ok (.ireturn, 1) := by decide +kernel
theorem dX0_tell_35 : decode cX0_tell 35 = .ok (.aload_n 0, 1) := by decide +kernel
theorem dX0_tell_36 : decode cX0_tell 36 = .ok (.getfield 15, 3) := by decide +kernel
theorem dX0_tell_39 : decode cX0_tell 39 = .ok (.iload_n 1, 1) := by decide +kernel
theorem dX0_tell_40 : decode cX0_tell 40 = .ok (.iaload, 1) := by decide +kernel
theorem dX0_tell_41 : decode cX0_tell 41 = .ok (.ireturn, 1) := by decide +kernel
theorem dX0_tell_42 : decode cX0_tell 42 = .ok (.aload_n 0, 1) := by decide +kernel
theorem dX0_tell_43 : decode cX0_tell 43 = .ok (.getfield 18, 3) := by decide +kernel
theorem dX0_tell_46 : decode cX0_tell 46 = .ok (.iload_n 1, 1) := by decide +kernel
theorem dX0_tell_47 : decode cX0_tell 47 = .ok (.iaload, 1) := by decide +kernel
theorem dX0_tell_48 : decode cX0_tell 48 = .ok (.ireturn, 1) := by decide +kernel
theorem dX0_tell_49 : decode cX0_tell 49 = .ok (.aload_n 0, 1) := by decide +kernel
theorem dX0_tell_50 : decode cX0_tell 50 = .ok (.getfield 21, 3) := by decide +kernel
theorem dX0_tell_53 : decode cX0_tell 53 = .ok (.iload_n 1, 1) := by decide +kernel
theorem dX0_tell_54 : decode cX0_tell 54 = .ok (.baload, 1) := by decide +kernel
theorem dX0_tell_55 : decode cX0_tell 55 = .ok (.ifCond .eq 7, 3) := by decide +kernel
theorem dX0_tell_58 : decode cX0_tell 58 = .ok (.iconst 1, 1) := by decide +kernel
theorem dX0_tell_59 : decode cX0_tell 59 = .ok (.goto 4, 3) := by decide +kernel
theorem dX0_tell_62 : decode cX0_tell 62 = .ok (.iconst 0, 1) := by decide +kernel
theorem dX0_tell_63 : decode cX0_tell 63 = .ok (.ireturn, 1) := by decide +kernel
theorem dX0_burning_0 : decode cX0_burning 0 = .ok (.iconst 0, 1) := by decide +kernel
theorem dX0_burning_1 : decode cX0_burning 1 = .ok (.istore_n 1, 1) := by decide +kernel
theorem dX0_burning_2 : decode cX0_burning 2 = .ok (.iconst 0, 1) := by decide +kernel
theorem dX0_burning_3 : decode cX0_burning 3 = .ok (.istore_n 2, 1) := by decide +kernel
theorem dX0_burning_4 : decode cX0_burning 4 = .ok (.iload_n 2, 1) := by decide +kernel
theorem dX0_burning_5 : decode cX0_burning 5 = .ok (.aload_n 0, 1) := by decide +kernel
theorem dX0_burning_6 : decode cX0_burning 6 = .ok (.getfield 25, 3) := by decide +kernel
theorem dX0_burning_9 : decode cX0_burning 9 = .ok (.if_icmp .ge 21, 3) := by decide +kernel
theorem dX0_burning_12 : decode cX0_burning 12 = .ok (.aload_n 0, 1) := by decide +kernel
theorem dX0_burning_13 : decode cX0_burning 13 = .ok (.getfield 21, 3) := by decide +kernel
theorem dX0_burning_16 : decode cX0_burning 16 = .ok (.iload_n 2, 1) := by decide +kernel
theorem dX0_burning_17 : decode cX0_burning 17 = .ok (.baload, 1) := by decide +kernel
theorem dX0_burning_18 : decode cX0_burning 18 = .ok (.ifCond .eq 6, 3) := by decide +kernel
theorem dX0_burning_21 : decode cX0_burning 21 = .ok (.iinc 1 1, 3) := by decide +kernel
theorem dX0_burning_24 : decode cX0_burning 24 = .ok (.iinc 2 1, 3) := by decide +kernel
theorem dX0_burning_27 : decode cX0_burning 27 = .ok (.goto (-23), 3) := by decide +kernel
theorem dX0_burning_30 : decode cX0_burning 30 = .ok (.iload_n 1, 1) := by decide +kernel
theorem dX0_burning_31 : decode cX0_burning 31 = .ok (.ireturn, 1) := by decide +kernel
theorem dX0_burn_0 : decode cX0_burn 0 = .ok (.iload_n 1, 1) := by decide +kernel
theorem dX0_burn_1 : decode cX0_burn 1 = .ok (.iconst 5, 1) := by decide +kernel
theorem dX0_burn_2 : decode cX0_burn 2 = .ok (.if_icmp .lt 7, 3) := by decide +kernel
theorem dX0_burn_5 : decode cX0_burn 5 = .ok (.iconst 4, 1) := by decide +kernel
theorem dX0_burn_6 : decode cX0_burn 6 = .ok (.goto 5, 3) := by decide +kernel
theorem dX0_burn_9 : decode cX0_burn 9 = .ok (.bipush 8, 2) := by decide +kernel
theorem dX0_burn_11 : decode cX0_burn 11 = .ok (.istore_n 2, 1) := by decide +kernel
theorem dX0_burn_12 : decode cX0_burn 12 = .ok (.iconst 0, 1) := by decide +kernel
theorem dX0_burn_13 : decode cX0_burn 13 = .ok (.istore_n 3, 1) := by decide +kernel
theorem dX0_burn_14 : decode cX0_burn 14 = .ok (.iload_n 3, 1) := by decide +kernel
theorem dX0_burn_15 : decode cX0_burn 15 = .ok (.aload_n 0, 1) := by decide +kernel
theorem dX0_burn_16 : decode cX0_burn 16 = .ok (.getfield 25, 3) := by decide +kernel
theorem dX0_burn_19 : decode cX0_burn 19 = .ok (.if_icmp .ge 24, 3) := by decide +kernel
theorem dX0_burn_22 : decode cX0_burn 22 = .ok (.aload_n 0, 1) := by decide +kernel
theorem dX0_burn_23 : decode cX0_burn 23 = .ok (.getfield 21, 3) := by decide +kernel
theorem dX0_burn_26 : decode cX0_burn 26 = .ok (.iload_n 3, 1) := by decide +kernel
theorem dX0_burn_27 : decode cX0_burn 27 = .ok (.baload, 1) := by decide +kernel
theorem dX0_burn_28 : decode cX0_burn 28 = .ok (.ifCond .eq 9, 3) := by decide +kernel
theorem dX0_burn_31 : decode cX0_burn 31 = .ok (.aload_n 0, 1) := by decide +kernel
theorem dX0_burn_32 : decode cX0_burn 32 = .ok (.iload_n 3, 1) := by decide +kernel
theorem dX0_burn_33 : decode cX0_burn 33 = .ok (.iload_n 2, 1) := by decide +kernel
theorem dX0_burn_34 : decode cX0_burn 34 = .ok (.invokevirtual 29, 3) := by decide +kernel
theorem dX0_burn_37 : decode cX0_burn 37 = .ok (.iinc 3 1, 3) := by decide +kernel
theorem dX0_burn_40 : decode cX0_burn 40 = .ok (.goto (-26), 3) := by decide +kernel
theorem dX0_burn_43 : decode cX0_burn 43 = .ok (.return_, 1) := by decide +kernel
theorem dX0_burnOne_0 : decode cX0_burnOne 0 = .ok (.iload_n 2, 1) := by decide +kernel
theorem dX0_burnOne_1 : decode cX0_burnOne 1 = .ok (.aload_n 0, 1) := by decide +kernel
theorem dX0_burnOne_2 : decode cX0_burnOne 2 = .ok (.getfield 9, 3) := by decide +kernel
theorem dX0_burnOne_5 : decode cX0_burnOne 5 = .ok (.iload_n 1, 1) := by decide +kernel
theorem dX0_burnOne_6 : decode cX0_burnOne 6 = .ok (.iaload, 1) := by decide +kernel
theorem dX0_burnOne_7 : decode cX0_burnOne 7 = .ok (.invokestatic 33, 3) := by decide +kernel
theorem dX0_burnOne_10 : decode cX0_burnOne 10 = .ok (.istore_n 3, 1) := by decide +kernel
theorem dX0_burnOne_11 : decode cX0_burnOne 11 = .ok (.aload_n 0, 1) := by decide +kernel
theorem dX0_burnOne_12 : decode cX0_burnOne 12 = .ok (.getfield 15, 3) := by decide +kernel
theorem dX0_burnOne_15 : decode cX0_burnOne 15 = .ok (.iload_n 1, 1) := by decide +kernel
theorem dX0_burnOne_16 : decode cX0_burnOne 16 = .ok (.iconst 0, 1) := by decide +kernel
theorem dX0_burnOne_17 : decode cX0_burnOne 17 = .ok (.aload_n 0, 1) := by decide +kernel
theorem dX0_burnOne_18 : decode cX0_burnOne 18 = .ok (.getfield 15, 3) := by decide +kernel
theorem dX0_burnOne_21 : decode cX0_burnOne 21 = .ok (.iload_n 1, 1) := by decide +kernel
theorem dX0_burnOne_22 : decode cX0_burnOne 22 = .ok (.iaload, 1) := by decide +kernel
theorem dX0_burnOne_23 : decode cX0_burnOne 23 = .ok (.iconst 2, 1) := by decide +kernel
theorem dX0_burnOne_24 : decode cX0_burnOne 24 = .ok (.isub, 1) := by decide +kernel
theorem dX0_burnOne_25 : decode cX0_burnOne 25 = .ok (.invokestatic 39, 3) := by decide +kernel
theorem dX0_burnOne_28 : decode cX0_burnOne 28 = .ok (.iastore, 1) := by decide +kernel
theorem dX0_burnOne_29 : decode cX0_burnOne 29 = .ok (.aload_n 0, 1) := by decide +kernel
theorem dX0_burnOne_30 : decode cX0_burnOne 30 = .ok (.getfield 9, 3) := by decide +kernel
theorem dX0_burnOne_33 : decode cX0_burnOne 33 = .ok (.iload_n 1, 1) := by decide +kernel
theorem dX0_burnOne_34 : decode cX0_burnOne 34 = .ok (.dup2, 1) := by decide +kernel
theorem dX0_burnOne_35 : decode cX0_burnOne 35 = .ok (.iaload, 1) := by decide +kernel
theorem dX0_burnOne_36 : decode cX0_burnOne 36 = .ok (.iload_n 3, 1) := by decide +kernel
theorem dX0_burnOne_37 : decode cX0_burnOne 37 = .ok (.isub, 1) := by decide +kernel
theorem dX0_burnOne_38 : decode cX0_burnOne 38 = .ok (.iastore, 1) := by decide +kernel
theorem dX0_burnOne_39 : decode cX0_burnOne 39 = .ok (.aload_n 0, 1) := by decide +kernel
theorem dX0_burnOne_40 : decode cX0_burnOne 40 = .ok (.getfield 18, 3) := by decide +kernel
theorem dX0_burnOne_43 : decode cX0_burnOne 43 = .ok (.iload_n 1, 1) := by decide +kernel
theorem dX0_burnOne_44 : decode cX0_burnOne 44 = .ok (.dup2, 1) := by decide +kernel
theorem dX0_burnOne_45 : decode cX0_burnOne 45 = .ok (.iaload, 1) := by decide +kernel
theorem dX0_burnOne_46 : decode cX0_burnOne 46 = .ok (.iload_n 3, 1) := by decide +kernel
theorem dX0_burnOne_47 : decode cX0_burnOne 47 = .ok (.iadd, 1) := by decide +kernel
theorem dX0_burnOne_48 : decode cX0_burnOne 48 = .ok (.iastore, 1) := by decide +kernel
theorem dX0_burnOne_49 : decode cX0_burnOne 49 = .ok (.aload_n 0, 1) := by decide +kernel
theorem dX0_burnOne_50 : decode cX0_burnOne 50 = .ok (.getfield 21, 3) := by decide +kernel
theorem dX0_burnOne_53 : decode cX0_burnOne 53 = .ok (.iload_n 1, 1) := by decide +kernel
theorem dX0_burnOne_54 : decode cX0_burnOne 54 = .ok (.aload_n 0, 1) := by decide +kernel
theorem dX0_burnOne_55 : decode cX0_burnOne 55 = .ok (.getfield 15, 3) := by decide +kernel
theorem dX0_burnOne_58 : decode cX0_burnOne 58 = .ok (.iload_n 1, 1) := by decide +kernel
theorem dX0_burnOne_59 : decode cX0_burnOne 59 = .ok (.iaload, 1) := by decide +kernel
theorem dX0_burnOne_60 : decode cX0_burnOne 60 = .ok (.ifCond .le 16, 3) := by decide +kernel
theorem dX0_burnOne_63 : decode cX0_burnOne 63 = .ok (.aload_n 0, 1) := by decide +kernel
theorem dX0_burnOne_64 : decode cX0_burnOne 64 = .ok (.getfield 9, 3) := by decide +kernel
theorem dX0_burnOne_67 : decode cX0_burnOne 67 = .ok (.iload_n 1, 1) := by decide +kernel
theorem dX0_burnOne_68 : decode cX0_burnOne 68 = .ok (.iaload, 1) := by decide +kernel
theorem dX0_burnOne_69 : decode cX0_burnOne 69 = .ok (.ifCond .le 7, 3) := by decide +kernel
theorem dX0_burnOne_72 : decode cX0_burnOne 72 = .ok (.iconst 1, 1) := by decide +kernel
theorem dX0_burnOne_73 : decode cX0_burnOne 73 = .ok (.goto 4, 3) := by decide +kernel
theorem dX0_burnOne_76 : decode cX0_burnOne 76 = .ok (.iconst 0, 1) := by decide +kernel
theorem dX0_burnOne_77 : decode cX0_burnOne 77 = .ok (.bastore, 1) := by decide +kernel
theorem dX0_burnOne_78 : decode cX0_burnOne 78 = .ok (.return_, 1) := by decide +kernel
theorem dX0_copyOf_0 : decode cX0_copyOf 0 = .ok (.aload_n 0, 1) := by decide +kernel
theorem dX0_copyOf_1 : decode cX0_copyOf 1 = .ok (.aload_n 1, 1) := by decide +kernel
theorem dX0_copyOf_2 : decode cX0_copyOf 2 = .ok (.getfield 25, 3) := by decide +kernel
theorem dX0_copyOf_5 : decode cX0_copyOf 5 = .ok (.putfield 25, 3) := by decide +kernel
theorem dX0_copyOf_8 : decode cX0_copyOf 8 = .ok (.iconst 0, 1) := by decide +kernel
theorem dX0_copyOf_9 : decode cX0_copyOf 9 = .ok (.istore_n 2, 1) := by decide +kernel
theorem dX0_copyOf_10 : decode cX0_copyOf 10 = .ok (.iload_n 2, 1) := by decide +kernel
theorem dX0_copyOf_11 : decode cX0_copyOf 11 = .ok (.aload_n 0, 1) := by decide +kernel
theorem dX0_copyOf_12 : decode cX0_copyOf 12 = .ok (.getfield 25, 3) := by decide +kernel
theorem dX0_copyOf_15 : decode cX0_copyOf 15 = .ok (.if_icmp .ge 57, 3) := by decide +kernel
theorem dX0_copyOf_18 : decode cX0_copyOf 18 = .ok (.aload_n 0, 1) := by decide +kernel
theorem dX0_copyOf_19 : decode cX0_copyOf 19 = .ok (.getfield 9, 3) := by decide +kernel
theorem dX0_copyOf_22 : decode cX0_copyOf 22 = .ok (.iload_n 2, 1) := by decide +kernel
theorem dX0_copyOf_23 : decode cX0_copyOf 23 = .ok (.aload_n 1, 1) := by decide +kernel
theorem dX0_copyOf_24 : decode cX0_copyOf 24 = .ok (.getfield 9, 3) := by decide +kernel
theorem dX0_copyOf_27 : decode cX0_copyOf 27 = .ok (.iload_n 2, 1) := by decide +kernel
theorem dX0_copyOf_28 : decode cX0_copyOf 28 = .ok (.iaload, 1) := by decide +kernel
theorem dX0_copyOf_29 : decode cX0_copyOf 29 = .ok (.iastore, 1) := by decide +kernel
theorem dX0_copyOf_30 : decode cX0_copyOf 30 = .ok (.aload_n 0, 1) := by decide +kernel
theorem dX0_copyOf_31 : decode cX0_copyOf 31 = .ok (.getfield 15, 3) := by decide +kernel
theorem dX0_copyOf_34 : decode cX0_copyOf 34 = .ok (.iload_n 2, 1) := by decide +kernel
theorem dX0_copyOf_35 : decode cX0_copyOf 35 = .ok (.aload_n 1, 1) := by decide +kernel
theorem dX0_copyOf_36 : decode cX0_copyOf 36 = .ok (.getfield 15, 3) := by decide +kernel
theorem dX0_copyOf_39 : decode cX0_copyOf 39 = .ok (.iload_n 2, 1) := by decide +kernel
theorem dX0_copyOf_40 : decode cX0_copyOf 40 = .ok (.iaload, 1) := by decide +kernel
theorem dX0_copyOf_41 : decode cX0_copyOf 41 = .ok (.iastore, 1) := by decide +kernel
theorem dX0_copyOf_42 : decode cX0_copyOf 42 = .ok (.aload_n 0, 1) := by decide +kernel
theorem dX0_copyOf_43 : decode cX0_copyOf 43 = .ok (.getfield 18, 3) := by decide +kernel
theorem dX0_copyOf_46 : decode cX0_copyOf 46 = .ok (.iload_n 2, 1) := by decide +kernel
theorem dX0_copyOf_47 : decode cX0_copyOf 47 = .ok (.aload_n 1, 1) := by decide +kernel
theorem dX0_copyOf_48 : decode cX0_copyOf 48 = .ok (.getfield 18, 3) := by decide +kernel
theorem dX0_copyOf_51 : decode cX0_copyOf 51 = .ok (.iload_n 2, 1) := by decide +kernel
theorem dX0_copyOf_52 : decode cX0_copyOf 52 = .ok (.iaload, 1) := by decide +kernel
theorem dX0_copyOf_53 : decode cX0_copyOf 53 = .ok (.iastore, 1) := by decide +kernel
theorem dX0_copyOf_54 : decode cX0_copyOf 54 = .ok (.aload_n 0, 1) := by decide +kernel
theorem dX0_copyOf_55 : decode cX0_copyOf 55 = .ok (.getfield 21, 3) := by decide +kernel
theorem dX0_copyOf_58 : decode cX0_copyOf 58 = .ok (.iload_n 2, 1) := by decide +kernel
theorem dX0_copyOf_59 : decode cX0_copyOf 59 = .ok (.aload_n 1, 1) := by decide +kernel
theorem dX0_copyOf_60 : decode cX0_copyOf 60 = .ok (.getfield 21, 3) := by decide +kernel
theorem dX0_copyOf_63 : decode cX0_copyOf 63 = .ok (.iload_n 2, 1) := by decide +kernel
theorem dX0_copyOf_64 : decode cX0_copyOf 64 = .ok (.baload, 1) := by decide +kernel
theorem dX0_copyOf_65 : decode cX0_copyOf 65 = .ok (.bastore, 1) := by decide +kernel
theorem dX0_copyOf_66 : decode cX0_copyOf 66 = .ok (.iinc 2 1, 3) := by decide +kernel
theorem dX0_copyOf_69 : decode cX0_copyOf 69 = .ok (.goto (-59), 3) := by decide +kernel
theorem dX0_copyOf_72 : decode cX0_copyOf 72 = .ok (.return_, 1) := by decide +kernel
theorem dX1_init_0 : decode cX1_init 0 = .ok (.aload_n 0, 1) := by decide +kernel
theorem dX1_init_1 : decode cX1_init 1 = .ok (.invokespecial 3, 3) := by decide +kernel
theorem dX1_init_4 : decode cX1_init 4 = .ok (.aload_n 0, 1) := by decide +kernel
theorem dX1_init_5 : decode cX1_init 5 = .ok (.iconst 4, 1) := by decide +kernel
theorem dX1_init_6 : decode cX1_init 6 = .ok (.newarray .int, 2) := by decide +kernel
theorem dX1_init_8 : decode cX1_init 8 = .ok (.putfield 9, 3) := by decide +kernel
theorem dX1_init_11 : decode cX1_init 11 = .ok (.aload_n 0, 1) := by decide +kernel
theorem dX1_init_12 : decode cX1_init 12 = .ok (.iconst 4, 1) := by decide +kernel
theorem dX1_init_13 : decode cX1_init 13 = .ok (.newarray .int, 2) := by decide +kernel
theorem dX1_init_15 : decode cX1_init 15 = .ok (.putfield 15, 3) := by decide +kernel
theorem dX1_init_18 : decode cX1_init 18 = .ok (.aload_n 0, 1) := by decide +kernel
theorem dX1_init_19 : decode cX1_init 19 = .ok (.iconst 4, 1) := by decide +kernel
theorem dX1_init_20 : decode cX1_init 20 = .ok (.newarray .boolean, 2) := by decide +kernel
theorem dX1_init_22 : decode cX1_init 22 = .ok (.putfield 18, 3) := by decide +kernel
theorem dX1_init_25 : decode cX1_init 25 = .ok (.aload_n 0, 1) := by decide +kernel
theorem dX1_init_26 : decode cX1_init 26 = .ok (.iconst 0, 1) := by decide +kernel
theorem dX1_init_27 : decode cX1_init 27 = .ok (.putfield 22, 3) := by decide +kernel
theorem dX1_init_30 : decode cX1_init 30 = .ok (.aload_n 0, 1) := by decide +kernel
theorem dX1_init_31 : decode cX1_init 31 = .ok (.iload_n 1, 1) := by decide +kernel
theorem dX1_init_32 : decode cX1_init 32 = .ok (.iconst 4, 1) := by decide +kernel
theorem dX1_init_33 : decode cX1_init 33 = .ok (.invokestatic 26, 3) := by decide +kernel
theorem dX1_init_36 : decode cX1_init 36 = .ok (.putfield 32, 3) := by decide +kernel
theorem dX1_init_39 : decode cX1_init 39 = .ok (.return_, 1) := by decide +kernel
theorem dX1_has_0 : decode cX1_has 0 = .ok (.iload_n 1, 1) := by decide +kernel
theorem dX1_has_1 : decode cX1_has 1 = .ok (.ifCond .lt 15, 3) := by decide +kernel
theorem dX1_has_4 : decode cX1_has 4 = .ok (.iload_n 1, 1) := by decide +kernel
theorem dX1_has_5 : decode cX1_has 5 = .ok (.aload_n 0, 1) := by decide +kernel
theorem dX1_has_6 : decode cX1_has 6 = .ok (.getfield 22, 3) := by decide +kernel
theorem dX1_has_9 : decode cX1_has 9 = .ok (.if_icmp .ge 7, 3) := by decide +kernel
theorem dX1_has_12 : decode cX1_has 12 = .ok (.iconst 1, 1) := by decide +kernel
theorem dX1_has_13 : decode cX1_has 13 = .ok (.goto 4, 3) := by decide +kernel
theorem dX1_has_16 : decode cX1_has 16 = .ok (.iconst 0, 1) := by decide +kernel
theorem dX1_has_17 : decode cX1_has 17 = .ok (.ireturn, 1) := by decide +kernel
theorem dX1_full_0 : decode cX1_full 0 = .ok (.aload_n 0, 1) := by decide +kernel
theorem dX1_full_1 : decode cX1_full 1 = .ok (.getfield 22, 3) := by decide +kernel
theorem dX1_full_4 : decode cX1_full 4 = .ok (.aload_n 0, 1) := by decide +kernel
theorem dX1_full_5 : decode cX1_full 5 = .ok (.getfield 32, 3) := by decide +kernel
theorem dX1_full_8 : decode cX1_full 8 = .ok (.if_icmp .lt 7, 3) := by decide +kernel
theorem dX1_full_11 : decode cX1_full 11 = .ok (.iconst 1, 1) := by decide +kernel
theorem dX1_full_12 : decode cX1_full 12 = .ok (.goto 4, 3) := by decide +kernel
theorem dX1_full_15 : decode cX1_full 15 = .ok (.iconst 0, 1) := by decide +kernel
theorem dX1_full_16 : decode cX1_full 16 = .ok (.ireturn, 1) := by decide +kernel
theorem dX1_add_0 : decode cX1_add 0 = .ok (.aload_n 0, 1) := by decide +kernel
theorem dX1_add_1 : decode cX1_add 1 = .ok (.getfield 22, 3) := by decide +kernel
theorem dX1_add_4 : decode cX1_add 4 = .ok (.istore_n 2, 1) := by decide +kernel
theorem dX1_add_5 : decode cX1_add 5 = .ok (.aload_n 0, 1) := by decide +kernel
theorem dX1_add_6 : decode cX1_add 6 = .ok (.getfield 9, 3) := by decide +kernel
theorem dX1_add_9 : decode cX1_add 9 = .ok (.iload_n 2, 1) := by decide +kernel
theorem dX1_add_10 : decode cX1_add 10 = .ok (.iload_n 1, 1) := by decide +kernel
theorem dX1_add_11 : decode cX1_add 11 = .ok (.iastore, 1) := by decide +kernel
theorem dX1_add_12 : decode cX1_add 12 = .ok (.aload_n 0, 1) := by decide +kernel
theorem dX1_add_13 : decode cX1_add 13 = .ok (.dup, 1) := by decide +kernel
theorem dX1_add_14 : decode cX1_add 14 = .ok (.getfield 22, 3) := by decide +kernel
theorem dX1_add_17 : decode cX1_add 17 = .ok (.iconst 1, 1) := by decide +kernel
theorem dX1_add_18 : decode cX1_add 18 = .ok (.iadd, 1) := by decide +kernel
theorem dX1_add_19 : decode cX1_add 19 = .ok (.putfield 22, 3) := by decide +kernel
theorem dX1_add_22 : decode cX1_add 22 = .ok (.iload_n 2, 1) := by decide +kernel
theorem dX1_add_23 : decode cX1_add 23 = .ok (.ireturn, 1) := by decide +kernel
theorem dX1_empty_0 : decode cX1_empty 0 = .ok (.aload_n 0, 1) := by decide +kernel
theorem dX1_empty_1 : decode cX1_empty 1 = .ok (.getfield 9, 3) := by decide +kernel
theorem dX1_empty_4 : decode cX1_empty 4 = .ok (.iload_n 1, 1) := by decide +kernel
theorem dX1_empty_5 : decode cX1_empty 5 = .ok (.iconst 0, 1) := by decide +kernel
theorem dX1_empty_6 : decode cX1_empty 6 = .ok (.iastore, 1) := by decide +kernel
theorem dX1_empty_7 : decode cX1_empty 7 = .ok (.aload_n 0, 1) := by decide +kernel
theorem dX1_empty_8 : decode cX1_empty 8 = .ok (.getfield 15, 3) := by decide +kernel
theorem dX1_empty_11 : decode cX1_empty 11 = .ok (.iload_n 1, 1) := by decide +kernel
theorem dX1_empty_12 : decode cX1_empty 12 = .ok (.iconst 0, 1) := by decide +kernel
theorem dX1_empty_13 : decode cX1_empty 13 = .ok (.iastore, 1) := by decide +kernel
theorem dX1_empty_14 : decode cX1_empty 14 = .ok (.aload_n 0, 1) := by decide +kernel
theorem dX1_empty_15 : decode cX1_empty 15 = .ok (.getfield 18, 3) := by decide +kernel
theorem dX1_empty_18 : decode cX1_empty 18 = .ok (.iload_n 1, 1) := by decide +kernel
theorem dX1_empty_19 : decode cX1_empty 19 = .ok (.iconst 0, 1) := by decide +kernel
theorem dX1_empty_20 : decode cX1_empty 20 = .ok (.bastore, 1) := by decide +kernel
theorem dX1_empty_21 : decode cX1_empty 21 = .ok (.return_, 1) := by decide +kernel
theorem dX1_strength_0 : decode cX1_strength 0 = .ok (.aload_n 0, 1) := by decide +kernel
theorem dX1_strength_1 : decode cX1_strength 1 = .ok (.getfield 9, 3) := by decide +kernel
theorem dX1_strength_4 : decode cX1_strength 4 = .ok (.iload_n 1, 1) := by decide +kernel
theorem dX1_strength_5 : decode cX1_strength 5 = .ok (.iaload, 1) := by decide +kernel
theorem dX1_strength_6 : decode cX1_strength 6 = .ok (.aload_n 0, 1) := by decide +kernel
theorem dX1_strength_7 : decode cX1_strength 7 = .ok (.getfield 15, 3) := by decide +kernel
theorem dX1_strength_10 : decode cX1_strength 10 = .ok (.iload_n 1, 1) := by decide +kernel
theorem dX1_strength_11 : decode cX1_strength 11 = .ok (.iaload, 1) := by decide +kernel
theorem dX1_strength_12 : decode cX1_strength 12 = .ok (.invokestatic 35, 3) := by decide +kernel
theorem dX1_strength_15 : decode cX1_strength 15 = .ok (.ireturn, 1) := by decide +kernel
theorem dX1_egg_0 : decode cX1_egg 0 = .ok (.aload_n 0, 1) := by decide +kernel
theorem dX1_egg_1 : decode cX1_egg 1 = .ok (.iload_n 1, 1) := by decide +kernel
theorem dX1_egg_2 : decode cX1_egg 2 = .ok (.invokevirtual 38, 3) := by decide +kernel
theorem dX1_egg_5 : decode cX1_egg 5 = .ok (.invokestatic 42, 3) := by decide +kernel
theorem dX1_egg_8 : decode cX1_egg 8 = .ok (.ireturn, 1) := by decide +kernel
theorem dX1_tell_0 : decode cX1_tell 0 = .ok (.iload_n 2, 1) := by decide +kernel
theorem dX1_tell_1 : decode cX1_tell 1 = .ok (.tableswitch 57 0 3 #[31, 38, 45, 51], 31) := by decide +kernel
theorem dX1_tell_32 : decode cX1_tell 32 = .ok (.aload_n 0, 1) := by decide +kernel
theorem dX1_tell_33 : decode cX1_tell 33 = .ok (.getfield 9, 3) := by decide +kernel
theorem dX1_tell_36 : decode cX1_tell 36 = .ok (.iload_n 1, 1) := by decide +kernel
theorem dX1_tell_37 : decode cX1_tell 37 = .ok (.iaload, 1) := by decide +kernel
theorem dX1_tell_38 : decode cX1_tell 38 = .ok (.ireturn, 1) := by decide +kernel
theorem dX1_tell_39 : decode cX1_tell 39 = .ok (.aload_n 0, 1) := by decide +kernel
theorem dX1_tell_40 : decode cX1_tell 40 = .ok (.getfield 15, 3) := by decide +kernel
theorem dX1_tell_43 : decode cX1_tell 43 = .ok (.iload_n 1, 1) := by decide +kernel
theorem dX1_tell_44 : decode cX1_tell 44 = .ok (.iaload, 1) := by decide +kernel
theorem dX1_tell_45 : decode cX1_tell 45 = .ok (.ireturn, 1) := by decide +kernel
theorem dX1_tell_46 : decode cX1_tell 46 = .ok (.aload_n 0, 1) := by decide +kernel
theorem dX1_tell_47 : decode cX1_tell 47 = .ok (.iload_n 1, 1) := by decide +kernel
theorem dX1_tell_48 : decode cX1_tell 48 = .ok (.invokevirtual 38, 3) := by decide +kernel
theorem dX1_tell_51 : decode cX1_tell 51 = .ok (.ireturn, 1) := by decide +kernel
theorem dX1_tell_52 : decode cX1_tell 52 = .ok (.aload_n 0, 1) := by decide +kernel
theorem dX1_tell_53 : decode cX1_tell 53 = .ok (.iload_n 1, 1) := by decide +kernel
theorem dX1_tell_54 : decode cX1_tell 54 = .ok (.invokevirtual 45, 3) := by decide +kernel
theorem dX1_tell_57 : decode cX1_tell 57 = .ok (.ireturn, 1) := by decide +kernel
theorem dX1_tell_58 : decode cX1_tell 58 = .ok (.aload_n 0, 1) := by decide +kernel
theorem dX1_tell_59 : decode cX1_tell 59 = .ok (.getfield 18, 3) := by decide +kernel
theorem dX1_tell_62 : decode cX1_tell 62 = .ok (.iload_n 1, 1) := by decide +kernel
theorem dX1_tell_63 : decode cX1_tell 63 = .ok (.baload, 1) := by decide +kernel
theorem dX1_tell_64 : decode cX1_tell 64 = .ok (.ifCond .eq 7, 3) := by decide +kernel
theorem dX1_tell_67 : decode cX1_tell 67 = .ok (.iconst 1, 1) := by decide +kernel
theorem dX1_tell_68 : decode cX1_tell 68 = .ok (.goto 4, 3) := by decide +kernel
theorem dX1_tell_71 : decode cX1_tell 71 = .ok (.iconst 0, 1) := by decide +kernel
theorem dX1_tell_72 : decode cX1_tell 72 = .ok (.ireturn, 1) := by decide +kernel
theorem dX1_allAlum_0 : decode cX1_allAlum 0 = .ok (.iconst 0, 1) := by decide +kernel
theorem dX1_allAlum_1 : decode cX1_allAlum 1 = .ok (.istore_n 1, 1) := by decide +kernel
theorem dX1_allAlum_2 : decode cX1_allAlum 2 = .ok (.iconst 0, 1) := by decide +kernel
theorem dX1_allAlum_3 : decode cX1_allAlum 3 = .ok (.istore_n 2, 1) := by decide +kernel
theorem dX1_allAlum_4 : decode cX1_allAlum 4 = .ok (.iload_n 2, 1) := by decide +kernel
theorem dX1_allAlum_5 : decode cX1_allAlum 5 = .ok (.aload_n 0, 1) := by decide +kernel
theorem dX1_allAlum_6 : decode cX1_allAlum 6 = .ok (.getfield 22, 3) := by decide +kernel
theorem dX1_allAlum_9 : decode cX1_allAlum 9 = .ok (.if_icmp .ge 18, 3) := by decide +kernel
theorem dX1_allAlum_12 : decode cX1_allAlum 12 = .ok (.iload_n 1, 1) := by decide +kernel
theorem dX1_allAlum_13 : decode cX1_allAlum 13 = .ok (.aload_n 0, 1) := by decide +kernel
theorem dX1_allAlum_14 : decode cX1_allAlum 14 = .ok (.getfield 15, 3) := by decide +kernel
theorem dX1_allAlum_17 : decode cX1_allAlum 17 = .ok (.iload_n 2, 1) := by decide +kernel
theorem dX1_allAlum_18 : decode cX1_allAlum 18 = .ok (.iaload, 1) := by decide +kernel
theorem dX1_allAlum_19 : decode cX1_allAlum 19 = .ok (.iadd, 1) := by decide +kernel
theorem dX1_allAlum_20 : decode cX1_allAlum 20 = .ok (.istore_n 1, 1) := by decide +kernel
theorem dX1_allAlum_21 : decode cX1_allAlum 21 = .ok (.iinc 2 1, 3) := by decide +kernel
theorem dX1_allAlum_24 : decode cX1_allAlum 24 = .ok (.goto (-20), 3) := by decide +kernel
theorem dX1_allAlum_27 : decode cX1_allAlum 27 = .ok (.iload_n 1, 1) := by decide +kernel
theorem dX1_allAlum_28 : decode cX1_allAlum 28 = .ok (.ireturn, 1) := by decide +kernel
theorem dX1_filled_0 : decode cX1_filled 0 = .ok (.iconst 0, 1) := by decide +kernel
theorem dX1_filled_1 : decode cX1_filled 1 = .ok (.istore_n 1, 1) := by decide +kernel
theorem dX1_filled_2 : decode cX1_filled 2 = .ok (.iconst 0, 1) := by decide +kernel
theorem dX1_filled_3 : decode cX1_filled 3 = .ok (.istore_n 2, 1) := by decide +kernel
theorem dX1_filled_4 : decode cX1_filled 4 = .ok (.iload_n 2, 1) := by decide +kernel
theorem dX1_filled_5 : decode cX1_filled 5 = .ok (.aload_n 0, 1) := by decide +kernel
theorem dX1_filled_6 : decode cX1_filled 6 = .ok (.getfield 22, 3) := by decide +kernel
theorem dX1_filled_9 : decode cX1_filled 9 = .ok (.if_icmp .ge 28, 3) := by decide +kernel
theorem dX1_filled_12 : decode cX1_filled 12 = .ok (.aload_n 0, 1) := by decide +kernel
theorem dX1_filled_13 : decode cX1_filled 13 = .ok (.getfield 9, 3) := by decide +kernel
theorem dX1_filled_16 : decode cX1_filled 16 = .ok (.iload_n 2, 1) := by decide +kernel
theorem dX1_filled_17 : decode cX1_filled 17 = .ok (.iaload, 1) := by decide +kernel
theorem dX1_filled_18 : decode cX1_filled 18 = .ok (.aload_n 0, 1) := by decide +kernel
theorem dX1_filled_19 : decode cX1_filled 19 = .ok (.getfield 15, 3) := by decide +kernel
theorem dX1_filled_22 : decode cX1_filled 22 = .ok (.iload_n 2, 1) := by decide +kernel
theorem dX1_filled_23 : decode cX1_filled 23 = .ok (.iaload, 1) := by decide +kernel
theorem dX1_filled_24 : decode cX1_filled 24 = .ok (.iadd, 1) := by decide +kernel
theorem dX1_filled_25 : decode cX1_filled 25 = .ok (.ifCond .le 6, 3) := by decide +kernel
theorem dX1_filled_28 : decode cX1_filled 28 = .ok (.iinc 1 1, 3) := by decide +kernel
theorem dX1_filled_31 : decode cX1_filled 31 = .ok (.iinc 2 1, 3) := by decide +kernel
theorem dX1_filled_34 : decode cX1_filled 34 = .ok (.goto (-30), 3) := by decide +kernel
theorem dX1_filled_37 : decode cX1_filled 37 = .ok (.iload_n 1, 1) := by decide +kernel
theorem dX1_filled_38 : decode cX1_filled 38 = .ok (.ireturn, 1) := by decide +kernel
theorem dX1_strengths_0 : decode cX1_strengths 0 = .ok (.iconst 0, 1) := by decide +kernel
theorem dX1_strengths_1 : decode cX1_strengths 1 = .ok (.istore_n 1, 1) := by decide +kernel
theorem dX1_strengths_2 : decode cX1_strengths 2 = .ok (.iconst 0, 1) := by decide +kernel
theorem dX1_strengths_3 : decode cX1_strengths 3 = .ok (.istore_n 2, 1) := by decide +kernel
theorem dX1_strengths_4 : decode cX1_strengths 4 = .ok (.iload_n 2, 1) := by decide +kernel
theorem dX1_strengths_5 : decode cX1_strengths 5 = .ok (.aload_n 0, 1) := by decide +kernel
theorem dX1_strengths_6 : decode cX1_strengths 6 = .ok (.getfield 22, 3) := by decide +kernel
theorem dX1_strengths_9 : decode cX1_strengths 9 = .ok (.if_icmp .ge 17, 3) := by decide +kernel
theorem dX1_strengths_12 : decode cX1_strengths 12 = .ok (.iload_n 1, 1) := by decide +kernel
theorem dX1_strengths_13 : decode cX1_strengths 13 = .ok (.aload_n 0, 1) := by decide +kernel
theorem dX1_strengths_14 : decode cX1_strengths 14 = .ok (.iload_n 2, 1) := by decide +kernel
theorem dX1_strengths_15 : decode cX1_strengths 15 = .ok (.invokevirtual 38, 3) := by decide +kernel
theorem dX1_strengths_18 : decode cX1_strengths 18 = .ok (.iadd, 1) := by decide +kernel
theorem dX1_strengths_19 : decode cX1_strengths 19 = .ok (.istore_n 1, 1) := by decide +kernel
theorem dX1_strengths_20 : decode cX1_strengths 20 = .ok (.iinc 2 1, 3) := by decide +kernel
theorem dX1_strengths_23 : decode cX1_strengths 23 = .ok (.goto (-19), 3) := by decide +kernel
theorem dX1_strengths_26 : decode cX1_strengths 26 = .ok (.iload_n 1, 1) := by decide +kernel
theorem dX1_strengths_27 : decode cX1_strengths 27 = .ok (.ireturn, 1) := by decide +kernel
theorem dX1_takeWeather_0 : decode cX1_takeWeather 0 = .ok (.iconst 0, 1) := by decide +kernel
theorem dX1_takeWeather_1 : decode cX1_takeWeather 1 = .ok (.istore_n 2, 1) := by decide +kernel
theorem dX1_takeWeather_2 : decode cX1_takeWeather 2 = .ok (.iload_n 2, 1) := by decide +kernel
theorem dX1_takeWeather_3 : decode cX1_takeWeather 3 = .ok (.aload_n 0, 1) := by decide +kernel
theorem dX1_takeWeather_4 : decode cX1_takeWeather 4 = .ok (.getfield 22, 3) := by decide +kernel
theorem dX1_takeWeather_7 : decode cX1_takeWeather 7 = .ok (.if_icmp .ge 54, 3) := by decide +kernel
theorem dX1_takeWeather_10 : decode cX1_takeWeather 10 = .ok (.aload_n 0, 1) := by decide +kernel
theorem dX1_takeWeather_11 : decode cX1_takeWeather 11 = .ok (.getfield 9, 3) := by decide +kernel
theorem dX1_takeWeather_14 : decode cX1_takeWeather 14 = .ok (.iload_n 2, 1) := by decide +kernel
theorem dX1_takeWeather_15 : decode cX1_takeWeather 15 = .ok (.iaload, 1) := by decide +kernel
theorem dX1_takeWeather_16 : decode cX1_takeWeather 16 = .ok (.ifCond .le 39, 3) := by decide +kernel
theorem dX1_takeWeather_19 : decode cX1_takeWeather 19 = .ok (.sipush 400, 3) := by decide +kernel
theorem dX1_takeWeather_22 : decode cX1_takeWeather 22 = .ok (.aload_n 0, 1) := by decide +kernel
theorem dX1_takeWeather_23 : decode cX1_takeWeather 23 = .ok (.getfield 9, 3) := by decide +kernel
theorem dX1_takeWeather_26 : decode cX1_takeWeather 26 = .ok (.iload_n 2, 1) := by decide +kernel
theorem dX1_takeWeather_27 : decode cX1_takeWeather 27 = .ok (.iaload, 1) := by decide +kernel
theorem dX1_takeWeather_28 : decode cX1_takeWeather 28 = .ok (.iload_n 1, 1) := by decide +kernel
theorem dX1_takeWeather_29 : decode cX1_takeWeather 29 = .ok (.iadd, 1) := by decide +kernel
theorem dX1_takeWeather_30 : decode cX1_takeWeather 30 = .ok (.invokestatic 26, 3) := by decide +kernel
theorem dX1_takeWeather_33 : decode cX1_takeWeather 33 = .ok (.istore_n 3, 1) := by decide +kernel
theorem dX1_takeWeather_34 : decode cX1_takeWeather 34 = .ok (.aload_n 0, 1) := by decide +kernel
theorem dX1_takeWeather_35 : decode cX1_takeWeather 35 = .ok (.getfield 9, 3) := by decide +kernel
theorem dX1_takeWeather_38 : decode cX1_takeWeather 38 = .ok (.iload_n 2, 1) := by decide +kernel
theorem dX1_takeWeather_39 : decode cX1_takeWeather 39 = .ok (.iload_n 1, 1) := by decide +kernel
theorem dX1_takeWeather_40 : decode cX1_takeWeather 40 = .ok (.ifCond .ne 13, 3) := by decide +kernel
theorem dX1_takeWeather_43 : decode cX1_takeWeather 43 = .ok (.iconst 0, 1) := by decide +kernel
theorem dX1_takeWeather_44 : decode cX1_takeWeather 44 = .ok (.iload_n 3, 1) := by decide +kernel
theorem dX1_takeWeather_45 : decode cX1_takeWeather 45 = .ok (.iconst 3, 1) := by decide +kernel
theorem dX1_takeWeather_46 : decode cX1_takeWeather 46 = .ok (.isub, 1) := by decide +kernel
theorem dX1_takeWeather_47 : decode cX1_takeWeather 47 = .ok (.invokestatic 48, 3) := by decide +kernel
theorem dX1_takeWeather_50 : decode cX1_takeWeather 50 = .ok (.goto 4, 3) := by decide +kernel
theorem dX1_takeWeather_53 : decode cX1_takeWeather 53 = .ok (.iload_n 3, 1) := by decide +kernel
theorem dX1_takeWeather_54 : decode cX1_takeWeather 54 = .ok (.iastore, 1) := by decide +kernel
theorem dX1_takeWeather_55 : decode cX1_takeWeather 55 = .ok (.iinc 2 1, 3) := by decide +kernel
theorem dX1_takeWeather_58 : decode cX1_takeWeather 58 = .ok (.goto (-56), 3) := by decide +kernel
theorem dX1_takeWeather_61 : decode cX1_takeWeather 61 = .ok (.return_, 1) := by decide +kernel
theorem dX1_copyOf_0 : decode cX1_copyOf 0 = .ok (.aload_n 0, 1) := by decide +kernel
theorem dX1_copyOf_1 : decode cX1_copyOf 1 = .ok (.aload_n 1, 1) := by decide +kernel
theorem dX1_copyOf_2 : decode cX1_copyOf 2 = .ok (.getfield 22, 3) := by decide +kernel
theorem dX1_copyOf_5 : decode cX1_copyOf 5 = .ok (.putfield 22, 3) := by decide +kernel
theorem dX1_copyOf_8 : decode cX1_copyOf 8 = .ok (.iconst 0, 1) := by decide +kernel
theorem dX1_copyOf_9 : decode cX1_copyOf 9 = .ok (.istore_n 2, 1) := by decide +kernel
theorem dX1_copyOf_10 : decode cX1_copyOf 10 = .ok (.iload_n 2, 1) := by decide +kernel
theorem dX1_copyOf_11 : decode cX1_copyOf 11 = .ok (.aload_n 0, 1) := by decide +kernel
theorem dX1_copyOf_12 : decode cX1_copyOf 12 = .ok (.getfield 22, 3) := by decide +kernel
theorem dX1_copyOf_15 : decode cX1_copyOf 15 = .ok (.if_icmp .ge 45, 3) := by decide +kernel
theorem dX1_copyOf_18 : decode cX1_copyOf 18 = .ok (.aload_n 0, 1) := by decide +kernel
theorem dX1_copyOf_19 : decode cX1_copyOf 19 = .ok (.getfield 9, 3) := by decide +kernel
theorem dX1_copyOf_22 : decode cX1_copyOf 22 = .ok (.iload_n 2, 1) := by decide +kernel
theorem dX1_copyOf_23 : decode cX1_copyOf 23 = .ok (.aload_n 1, 1) := by decide +kernel
theorem dX1_copyOf_24 : decode cX1_copyOf 24 = .ok (.getfield 9, 3) := by decide +kernel
theorem dX1_copyOf_27 : decode cX1_copyOf 27 = .ok (.iload_n 2, 1) := by decide +kernel
theorem dX1_copyOf_28 : decode cX1_copyOf 28 = .ok (.iaload, 1) := by decide +kernel
theorem dX1_copyOf_29 : decode cX1_copyOf 29 = .ok (.iastore, 1) := by decide +kernel
theorem dX1_copyOf_30 : decode cX1_copyOf 30 = .ok (.aload_n 0, 1) := by decide +kernel
theorem dX1_copyOf_31 : decode cX1_copyOf 31 = .ok (.getfield 15, 3) := by decide +kernel
theorem dX1_copyOf_34 : decode cX1_copyOf 34 = .ok (.iload_n 2, 1) := by decide +kernel
theorem dX1_copyOf_35 : decode cX1_copyOf 35 = .ok (.aload_n 1, 1) := by decide +kernel
theorem dX1_copyOf_36 : decode cX1_copyOf 36 = .ok (.getfield 15, 3) := by decide +kernel
theorem dX1_copyOf_39 : decode cX1_copyOf 39 = .ok (.iload_n 2, 1) := by decide +kernel
theorem dX1_copyOf_40 : decode cX1_copyOf 40 = .ok (.iaload, 1) := by decide +kernel
theorem dX1_copyOf_41 : decode cX1_copyOf 41 = .ok (.iastore, 1) := by decide +kernel
theorem dX1_copyOf_42 : decode cX1_copyOf 42 = .ok (.aload_n 0, 1) := by decide +kernel
theorem dX1_copyOf_43 : decode cX1_copyOf 43 = .ok (.getfield 18, 3) := by decide +kernel
theorem dX1_copyOf_46 : decode cX1_copyOf 46 = .ok (.iload_n 2, 1) := by decide +kernel
theorem dX1_copyOf_47 : decode cX1_copyOf 47 = .ok (.aload_n 1, 1) := by decide +kernel
theorem dX1_copyOf_48 : decode cX1_copyOf 48 = .ok (.getfield 18, 3) := by decide +kernel
theorem dX1_copyOf_51 : decode cX1_copyOf 51 = .ok (.iload_n 2, 1) := by decide +kernel
theorem dX1_copyOf_52 : decode cX1_copyOf 52 = .ok (.baload, 1) := by decide +kernel
theorem dX1_copyOf_53 : decode cX1_copyOf 53 = .ok (.bastore, 1) := by decide +kernel
theorem dX1_copyOf_54 : decode cX1_copyOf 54 = .ok (.iinc 2 1, 3) := by decide +kernel
theorem dX1_copyOf_57 : decode cX1_copyOf 57 = .ok (.goto (-47), 3) := by decide +kernel
theorem dX1_copyOf_60 : decode cX1_copyOf 60 = .ok (.return_, 1) := by decide +kernel
theorem dX2_init_0 : decode cX2_init 0 = .ok (.aload_n 0, 1) := by decide +kernel
theorem dX2_init_1 : decode cX2_init 1 = .ok (.invokespecial 3, 3) := by decide +kernel
theorem dX2_init_4 : decode cX2_init 4 = .ok (.aload_n 0, 1) := by decide +kernel
theorem dX2_init_5 : decode cX2_init 5 = .ok (.new 9, 3) := by decide +kernel
theorem dX2_init_8 : decode cX2_init 8 = .ok (.dup, 1) := by decide +kernel
theorem dX2_init_9 : decode cX2_init 9 = .ok (.invokespecial 11, 3) := by decide +kernel
theorem dX2_init_12 : decode cX2_init 12 = .ok (.putfield 12, 3) := by decide +kernel
theorem dX2_init_15 : decode cX2_init 15 = .ok (.aload_n 0, 1) := by decide +kernel
theorem dX2_init_16 : decode cX2_init 16 = .ok (.new 18, 3) := by decide +kernel
theorem dX2_init_19 : decode cX2_init 19 = .ok (.dup, 1) := by decide +kernel
theorem dX2_init_20 : decode cX2_init 20 = .ok (.iconst 4, 1) := by decide +kernel
theorem dX2_init_21 : decode cX2_init 21 = .ok (.invokespecial 20, 3) := by decide +kernel
theorem dX2_init_24 : decode cX2_init 24 = .ok (.putfield 23, 3) := by decide +kernel
theorem dX2_init_27 : decode cX2_init 27 = .ok (.aload_n 0, 1) := by decide +kernel
theorem dX2_init_28 : decode cX2_init 28 = .ok (.new 18, 3) := by decide +kernel
theorem dX2_init_31 : decode cX2_init 31 = .ok (.dup, 1) := by decide +kernel
theorem dX2_init_32 : decode cX2_init 32 = .ok (.iconst 3, 1) := by decide +kernel
theorem dX2_init_33 : decode cX2_init 33 = .ok (.invokespecial 20, 3) := by decide +kernel
theorem dX2_init_36 : decode cX2_init 36 = .ok (.putfield 27, 3) := by decide +kernel
theorem dX2_init_39 : decode cX2_init 39 = .ok (.aload_n 0, 1) := by decide +kernel
theorem dX2_init_40 : decode cX2_init 40 = .ok (.iconst 0, 1) := by decide +kernel
theorem dX2_init_41 : decode cX2_init 41 = .ok (.putfield 30, 3) := by decide +kernel
theorem dX2_init_44 : decode cX2_init 44 = .ok (.aload_n 0, 1) := by decide +kernel
theorem dX2_init_45 : decode cX2_init 45 = .ok (.iconst 0, 1) := by decide +kernel
theorem dX2_init_46 : decode cX2_init 46 = .ok (.putfield 34, 3) := by decide +kernel
theorem dX2_init_49 : decode cX2_init 49 = .ok (.aload_n 0, 1) := by decide +kernel
theorem dX2_init_50 : decode cX2_init 50 = .ok (.iconst 0, 1) := by decide +kernel
theorem dX2_init_51 : decode cX2_init 51 = .ok (.putfield 37, 3) := by decide +kernel
theorem dX2_init_54 : decode cX2_init 54 = .ok (.aload_n 0, 1) := by decide +kernel
theorem dX2_init_55 : decode cX2_init 55 = .ok (.iconst 0, 1) := by decide +kernel
theorem dX2_init_56 : decode cX2_init 56 = .ok (.putfield 40, 3) := by decide +kernel
theorem dX2_init_59 : decode cX2_init 59 = .ok (.aload_n 0, 1) := by decide +kernel
theorem dX2_init_60 : decode cX2_init 60 = .ok (.iconst 0, 1) := by decide +kernel
theorem dX2_init_61 : decode cX2_init 61 = .ok (.putfield 43, 3) := by decide +kernel
theorem dX2_init_64 : decode cX2_init 64 = .ok (.aload_n 0, 1) := by decide +kernel
theorem dX2_init_65 : decode cX2_init 65 = .ok (.iconst 0, 1) := by decide +kernel
theorem dX2_init_66 : decode cX2_init 66 = .ok (.putfield 46, 3) := by decide +kernel
theorem dX2_init_69 : decode cX2_init 69 = .ok (.aload_n 0, 1) := by decide +kernel
theorem dX2_init_70 : decode cX2_init 70 = .ok (.iconst 0, 1) := by decide +kernel
theorem dX2_init_71 : decode cX2_init 71 = .ok (.putfield 49, 3) := by decide +kernel
theorem dX2_init_74 : decode cX2_init 74 = .ok (.return_, 1) := by decide +kernel
theorem dX2_copyOf_0 : decode cX2_copyOf 0 = .ok (.aload_n 0, 1) := by decide +kernel
theorem dX2_copyOf_1 : decode cX2_copyOf 1 = .ok (.getfield 12, 3) := by decide +kernel
theorem dX2_copyOf_4 : decode cX2_copyOf 4 = .ok (.aload_n 1, 1) := by decide +kernel
theorem dX2_copyOf_5 : decode cX2_copyOf 5 = .ok (.getfield 12, 3) := by decide +kernel
theorem dX2_copyOf_8 : decode cX2_copyOf 8 = .ok (.invokevirtual 52, 3) := by decide +kernel
theorem dX2_copyOf_11 : decode cX2_copyOf 11 = .ok (.aload_n 0, 1) := by decide +kernel
theorem dX2_copyOf_12 : decode cX2_copyOf 12 = .ok (.getfield 23, 3) := by decide +kernel
theorem dX2_copyOf_15 : decode cX2_copyOf 15 = .ok (.aload_n 1, 1) := by decide +kernel
theorem dX2_copyOf_16 : decode cX2_copyOf 16 = .ok (.getfield 23, 3) := by decide +kernel
theorem dX2_copyOf_19 : decode cX2_copyOf 19 = .ok (.invokevirtual 56, 3) := by decide +kernel
theorem dX2_copyOf_22 : decode cX2_copyOf 22 = .ok (.aload_n 0, 1) := by decide +kernel
theorem dX2_copyOf_23 : decode cX2_copyOf 23 = .ok (.getfield 27, 3) := by decide +kernel
theorem dX2_copyOf_26 : decode cX2_copyOf 26 = .ok (.aload_n 1, 1) := by decide +kernel
theorem dX2_copyOf_27 : decode cX2_copyOf 27 = .ok (.getfield 27, 3) := by decide +kernel
theorem dX2_copyOf_30 : decode cX2_copyOf 30 = .ok (.invokevirtual 56, 3) := by decide +kernel
theorem dX2_copyOf_33 : decode cX2_copyOf 33 = .ok (.aload_n 0, 1) := by decide +kernel
theorem dX2_copyOf_34 : decode cX2_copyOf 34 = .ok (.aload_n 1, 1) := by decide +kernel
theorem dX2_copyOf_35 : decode cX2_copyOf 35 = .ok (.getfield 30, 3) := by decide +kernel
theorem dX2_copyOf_38 : decode cX2_copyOf 38 = .ok (.putfield 30, 3) := by decide +kernel
theorem dX2_copyOf_41 : decode cX2_copyOf 41 = .ok (.aload_n 0, 1) := by decide +kernel
theorem dX2_copyOf_42 : decode cX2_copyOf 42 = .ok (.aload_n 1, 1) := by decide +kernel
theorem dX2_copyOf_43 : decode cX2_copyOf 43 = .ok (.getfield 34, 3) := by decide +kernel
theorem dX2_copyOf_46 : decode cX2_copyOf 46 = .ok (.putfield 34, 3) := by decide +kernel
theorem dX2_copyOf_49 : decode cX2_copyOf 49 = .ok (.aload_n 0, 1) := by decide +kernel
theorem dX2_copyOf_50 : decode cX2_copyOf 50 = .ok (.aload_n 1, 1) := by decide +kernel
theorem dX2_copyOf_51 : decode cX2_copyOf 51 = .ok (.getfield 37, 3) := by decide +kernel
theorem dX2_copyOf_54 : decode cX2_copyOf 54 = .ok (.putfield 37, 3) := by decide +kernel
theorem dX2_copyOf_57 : decode cX2_copyOf 57 = .ok (.aload_n 0, 1) := by decide +kernel
theorem dX2_copyOf_58 : decode cX2_copyOf 58 = .ok (.aload_n 1, 1) := by decide +kernel
theorem dX2_copyOf_59 : decode cX2_copyOf 59 = .ok (.getfield 40, 3) := by decide +kernel
theorem dX2_copyOf_62 : decode cX2_copyOf 62 = .ok (.putfield 40, 3) := by decide +kernel
theorem dX2_copyOf_65 : decode cX2_copyOf 65 = .ok (.aload_n 0, 1) := by decide +kernel
theorem dX2_copyOf_66 : decode cX2_copyOf 66 = .ok (.aload_n 1, 1) := by decide +kernel
theorem dX2_copyOf_67 : decode cX2_copyOf 67 = .ok (.getfield 43, 3) := by decide +kernel
theorem dX2_copyOf_70 : decode cX2_copyOf 70 = .ok (.putfield 43, 3) := by decide +kernel
theorem dX2_copyOf_73 : decode cX2_copyOf 73 = .ok (.aload_n 0, 1) := by decide +kernel
theorem dX2_copyOf_74 : decode cX2_copyOf 74 = .ok (.aload_n 1, 1) := by decide +kernel
theorem dX2_copyOf_75 : decode cX2_copyOf 75 = .ok (.getfield 46, 3) := by decide +kernel
theorem dX2_copyOf_78 : decode cX2_copyOf 78 = .ok (.putfield 46, 3) := by decide +kernel
theorem dX2_copyOf_81 : decode cX2_copyOf 81 = .ok (.aload_n 0, 1) := by decide +kernel
theorem dX2_copyOf_82 : decode cX2_copyOf 82 = .ok (.aload_n 1, 1) := by decide +kernel
theorem dX2_copyOf_83 : decode cX2_copyOf 83 = .ok (.getfield 49, 3) := by decide +kernel
theorem dX2_copyOf_86 : decode cX2_copyOf 86 = .ok (.putfield 49, 3) := by decide +kernel
theorem dX2_copyOf_89 : decode cX2_copyOf 89 = .ok (.return_, 1) := by decide +kernel
theorem dX2_letDayGo_0 : decode cX2_letDayGo 0 = .ok (.aload_n 0, 1) := by decide +kernel
theorem dX2_letDayGo_1 : decode cX2_letDayGo 1 = .ok (.getfield 12, 3) := by decide +kernel
theorem dX2_letDayGo_4 : decode cX2_letDayGo 4 = .ok (.iload_n 1, 1) := by decide +kernel
theorem dX2_letDayGo_5 : decode cX2_letDayGo 5 = .ok (.invokevirtual 59, 3) := by decide +kernel
theorem dX2_letDayGo_8 : decode cX2_letDayGo 8 = .ok (.aload_n 0, 1) := by decide +kernel
theorem dX2_letDayGo_9 : decode cX2_letDayGo 9 = .ok (.getfield 23, 3) := by decide +kernel
theorem dX2_letDayGo_12 : decode cX2_letDayGo 12 = .ok (.iload_n 1, 1) := by decide +kernel
theorem dX2_letDayGo_13 : decode cX2_letDayGo 13 = .ok (.invokevirtual 62, 3) := by decide +kernel
theorem dX2_letDayGo_16 : decode cX2_letDayGo 16 = .ok (.aload_n 0, 1) := by decide +kernel
theorem dX2_letDayGo_17 : decode cX2_letDayGo 17 = .ok (.invokevirtual 65, 3) := by decide +kernel
theorem dX2_letDayGo_20 : decode cX2_letDayGo 20 = .ok (.aload_n 0, 1) := by decide +kernel
theorem dX2_letDayGo_21 : decode cX2_letDayGo 21 = .ok (.iload_n 2, 1) := by decide +kernel
theorem dX2_letDayGo_22 : decode cX2_letDayGo 22 = .ok (.invokevirtual 68, 3) := by decide +kernel
theorem dX2_letDayGo_25 : decode cX2_letDayGo 25 = .ok (.aload_n 0, 1) := by decide +kernel
theorem dX2_letDayGo_26 : decode cX2_letDayGo 26 = .ok (.dup, 1) := by decide +kernel
theorem dX2_letDayGo_27 : decode cX2_letDayGo 27 = .ok (.getfield 30, 3) := by decide +kernel
theorem dX2_letDayGo_30 : decode cX2_letDayGo 30 = .ok (.iconst 1, 1) := by decide +kernel
theorem dX2_letDayGo_31 : decode cX2_letDayGo 31 = .ok (.iadd, 1) := by decide +kernel
theorem dX2_letDayGo_32 : decode cX2_letDayGo 32 = .ok (.putfield 30, 3) := by decide +kernel
theorem dX2_letDayGo_35 : decode cX2_letDayGo 35 = .ok (.return_, 1) := by decide +kernel
theorem dX2_boilPans_0 : decode cX2_boilPans 0 = .ok (.iconst 0, 1) := by decide +kernel
theorem dX2_boilPans_1 : decode cX2_boilPans 1 = .ok (.istore_n 1, 1) := by decide +kernel
theorem dX2_boilPans_2 : decode cX2_boilPans 2 = .ok (.iload_n 1, 1) := by decide +kernel
theorem dX2_boilPans_3 : decode cX2_boilPans 3 = .ok (.aload_n 0, 1) := by decide +kernel
theorem dX2_boilPans_4 : decode cX2_boilPans 4 = .ok (.getfield 27, 3) := by decide +kernel
theorem dX2_boilPans_7 : decode cX2_boilPans 7 = .ok (.getfield 71, 3) := by decide +kernel
theorem dX2_boilPans_10 : decode cX2_boilPans 10 = .ok (.if_icmp .ge 92, 3) := by decide +kernel
theorem dX2_boilPans_13 : decode cX2_boilPans 13 = .ok (.aload_n 0, 1) := by decide +kernel
theorem dX2_boilPans_14 : decode cX2_boilPans 14 = .ok (.getfield 27, 3) := by decide +kernel
theorem dX2_boilPans_17 : decode cX2_boilPans 17 = .ok (.getfield 74, 3) := by decide +kernel
theorem dX2_boilPans_20 : decode cX2_boilPans 20 = .ok (.iload_n 1, 1) := by decide +kernel
theorem dX2_boilPans_21 : decode cX2_boilPans 21 = .ok (.baload, 1) := by decide +kernel
theorem dX2_boilPans_22 : decode cX2_boilPans 22 = .ok (.ifCond .ne 6, 3) := by decide +kernel
theorem dX2_boilPans_25 : decode cX2_boilPans 25 = .ok (.goto 71, 3) := by decide +kernel
theorem dX2_boilPans_28 : decode cX2_boilPans 28 = .ok (.aload_n 0, 1) := by decide +kernel
theorem dX2_boilPans_29 : decode cX2_boilPans 29 = .ok (.getfield 34, 3) := by decide +kernel
theorem dX2_boilPans_32 : decode cX2_boilPans 32 = .ok (.iconst 4, 1) := by decide +kernel
theorem dX2_boilPans_33 : decode cX2_boilPans 33 = .ok (.if_icmp .lt 15, 3) := by decide +kernel
theorem dX2_boilPans_36 : decode cX2_boilPans 36 = .ok (.aload_n 0, 1) := by decide +kernel
theorem dX2_boilPans_37 : decode cX2_boilPans 37 = .ok (.getfield 27, 3) := by decide +kernel
theorem dX2_boilPans_40 : decode cX2_boilPans 40 = .ok (.getfield 78, 3) := by decide +kernel
theorem dX2_boilPans_43 : decode cX2_boilPans 43 = .ok (.iload_n 1, 1) := by decide +kernel
theorem dX2_boilPans_44 : decode cX2_boilPans 44 = .ok (.iaload, 1) := by decide +kernel
theorem dX2_boilPans_45 : decode cX2_boilPans 45 = .ok (.ifCond .ne 16, 3) := by decide +kernel
theorem dX2_boilPans_48 : decode cX2_boilPans 48 = .ok (.aload_n 0, 1) := by decide +kernel
theorem dX2_boilPans_49 : decode cX2_boilPans 49 = .ok (.getfield 27, 3) := by decide +kernel
theorem dX2_boilPans_52 : decode cX2_boilPans 52 = .ok (.getfield 74, 3) := by decide +kernel
theorem dX2_boilPans_55 : decode cX2_boilPans 55 = .ok (.iload_n 1, 1) := by decide +kernel
theorem dX2_boilPans_56 : decode cX2_boilPans 56 = .ok (.iconst 0, 1) := by decide +kernel
theorem dX2_boilPans_57 : decode cX2_boilPans 57 = .ok (.bastore, 1) := by decide +kernel
theorem dX2_boilPans_58 : decode cX2_boilPans 58 = .ok (.goto 38, 3) := by decide +kernel
theorem dX2_boilPans_61 : decode cX2_boilPans 61 = .ok (.aload_n 0, 1) := by decide +kernel
theorem dX2_boilPans_62 : decode cX2_boilPans 62 = .ok (.dup, 1) := by decide +kernel
theorem dX2_boilPans_63 : decode cX2_boilPans 63 = .ok (.getfield 34, 3) := by decide +kernel
theorem dX2_boilPans_66 : decode cX2_boilPans 66 = .ok (.iconst 4, 1) := by decide +kernel
theorem dX2_boilPans_67 : decode cX2_boilPans 67 = .ok (.isub, 1) := by decide +kernel
theorem dX2_boilPans_68 : decode cX2_boilPans 68 = .ok (.putfield 34, 3) := by decide +kernel
theorem dX2_boilPans_71 : decode cX2_boilPans 71 = .ok (.aload_n 0, 1) := by decide +kernel
theorem dX2_boilPans_72 : decode cX2_boilPans 72 = .ok (.getfield 27, 3) := by decide +kernel
theorem dX2_boilPans_75 : decode cX2_boilPans 75 = .ok (.getfield 78, 3) := by decide +kernel
theorem dX2_boilPans_78 : decode cX2_boilPans 78 = .ok (.iload_n 1, 1) := by decide +kernel
theorem dX2_boilPans_79 : decode cX2_boilPans 79 = .ok (.iconst 0, 1) := by decide +kernel
theorem dX2_boilPans_80 : decode cX2_boilPans 80 = .ok (.aload_n 0, 1) := by decide +kernel
theorem dX2_boilPans_81 : decode cX2_boilPans 81 = .ok (.getfield 27, 3) := by decide +kernel
theorem dX2_boilPans_84 : decode cX2_boilPans 84 = .ok (.getfield 78, 3) := by decide +kernel
theorem dX2_boilPans_87 : decode cX2_boilPans 87 = .ok (.iload_n 1, 1) := by decide +kernel
theorem dX2_boilPans_88 : decode cX2_boilPans 88 = .ok (.iaload, 1) := by decide +kernel
theorem dX2_boilPans_89 : decode cX2_boilPans 89 = .ok (.bipush 12, 2) := by decide +kernel
theorem dX2_boilPans_91 : decode cX2_boilPans 91 = .ok (.isub, 1) := by decide +kernel
theorem dX2_boilPans_92 : decode cX2_boilPans 92 = .ok (.invokestatic 82, 3) := by decide +kernel
theorem dX2_boilPans_95 : decode cX2_boilPans 95 = .ok (.iastore, 1) := by decide +kernel
theorem dX2_boilPans_96 : decode cX2_boilPans 96 = .ok (.iinc 1 1, 3) := by decide +kernel
theorem dX2_boilPans_99 : decode cX2_boilPans 99 = .ok (.goto (-97), 3) := by decide +kernel
theorem dX2_boilPans_102 : decode cX2_boilPans 102 = .ok (.return_, 1) := by decide +kernel
theorem dX2_loadShip_0 : decode cX2_loadShip 0 = .ok (.iload_n 1, 1) := by decide +kernel
theorem dX2_loadShip_1 : decode cX2_loadShip 1 = .ok (.aload_n 0, 1) := by decide +kernel
theorem dX2_loadShip_2 : decode cX2_loadShip 2 = .ok (.getfield 40, 3) := by decide +kernel
theorem dX2_loadShip_5 : decode cX2_loadShip 5 = .ok (.invokestatic 88, 3) := by decide +kernel
theorem dX2_loadShip_8 : decode cX2_loadShip 8 = .ok (.istore_n 2, 1) := by decide +kernel
theorem dX2_loadShip_9 : decode cX2_loadShip 9 = .ok (.iload_n 1, 1) := by decide +kernel
theorem dX2_loadShip_10 : decode cX2_loadShip 10 = .ok (.iload_n 2, 1) := by decide +kernel
theorem dX2_loadShip_11 : decode cX2_loadShip 11 = .ok (.isub, 1) := by decide +kernel
theorem dX2_loadShip_12 : decode cX2_loadShip 12 = .ok (.aload_n 0, 1) := by decide +kernel
theorem dX2_loadShip_13 : decode cX2_loadShip 13 = .ok (.getfield 43, 3) := by decide +kernel
theorem dX2_loadShip_16 : decode cX2_loadShip 16 = .ok (.invokestatic 88, 3) := by decide +kernel
theorem dX2_loadShip_19 : decode cX2_loadShip 19 = .ok (.istore_n 3, 1) := by decide +kernel
theorem dX2_loadShip_20 : decode cX2_loadShip 20 = .ok (.aload_n 0, 1) := by decide +kernel
theorem dX2_loadShip_21 : decode cX2_loadShip 21 = .ok (.dup, 1) := by decide +kernel
theorem dX2_loadShip_22 : decode cX2_loadShip 22 = .ok (.getfield 40, 3) := by decide +kernel
theorem dX2_loadShip_25 : decode cX2_loadShip 25 = .ok (.iload_n 2, 1) := by decide +kernel
theorem dX2_loadShip_26 : decode cX2_loadShip 26 = .ok (.isub, 1) := by decide +kernel
theorem dX2_loadShip_27 : decode cX2_loadShip 27 = .ok (.putfield 40, 3) := by decide +kernel
theorem dX2_loadShip_30 : decode cX2_loadShip 30 = .ok (.aload_n 0, 1) := by decide +kernel
theorem dX2_loadShip_31 : decode cX2_loadShip 31 = .ok (.dup, 1) := by decide +kernel
theorem dX2_loadShip_32 : decode cX2_loadShip 32 = .ok (.getfield 43, 3) := by decide +kernel
theorem dX2_loadShip_35 : decode cX2_loadShip 35 = .ok (.iload_n 3, 1) := by decide +kernel
theorem dX2_loadShip_36 : decode cX2_loadShip 36 = .ok (.isub, 1) := by decide +kernel
theorem dX2_loadShip_37 : decode cX2_loadShip 37 = .ok (.putfield 43, 3) := by decide +kernel
theorem dX2_loadShip_40 : decode cX2_loadShip 40 = .ok (.aload_n 0, 1) := by decide +kernel
theorem dX2_loadShip_41 : decode cX2_loadShip 41 = .ok (.dup, 1) := by decide +kernel
theorem dX2_loadShip_42 : decode cX2_loadShip 42 = .ok (.getfield 46, 3) := by decide +kernel
theorem dX2_loadShip_45 : decode cX2_loadShip 45 = .ok (.iconst 5, 1) := by decide +kernel
theorem dX2_loadShip_46 : decode cX2_loadShip 46 = .ok (.iload_n 2, 1) := by decide +kernel
theorem dX2_loadShip_47 : decode cX2_loadShip 47 = .ok (.imul, 1) := by decide +kernel
theorem dX2_loadShip_48 : decode cX2_loadShip 48 = .ok (.iconst 2, 1) := by decide +kernel
theorem dX2_loadShip_49 : decode cX2_loadShip 49 = .ok (.iload_n 3, 1) := by decide +kernel
theorem dX2_loadShip_50 : decode cX2_loadShip 50 = .ok (.imul, 1) := by decide +kernel
theorem dX2_loadShip_51 : decode cX2_loadShip 51 = .ok (.iadd, 1) := by decide +kernel
theorem dX2_loadShip_52 : decode cX2_loadShip 52 = .ok (.iadd, 1) := by decide +kernel
theorem dX2_loadShip_53 : decode cX2_loadShip 53 = .ok (.putfield 46, 3) := by decide +kernel
theorem dX2_loadShip_56 : decode cX2_loadShip 56 = .ok (.aload_n 0, 1) := by decide +kernel
theorem dX2_loadShip_57 : decode cX2_loadShip 57 = .ok (.dup, 1) := by decide +kernel
theorem dX2_loadShip_58 : decode cX2_loadShip 58 = .ok (.getfield 49, 3) := by decide +kernel
theorem dX2_loadShip_61 : decode cX2_loadShip 61 = .ok (.iload_n 2, 1) := by decide +kernel
theorem dX2_loadShip_62 : decode cX2_loadShip 62 = .ok (.iload_n 3, 1) := by decide +kernel
theorem dX2_loadShip_63 : decode cX2_loadShip 63 = .ok (.iadd, 1) := by decide +kernel
theorem dX2_loadShip_64 : decode cX2_loadShip 64 = .ok (.iadd, 1) := by decide +kernel
theorem dX2_loadShip_65 : decode cX2_loadShip 65 = .ok (.putfield 49, 3) := by decide +kernel
theorem dX2_loadShip_68 : decode cX2_loadShip 68 = .ok (.return_, 1) := by decide +kernel
theorem dX3_init_0 : decode cX3_init 0 = .ok (.aload_n 0, 1) := by decide +kernel
theorem dX3_init_1 : decode cX3_init 1 = .ok (.invokespecial 1, 3) := by decide +kernel
theorem dX3_init_4 : decode cX3_init 4 = .ok (.aload_n 0, 1) := by decide +kernel
theorem dX3_init_5 : decode cX3_init 5 = .ok (.bipush 6, 2) := by decide +kernel
theorem dX3_init_7 : decode cX3_init 7 = .ok (.newarray .int, 2) := by decide +kernel
theorem dX3_init_9 : decode cX3_init 9 = .ok (.putfield 9, 3) := by decide +kernel
theorem dX3_init_12 : decode cX3_init 12 = .ok (.aload_n 0, 1) := by decide +kernel
theorem dX3_init_13 : decode cX3_init 13 = .ok (.bipush 7, 2) := by decide +kernel
theorem dX3_init_15 : decode cX3_init 15 = .ok (.newarray .int, 2) := by decide +kernel
theorem dX3_init_17 : decode cX3_init 17 = .ok (.putfield 13, 3) := by decide +kernel
theorem dX3_init_20 : decode cX3_init 20 = .ok (.aload_n 0, 1) := by decide +kernel
theorem dX3_init_21 : decode cX3_init 21 = .ok (.new 16, 3) := by decide +kernel
theorem dX3_init_24 : decode cX3_init 24 = .ok (.dup, 1) := by decide +kernel
theorem dX3_init_25 : decode cX3_init 25 = .ok (.invokespecial 18, 3) := by decide +kernel
theorem dX3_init_28 : decode cX3_init 28 = .ok (.putfield 19, 3) := by decide +kernel
theorem dX3_init_31 : decode cX3_init 31 = .ok (.aload_n 0, 1) := by decide +kernel
theorem dX3_init_32 : decode cX3_init 32 = .ok (.new 16, 3) := by decide +kernel
theorem dX3_init_35 : decode cX3_init 35 = .ok (.dup, 1) := by decide +kernel
theorem dX3_init_36 : decode cX3_init 36 = .ok (.invokespecial 18, 3) := by decide +kernel
theorem dX3_init_39 : decode cX3_init 39 = .ok (.putfield 23, 3) := by decide +kernel
theorem dX3_init_42 : decode cX3_init 42 = .ok (.return_, 1) := by decide +kernel
theorem dX3_bring_0 : decode cX3_bring 0 = .ok (.iload_n 1, 1) := by decide +kernel
theorem dX3_bring_1 : decode cX3_bring 1 = .ok (.iconst 0, 1) := by decide +kernel
theorem dX3_bring_2 : decode cX3_bring 2 = .ok (.iconst 1, 1) := by decide +kernel
theorem dX3_bring_3 : decode cX3_bring 3 = .ok (.invokestatic 26, 3) := by decide +kernel
theorem dX3_bring_6 : decode cX3_bring 6 = .ok (.ifCond .ne 13, 3) := by decide +kernel
theorem dX3_bring_9 : decode cX3_bring 9 = .ok (.new 30, 3) := by decide +kernel
theorem dX3_bring_12 : decode cX3_bring 12 = .ok (.dup, 1) := by decide +kernel
theorem dX3_bring_13 : decode cX3_bring 13 = .ok (.ldc 32, 2) := by decide +kernel
theorem dX3_bring_15 : decode cX3_bring 15 = .ok (.invokespecial 34, 3) := by decide +kernel
theorem dX3_bring_18 : decode cX3_bring 18 = .ok (.athrow, 1) := by decide +kernel
theorem dX3_bring_19 : decode cX3_bring 19 = .ok (.iload_n 2, 1) := by decide +kernel
theorem dX3_bring_20 : decode cX3_bring 20 = .ok (.iconst 1, 1) := by decide +kernel
theorem dX3_bring_21 : decode cX3_bring 21 = .ok (.sipush 500, 3) := by decide +kernel
theorem dX3_bring_24 : decode cX3_bring 24 = .ok (.invokestatic 26, 3) := by decide +kernel
theorem dX3_bring_27 : decode cX3_bring 27 = .ok (.ifCond .ne 13, 3) := by decide +kernel
theorem dX3_bring_30 : decode cX3_bring 30 = .ok (.new 37, 3) := by decide +kernel
theorem dX3_bring_33 : decode cX3_bring 33 = .ok (.dup, 1) := by decide +kernel
theorem dX3_bring_34 : decode cX3_bring 34 = .ok (.ldc 39, 2) := by decide +kernel
theorem dX3_bring_36 : decode cX3_bring 36 = .ok (.invokespecial 41, 3) := by decide +kernel
theorem dX3_bring_39 : decode cX3_bring 39 = .ok (.athrow, 1) := by decide +kernel
theorem dX3_bring_40 : decode cX3_bring 40 = .ok (.iload_n 1, 1) := by decide +kernel
theorem dX3_bring_41 : decode cX3_bring 41 = .ok (.ifCond .ne 33, 3) := by decide +kernel
theorem dX3_bring_44 : decode cX3_bring 44 = .ok (.aload_n 0, 1) := by decide +kernel
theorem dX3_bring_45 : decode cX3_bring 45 = .ok (.getfield 19, 3) := by decide +kernel
theorem dX3_bring_48 : decode cX3_bring 48 = .ok (.sipush 500, 3) := by decide +kernel
theorem dX3_bring_51 : decode cX3_bring 51 = .ok (.aload_n 0, 1) := by decide +kernel
theorem dX3_bring_52 : decode cX3_bring 52 = .ok (.getfield 19, 3) := by decide +kernel
theorem dX3_bring_55 : decode cX3_bring 55 = .ok (.getfield 42, 3) := by decide +kernel
theorem dX3_bring_58 : decode cX3_bring 58 = .ok (.iload_n 2, 1) := by decide +kernel
theorem dX3_bring_59 : decode cX3_bring 59 = .ok (.iadd, 1) := by decide +kernel
theorem dX3_bring_60 : decode cX3_bring 60 = .ok (.invokestatic 46, 3) := by decide +kernel
theorem dX3_bring_63 : decode cX3_bring 63 = .ok (.putfield 42, 3) := by decide +kernel
theorem dX3_bring_66 : decode cX3_bring 66 = .ok (.aload_n 0, 1) := by decide +kernel
theorem dX3_bring_67 : decode cX3_bring 67 = .ok (.getfield 19, 3) := by decide +kernel
theorem dX3_bring_70 : decode cX3_bring 70 = .ok (.getfield 42, 3) := by decide +kernel
theorem dX3_bring_73 : decode cX3_bring 73 = .ok (.ireturn, 1) := by decide +kernel
theorem dX3_bring_74 : decode cX3_bring 74 = .ok (.aload_n 0, 1) := by decide +kernel
theorem dX3_bring_75 : decode cX3_bring 75 = .ok (.getfield 19, 3) := by decide +kernel
theorem dX3_bring_78 : decode cX3_bring 78 = .ok (.bipush 99, 2) := by decide +kernel
theorem dX3_bring_80 : decode cX3_bring 80 = .ok (.aload_n 0, 1) := by decide +kernel
theorem dX3_bring_81 : decode cX3_bring 81 = .ok (.getfield 19, 3) := by decide +kernel
theorem dX3_bring_84 : decode cX3_bring 84 = .ok (.getfield 52, 3) := by decide +kernel
theorem dX3_bring_87 : decode cX3_bring 87 = .ok (.iload_n 2, 1) := by decide +kernel
theorem dX3_bring_88 : decode cX3_bring 88 = .ok (.iadd, 1) := by decide +kernel
theorem dX3_bring_89 : decode cX3_bring 89 = .ok (.invokestatic 46, 3) := by decide +kernel
theorem dX3_bring_92 : decode cX3_bring 92 = .ok (.putfield 52, 3) := by decide +kernel
theorem dX3_bring_95 : decode cX3_bring 95 = .ok (.aload_n 0, 1) := by decide +kernel
theorem dX3_bring_96 : decode cX3_bring 96 = .ok (.getfield 19, 3) := by decide +kernel
theorem dX3_bring_99 : decode cX3_bring 99 = .ok (.getfield 52, 3) := by decide +kernel
theorem dX3_bring_102 : decode cX3_bring 102 = .ok (.ireturn, 1) := by decide +kernel
theorem dX3_setRain_0 : decode cX3_setRain 0 = .ok (.iload_n 1, 1) := by decide +kernel
theorem dX3_setRain_1 : decode cX3_setRain 1 = .ok (.iconst 0, 1) := by decide +kernel
theorem dX3_setRain_2 : decode cX3_setRain 2 = .ok (.iconst 5, 1) := by decide +kernel
theorem dX3_setRain_3 : decode cX3_setRain 3 = .ok (.invokestatic 26, 3) := by decide +kernel
theorem dX3_setRain_6 : decode cX3_setRain 6 = .ok (.ifCond .ne 13, 3) := by decide +kernel
theorem dX3_setRain_9 : decode cX3_setRain 9 = .ok (.new 30, 3) := by decide +kernel
theorem dX3_setRain_12 : decode cX3_setRain 12 = .ok (.dup, 1) := by decide +kernel
theorem dX3_setRain_13 : decode cX3_setRain 13 = .ok (.ldc 55, 2) := by decide +kernel
theorem dX3_setRain_15 : decode cX3_setRain 15 = .ok (.invokespecial 34, 3) := by decide +kernel
theorem dX3_setRain_18 : decode cX3_setRain 18 = .ok (.athrow, 1) := by decide +kernel
theorem dX3_setRain_19 : decode cX3_setRain 19 = .ok (.iload_n 2, 1) := by decide +kernel
theorem dX3_setRain_20 : decode cX3_setRain 20 = .ok (.iconst 0, 1) := by decide +kernel
theorem dX3_setRain_21 : decode cX3_setRain 21 = .ok (.bipush 9, 2) := by decide +kernel
theorem dX3_setRain_23 : decode cX3_setRain 23 = .ok (.invokestatic 26, 3) := by decide +kernel
theorem dX3_setRain_26 : decode cX3_setRain 26 = .ok (.ifCond .ne 13, 3) := by decide +kernel
theorem dX3_setRain_29 : decode cX3_setRain 29 = .ok (.new 37, 3) := by decide +kernel
theorem dX3_setRain_32 : decode cX3_setRain 32 = .ok (.dup, 1) := by decide +kernel
theorem dX3_setRain_33 : decode cX3_setRain 33 = .ok (.ldc 57, 2) := by decide +kernel
theorem dX3_setRain_35 : decode cX3_setRain 35 = .ok (.invokespecial 41, 3) := by decide +kernel
theorem dX3_setRain_38 : decode cX3_setRain 38 = .ok (.athrow, 1) := by decide +kernel
theorem dX3_setRain_39 : decode cX3_setRain 39 = .ok (.aload_n 0, 1) := by decide +kernel
theorem dX3_setRain_40 : decode cX3_setRain 40 = .ok (.getfield 9, 3) := by decide +kernel
theorem dX3_setRain_43 : decode cX3_setRain 43 = .ok (.iload_n 1, 1) := by decide +kernel
theorem dX3_setRain_44 : decode cX3_setRain 44 = .ok (.iaload, 1) := by decide +kernel
theorem dX3_setRain_45 : decode cX3_setRain 45 = .ok (.istore_n 3, 1) := by decide +kernel
theorem dX3_setRain_46 : decode cX3_setRain 46 = .ok (.aload_n 0, 1) := by decide +kernel
theorem dX3_setRain_47 : decode cX3_setRain 47 = .ok (.getfield 9, 3) := by decide +kernel
theorem dX3_setRain_50 : decode cX3_setRain 50 = .ok (.iload_n 1, 1) := by decide +kernel
theorem dX3_setRain_51 : decode cX3_setRain 51 = .ok (.iload_n 2, 1) := by decide +kernel
theorem dX3_setRain_52 : decode cX3_setRain 52 = .ok (.iastore, 1) := by decide +kernel
theorem dX3_setRain_53 : decode cX3_setRain 53 = .ok (.iload_n 3, 1) := by decide +kernel
theorem dX3_setRain_54 : decode cX3_setRain 54 = .ok (.ireturn, 1) := by decide +kernel
theorem dX3_setShip_0 : decode cX3_setShip 0 = .ok (.iload_n 1, 1) := by decide +kernel
theorem dX3_setShip_1 : decode cX3_setShip 1 = .ok (.iconst 0, 1) := by decide +kernel
theorem dX3_setShip_2 : decode cX3_setShip 2 = .ok (.bipush 6, 2) := by decide +kernel
theorem dX3_setShip_4 : decode cX3_setShip 4 = .ok (.invokestatic 26, 3) := by decide +kernel
theorem dX3_setShip_7 : decode cX3_setShip 7 = .ok (.ifCond .ne 13, 3) := by decide +kernel
theorem dX3_setShip_10 : decode cX3_setShip 10 = .ok (.new 30, 3) := by decide +kernel
theorem dX3_setShip_13 : decode cX3_setShip 13 = .ok (.dup, 1) := by decide +kernel
theorem dX3_setShip_14 : decode cX3_setShip 14 = .ok (.ldc 59, 2) := by decide +kernel
theorem dX3_setShip_16 : decode cX3_setShip 16 = .ok (.invokespecial 34, 3) := by decide +kernel
theorem dX3_setShip_19 : decode cX3_setShip 19 = .ok (.athrow, 1) := by decide +kernel
theorem dX3_setShip_20 : decode cX3_setShip 20 = .ok (.iload_n 2, 1) := by decide +kernel
theorem dX3_setShip_21 : decode cX3_setShip 21 = .ok (.iconst 0, 1) := by decide +kernel
theorem dX3_setShip_22 : decode cX3_setShip 22 = .ok (.bipush 60, 2) := by decide +kernel
theorem dX3_setShip_24 : decode cX3_setShip 24 = .ok (.invokestatic 26, 3) := by decide +kernel
theorem dX3_setShip_27 : decode cX3_setShip 27 = .ok (.ifCond .ne 13, 3) := by decide +kernel
theorem dX3_setShip_30 : decode cX3_setShip 30 = .ok (.new 37, 3) := by decide +kernel
theorem dX3_setShip_33 : decode cX3_setShip 33 = .ok (.dup, 1) := by decide +kernel
theorem dX3_setShip_34 : decode cX3_setShip 34 = .ok (.ldc 61, 2) := by decide +kernel
theorem dX3_setShip_36 : decode cX3_setShip 36 = .ok (.invokespecial 41, 3) := by decide +kernel
theorem dX3_setShip_39 : decode cX3_setShip 39 = .ok (.athrow, 1) := by decide +kernel
theorem dX3_setShip_40 : decode cX3_setShip 40 = .ok (.aload_n 0, 1) := by decide +kernel
theorem dX3_setShip_41 : decode cX3_setShip 41 = .ok (.getfield 13, 3) := by decide +kernel
theorem dX3_setShip_44 : decode cX3_setShip 44 = .ok (.iload_n 1, 1) := by decide +kernel
theorem dX3_setShip_45 : decode cX3_setShip 45 = .ok (.iaload, 1) := by decide +kernel
theorem dX3_setShip_46 : decode cX3_setShip 46 = .ok (.istore_n 3, 1) := by decide +kernel
theorem dX3_setShip_47 : decode cX3_setShip 47 = .ok (.aload_n 0, 1) := by decide +kernel
theorem dX3_setShip_48 : decode cX3_setShip 48 = .ok (.getfield 13, 3) := by decide +kernel
theorem dX3_setShip_51 : decode cX3_setShip 51 = .ok (.iload_n 1, 1) := by decide +kernel
theorem dX3_setShip_52 : decode cX3_setShip 52 = .ok (.iload_n 2, 1) := by decide +kernel
theorem dX3_setShip_53 : decode cX3_setShip 53 = .ok (.iastore, 1) := by decide +kernel
theorem dX3_setShip_54 : decode cX3_setShip 54 = .ok (.iload_n 3, 1) := by decide +kernel
theorem dX3_setShip_55 : decode cX3_setShip 55 = .ok (.ireturn, 1) := by decide +kernel
theorem dX3_pile_0 : decode cX3_pile 0 = .ok (.iload_n 1, 1) := by decide +kernel
theorem dX3_pile_1 : decode cX3_pile 1 = .ok (.iconst 1, 1) := by decide +kernel
theorem dX3_pile_2 : decode cX3_pile 2 = .ok (.sipush 200, 3) := by decide +kernel
theorem dX3_pile_5 : decode cX3_pile 5 = .ok (.invokestatic 26, 3) := by decide +kernel
theorem dX3_pile_8 : decode cX3_pile 8 = .ok (.ifCond .ne 13, 3) := by decide +kernel
theorem dX3_pile_11 : decode cX3_pile 11 = .ok (.new 37, 3) := by decide +kernel
theorem dX3_pile_14 : decode cX3_pile 14 = .ok (.dup, 1) := by decide +kernel
theorem dX3_pile_15 : decode cX3_pile 15 = .ok (.ldc 63, 2) := by decide +kernel
theorem dX3_pile_17 : decode cX3_pile 17 = .ok (.invokespecial 41, 3) := by decide +kernel
theorem dX3_pile_20 : decode cX3_pile 20 = .ok (.athrow, 1) := by decide +kernel
theorem dX3_pile_21 : decode cX3_pile 21 = .ok (.aload_n 0, 1) := by decide +kernel
theorem dX3_pile_22 : decode cX3_pile 22 = .ok (.getfield 19, 3) := by decide +kernel
theorem dX3_pile_25 : decode cX3_pile 25 = .ok (.getfield 65, 3) := by decide +kernel
theorem dX3_pile_28 : decode cX3_pile 28 = .ok (.invokevirtual 69, 3) := by decide +kernel
theorem dX3_pile_31 : decode cX3_pile 31 = .ok (.ifCond .eq 13, 3) := by decide +kernel
theorem dX3_pile_34 : decode cX3_pile 34 = .ok (.new 75, 3) := by decide +kernel
theorem dX3_pile_37 : decode cX3_pile 37 = .ok (.dup, 1) := by decide +kernel
theorem dX3_pile_38 : decode cX3_pile 38 = .ok (.ldc 77, 2) := by decide +kernel
theorem dX3_pile_40 : decode cX3_pile 40 = .ok (.invokespecial 79, 3) := by decide +kernel
theorem dX3_pile_43 : decode cX3_pile 43 = .ok (.athrow, 1) := by decide +kernel
theorem dX3_pile_44 : decode cX3_pile 44 = .ok (.aload_n 0, 1) := by decide +kernel
theorem dX3_pile_45 : decode cX3_pile 45 = .ok (.getfield 19, 3) := by decide +kernel
theorem dX3_pile_48 : decode cX3_pile 48 = .ok (.getfield 65, 3) := by decide +kernel
theorem dX3_pile_51 : decode cX3_pile 51 = .ok (.iload_n 1, 1) := by decide +kernel
theorem dX3_pile_52 : decode cX3_pile 52 = .ok (.invokevirtual 80, 3) := by decide +kernel
theorem dX3_pile_55 : decode cX3_pile 55 = .ok (.ireturn, 1) := by decide +kernel
theorem dX3_light_0 : decode cX3_light 0 = .ok (.aload_n 0, 1) := by decide +kernel
theorem dX3_light_1 : decode cX3_light 1 = .ok (.getfield 19, 3) := by decide +kernel
theorem dX3_light_4 : decode cX3_light 4 = .ok (.getfield 65, 3) := by decide +kernel
theorem dX3_light_7 : decode cX3_light 7 = .ok (.astore_n 3, 1) := by decide +kernel
theorem dX3_light_8 : decode cX3_light 8 = .ok (.aload_n 3, 1) := by decide +kernel
theorem dX3_light_9 : decode cX3_light 9 = .ok (.iload_n 1, 1) := by decide +kernel
theorem dX3_light_10 : decode cX3_light 10 = .ok (.invokevirtual 84, 3) := by decide +kernel
theorem dX3_light_13 : decode cX3_light 13 = .ok (.ifCond .ne 13, 3) := by decide +kernel
theorem dX3_light_16 : decode cX3_light 16 = .ok (.new 30, 3) := by decide +kernel
theorem dX3_light_19 : decode cX3_light 19 = .ok (.dup, 1) := by decide +kernel
theorem dX3_light_20 : decode cX3_light 20 = .ok (.ldc 88, 2) := by decide +kernel
theorem dX3_light_22 : decode cX3_light 22 = .ok (.invokespecial 34, 3) := by decide +kernel
theorem dX3_light_25 : decode cX3_light 25 = .ok (.athrow, 1) := by decide +kernel
theorem dX3_light_26 : decode cX3_light 26 = .ok (.iload_n 2, 1) := by decide +kernel
theorem dX3_light_27 : decode cX3_light 27 = .ok (.iconst 1, 1) := by decide +kernel
theorem dX3_light_28 : decode cX3_light 28 = .ok (.bipush 60, 2) := by decide +kernel
theorem dX3_light_30 : decode cX3_light 30 = .ok (.invokestatic 26, 3) := by decide +kernel
theorem dX3_light_33 : decode cX3_light 33 = .ok (.ifCond .ne 13, 3) := by decide +kernel
theorem dX3_light_36 : decode cX3_light 36 = .ok (.new 37, 3) := by decide +kernel
theorem dX3_light_39 : decode cX3_light 39 = .ok (.dup, 1) := by decide +kernel
theorem dX3_light_40 : decode cX3_light 40 = .ok (.ldc 90, 2) := by decide +kernel
theorem dX3_light_42 : decode cX3_light 42 = .ok (.invokespecial 41, 3) := by decide +kernel
theorem dX3_light_45 : decode cX3_light 45 = .ok (.athrow, 1) := by decide +kernel
theorem dX3_light_46 : decode cX3_light 46 = .ok (.aload_n 0, 1) := by decide +kernel
theorem dX3_light_47 : decode cX3_light 47 = .ok (.getfield 19, 3) := by decide +kernel
theorem dX3_light_50 : decode cX3_light 50 = .ok (.getfield 42, 3) := by decide +kernel
theorem dX3_light_53 : decode cX3_light 53 = .ok (.iload_n 2, 1) := by decide +kernel
theorem dX3_light_54 : decode cX3_light 54 = .ok (.if_icmp .lt 12, 3) := by decide +kernel
theorem dX3_light_57 : decode cX3_light 57 = .ok (.aload_n 3, 1) := by decide +kernel
theorem dX3_light_58 : decode cX3_light 58 = .ok (.getfield 92, 3) := by decide +kernel
theorem dX3_light_61 : decode cX3_light 61 = .ok (.iload_n 1, 1) := by decide +kernel
theorem dX3_light_62 : decode cX3_light 62 = .ok (.iaload, 1) := by decide +kernel
theorem dX3_light_63 : decode cX3_light 63 = .ok (.ifCond .ne 13, 3) := by decide +kernel
theorem dX3_light_66 : decode cX3_light 66 = .ok (.new 75, 3) := by decide +kernel
theorem dX3_light_69 : decode cX3_light 69 = .ok (.dup, 1) := by decide +kernel
theorem dX3_light_70 : decode cX3_light 70 = .ok (.ldc 95, 2) := by decide +kernel
theorem dX3_light_72 : decode cX3_light 72 = .ok (.invokespecial 79, 3) := by decide +kernel
theorem dX3_light_75 : decode cX3_light 75 = .ok (.athrow, 1) := by decide +kernel
theorem dX3_light_76 : decode cX3_light 76 = .ok (.aload_n 0, 1) := by decide +kernel
theorem dX3_light_77 : decode cX3_light 77 = .ok (.getfield 19, 3) := by decide +kernel
theorem dX3_light_80 : decode cX3_light 80 = .ok (.dup, 1) := by decide +kernel
theorem dX3_light_81 : decode cX3_light 81 = .ok (.getfield 42, 3) := by decide +kernel
theorem dX3_light_84 : decode cX3_light 84 = .ok (.iload_n 2, 1) := by decide +kernel
theorem dX3_light_85 : decode cX3_light 85 = .ok (.isub, 1) := by decide +kernel
theorem dX3_light_86 : decode cX3_light 86 = .ok (.putfield 42, 3) := by decide +kernel
theorem dX3_light_89 : decode cX3_light 89 = .ok (.aload_n 3, 1) := by decide +kernel
theorem dX3_light_90 : decode cX3_light 90 = .ok (.getfield 97, 3) := by decide +kernel
theorem dX3_light_93 : decode cX3_light 93 = .ok (.iload_n 1, 1) := by decide +kernel
theorem dX3_light_94 : decode cX3_light 94 = .ok (.bipush 60, 2) := by decide +kernel
theorem dX3_light_96 : decode cX3_light 96 = .ok (.aload_n 3, 1) := by decide +kernel
theorem dX3_light_97 : decode cX3_light 97 = .ok (.getfield 97, 3) := by decide +kernel
theorem dX3_light_100 : decode cX3_light 100 = .ok (.iload_n 1, 1) := by decide +kernel
theorem dX3_light_101 : decode cX3_light 101 = .ok (.iaload, 1) := by decide +kernel
theorem dX3_light_102 : decode cX3_light 102 = .ok (.iload_n 2, 1) := by decide +kernel
theorem dX3_light_103 : decode cX3_light 103 = .ok (.iadd, 1) := by decide +kernel
theorem dX3_light_104 : decode cX3_light 104 = .ok (.invokestatic 46, 3) := by decide +kernel
theorem dX3_light_107 : decode cX3_light 107 = .ok (.iastore, 1) := by decide +kernel
theorem dX3_light_108 : decode cX3_light 108 = .ok (.aload_n 3, 1) := by decide +kernel
theorem dX3_light_109 : decode cX3_light 109 = .ok (.getfield 99, 3) := by decide +kernel
theorem dX3_light_112 : decode cX3_light 112 = .ok (.iload_n 1, 1) := by decide +kernel
theorem dX3_light_113 : decode cX3_light 113 = .ok (.iconst 1, 1) := by decide +kernel
theorem dX3_light_114 : decode cX3_light 114 = .ok (.bastore, 1) := by decide +kernel
theorem dX3_light_115 : decode cX3_light 115 = .ok (.aload_n 3, 1) := by decide +kernel
theorem dX3_light_116 : decode cX3_light 116 = .ok (.getfield 97, 3) := by decide +kernel
theorem dX3_light_119 : decode cX3_light 119 = .ok (.iload_n 1, 1) := by decide +kernel
theorem dX3_light_120 : decode cX3_light 120 = .ok (.iaload, 1) := by decide +kernel
theorem dX3_light_121 : decode cX3_light 121 = .ok (.ireturn, 1) := by decide +kernel
theorem dX3_dig_0 : decode cX3_dig 0 = .ok (.iload_n 1, 1) := by decide +kernel
theorem dX3_dig_1 : decode cX3_dig 1 = .ok (.iconst 0, 1) := by decide +kernel
theorem dX3_dig_2 : decode cX3_dig 2 = .ok (.sipush 400, 3) := by decide +kernel
theorem dX3_dig_5 : decode cX3_dig 5 = .ok (.invokestatic 26, 3) := by decide +kernel
theorem dX3_dig_8 : decode cX3_dig 8 = .ok (.ifCond .ne 13, 3) := by decide +kernel
theorem dX3_dig_11 : decode cX3_dig 11 = .ok (.new 37, 3) := by decide +kernel
theorem dX3_dig_14 : decode cX3_dig 14 = .ok (.dup, 1) := by decide +kernel
theorem dX3_dig_15 : decode cX3_dig 15 = .ok (.ldc 103, 2) := by decide +kernel
theorem dX3_dig_17 : decode cX3_dig 17 = .ok (.invokespecial 41, 3) := by decide +kernel
theorem dX3_dig_20 : decode cX3_dig 20 = .ok (.athrow, 1) := by decide +kernel
theorem dX3_dig_21 : decode cX3_dig 21 = .ok (.aload_n 0, 1) := by decide +kernel
theorem dX3_dig_22 : decode cX3_dig 22 = .ok (.getfield 19, 3) := by decide +kernel
theorem dX3_dig_25 : decode cX3_dig 25 = .ok (.getfield 105, 3) := by decide +kernel
theorem dX3_dig_28 : decode cX3_dig 28 = .ok (.invokevirtual 109, 3) := by decide +kernel
theorem dX3_dig_31 : decode cX3_dig 31 = .ok (.ifCond .eq 13, 3) := by decide +kernel
theorem dX3_dig_34 : decode cX3_dig 34 = .ok (.new 75, 3) := by decide +kernel
theorem dX3_dig_37 : decode cX3_dig 37 = .ok (.dup, 1) := by decide +kernel
theorem dX3_dig_38 : decode cX3_dig 38 = .ok (.ldc 112, 2) := by decide +kernel
theorem dX3_dig_40 : decode cX3_dig 40 = .ok (.invokespecial 79, 3) := by decide +kernel
theorem dX3_dig_43 : decode cX3_dig 43 = .ok (.athrow, 1) := by decide +kernel
theorem dX3_dig_44 : decode cX3_dig 44 = .ok (.aload_n 0, 1) := by decide +kernel
theorem dX3_dig_45 : decode cX3_dig 45 = .ok (.getfield 19, 3) := by decide +kernel
theorem dX3_dig_48 : decode cX3_dig 48 = .ok (.getfield 105, 3) := by decide +kernel
theorem dX3_dig_51 : decode cX3_dig 51 = .ok (.iload_n 1, 1) := by decide +kernel
theorem dX3_dig_52 : decode cX3_dig 52 = .ok (.invokevirtual 114, 3) := by decide +kernel
theorem dX3_dig_55 : decode cX3_dig 55 = .ok (.ireturn, 1) := by decide +kernel
theorem dX3_steep_0 : decode cX3_steep 0 = .ok (.aload_n 0, 1) := by decide +kernel
theorem dX3_steep_1 : decode cX3_steep 1 = .ok (.getfield 19, 3) := by decide +kernel
theorem dX3_steep_4 : decode cX3_steep 4 = .ok (.getfield 65, 3) := by decide +kernel
theorem dX3_steep_7 : decode cX3_steep 7 = .ok (.astore_n 3, 1) := by decide +kernel
theorem dX3_steep_8 : decode cX3_steep 8 = .ok (.aload_n 0, 1) := by decide +kernel
theorem dX3_steep_9 : decode cX3_steep 9 = .ok (.getfield 19, 3) := by decide +kernel
theorem dX3_steep_12 : decode cX3_steep 12 = .ok (.getfield 105, 3) := by decide +kernel
theorem dX3_steep_15 : decode cX3_steep 15 = .ok (.astore 4, 2) := by decide +kernel
theorem dX3_steep_17 : decode cX3_steep 17 = .ok (.aload_n 3, 1) := by decide +kernel
theorem dX3_steep_18 : decode cX3_steep 18 = .ok (.iload_n 1, 1) := by decide +kernel
theorem dX3_steep_19 : decode cX3_steep 19 = .ok (.invokevirtual 84, 3) := by decide +kernel
theorem dX3_steep_22 : decode cX3_steep 22 = .ok (.ifCond .eq 12, 3) := by decide +kernel
theorem dX3_steep_25 : decode cX3_steep 25 = .ok (.aload 4, 2) := by decide +kernel
theorem dX3_steep_27 : decode cX3_steep 27 = .ok (.iload_n 2, 1) := by decide +kernel
theorem dX3_steep_28 : decode cX3_steep 28 = .ok (.invokevirtual 115, 3) := by decide +kernel
theorem dX3_steep_31 : decode cX3_steep 31 = .ok (.ifCond .ne 13, 3) := by decide +kernel
theorem dX3_steep_34 : decode cX3_steep 34 = .ok (.new 30, 3) := by decide +kernel
theorem dX3_steep_37 : decode cX3_steep 37 = .ok (.dup, 1) := by decide +kernel
theorem dX3_steep_38 : decode cX3_steep 38 = .ok (.ldc 116, 2) := by decide +kernel
theorem dX3_steep_40 : decode cX3_steep 40 = .ok (.invokespecial 34, 3) := by decide +kernel
theorem dX3_steep_43 : decode cX3_steep 43 = .ok (.athrow, 1) := by decide +kernel
theorem dX3_steep_44 : decode cX3_steep 44 = .ok (.aload_n 3, 1) := by decide +kernel
theorem dX3_steep_45 : decode cX3_steep 45 = .ok (.getfield 118, 3) := by decide +kernel
theorem dX3_steep_48 : decode cX3_steep 48 = .ok (.iload_n 1, 1) := by decide +kernel
theorem dX3_steep_49 : decode cX3_steep 49 = .ok (.iaload, 1) := by decide +kernel
theorem dX3_steep_50 : decode cX3_steep 50 = .ok (.ifCond .eq 22, 3) := by decide +kernel
theorem dX3_steep_53 : decode cX3_steep 53 = .ok (.aload_n 3, 1) := by decide +kernel
theorem dX3_steep_54 : decode cX3_steep 54 = .ok (.getfield 99, 3) := by decide +kernel
theorem dX3_steep_57 : decode cX3_steep 57 = .ok (.iload_n 1, 1) := by decide +kernel
theorem dX3_steep_58 : decode cX3_steep 58 = .ok (.baload, 1) := by decide +kernel
theorem dX3_steep_59 : decode cX3_steep 59 = .ok (.ifCond .ne 13, 3) := by decide +kernel
theorem dX3_steep_62 : decode cX3_steep 62 = .ok (.aload 4, 2) := by decide +kernel
theorem dX3_steep_64 : decode cX3_steep 64 = .ok (.getfield 121, 3) := by decide +kernel
theorem dX3_steep_67 : decode cX3_steep 67 = .ok (.iload_n 2, 1) := by decide +kernel
theorem dX3_steep_68 : decode cX3_steep 68 = .ok (.iaload, 1) := by decide +kernel
theorem dX3_steep_69 : decode cX3_steep 69 = .ok (.ifCond .ne 13, 3) := by decide +kernel
theorem dX3_steep_72 : decode cX3_steep 72 = .ok (.new 75, 3) := by decide +kernel
theorem dX3_steep_75 : decode cX3_steep 75 = .ok (.dup, 1) := by decide +kernel
theorem dX3_steep_76 : decode cX3_steep 76 = .ok (.ldc 124, 2) := by decide +kernel
theorem dX3_steep_78 : decode cX3_steep 78 = .ok (.invokespecial 79, 3) := by decide +kernel
theorem dX3_steep_81 : decode cX3_steep 81 = .ok (.athrow, 1) := by decide +kernel
theorem dX3_steep_82 : decode cX3_steep 82 = .ok (.aload 4, 2) := by decide +kernel
theorem dX3_steep_84 : decode cX3_steep 84 = .ok (.getfield 126, 3) := by decide +kernel
theorem dX3_steep_87 : decode cX3_steep 87 = .ok (.iload_n 2, 1) := by decide +kernel
theorem dX3_steep_88 : decode cX3_steep 88 = .ok (.dup2, 1) := by decide +kernel
theorem dX3_steep_89 : decode cX3_steep 89 = .ok (.iaload, 1) := by decide +kernel
theorem dX3_steep_90 : decode cX3_steep 90 = .ok (.aload_n 3, 1) := by decide +kernel
theorem dX3_steep_91 : decode cX3_steep 91 = .ok (.getfield 118, 3) := by decide +kernel
theorem dX3_steep_94 : decode cX3_steep 94 = .ok (.iload_n 1, 1) := by decide +kernel
theorem dX3_steep_95 : decode cX3_steep 95 = .ok (.iaload, 1) := by decide +kernel
theorem dX3_steep_96 : decode cX3_steep 96 = .ok (.iconst 2, 1) := by decide +kernel
theorem dX3_steep_97 : decode cX3_steep 97 = .ok (.idiv, 1) := by decide +kernel
theorem dX3_steep_98 : decode cX3_steep 98 = .ok (.iadd, 1) := by decide +kernel
theorem dX3_steep_99 : decode cX3_steep 99 = .ok (.iastore, 1) := by decide +kernel
theorem dX3_steep_100 : decode cX3_steep 100 = .ok (.aload_n 3, 1) := by decide +kernel
theorem dX3_steep_101 : decode cX3_steep 101 = .ok (.getfield 118, 3) := by decide +kernel
theorem dX3_steep_104 : decode cX3_steep 104 = .ok (.iload_n 1, 1) := by decide +kernel
theorem dX3_steep_105 : decode cX3_steep 105 = .ok (.iconst 0, 1) := by decide +kernel
theorem dX3_steep_106 : decode cX3_steep 106 = .ok (.iastore, 1) := by decide +kernel
theorem dX3_steep_107 : decode cX3_steep 107 = .ok (.aload 4, 2) := by decide +kernel
theorem dX3_steep_109 : decode cX3_steep 109 = .ok (.getfield 126, 3) := by decide +kernel
theorem dX3_steep_112 : decode cX3_steep 112 = .ok (.iload_n 2, 1) := by decide +kernel
theorem dX3_steep_113 : decode cX3_steep 113 = .ok (.iaload, 1) := by decide +kernel
theorem dX3_steep_114 : decode cX3_steep 114 = .ok (.ireturn, 1) := by decide +kernel
theorem dX3_pan_0 : decode cX3_pan 0 = .ok (.aload_n 0, 1) := by decide +kernel
theorem dX3_pan_1 : decode cX3_pan 1 = .ok (.getfield 19, 3) := by decide +kernel
theorem dX3_pan_4 : decode cX3_pan 4 = .ok (.getfield 129, 3) := by decide +kernel
theorem dX3_pan_7 : decode cX3_pan 7 = .ok (.invokevirtual 109, 3) := by decide +kernel
theorem dX3_pan_10 : decode cX3_pan 10 = .ok (.ifCond .eq 13, 3) := by decide +kernel
theorem dX3_pan_13 : decode cX3_pan 13 = .ok (.new 75, 3) := by decide +kernel
theorem dX3_pan_16 : decode cX3_pan 16 = .ok (.dup, 1) := by decide +kernel
theorem dX3_pan_17 : decode cX3_pan 17 = .ok (.ldc 132, 2) := by decide +kernel
theorem dX3_pan_19 : decode cX3_pan 19 = .ok (.invokespecial 79, 3) := by decide +kernel
theorem dX3_pan_22 : decode cX3_pan 22 = .ok (.athrow, 1) := by decide +kernel
theorem dX3_pan_23 : decode cX3_pan 23 = .ok (.aload_n 0, 1) := by decide +kernel
theorem dX3_pan_24 : decode cX3_pan 24 = .ok (.getfield 19, 3) := by decide +kernel
theorem dX3_pan_27 : decode cX3_pan 27 = .ok (.getfield 129, 3) := by decide +kernel
theorem dX3_pan_30 : decode cX3_pan 30 = .ok (.iconst 0, 1) := by decide +kernel
theorem dX3_pan_31 : decode cX3_pan 31 = .ok (.invokevirtual 114, 3) := by decide +kernel
theorem dX3_pan_34 : decode cX3_pan 34 = .ok (.ireturn, 1) := by decide +kernel
theorem dX3_draw_0 : decode cX3_draw 0 = .ok (.aload_n 0, 1) := by decide +kernel
theorem dX3_draw_1 : decode cX3_draw 1 = .ok (.getfield 19, 3) := by decide +kernel
theorem dX3_draw_4 : decode cX3_draw 4 = .ok (.getfield 105, 3) := by decide +kernel
theorem dX3_draw_7 : decode cX3_draw 7 = .ok (.astore 4, 2) := by decide +kernel
theorem dX3_draw_9 : decode cX3_draw 9 = .ok (.aload_n 0, 1) := by decide +kernel
theorem dX3_draw_10 : decode cX3_draw 10 = .ok (.getfield 19, 3) := by decide +kernel
theorem dX3_draw_13 : decode cX3_draw 13 = .ok (.getfield 129, 3) := by decide +kernel
theorem dX3_draw_16 : decode cX3_draw 16 = .ok (.astore 5, 2) := by decide +kernel
theorem dX3_draw_18 : decode cX3_draw 18 = .ok (.aload 4, 2) := by decide +kernel
theorem dX3_draw_20 : decode cX3_draw 20 = .ok (.iload_n 1, 1) := by decide +kernel
theorem dX3_draw_21 : decode cX3_draw 21 = .ok (.invokevirtual 115, 3) := by decide +kernel
theorem dX3_draw_24 : decode cX3_draw 24 = .ok (.ifCond .eq 12, 3) := by decide +kernel
theorem dX3_draw_27 : decode cX3_draw 27 = .ok (.aload 5, 2) := by decide +kernel
theorem dX3_draw_29 : decode cX3_draw 29 = .ok (.iload_n 2, 1) := by decide +kernel
theorem dX3_draw_30 : decode cX3_draw 30 = .ok (.invokevirtual 115, 3) := by decide +kernel
theorem dX3_draw_33 : decode cX3_draw 33 = .ok (.ifCond .ne 13, 3) := by decide +kernel
theorem dX3_draw_36 : decode cX3_draw 36 = .ok (.new 30, 3) := by decide +kernel
theorem dX3_draw_39 : decode cX3_draw 39 = .ok (.dup, 1) := by decide +kernel
theorem dX3_draw_40 : decode cX3_draw 40 = .ok (.ldc 134, 2) := by decide +kernel
theorem dX3_draw_42 : decode cX3_draw 42 = .ok (.invokespecial 34, 3) := by decide +kernel
theorem dX3_draw_45 : decode cX3_draw 45 = .ok (.athrow, 1) := by decide +kernel
theorem dX3_draw_46 : decode cX3_draw 46 = .ok (.iload_n 3, 1) := by decide +kernel
theorem dX3_draw_47 : decode cX3_draw 47 = .ok (.iconst 1, 1) := by decide +kernel
theorem dX3_draw_48 : decode cX3_draw 48 = .ok (.sipush 150, 3) := by decide +kernel
theorem dX3_draw_51 : decode cX3_draw 51 = .ok (.invokestatic 26, 3) := by decide +kernel
theorem dX3_draw_54 : decode cX3_draw 54 = .ok (.ifCond .ne 13, 3) := by decide +kernel
theorem dX3_draw_57 : decode cX3_draw 57 = .ok (.new 37, 3) := by decide +kernel
theorem dX3_draw_60 : decode cX3_draw 60 = .ok (.dup, 1) := by decide +kernel
theorem dX3_draw_61 : decode cX3_draw 61 = .ok (.ldc 136, 2) := by decide +kernel
theorem dX3_draw_63 : decode cX3_draw 63 = .ok (.invokespecial 41, 3) := by decide +kernel
theorem dX3_draw_66 : decode cX3_draw 66 = .ok (.athrow, 1) := by decide +kernel
theorem dX3_draw_67 : decode cX3_draw 67 = .ok (.aload 4, 2) := by decide +kernel
theorem dX3_draw_69 : decode cX3_draw 69 = .ok (.getfield 121, 3) := by decide +kernel
theorem dX3_draw_72 : decode cX3_draw 72 = .ok (.iload_n 1, 1) := by decide +kernel
theorem dX3_draw_73 : decode cX3_draw 73 = .ok (.iaload, 1) := by decide +kernel
theorem dX3_draw_74 : decode cX3_draw 74 = .ok (.istore 6, 2) := by decide +kernel
theorem dX3_draw_76 : decode cX3_draw 76 = .ok (.iload 6, 2) := by decide +kernel
theorem dX3_draw_78 : decode cX3_draw 78 = .ok (.iload_n 3, 1) := by decide +kernel
theorem dX3_draw_79 : decode cX3_draw 79 = .ok (.if_icmp .lt 18, 3) := by decide +kernel
theorem dX3_draw_82 : decode cX3_draw 82 = .ok (.aload 5, 2) := by decide +kernel
theorem dX3_draw_84 : decode cX3_draw 84 = .ok (.getfield 121, 3) := by decide +kernel
theorem dX3_draw_87 : decode cX3_draw 87 = .ok (.iload_n 2, 1) := by decide +kernel
theorem dX3_draw_88 : decode cX3_draw 88 = .ok (.iaload, 1) := by decide +kernel
theorem dX3_draw_89 : decode cX3_draw 89 = .ok (.iload_n 3, 1) := by decide +kernel
theorem dX3_draw_90 : decode cX3_draw 90 = .ok (.iadd, 1) := by decide +kernel
theorem dX3_draw_91 : decode cX3_draw 91 = .ok (.sipush 150, 3) := by decide +kernel
theorem dX3_draw_94 : decode cX3_draw 94 = .ok (.if_icmp .le 13, 3) := by decide +kernel
theorem dX3_draw_97 : decode cX3_draw 97 = .ok (.new 75, 3) := by decide +kernel
theorem dX3_draw_100 : decode cX3_draw 100 = .ok (.dup, 1) := by decide +kernel
theorem dX3_draw_101 : decode cX3_draw 101 = .ok (.ldc 138, 2) := by decide +kernel
theorem dX3_draw_103 : decode cX3_draw 103 = .ok (.invokespecial 79, 3) := by decide +kernel
theorem dX3_draw_106 : decode cX3_draw 106 = .ok (.athrow, 1) := by decide +kernel
theorem dX3_draw_107 : decode cX3_draw 107 = .ok (.aload 4, 2) := by decide +kernel
theorem dX3_draw_109 : decode cX3_draw 109 = .ok (.getfield 126, 3) := by decide +kernel
theorem dX3_draw_112 : decode cX3_draw 112 = .ok (.iload_n 1, 1) := by decide +kernel
theorem dX3_draw_113 : decode cX3_draw 113 = .ok (.iaload, 1) := by decide +kernel
theorem dX3_draw_114 : decode cX3_draw 114 = .ok (.iload_n 3, 1) := by decide +kernel
theorem dX3_draw_115 : decode cX3_draw 115 = .ok (.imul, 1) := by decide +kernel
theorem dX3_draw_116 : decode cX3_draw 116 = .ok (.iload 6, 2) := by decide +kernel
theorem dX3_draw_118 : decode cX3_draw 118 = .ok (.idiv, 1) := by decide +kernel
theorem dX3_draw_119 : decode cX3_draw 119 = .ok (.istore 7, 2) := by decide +kernel
theorem dX3_draw_121 : decode cX3_draw 121 = .ok (.aload 4, 2) := by decide +kernel
theorem dX3_draw_123 : decode cX3_draw 123 = .ok (.getfield 121, 3) := by decide +kernel
theorem dX3_draw_126 : decode cX3_draw 126 = .ok (.iload_n 1, 1) := by decide +kernel
theorem dX3_draw_127 : decode cX3_draw 127 = .ok (.dup2, 1) := by decide +kernel
theorem dX3_draw_128 : decode cX3_draw 128 = .ok (.iaload, 1) := by decide +kernel
theorem dX3_draw_129 : decode cX3_draw 129 = .ok (.iload_n 3, 1) := by decide +kernel
theorem dX3_draw_130 : decode cX3_draw 130 = .ok (.isub, 1) := by decide +kernel
theorem dX3_draw_131 : decode cX3_draw 131 = .ok (.iastore, 1) := by decide +kernel
theorem dX3_draw_132 : decode cX3_draw 132 = .ok (.aload 4, 2) := by decide +kernel
theorem dX3_draw_134 : decode cX3_draw 134 = .ok (.getfield 126, 3) := by decide +kernel
theorem dX3_draw_137 : decode cX3_draw 137 = .ok (.iload_n 1, 1) := by decide +kernel
theorem dX3_draw_138 : decode cX3_draw 138 = .ok (.dup2, 1) := by decide +kernel
theorem dX3_draw_139 : decode cX3_draw 139 = .ok (.iaload, 1) := by decide +kernel
theorem dX3_draw_140 : decode cX3_draw 140 = .ok (.iload 7, 2) := by decide +kernel
theorem dX3_draw_142 : decode cX3_draw 142 = .ok (.isub, 1) := by decide +kernel
theorem dX3_draw_143 : decode cX3_draw 143 = .ok (.iastore, 1) := by decide +kernel
theorem dX3_draw_144 : decode cX3_draw 144 = .ok (.aload 5, 2) := by decide +kernel
theorem dX3_draw_146 : decode cX3_draw 146 = .ok (.getfield 121, 3) := by decide +kernel
theorem dX3_draw_149 : decode cX3_draw 149 = .ok (.iload_n 2, 1) := by decide +kernel
theorem dX3_draw_150 : decode cX3_draw 150 = .ok (.dup2, 1) := by decide +kernel
theorem dX3_draw_151 : decode cX3_draw 151 = .ok (.iaload, 1) := by decide +kernel
theorem dX3_draw_152 : decode cX3_draw 152 = .ok (.iload_n 3, 1) := by decide +kernel
theorem dX3_draw_153 : decode cX3_draw 153 = .ok (.iadd, 1) := by decide +kernel
theorem dX3_draw_154 : decode cX3_draw 154 = .ok (.iastore, 1) := by decide +kernel
theorem dX3_draw_155 : decode cX3_draw 155 = .ok (.aload 5, 2) := by decide +kernel
theorem dX3_draw_157 : decode cX3_draw 157 = .ok (.getfield 126, 3) := by decide +kernel
theorem dX3_draw_160 : decode cX3_draw 160 = .ok (.iload_n 2, 1) := by decide +kernel
theorem dX3_draw_161 : decode cX3_draw 161 = .ok (.dup2, 1) := by decide +kernel
theorem dX3_draw_162 : decode cX3_draw 162 = .ok (.iaload, 1) := by decide +kernel
theorem dX3_draw_163 : decode cX3_draw 163 = .ok (.iload 7, 2) := by decide +kernel
theorem dX3_draw_165 : decode cX3_draw 165 = .ok (.iadd, 1) := by decide +kernel
theorem dX3_draw_166 : decode cX3_draw 166 = .ok (.iastore, 1) := by decide +kernel
theorem dX3_draw_167 : decode cX3_draw 167 = .ok (.iload 7, 2) := by decide +kernel
theorem dX3_draw_169 : decode cX3_draw 169 = .ok (.ireturn, 1) := by decide +kernel
theorem dX3_boil_0 : decode cX3_boil 0 = .ok (.aload_n 0, 1) := by decide +kernel
theorem dX3_boil_1 : decode cX3_boil 1 = .ok (.getfield 19, 3) := by decide +kernel
theorem dX3_boil_4 : decode cX3_boil 4 = .ok (.getfield 129, 3) := by decide +kernel
theorem dX3_boil_7 : decode cX3_boil 7 = .ok (.iload_n 1, 1) := by decide +kernel
theorem dX3_boil_8 : decode cX3_boil 8 = .ok (.invokevirtual 115, 3) := by decide +kernel
theorem dX3_boil_11 : decode cX3_boil 11 = .ok (.ifCond .ne 13, 3) := by decide +kernel
theorem dX3_boil_14 : decode cX3_boil 14 = .ok (.new 30, 3) := by decide +kernel
theorem dX3_boil_17 : decode cX3_boil 17 = .ok (.dup, 1) := by decide +kernel
theorem dX3_boil_18 : decode cX3_boil 18 = .ok (.ldc 140, 2) := by decide +kernel
theorem dX3_boil_20 : decode cX3_boil 20 = .ok (.invokespecial 34, 3) := by decide +kernel
theorem dX3_boil_23 : decode cX3_boil 23 = .ok (.athrow, 1) := by decide +kernel
theorem dX3_boil_24 : decode cX3_boil 24 = .ok (.aload_n 0, 1) := by decide +kernel
theorem dX3_boil_25 : decode cX3_boil 25 = .ok (.getfield 19, 3) := by decide +kernel
theorem dX3_boil_28 : decode cX3_boil 28 = .ok (.getfield 129, 3) := by decide +kernel
theorem dX3_boil_31 : decode cX3_boil 31 = .ok (.getfield 142, 3) := by decide +kernel
theorem dX3_boil_34 : decode cX3_boil 34 = .ok (.iload_n 1, 1) := by decide +kernel
theorem dX3_boil_35 : decode cX3_boil 35 = .ok (.aload_n 0, 1) := by decide +kernel
theorem dX3_boil_36 : decode cX3_boil 36 = .ok (.getfield 19, 3) := by decide +kernel
theorem dX3_boil_39 : decode cX3_boil 39 = .ok (.getfield 129, 3) := by decide +kernel
theorem dX3_boil_42 : decode cX3_boil 42 = .ok (.getfield 142, 3) := by decide +kernel
theorem dX3_boil_45 : decode cX3_boil 45 = .ok (.iload_n 1, 1) := by decide +kernel
theorem dX3_boil_46 : decode cX3_boil 46 = .ok (.baload, 1) := by decide +kernel
theorem dX3_boil_47 : decode cX3_boil 47 = .ok (.ifCond .ne 7, 3) := by decide +kernel
theorem dX3_boil_50 : decode cX3_boil 50 = .ok (.iconst 1, 1) := by decide +kernel
theorem dX3_boil_51 : decode cX3_boil 51 = .ok (.goto 4, 3) := by decide +kernel
theorem dX3_boil_54 : decode cX3_boil 54 = .ok (.iconst 0, 1) := by decide +kernel
theorem dX3_boil_55 : decode cX3_boil 55 = .ok (.bastore, 1) := by decide +kernel
theorem dX3_boil_56 : decode cX3_boil 56 = .ok (.aload_n 0, 1) := by decide +kernel
theorem dX3_boil_57 : decode cX3_boil 57 = .ok (.getfield 19, 3) := by decide +kernel
theorem dX3_boil_60 : decode cX3_boil 60 = .ok (.getfield 129, 3) := by decide +kernel
theorem dX3_boil_63 : decode cX3_boil 63 = .ok (.getfield 142, 3) := by decide +kernel
theorem dX3_boil_66 : decode cX3_boil 66 = .ok (.iload_n 1, 1) := by decide +kernel
theorem dX3_boil_67 : decode cX3_boil 67 = .ok (.baload, 1) := by decide +kernel
theorem dX3_boil_68 : decode cX3_boil 68 = .ok (.ireturn, 1) := by decide +kernel
theorem dX3_pour_0 : decode cX3_pour 0 = .ok (.aload_n 0, 1) := by decide +kernel
theorem dX3_pour_1 : decode cX3_pour 1 = .ok (.getfield 19, 3) := by decide +kernel
theorem dX3_pour_4 : decode cX3_pour 4 = .ok (.getfield 129, 3) := by decide +kernel
theorem dX3_pour_7 : decode cX3_pour 7 = .ok (.iload_n 1, 1) := by decide +kernel
theorem dX3_pour_8 : decode cX3_pour 8 = .ok (.invokevirtual 115, 3) := by decide +kernel
theorem dX3_pour_11 : decode cX3_pour 11 = .ok (.ifCond .ne 13, 3) := by decide +kernel
theorem dX3_pour_14 : decode cX3_pour 14 = .ok (.new 30, 3) := by decide +kernel
theorem dX3_pour_17 : decode cX3_pour 17 = .ok (.dup, 1) := by decide +kernel
theorem dX3_pour_18 : decode cX3_pour 18 = .ok (.ldc 140, 2) := by decide +kernel
theorem dX3_pour_20 : decode cX3_pour 20 = .ok (.invokespecial 34, 3) := by decide +kernel
theorem dX3_pour_23 : decode cX3_pour 23 = .ok (.athrow, 1) := by decide +kernel
theorem dX3_pour_24 : decode cX3_pour 24 = .ok (.iload_n 2, 1) := by decide +kernel
theorem dX3_pour_25 : decode cX3_pour 25 = .ok (.iconst 1, 1) := by decide +kernel
theorem dX3_pour_26 : decode cX3_pour 26 = .ok (.bipush 20, 2) := by decide +kernel
theorem dX3_pour_28 : decode cX3_pour 28 = .ok (.invokestatic 26, 3) := by decide +kernel
theorem dX3_pour_31 : decode cX3_pour 31 = .ok (.ifCond .ne 13, 3) := by decide +kernel
theorem dX3_pour_34 : decode cX3_pour 34 = .ok (.new 37, 3) := by decide +kernel
theorem dX3_pour_37 : decode cX3_pour 37 = .ok (.dup, 1) := by decide +kernel
theorem dX3_pour_38 : decode cX3_pour 38 = .ok (.ldc 145, 2) := by decide +kernel
theorem dX3_pour_40 : decode cX3_pour 40 = .ok (.invokespecial 41, 3) := by decide +kernel
theorem dX3_pour_43 : decode cX3_pour 43 = .ok (.athrow, 1) := by decide +kernel
theorem dX3_pour_44 : decode cX3_pour 44 = .ok (.aload_n 0, 1) := by decide +kernel
theorem dX3_pour_45 : decode cX3_pour 45 = .ok (.getfield 19, 3) := by decide +kernel
theorem dX3_pour_48 : decode cX3_pour 48 = .ok (.getfield 52, 3) := by decide +kernel
theorem dX3_pour_51 : decode cX3_pour 51 = .ok (.iload_n 2, 1) := by decide +kernel
theorem dX3_pour_52 : decode cX3_pour 52 = .ok (.if_icmp .lt 18, 3) := by decide +kernel
theorem dX3_pour_55 : decode cX3_pour 55 = .ok (.aload_n 0, 1) := by decide +kernel
theorem dX3_pour_56 : decode cX3_pour 56 = .ok (.getfield 19, 3) := by decide +kernel
theorem dX3_pour_59 : decode cX3_pour 59 = .ok (.getfield 129, 3) := by decide +kernel
theorem dX3_pour_62 : decode cX3_pour 62 = .ok (.getfield 126, 3) := by decide +kernel
theorem dX3_pour_65 : decode cX3_pour 65 = .ok (.iload_n 1, 1) := by decide +kernel
theorem dX3_pour_66 : decode cX3_pour 66 = .ok (.iaload, 1) := by decide +kernel
theorem dX3_pour_67 : decode cX3_pour 67 = .ok (.ifCond .ne 13, 3) := by decide +kernel
theorem dX3_pour_70 : decode cX3_pour 70 = .ok (.new 75, 3) := by decide +kernel
theorem dX3_pour_73 : decode cX3_pour 73 = .ok (.dup, 1) := by decide +kernel
theorem dX3_pour_74 : decode cX3_pour 74 = .ok (.ldc 147, 2) := by decide +kernel
theorem dX3_pour_76 : decode cX3_pour 76 = .ok (.invokespecial 79, 3) := by decide +kernel
theorem dX3_pour_79 : decode cX3_pour 79 = .ok (.athrow, 1) := by decide +kernel
theorem dX3_pour_80 : decode cX3_pour 80 = .ok (.aload_n 0, 1) := by decide +kernel
theorem dX3_pour_81 : decode cX3_pour 81 = .ok (.iload_n 1, 1) := by decide +kernel
theorem dX3_pour_82 : decode cX3_pour 82 = .ok (.iload_n 2, 1) := by decide +kernel
theorem dX3_pour_83 : decode cX3_pour 83 = .ok (.invokevirtual 149, 3) := by decide +kernel
theorem dX3_pour_86 : decode cX3_pour 86 = .ok (.istore_n 3, 1) := by decide +kernel
theorem dX3_pour_87 : decode cX3_pour 87 = .ok (.aload_n 0, 1) := by decide +kernel
theorem dX3_pour_88 : decode cX3_pour 88 = .ok (.getfield 19, 3) := by decide +kernel
theorem dX3_pour_91 : decode cX3_pour 91 = .ok (.getfield 129, 3) := by decide +kernel
theorem dX3_pour_94 : decode cX3_pour 94 = .ok (.iload_n 1, 1) := by decide +kernel
theorem dX3_pour_95 : decode cX3_pour 95 = .ok (.invokevirtual 152, 3) := by decide +kernel
theorem dX3_pour_98 : decode cX3_pour 98 = .ok (.iconst 1, 1) := by decide +kernel
theorem dX3_pour_99 : decode cX3_pour 99 = .ok (.if_icmp .ne 19, 3) := by decide +kernel
theorem dX3_pour_102 : decode cX3_pour 102 = .ok (.aload_n 0, 1) := by decide +kernel
theorem dX3_pour_103 : decode cX3_pour 103 = .ok (.getfield 19, 3) := by decide +kernel
theorem dX3_pour_106 : decode cX3_pour 106 = .ok (.dup, 1) := by decide +kernel
theorem dX3_pour_107 : decode cX3_pour 107 = .ok (.getfield 155, 3) := by decide +kernel
theorem dX3_pour_110 : decode cX3_pour 110 = .ok (.iload_n 3, 1) := by decide +kernel
theorem dX3_pour_111 : decode cX3_pour 111 = .ok (.iadd, 1) := by decide +kernel
theorem dX3_pour_112 : decode cX3_pour 112 = .ok (.putfield 155, 3) := by decide +kernel
theorem dX3_pour_115 : decode cX3_pour 115 = .ok (.goto 16, 3) := by decide +kernel
theorem dX3_pour_118 : decode cX3_pour 118 = .ok (.aload_n 0, 1) := by decide +kernel
theorem dX3_pour_119 : decode cX3_pour 119 = .ok (.getfield 19, 3) := by decide +kernel
theorem dX3_pour_122 : decode cX3_pour 122 = .ok (.dup, 1) := by decide +kernel
theorem dX3_pour_123 : decode cX3_pour 123 = .ok (.getfield 158, 3) := by decide +kernel
theorem dX3_pour_126 : decode cX3_pour 126 = .ok (.iload_n 3, 1) := by decide +kernel
theorem dX3_pour_127 : decode cX3_pour 127 = .ok (.iadd, 1) := by decide +kernel
theorem dX3_pour_128 : decode cX3_pour 128 = .ok (.putfield 158, 3) := by decide +kernel
theorem dX3_pour_131 : decode cX3_pour 131 = .ok (.aload_n 0, 1) := by decide +kernel
theorem dX3_pour_132 : decode cX3_pour 132 = .ok (.getfield 19, 3) := by decide +kernel
theorem dX3_pour_135 : decode cX3_pour 135 = .ok (.dup, 1) := by decide +kernel
theorem dX3_pour_136 : decode cX3_pour 136 = .ok (.getfield 52, 3) := by decide +kernel
theorem dX3_pour_139 : decode cX3_pour 139 = .ok (.iload_n 2, 1) := by decide +kernel
theorem dX3_pour_140 : decode cX3_pour 140 = .ok (.isub, 1) := by decide +kernel
theorem dX3_pour_141 : decode cX3_pour 141 = .ok (.putfield 52, 3) := by decide +kernel
theorem dX3_pour_144 : decode cX3_pour 144 = .ok (.aload_n 0, 1) := by decide +kernel
theorem dX3_pour_145 : decode cX3_pour 145 = .ok (.getfield 19, 3) := by decide +kernel
theorem dX3_pour_148 : decode cX3_pour 148 = .ok (.getfield 129, 3) := by decide +kernel
theorem dX3_pour_151 : decode cX3_pour 151 = .ok (.iload_n 1, 1) := by decide +kernel
theorem dX3_pour_152 : decode cX3_pour 152 = .ok (.invokevirtual 161, 3) := by decide +kernel
theorem dX3_pour_155 : decode cX3_pour 155 = .ok (.iload_n 3, 1) := by decide +kernel
theorem dX3_pour_156 : decode cX3_pour 156 = .ok (.ireturn, 1) := by decide +kernel
theorem dX3_clamp_0 : decode cX3_clamp 0 = .ok (.aload_n 0, 1) := by decide +kernel
theorem dX3_clamp_1 : decode cX3_clamp 1 = .ok (.getfield 19, 3) := by decide +kernel
theorem dX3_clamp_4 : decode cX3_clamp 4 = .ok (.getfield 65, 3) := by decide +kernel
theorem dX3_clamp_7 : decode cX3_clamp 7 = .ok (.iload_n 1, 1) := by decide +kernel
theorem dX3_clamp_8 : decode cX3_clamp 8 = .ok (.invokevirtual 84, 3) := by decide +kernel
theorem dX3_clamp_11 : decode cX3_clamp 11 = .ok (.ifCond .eq 12, 3) := by decide +kernel
theorem dX3_clamp_14 : decode cX3_clamp 14 = .ok (.iload_n 2, 1) := by decide +kernel
theorem dX3_clamp_15 : decode cX3_clamp 15 = .ok (.iconst 0, 1) := by decide +kernel
theorem dX3_clamp_16 : decode cX3_clamp 16 = .ok (.iconst 3, 1) := by decide +kernel
theorem dX3_clamp_17 : decode cX3_clamp 17 = .ok (.invokestatic 26, 3) := by decide +kernel
theorem dX3_clamp_20 : decode cX3_clamp 20 = .ok (.ifCond .ne 13, 3) := by decide +kernel
theorem dX3_clamp_23 : decode cX3_clamp 23 = .ok (.new 30, 3) := by decide +kernel
theorem dX3_clamp_26 : decode cX3_clamp 26 = .ok (.dup, 1) := by decide +kernel
theorem dX3_clamp_27 : decode cX3_clamp 27 = .ok (.ldc 165, 2) := by decide +kernel
theorem dX3_clamp_29 : decode cX3_clamp 29 = .ok (.invokespecial 34, 3) := by decide +kernel
theorem dX3_clamp_32 : decode cX3_clamp 32 = .ok (.athrow, 1) := by decide +kernel
theorem dX3_clamp_33 : decode cX3_clamp 33 = .ok (.aload_n 0, 1) := by decide +kernel
theorem dX3_clamp_34 : decode cX3_clamp 34 = .ok (.getfield 19, 3) := by decide +kernel
theorem dX3_clamp_37 : decode cX3_clamp 37 = .ok (.getfield 65, 3) := by decide +kernel
theorem dX3_clamp_40 : decode cX3_clamp 40 = .ok (.iload_n 1, 1) := by decide +kernel
theorem dX3_clamp_41 : decode cX3_clamp 41 = .ok (.iload_n 2, 1) := by decide +kernel
theorem dX3_clamp_42 : decode cX3_clamp 42 = .ok (.invokevirtual 167, 3) := by decide +kernel
theorem dX3_clamp_45 : decode cX3_clamp 45 = .ok (.ireturn, 1) := by decide +kernel
theorem dX3_pit_0 : decode cX3_pit 0 = .ok (.aload_n 0, 1) := by decide +kernel
theorem dX3_pit_1 : decode cX3_pit 1 = .ok (.getfield 19, 3) := by decide +kernel
theorem dX3_pit_4 : decode cX3_pit 4 = .ok (.getfield 105, 3) := by decide +kernel
theorem dX3_pit_7 : decode cX3_pit 7 = .ok (.iload_n 1, 1) := by decide +kernel
theorem dX3_pit_8 : decode cX3_pit 8 = .ok (.invokevirtual 115, 3) := by decide +kernel
theorem dX3_pit_11 : decode cX3_pit 11 = .ok (.ifCond .eq 12, 3) := by decide +kernel
theorem dX3_pit_14 : decode cX3_pit 14 = .ok (.iload_n 2, 1) := by decide +kernel
theorem dX3_pit_15 : decode cX3_pit 15 = .ok (.iconst 0, 1) := by decide +kernel
theorem dX3_pit_16 : decode cX3_pit 16 = .ok (.iconst 3, 1) := by decide +kernel
theorem dX3_pit_17 : decode cX3_pit 17 = .ok (.invokestatic 26, 3) := by decide +kernel
theorem dX3_pit_20 : decode cX3_pit 20 = .ok (.ifCond .ne 13, 3) := by decide +kernel
theorem dX3_pit_23 : decode cX3_pit 23 = .ok (.new 30, 3) := by decide +kernel
theorem dX3_pit_26 : decode cX3_pit 26 = .ok (.dup, 1) := by decide +kernel
theorem dX3_pit_27 : decode cX3_pit 27 = .ok (.ldc 170, 2) := by decide +kernel
theorem dX3_pit_29 : decode cX3_pit 29 = .ok (.invokespecial 34, 3) := by decide +kernel
theorem dX3_pit_32 : decode cX3_pit 32 = .ok (.athrow, 1) := by decide +kernel
theorem dX3_pit_33 : decode cX3_pit 33 = .ok (.aload_n 0, 1) := by decide +kernel
theorem dX3_pit_34 : decode cX3_pit 34 = .ok (.getfield 19, 3) := by decide +kernel
theorem dX3_pit_37 : decode cX3_pit 37 = .ok (.getfield 105, 3) := by decide +kernel
theorem dX3_pit_40 : decode cX3_pit 40 = .ok (.iload_n 1, 1) := by decide +kernel
theorem dX3_pit_41 : decode cX3_pit 41 = .ok (.iload_n 2, 1) := by decide +kernel
theorem dX3_pit_42 : decode cX3_pit 42 = .ok (.invokevirtual 172, 3) := by decide +kernel
theorem dX3_pit_45 : decode cX3_pit 45 = .ok (.ireturn, 1) := by decide +kernel
theorem dX3_about_0 : decode cX3_about 0 = .ok (.aload_n 0, 1) := by decide +kernel
theorem dX3_about_1 : decode cX3_about 1 = .ok (.getfield 19, 3) := by decide +kernel
theorem dX3_about_4 : decode cX3_about 4 = .ok (.getfield 129, 3) := by decide +kernel
theorem dX3_about_7 : decode cX3_about 7 = .ok (.iload_n 1, 1) := by decide +kernel
theorem dX3_about_8 : decode cX3_about 8 = .ok (.invokevirtual 115, 3) := by decide +kernel
theorem dX3_about_11 : decode cX3_about 11 = .ok (.ifCond .eq 12, 3) := by decide +kernel
theorem dX3_about_14 : decode cX3_about 14 = .ok (.iload_n 2, 1) := by decide +kernel
theorem dX3_about_15 : decode cX3_about 15 = .ok (.iconst 0, 1) := by decide +kernel
theorem dX3_about_16 : decode cX3_about 16 = .ok (.iconst 4, 1) := by decide +kernel
theorem dX3_about_17 : decode cX3_about 17 = .ok (.invokestatic 26, 3) := by decide +kernel
theorem dX3_about_20 : decode cX3_about 20 = .ok (.ifCond .ne 13, 3) := by decide +kernel
theorem dX3_about_23 : decode cX3_about 23 = .ok (.new 30, 3) := by decide +kernel
theorem dX3_about_26 : decode cX3_about 26 = .ok (.dup, 1) := by decide +kernel
theorem dX3_about_27 : decode cX3_about 27 = .ok (.ldc 173, 2) := by decide +kernel
theorem dX3_about_29 : decode cX3_about 29 = .ok (.invokespecial 34, 3) := by decide +kernel
theorem dX3_about_32 : decode cX3_about 32 = .ok (.athrow, 1) := by decide +kernel
theorem dX3_about_33 : decode cX3_about 33 = .ok (.aload_n 0, 1) := by decide +kernel
theorem dX3_about_34 : decode cX3_about 34 = .ok (.getfield 19, 3) := by decide +kernel
theorem dX3_about_37 : decode cX3_about 37 = .ok (.getfield 129, 3) := by decide +kernel
theorem dX3_about_40 : decode cX3_about 40 = .ok (.iload_n 1, 1) := by decide +kernel
theorem dX3_about_41 : decode cX3_about 41 = .ok (.iload_n 2, 1) := by decide +kernel
theorem dX3_about_42 : decode cX3_about 42 = .ok (.invokevirtual 172, 3) := by decide +kernel
theorem dX3_about_45 : decode cX3_about 45 = .ok (.ireturn, 1) := by decide +kernel
theorem dX3_count_0 : decode cX3_count 0 = .ok (.iload_n 1, 1) := by decide +kernel
theorem dX3_count_1 : decode cX3_count 1 = .ok (.iconst 0, 1) := by decide +kernel
theorem dX3_count_2 : decode cX3_count 2 = .ok (.bipush 9, 2) := by decide +kernel
theorem dX3_count_4 : decode cX3_count 4 = .ok (.invokestatic 26, 3) := by decide +kernel
theorem dX3_count_7 : decode cX3_count 7 = .ok (.ifCond .ne 13, 3) := by decide +kernel
theorem dX3_count_10 : decode cX3_count 10 = .ok (.new 30, 3) := by decide +kernel
theorem dX3_count_13 : decode cX3_count 13 = .ok (.dup, 1) := by decide +kernel
theorem dX3_count_14 : decode cX3_count 14 = .ok (.ldc 175, 2) := by decide +kernel
theorem dX3_count_16 : decode cX3_count 16 = .ok (.invokespecial 34, 3) := by decide +kernel
theorem dX3_count_19 : decode cX3_count 19 = .ok (.athrow, 1) := by decide +kernel
theorem dX3_count_20 : decode cX3_count 20 = .ok (.aload_n 0, 1) := by decide +kernel
theorem dX3_count_21 : decode cX3_count 21 = .ok (.aload_n 0, 1) := by decide +kernel
theorem dX3_count_22 : decode cX3_count 22 = .ok (.getfield 19, 3) := by decide +kernel
theorem dX3_count_25 : decode cX3_count 25 = .ok (.iload_n 1, 1) := by decide +kernel
theorem dX3_count_26 : decode cX3_count 26 = .ok (.invokevirtual 177, 3) := by decide +kernel
theorem dX3_count_29 : decode cX3_count 29 = .ok (.ireturn, 1) := by decide +kernel
theorem dX3_pass_0 : decode cX3_pass 0 = .ok (.iload_n 1, 1) := by decide +kernel
theorem dX3_pass_1 : decode cX3_pass 1 = .ok (.iconst 1, 1) := by decide +kernel
theorem dX3_pass_2 : decode cX3_pass 2 = .ok (.bipush 60, 2) := by decide +kernel
theorem dX3_pass_4 : decode cX3_pass 4 = .ok (.invokestatic 26, 3) := by decide +kernel
theorem dX3_pass_7 : decode cX3_pass 7 = .ok (.ifCond .ne 13, 3) := by decide +kernel
theorem dX3_pass_10 : decode cX3_pass 10 = .ok (.new 37, 3) := by decide +kernel
theorem dX3_pass_13 : decode cX3_pass 13 = .ok (.dup, 1) := by decide +kernel
theorem dX3_pass_14 : decode cX3_pass 14 = .ok (.ldc 181, 2) := by decide +kernel
theorem dX3_pass_16 : decode cX3_pass 16 = .ok (.invokespecial 41, 3) := by decide +kernel
theorem dX3_pass_19 : decode cX3_pass 19 = .ok (.athrow, 1) := by decide +kernel
theorem dX3_pass_20 : decode cX3_pass 20 = .ok (.aload_n 0, 1) := by decide +kernel
theorem dX3_pass_21 : decode cX3_pass 21 = .ok (.getfield 19, 3) := by decide +kernel
theorem dX3_pass_24 : decode cX3_pass 24 = .ok (.getfield 183, 3) := by decide +kernel
theorem dX3_pass_27 : decode cX3_pass 27 = .ok (.istore_n 2, 1) := by decide +kernel
theorem dX3_pass_28 : decode cX3_pass 28 = .ok (.aload_n 0, 1) := by decide +kernel
theorem dX3_pass_29 : decode cX3_pass 29 = .ok (.aload_n 0, 1) := by decide +kernel
theorem dX3_pass_30 : decode cX3_pass 30 = .ok (.getfield 19, 3) := by decide +kernel
theorem dX3_pass_33 : decode cX3_pass 33 = .ok (.iload_n 1, 1) := by decide +kernel
theorem dX3_pass_34 : decode cX3_pass 34 = .ok (.invokevirtual 186, 3) := by decide +kernel
theorem dX3_pass_37 : decode cX3_pass 37 = .ok (.aload_n 0, 1) := by decide +kernel
theorem dX3_pass_38 : decode cX3_pass 38 = .ok (.getfield 19, 3) := by decide +kernel
theorem dX3_pass_41 : decode cX3_pass 41 = .ok (.getfield 183, 3) := by decide +kernel
theorem dX3_pass_44 : decode cX3_pass 44 = .ok (.iload_n 2, 1) := by decide +kernel
theorem dX3_pass_45 : decode cX3_pass 45 = .ok (.isub, 1) := by decide +kernel
theorem dX3_pass_46 : decode cX3_pass 46 = .ok (.ireturn, 1) := by decide +kernel
theorem dX3_right_0 : decode cX3_right 0 = .ok (.aload_n 0, 1) := by decide +kernel
theorem dX3_right_1 : decode cX3_right 1 = .ok (.getfield 19, 3) := by decide +kernel
theorem dX3_right_4 : decode cX3_right 4 = .ok (.getfield 129, 3) := by decide +kernel
theorem dX3_right_7 : decode cX3_right 7 = .ok (.iload_n 1, 1) := by decide +kernel
theorem dX3_right_8 : decode cX3_right 8 = .ok (.invokevirtual 115, 3) := by decide +kernel
theorem dX3_right_11 : decode cX3_right 11 = .ok (.ifCond .ne 13, 3) := by decide +kernel
theorem dX3_right_14 : decode cX3_right 14 = .ok (.new 30, 3) := by decide +kernel
theorem dX3_right_17 : decode cX3_right 17 = .ok (.dup, 1) := by decide +kernel
theorem dX3_right_18 : decode cX3_right 18 = .ok (.ldc 140, 2) := by decide +kernel
theorem dX3_right_20 : decode cX3_right 20 = .ok (.invokespecial 34, 3) := by decide +kernel
theorem dX3_right_23 : decode cX3_right 23 = .ok (.athrow, 1) := by decide +kernel
theorem dX3_right_24 : decode cX3_right 24 = .ok (.aload_n 0, 1) := by decide +kernel
theorem dX3_right_25 : decode cX3_right 25 = .ok (.getfield 23, 3) := by decide +kernel
theorem dX3_right_28 : decode cX3_right 28 = .ok (.aload_n 0, 1) := by decide +kernel
theorem dX3_right_29 : decode cX3_right 29 = .ok (.getfield 19, 3) := by decide +kernel
theorem dX3_right_32 : decode cX3_right 32 = .ok (.invokevirtual 190, 3) := by decide +kernel
theorem dX3_right_35 : decode cX3_right 35 = .ok (.iconst 0, 1) := by decide +kernel
theorem dX3_right_36 : decode cX3_right 36 = .ok (.istore_n 2, 1) := by decide +kernel
theorem dX3_right_37 : decode cX3_right 37 = .ok (.iload_n 2, 1) := by decide +kernel
theorem dX3_right_38 : decode cX3_right 38 = .ok (.bipush 60, 2) := by decide +kernel
theorem dX3_right_40 : decode cX3_right 40 = .ok (.if_icmp .gt 35, 3) := by decide +kernel
theorem dX3_right_43 : decode cX3_right 43 = .ok (.aload_n 0, 1) := by decide +kernel
theorem dX3_right_44 : decode cX3_right 44 = .ok (.getfield 23, 3) := by decide +kernel
theorem dX3_right_47 : decode cX3_right 47 = .ok (.getfield 129, 3) := by decide +kernel
theorem dX3_right_50 : decode cX3_right 50 = .ok (.iload_n 1, 1) := by decide +kernel
theorem dX3_right_51 : decode cX3_right 51 = .ok (.invokevirtual 152, 3) := by decide +kernel
theorem dX3_right_54 : decode cX3_right 54 = .ok (.iconst 1, 1) := by decide +kernel
theorem dX3_right_55 : decode cX3_right 55 = .ok (.if_icmp .ne 5, 3) := by decide +kernel
theorem dX3_right_58 : decode cX3_right 58 = .ok (.iload_n 2, 1) := by decide +kernel
theorem dX3_right_59 : decode cX3_right 59 = .ok (.ireturn, 1) := by decide +kernel
theorem dX3_right_60 : decode cX3_right 60 = .ok (.aload_n 0, 1) := by decide +kernel
theorem dX3_right_61 : decode cX3_right 61 = .ok (.aload_n 0, 1) := by decide +kernel
theorem dX3_right_62 : decode cX3_right 62 = .ok (.getfield 23, 3) := by decide +kernel
theorem dX3_right_65 : decode cX3_right 65 = .ok (.iconst 1, 1) := by decide +kernel
theorem dX3_right_66 : decode cX3_right 66 = .ok (.invokevirtual 186, 3) := by decide +kernel
theorem dX3_right_69 : decode cX3_right 69 = .ok (.iinc 2 1, 3) := by decide +kernel
theorem dX3_right_72 : decode cX3_right 72 = .ok (.goto (-35), 3) := by decide +kernel
theorem dX3_right_75 : decode cX3_right 75 = .ok (.iconst (-1), 1) := by decide +kernel
theorem dX3_right_76 : decode cX3_right 76 = .ok (.ireturn, 1) := by decide +kernel
theorem dX3_foresee_0 : decode cX3_foresee 0 = .ok (.iload_n 1, 1) := by decide +kernel
theorem dX3_foresee_1 : decode cX3_foresee 1 = .ok (.iconst 1, 1) := by decide +kernel
theorem dX3_foresee_2 : decode cX3_foresee 2 = .ok (.bipush 60, 2) := by decide +kernel
theorem dX3_foresee_4 : decode cX3_foresee 4 = .ok (.invokestatic 26, 3) := by decide +kernel
theorem dX3_foresee_7 : decode cX3_foresee 7 = .ok (.ifCond .ne 13, 3) := by decide +kernel
theorem dX3_foresee_10 : decode cX3_foresee 10 = .ok (.new 37, 3) := by decide +kernel
theorem dX3_foresee_13 : decode cX3_foresee 13 = .ok (.dup, 1) := by decide +kernel
theorem dX3_foresee_14 : decode cX3_foresee 14 = .ok (.ldc 181, 2) := by decide +kernel
theorem dX3_foresee_16 : decode cX3_foresee 16 = .ok (.invokespecial 41, 3) := by decide +kernel
theorem dX3_foresee_19 : decode cX3_foresee 19 = .ok (.athrow, 1) := by decide +kernel
theorem dX3_foresee_20 : decode cX3_foresee 20 = .ok (.iload_n 2, 1) := by decide +kernel
theorem dX3_foresee_21 : decode cX3_foresee 21 = .ok (.iconst 2, 1) := by decide +kernel
theorem dX3_foresee_22 : decode cX3_foresee 22 = .ok (.if_icmp .eq 23, 3) := by decide +kernel
theorem dX3_foresee_25 : decode cX3_foresee 25 = .ok (.iload_n 2, 1) := by decide +kernel
theorem dX3_foresee_26 : decode cX3_foresee 26 = .ok (.iconst 4, 1) := by decide +kernel
theorem dX3_foresee_27 : decode cX3_foresee 27 = .ok (.bipush 7, 2) := by decide +kernel
theorem dX3_foresee_29 : decode cX3_foresee 29 = .ok (.invokestatic 26, 3) := by decide +kernel
theorem dX3_foresee_32 : decode cX3_foresee 32 = .ok (.ifCond .ne 13, 3) := by decide +kernel
theorem dX3_foresee_35 : decode cX3_foresee 35 = .ok (.new 30, 3) := by decide +kernel
theorem dX3_foresee_38 : decode cX3_foresee 38 = .ok (.dup, 1) := by decide +kernel
theorem dX3_foresee_39 : decode cX3_foresee 39 = .ok (.ldc 194, 2) := by decide +kernel
theorem dX3_foresee_41 : decode cX3_foresee 41 = .ok (.invokespecial 34, 3) := by decide +kernel
theorem dX3_foresee_44 : decode cX3_foresee 44 = .ok (.athrow, 1) := by decide +kernel
theorem dX3_foresee_45 : decode cX3_foresee 45 = .ok (.aload_n 0, 1) := by decide +kernel
theorem dX3_foresee_46 : decode cX3_foresee 46 = .ok (.getfield 23, 3) := by decide +kernel
theorem dX3_foresee_49 : decode cX3_foresee 49 = .ok (.aload_n 0, 1) := by decide +kernel
theorem dX3_foresee_50 : decode cX3_foresee 50 = .ok (.getfield 19, 3) := by decide +kernel
theorem dX3_foresee_53 : decode cX3_foresee 53 = .ok (.invokevirtual 190, 3) := by decide +kernel
theorem dX3_foresee_56 : decode cX3_foresee 56 = .ok (.aload_n 0, 1) := by decide +kernel
theorem dX3_foresee_57 : decode cX3_foresee 57 = .ok (.aload_n 0, 1) := by decide +kernel
theorem dX3_foresee_58 : decode cX3_foresee 58 = .ok (.getfield 23, 3) := by decide +kernel
theorem dX3_foresee_61 : decode cX3_foresee 61 = .ok (.iload_n 1, 1) := by decide +kernel
theorem dX3_foresee_62 : decode cX3_foresee 62 = .ok (.invokevirtual 186, 3) := by decide +kernel
theorem dX3_foresee_65 : decode cX3_foresee 65 = .ok (.aload_n 0, 1) := by decide +kernel
theorem dX3_foresee_66 : decode cX3_foresee 66 = .ok (.aload_n 0, 1) := by decide +kernel
theorem dX3_foresee_67 : decode cX3_foresee 67 = .ok (.getfield 23, 3) := by decide +kernel
theorem dX3_foresee_70 : decode cX3_foresee 70 = .ok (.iload_n 2, 1) := by decide +kernel
theorem dX3_foresee_71 : decode cX3_foresee 71 = .ok (.invokevirtual 177, 3) := by decide +kernel
theorem dX3_foresee_74 : decode cX3_foresee 74 = .ok (.ireturn, 1) := by decide +kernel
theorem dX3_barrels_0 : decode cX3_barrels 0 = .ok (.aload_n 0, 1) := by decide +kernel
theorem dX3_barrels_1 : decode cX3_barrels 1 = .ok (.getfield 19, 3) := by decide +kernel
theorem dX3_barrels_4 : decode cX3_barrels 4 = .ok (.getfield 129, 3) := by decide +kernel
theorem dX3_barrels_7 : decode cX3_barrels 7 = .ok (.iload_n 1, 1) := by decide +kernel
theorem dX3_barrels_8 : decode cX3_barrels 8 = .ok (.invokevirtual 115, 3) := by decide +kernel
theorem dX3_barrels_11 : decode cX3_barrels 11 = .ok (.ifCond .ne 13, 3) := by decide +kernel
theorem dX3_barrels_14 : decode cX3_barrels 14 = .ok (.new 30, 3) := by decide +kernel
theorem dX3_barrels_17 : decode cX3_barrels 17 = .ok (.dup, 1) := by decide +kernel
theorem dX3_barrels_18 : decode cX3_barrels 18 = .ok (.ldc 140, 2) := by decide +kernel
theorem dX3_barrels_20 : decode cX3_barrels 20 = .ok (.invokespecial 34, 3) := by decide +kernel
theorem dX3_barrels_23 : decode cX3_barrels 23 = .ok (.athrow, 1) := by decide +kernel
theorem dX3_barrels_24 : decode cX3_barrels 24 = .ok (.aload_n 0, 1) := by decide +kernel
theorem dX3_barrels_25 : decode cX3_barrels 25 = .ok (.getfield 19, 3) := by decide +kernel
theorem dX3_barrels_28 : decode cX3_barrels 28 = .ok (.getfield 129, 3) := by decide +kernel
theorem dX3_barrels_31 : decode cX3_barrels 31 = .ok (.getfield 126, 3) := by decide +kernel
theorem dX3_barrels_34 : decode cX3_barrels 34 = .ok (.iload_n 1, 1) := by decide +kernel
theorem dX3_barrels_35 : decode cX3_barrels 35 = .ok (.iaload, 1) := by decide +kernel
theorem dX3_barrels_36 : decode cX3_barrels 36 = .ok (.ifCond .ne 5, 3) := by decide +kernel
theorem dX3_barrels_39 : decode cX3_barrels 39 = .ok (.iconst (-1), 1) := by decide +kernel
theorem dX3_barrels_40 : decode cX3_barrels 40 = .ok (.ireturn, 1) := by decide +kernel
theorem dX3_barrels_41 : decode cX3_barrels 41 = .ok (.iconst 1, 1) := by decide +kernel
theorem dX3_barrels_42 : decode cX3_barrels 42 = .ok (.istore_n 2, 1) := by decide +kernel
theorem dX3_barrels_43 : decode cX3_barrels 43 = .ok (.iconst 2, 1) := by decide +kernel
theorem dX3_barrels_44 : decode cX3_barrels 44 = .ok (.istore_n 3, 1) := by decide +kernel
theorem dX3_barrels_45 : decode cX3_barrels 45 = .ok (.iload_n 3, 1) := by decide +kernel
theorem dX3_barrels_46 : decode cX3_barrels 46 = .ok (.bipush 20, 2) := by decide +kernel
theorem dX3_barrels_48 : decode cX3_barrels 48 = .ok (.if_icmp .gt 26, 3) := by decide +kernel
theorem dX3_barrels_51 : decode cX3_barrels 51 = .ok (.aload_n 0, 1) := by decide +kernel
theorem dX3_barrels_52 : decode cX3_barrels 52 = .ok (.iload_n 1, 1) := by decide +kernel
theorem dX3_barrels_53 : decode cX3_barrels 53 = .ok (.iload_n 3, 1) := by decide +kernel
theorem dX3_barrels_54 : decode cX3_barrels 54 = .ok (.invokevirtual 149, 3) := by decide +kernel
theorem dX3_barrels_57 : decode cX3_barrels 57 = .ok (.aload_n 0, 1) := by decide +kernel
theorem dX3_barrels_58 : decode cX3_barrels 58 = .ok (.iload_n 1, 1) := by decide +kernel
theorem dX3_barrels_59 : decode cX3_barrels 59 = .ok (.iload_n 2, 1) := by decide +kernel
theorem dX3_barrels_60 : decode cX3_barrels 60 = .ok (.invokevirtual 149, 3) := by decide +kernel
theorem dX3_barrels_63 : decode cX3_barrels 63 = .ok (.if_icmp .le 5, 3) := by decide +kernel
theorem dX3_barrels_66 : decode cX3_barrels 66 = .ok (.iload_n 3, 1) := by decide +kernel
theorem dX3_barrels_67 : decode cX3_barrels 67 = .ok (.istore_n 2, 1) := by decide +kernel
theorem dX3_barrels_68 : decode cX3_barrels 68 = .ok (.iinc 3 1, 3) := by decide +kernel
theorem dX3_barrels_71 : decode cX3_barrels 71 = .ok (.goto (-26), 3) := by decide +kernel
theorem dX3_barrels_74 : decode cX3_barrels 74 = .ok (.iload_n 2, 1) := by decide +kernel
theorem dX3_barrels_75 : decode cX3_barrels 75 = .ok (.ireturn, 1) := by decide +kernel
theorem dX3_dry_0 : decode cX3_dry 0 = .ok (.aload_n 0, 1) := by decide +kernel
theorem dX3_dry_1 : decode cX3_dry 1 = .ok (.getfield 19, 3) := by decide +kernel
theorem dX3_dry_4 : decode cX3_dry 4 = .ok (.getfield 105, 3) := by decide +kernel
theorem dX3_dry_7 : decode cX3_dry 7 = .ok (.iload_n 1, 1) := by decide +kernel
theorem dX3_dry_8 : decode cX3_dry 8 = .ok (.invokevirtual 115, 3) := by decide +kernel
theorem dX3_dry_11 : decode cX3_dry 11 = .ok (.ifCond .ne 13, 3) := by decide +kernel
theorem dX3_dry_14 : decode cX3_dry 14 = .ok (.new 30, 3) := by decide +kernel
theorem dX3_dry_17 : decode cX3_dry 17 = .ok (.dup, 1) := by decide +kernel
theorem dX3_dry_18 : decode cX3_dry 18 = .ok (.ldc 196, 2) := by decide +kernel
theorem dX3_dry_20 : decode cX3_dry 20 = .ok (.invokespecial 34, 3) := by decide +kernel
theorem dX3_dry_23 : decode cX3_dry 23 = .ok (.athrow, 1) := by decide +kernel
theorem dX3_dry_24 : decode cX3_dry 24 = .ok (.aload_n 0, 1) := by decide +kernel
theorem dX3_dry_25 : decode cX3_dry 25 = .ok (.getfield 19, 3) := by decide +kernel
theorem dX3_dry_28 : decode cX3_dry 28 = .ok (.getfield 105, 3) := by decide +kernel
theorem dX3_dry_31 : decode cX3_dry 31 = .ok (.getfield 121, 3) := by decide +kernel
theorem dX3_dry_34 : decode cX3_dry 34 = .ok (.iload_n 1, 1) := by decide +kernel
theorem dX3_dry_35 : decode cX3_dry 35 = .ok (.iaload, 1) := by decide +kernel
theorem dX3_dry_36 : decode cX3_dry 36 = .ok (.istore_n 2, 1) := by decide +kernel
theorem dX3_dry_37 : decode cX3_dry 37 = .ok (.aload_n 0, 1) := by decide +kernel
theorem dX3_dry_38 : decode cX3_dry 38 = .ok (.getfield 19, 3) := by decide +kernel
theorem dX3_dry_41 : decode cX3_dry 41 = .ok (.getfield 105, 3) := by decide +kernel
theorem dX3_dry_44 : decode cX3_dry 44 = .ok (.getfield 126, 3) := by decide +kernel
theorem dX3_dry_47 : decode cX3_dry 47 = .ok (.iload_n 1, 1) := by decide +kernel
theorem dX3_dry_48 : decode cX3_dry 48 = .ok (.iaload, 1) := by decide +kernel
theorem dX3_dry_49 : decode cX3_dry 49 = .ok (.istore_n 3, 1) := by decide +kernel
theorem dX3_dry_50 : decode cX3_dry 50 = .ok (.iload_n 3, 1) := by decide +kernel
theorem dX3_dry_51 : decode cX3_dry 51 = .ok (.ifCond .ne 5, 3) := by decide +kernel
theorem dX3_dry_54 : decode cX3_dry 54 = .ok (.iconst (-1), 1) := by decide +kernel
theorem dX3_dry_55 : decode cX3_dry 55 = .ok (.ireturn, 1) := by decide +kernel
theorem dX3_dry_56 : decode cX3_dry 56 = .ok (.iconst 0, 1) := by decide +kernel
theorem dX3_dry_57 : decode cX3_dry 57 = .ok (.istore 4, 2) := by decide +kernel
theorem dX3_dry_59 : decode cX3_dry 59 = .ok (.iload 4, 2) := by decide +kernel
theorem dX3_dry_61 : decode cX3_dry 61 = .ok (.iload_n 2, 1) := by decide +kernel
theorem dX3_dry_62 : decode cX3_dry 62 = .ok (.if_icmp .ge 23, 3) := by decide +kernel
theorem dX3_dry_65 : decode cX3_dry 65 = .ok (.iload_n 2, 1) := by decide +kernel
theorem dX3_dry_66 : decode cX3_dry 66 = .ok (.iload 4, 2) := by decide +kernel
theorem dX3_dry_68 : decode cX3_dry 68 = .ok (.isub, 1) := by decide +kernel
theorem dX3_dry_69 : decode cX3_dry 69 = .ok (.iload_n 3, 1) := by decide +kernel
theorem dX3_dry_70 : decode cX3_dry 70 = .ok (.invokestatic 198, 3) := by decide +kernel
theorem dX3_dry_73 : decode cX3_dry 73 = .ok (.invokestatic 201, 3) := by decide +kernel
theorem dX3_dry_76 : decode cX3_dry 76 = .ok (.ifCond .ne 9, 3) := by decide +kernel
theorem dX3_dry_79 : decode cX3_dry 79 = .ok (.iinc 4 1, 3) := by decide +kernel
theorem dX3_dry_82 : decode cX3_dry 82 = .ok (.goto (-23), 3) := by decide +kernel
theorem dX3_dry_85 : decode cX3_dry 85 = .ok (.iload 4, 2) := by decide +kernel
theorem dX3_dry_87 : decode cX3_dry 87 = .ok (.ireturn, 1) := by decide +kernel
theorem dX3_mean_0 : decode cX3_mean 0 = .ok (.aload_n 0, 1) := by decide +kernel
theorem dX3_mean_1 : decode cX3_mean 1 = .ok (.getfield 19, 3) := by decide +kernel
theorem dX3_mean_4 : decode cX3_mean 4 = .ok (.getfield 105, 3) := by decide +kernel
theorem dX3_mean_7 : decode cX3_mean 7 = .ok (.invokevirtual 204, 3) := by decide +kernel
theorem dX3_mean_10 : decode cX3_mean 10 = .ok (.aload_n 0, 1) := by decide +kernel
theorem dX3_mean_11 : decode cX3_mean 11 = .ok (.getfield 19, 3) := by decide +kernel
theorem dX3_mean_14 : decode cX3_mean 14 = .ok (.getfield 129, 3) := by decide +kernel
theorem dX3_mean_17 : decode cX3_mean 17 = .ok (.invokevirtual 204, 3) := by decide +kernel
theorem dX3_mean_20 : decode cX3_mean 20 = .ok (.iadd, 1) := by decide +kernel
theorem dX3_mean_21 : decode cX3_mean 21 = .ok (.istore_n 1, 1) := by decide +kernel
theorem dX3_mean_22 : decode cX3_mean 22 = .ok (.iload_n 1, 1) := by decide +kernel
theorem dX3_mean_23 : decode cX3_mean 23 = .ok (.ifCond .ne 5, 3) := by decide +kernel
theorem dX3_mean_26 : decode cX3_mean 26 = .ok (.dconst 0, 1) := by decide +kernel
theorem dX3_mean_27 : decode cX3_mean 27 = .ok (.dreturn, 1) := by decide +kernel
theorem dX3_mean_28 : decode cX3_mean 28 = .ok (.aload_n 0, 1) := by decide +kernel
theorem dX3_mean_29 : decode cX3_mean 29 = .ok (.getfield 19, 3) := by decide +kernel
theorem dX3_mean_32 : decode cX3_mean 32 = .ok (.getfield 105, 3) := by decide +kernel
theorem dX3_mean_35 : decode cX3_mean 35 = .ok (.invokevirtual 208, 3) := by decide +kernel
theorem dX3_mean_38 : decode cX3_mean 38 = .ok (.aload_n 0, 1) := by decide +kernel
theorem dX3_mean_39 : decode cX3_mean 39 = .ok (.getfield 19, 3) := by decide +kernel
theorem dX3_mean_42 : decode cX3_mean 42 = .ok (.getfield 129, 3) := by decide +kernel
theorem dX3_mean_45 : decode cX3_mean 45 = .ok (.invokevirtual 208, 3) := by decide +kernel
theorem dX3_mean_48 : decode cX3_mean 48 = .ok (.iadd, 1) := by decide +kernel
theorem dX3_mean_49 : decode cX3_mean 49 = .ok (.i2d, 1) := by decide +kernel
theorem dX3_mean_50 : decode cX3_mean 50 = .ok (.iload_n 1, 1) := by decide +kernel
theorem dX3_mean_51 : decode cX3_mean 51 = .ok (.i2d, 1) := by decide +kernel
theorem dX3_mean_52 : decode cX3_mean 52 = .ok (.ddiv, 1) := by decide +kernel
theorem dX3_mean_53 : decode cX3_mean 53 = .ok (.dreturn, 1) := by decide +kernel
theorem dX3_digest_0 : decode cX3_digest 0 = .ok (.ldc2_w 211, 3) := by decide +kernel
theorem dX3_digest_3 : decode cX3_digest 3 = .ok (.lstore_n 1, 1) := by decide +kernel
theorem dX3_digest_4 : decode cX3_digest 4 = .ok (.iconst 0, 1) := by decide +kernel
theorem dX3_digest_5 : decode cX3_digest 5 = .ok (.istore_n 3, 1) := by decide +kernel
theorem dX3_digest_6 : decode cX3_digest 6 = .ok (.iload_n 3, 1) := by decide +kernel
theorem dX3_digest_7 : decode cX3_digest 7 = .ok (.bipush 10, 2) := by decide +kernel
theorem dX3_digest_9 : decode cX3_digest 9 = .ok (.if_icmp .ge 23, 3) := by decide +kernel
theorem dX3_digest_12 : decode cX3_digest 12 = .ok (.lload_n 1, 1) := by decide +kernel
theorem dX3_digest_13 : decode cX3_digest 13 = .ok (.aload_n 0, 1) := by decide +kernel
theorem dX3_digest_14 : decode cX3_digest 14 = .ok (.aload_n 0, 1) := by decide +kernel
theorem dX3_digest_15 : decode cX3_digest 15 = .ok (.getfield 19, 3) := by decide +kernel
theorem dX3_digest_18 : decode cX3_digest 18 = .ok (.iload_n 3, 1) := by decide +kernel
theorem dX3_digest_19 : decode cX3_digest 19 = .ok (.invokevirtual 177, 3) := by decide +kernel
theorem dX3_digest_22 : decode cX3_digest 22 = .ok (.invokestatic 213, 3) := by decide +kernel
theorem dX3_digest_25 : decode cX3_digest 25 = .ok (.lstore_n 1, 1) := by decide +kernel
theorem dX3_digest_26 : decode cX3_digest 26 = .ok (.iinc 3 1, 3) := by decide +kernel
theorem dX3_digest_29 : decode cX3_digest 29 = .ok (.goto (-23), 3) := by decide +kernel
theorem dX3_digest_32 : decode cX3_digest 32 = .ok (.aload_n 0, 1) := by decide +kernel
theorem dX3_digest_33 : decode cX3_digest 33 = .ok (.getfield 9, 3) := by decide +kernel
theorem dX3_digest_36 : decode cX3_digest 36 = .ok (.astore_n 3, 1) := by decide +kernel
theorem dX3_digest_37 : decode cX3_digest 37 = .ok (.aload_n 3, 1) := by decide +kernel
theorem dX3_digest_38 : decode cX3_digest 38 = .ok (.arraylength, 1) := by decide +kernel
theorem dX3_digest_39 : decode cX3_digest 39 = .ok (.istore 4, 2) := by decide +kernel
theorem dX3_digest_41 : decode cX3_digest 41 = .ok (.iconst 0, 1) := by decide +kernel
theorem dX3_digest_42 : decode cX3_digest 42 = .ok (.istore 5, 2) := by decide +kernel
theorem dX3_digest_44 : decode cX3_digest 44 = .ok (.iload 5, 2) := by decide +kernel
theorem dX3_digest_46 : decode cX3_digest 46 = .ok (.iload 4, 2) := by decide +kernel
theorem dX3_digest_48 : decode cX3_digest 48 = .ok (.if_icmp .ge 22, 3) := by decide +kernel
theorem dX3_digest_51 : decode cX3_digest 51 = .ok (.aload_n 3, 1) := by decide +kernel
theorem dX3_digest_52 : decode cX3_digest 52 = .ok (.iload 5, 2) := by decide +kernel
theorem dX3_digest_54 : decode cX3_digest 54 = .ok (.iaload, 1) := by decide +kernel
theorem dX3_digest_55 : decode cX3_digest 55 = .ok (.istore 6, 2) := by decide +kernel
theorem dX3_digest_57 : decode cX3_digest 57 = .ok (.lload_n 1, 1) := by decide +kernel
theorem dX3_digest_58 : decode cX3_digest 58 = .ok (.iload 6, 2) := by decide +kernel
theorem dX3_digest_60 : decode cX3_digest 60 = .ok (.invokestatic 213, 3) := by decide +kernel
theorem dX3_digest_63 : decode cX3_digest 63 = .ok (.lstore_n 1, 1) := by decide +kernel
theorem dX3_digest_64 : decode cX3_digest 64 = .ok (.iinc 5 1, 3) := by decide +kernel
theorem dX3_digest_67 : decode cX3_digest 67 = .ok (.goto (-23), 3) := by decide +kernel
theorem dX3_digest_70 : decode cX3_digest 70 = .ok (.aload_n 0, 1) := by decide +kernel
theorem dX3_digest_71 : decode cX3_digest 71 = .ok (.getfield 13, 3) := by decide +kernel
theorem dX3_digest_74 : decode cX3_digest 74 = .ok (.astore_n 3, 1) := by decide +kernel
theorem dX3_digest_75 : decode cX3_digest 75 = .ok (.aload_n 3, 1) := by decide +kernel
theorem dX3_digest_76 : decode cX3_digest 76 = .ok (.arraylength, 1) := by decide +kernel
theorem dX3_digest_77 : decode cX3_digest 77 = .ok (.istore 4, 2) := by decide +kernel
theorem dX3_digest_79 : decode cX3_digest 79 = .ok (.iconst 0, 1) := by decide +kernel
theorem dX3_digest_80 : decode cX3_digest 80 = .ok (.istore 5, 2) := by decide +kernel
theorem dX3_digest_82 : decode cX3_digest 82 = .ok (.iload 5, 2) := by decide +kernel
theorem dX3_digest_84 : decode cX3_digest 84 = .ok (.iload 4, 2) := by decide +kernel
theorem dX3_digest_86 : decode cX3_digest 86 = .ok (.if_icmp .ge 22, 3) := by decide +kernel
theorem dX3_digest_89 : decode cX3_digest 89 = .ok (.aload_n 3, 1) := by decide +kernel
theorem dX3_digest_90 : decode cX3_digest 90 = .ok (.iload 5, 2) := by decide +kernel
theorem dX3_digest_92 : decode cX3_digest 92 = .ok (.iaload, 1) := by decide +kernel
theorem dX3_digest_93 : decode cX3_digest 93 = .ok (.istore 6, 2) := by decide +kernel
theorem dX3_digest_95 : decode cX3_digest 95 = .ok (.lload_n 1, 1) := by decide +kernel
theorem dX3_digest_96 : decode cX3_digest 96 = .ok (.iload 6, 2) := by decide +kernel
theorem dX3_digest_98 : decode cX3_digest 98 = .ok (.invokestatic 213, 3) := by decide +kernel
theorem dX3_digest_101 : decode cX3_digest 101 = .ok (.lstore_n 1, 1) := by decide +kernel
theorem dX3_digest_102 : decode cX3_digest 102 = .ok (.iinc 5 1, 3) := by decide +kernel
theorem dX3_digest_105 : decode cX3_digest 105 = .ok (.goto (-23), 3) := by decide +kernel
theorem dX3_digest_108 : decode cX3_digest 108 = .ok (.iconst 0, 1) := by decide +kernel
theorem dX3_digest_109 : decode cX3_digest 109 = .ok (.istore_n 3, 1) := by decide +kernel
theorem dX3_digest_110 : decode cX3_digest 110 = .ok (.iload_n 3, 1) := by decide +kernel
theorem dX3_digest_111 : decode cX3_digest 111 = .ok (.aload_n 0, 1) := by decide +kernel
theorem dX3_digest_112 : decode cX3_digest 112 = .ok (.getfield 19, 3) := by decide +kernel
theorem dX3_digest_115 : decode cX3_digest 115 = .ok (.getfield 65, 3) := by decide +kernel
theorem dX3_digest_118 : decode cX3_digest 118 = .ok (.getfield 217, 3) := by decide +kernel
theorem dX3_digest_121 : decode cX3_digest 121 = .ok (.if_icmp .ge 42, 3) := by decide +kernel
theorem dX3_digest_124 : decode cX3_digest 124 = .ok (.iconst 0, 1) := by decide +kernel
theorem dX3_digest_125 : decode cX3_digest 125 = .ok (.istore 4, 2) := by decide +kernel
theorem dX3_digest_127 : decode cX3_digest 127 = .ok (.iload 4, 2) := by decide +kernel
theorem dX3_digest_129 : decode cX3_digest 129 = .ok (.iconst 4, 1) := by decide +kernel
theorem dX3_digest_130 : decode cX3_digest 130 = .ok (.if_icmp .ge 27, 3) := by decide +kernel
theorem dX3_digest_133 : decode cX3_digest 133 = .ok (.lload_n 1, 1) := by decide +kernel
theorem dX3_digest_134 : decode cX3_digest 134 = .ok (.aload_n 0, 1) := by decide +kernel
theorem dX3_digest_135 : decode cX3_digest 135 = .ok (.getfield 19, 3) := by decide +kernel
theorem dX3_digest_138 : decode cX3_digest 138 = .ok (.getfield 65, 3) := by decide +kernel
theorem dX3_digest_141 : decode cX3_digest 141 = .ok (.iload_n 3, 1) := by decide +kernel
theorem dX3_digest_142 : decode cX3_digest 142 = .ok (.iload 4, 2) := by decide +kernel
theorem dX3_digest_144 : decode cX3_digest 144 = .ok (.invokevirtual 167, 3) := by decide +kernel
theorem dX3_digest_147 : decode cX3_digest 147 = .ok (.invokestatic 213, 3) := by decide +kernel
theorem dX3_digest_150 : decode cX3_digest 150 = .ok (.lstore_n 1, 1) := by decide +kernel
theorem dX3_digest_151 : decode cX3_digest 151 = .ok (.iinc 4 1, 3) := by decide +kernel
theorem dX3_digest_154 : decode cX3_digest 154 = .ok (.goto (-27), 3) := by decide +kernel
theorem dX3_digest_157 : decode cX3_digest 157 = .ok (.iinc 3 1, 3) := by decide +kernel
theorem dX3_digest_160 : decode cX3_digest 160 = .ok (.goto (-50), 3) := by decide +kernel
theorem dX3_digest_163 : decode cX3_digest 163 = .ok (.lload_n 1, 1) := by decide +kernel
theorem dX3_digest_164 : decode cX3_digest 164 = .ok (.aload_n 0, 1) := by decide +kernel
theorem dX3_digest_165 : decode cX3_digest 165 = .ok (.getfield 19, 3) := by decide +kernel
theorem dX3_digest_168 : decode cX3_digest 168 = .ok (.getfield 105, 3) := by decide +kernel
theorem dX3_digest_171 : decode cX3_digest 171 = .ok (.iconst 4, 1) := by decide +kernel
theorem dX3_digest_172 : decode cX3_digest 172 = .ok (.invokestatic 220, 3) := by decide +kernel
theorem dX3_digest_175 : decode cX3_digest 175 = .ok (.lstore_n 1, 1) := by decide +kernel
theorem dX3_digest_176 : decode cX3_digest 176 = .ok (.lload_n 1, 1) := by decide +kernel
theorem dX3_digest_177 : decode cX3_digest 177 = .ok (.aload_n 0, 1) := by decide +kernel
theorem dX3_digest_178 : decode cX3_digest 178 = .ok (.getfield 19, 3) := by decide +kernel
theorem dX3_digest_181 : decode cX3_digest 181 = .ok (.getfield 129, 3) := by decide +kernel
theorem dX3_digest_184 : decode cX3_digest 184 = .ok (.iconst 5, 1) := by decide +kernel
theorem dX3_digest_185 : decode cX3_digest 185 = .ok (.invokestatic 220, 3) := by decide +kernel
theorem dX3_digest_188 : decode cX3_digest 188 = .ok (.lreturn, 1) := by decide +kernel
theorem dX3_within_0 : decode cX3_within 0 = .ok (.iload_n 0, 1) := by decide +kernel
theorem dX3_within_1 : decode cX3_within 1 = .ok (.iload_n 1, 1) := by decide +kernel
theorem dX3_within_2 : decode cX3_within 2 = .ok (.if_icmp .lt 12, 3) := by decide +kernel
theorem dX3_within_5 : decode cX3_within 5 = .ok (.iload_n 0, 1) := by decide +kernel
theorem dX3_within_6 : decode cX3_within 6 = .ok (.iload_n 2, 1) := by decide +kernel
theorem dX3_within_7 : decode cX3_within 7 = .ok (.if_icmp .gt 7, 3) := by decide +kernel
theorem dX3_within_10 : decode cX3_within 10 = .ok (.iconst 1, 1) := by decide +kernel
theorem dX3_within_11 : decode cX3_within 11 = .ok (.goto 4, 3) := by decide +kernel
theorem dX3_within_14 : decode cX3_within 14 = .ok (.iconst 0, 1) := by decide +kernel
theorem dX3_within_15 : decode cX3_within 15 = .ok (.ireturn, 1) := by decide +kernel
theorem dX3_strengthOf_0 : decode cX3_strengthOf 0 = .ok (.iload_n 0, 1) := by decide +kernel
theorem dX3_strengthOf_1 : decode cX3_strengthOf 1 = .ok (.iload_n 1, 1) := by decide +kernel
theorem dX3_strengthOf_2 : decode cX3_strengthOf 2 = .ok (.iadd, 1) := by decide +kernel
theorem dX3_strengthOf_3 : decode cX3_strengthOf 3 = .ok (.istore_n 2, 1) := by decide +kernel
theorem dX3_strengthOf_4 : decode cX3_strengthOf 4 = .ok (.iload_n 2, 1) := by decide +kernel
theorem dX3_strengthOf_5 : decode cX3_strengthOf 5 = .ok (.ifCond .gt 7, 3) := by decide +kernel
theorem dX3_strengthOf_8 : decode cX3_strengthOf 8 = .ok (.iconst 0, 1) := by decide +kernel
theorem dX3_strengthOf_9 : decode cX3_strengthOf 9 = .ok (.goto 9, 3) := by decide +kernel
theorem dX3_strengthOf_12 : decode cX3_strengthOf 12 = .ok (.bipush 100, 2) := by decide +kernel
theorem dX3_strengthOf_14 : decode cX3_strengthOf 14 = .ok (.iload_n 1, 1) := by decide +kernel
theorem dX3_strengthOf_15 : decode cX3_strengthOf 15 = .ok (.imul, 1) := by decide +kernel
theorem dX3_strengthOf_16 : decode cX3_strengthOf 16 = .ok (.iload_n 2, 1) := by decide +kernel
theorem dX3_strengthOf_17 : decode cX3_strengthOf 17 = .ok (.idiv, 1) := by decide +kernel
theorem dX3_strengthOf_18 : decode cX3_strengthOf 18 = .ok (.ireturn, 1) := by decide +kernel
theorem dX3_eggBy_0 : decode cX3_eggBy 0 = .ok (.iload_n 0, 1) := by decide +kernel
theorem dX3_eggBy_1 : decode cX3_eggBy 1 = .ok (.bipush 20, 2) := by decide +kernel
theorem dX3_eggBy_3 : decode cX3_eggBy 3 = .ok (.if_icmp .ge 5, 3) := by decide +kernel
theorem dX3_eggBy_6 : decode cX3_eggBy 6 = .ok (.iconst 0, 1) := by decide +kernel
theorem dX3_eggBy_7 : decode cX3_eggBy 7 = .ok (.ireturn, 1) := by decide +kernel
theorem dX3_eggBy_8 : decode cX3_eggBy 8 = .ok (.iload_n 0, 1) := by decide +kernel
theorem dX3_eggBy_9 : decode cX3_eggBy 9 = .ok (.bipush 35, 2) := by decide +kernel
theorem dX3_eggBy_11 : decode cX3_eggBy 11 = .ok (.if_icmp .ge 7, 3) := by decide +kernel
theorem dX3_eggBy_14 : decode cX3_eggBy 14 = .ok (.iconst 1, 1) := by decide +kernel
theorem dX3_eggBy_15 : decode cX3_eggBy 15 = .ok (.goto 4, 3) := by decide +kernel
theorem dX3_eggBy_18 : decode cX3_eggBy 18 = .ok (.iconst 2, 1) := by decide +kernel
theorem dX3_eggBy_19 : decode cX3_eggBy 19 = .ok (.ireturn, 1) := by decide +kernel
theorem dX3_crystalsByBarrel_0 : decode cX3_crystalsByBarrel 0 = .ok (.iload_n 0, 1) := by decide +kernel
theorem dX3_crystalsByBarrel_1 : decode cX3_crystalsByBarrel 1 = .ok (.ifCond .ne 5, 3) := by decide +kernel
theorem dX3_crystalsByBarrel_4 : decode cX3_crystalsByBarrel 4 = .ok (.iconst 2, 1) := by decide +kernel
theorem dX3_crystalsByBarrel_5 : decode cX3_crystalsByBarrel 5 = .ok (.ireturn, 1) := by decide +kernel
theorem dX3_crystalsByBarrel_6 : decode cX3_crystalsByBarrel 6 = .ok (.iload_n 0, 1) := by decide +kernel
theorem dX3_crystalsByBarrel_7 : decode cX3_crystalsByBarrel 7 = .ok (.iconst 1, 1) := by decide +kernel
theorem dX3_crystalsByBarrel_8 : decode cX3_crystalsByBarrel 8 = .ok (.if_icmp .ne 7, 3) := by decide +kernel
theorem dX3_crystalsByBarrel_11 : decode cX3_crystalsByBarrel 11 = .ok (.iconst 5, 1) := by decide +kernel
theorem dX3_crystalsByBarrel_12 : decode cX3_crystalsByBarrel 12 = .ok (.goto 4, 3) := by decide +kernel
theorem dX3_crystalsByBarrel_15 : decode cX3_crystalsByBarrel 15 = .ok (.iconst 3, 1) := by decide +kernel
theorem dX3_crystalsByBarrel_16 : decode cX3_crystalsByBarrel 16 = .ok (.ireturn, 1) := by decide +kernel
theorem dX3_crystalsOf_0 : decode cX3_crystalsOf 0 = .ok (.aload_n 0, 1) := by decide +kernel
theorem dX3_crystalsOf_1 : decode cX3_crystalsOf 1 = .ok (.getfield 19, 3) := by decide +kernel
theorem dX3_crystalsOf_4 : decode cX3_crystalsOf 4 = .ok (.getfield 129, 3) := by decide +kernel
theorem dX3_crystalsOf_7 : decode cX3_crystalsOf 7 = .ok (.getfield 126, 3) := by decide +kernel
theorem dX3_crystalsOf_10 : decode cX3_crystalsOf 10 = .ok (.iload_n 1, 1) := by decide +kernel
theorem dX3_crystalsOf_11 : decode cX3_crystalsOf 11 = .ok (.iaload, 1) := by decide +kernel
theorem dX3_crystalsOf_12 : decode cX3_crystalsOf 12 = .ok (.aload_n 0, 1) := by decide +kernel
theorem dX3_crystalsOf_13 : decode cX3_crystalsOf 13 = .ok (.getfield 19, 3) := by decide +kernel
theorem dX3_crystalsOf_16 : decode cX3_crystalsOf 16 = .ok (.getfield 129, 3) := by decide +kernel
theorem dX3_crystalsOf_19 : decode cX3_crystalsOf 19 = .ok (.iload_n 1, 1) := by decide +kernel
theorem dX3_crystalsOf_20 : decode cX3_crystalsOf 20 = .ok (.invokevirtual 152, 3) := by decide +kernel
theorem dX3_crystalsOf_23 : decode cX3_crystalsOf 23 = .ok (.invokestatic 224, 3) := by decide +kernel
theorem dX3_crystalsOf_26 : decode cX3_crystalsOf 26 = .ok (.iload_n 2, 1) := by decide +kernel
theorem dX3_crystalsOf_27 : decode cX3_crystalsOf 27 = .ok (.imul, 1) := by decide +kernel
theorem dX3_crystalsOf_28 : decode cX3_crystalsOf 28 = .ok (.invokestatic 46, 3) := by decide +kernel
theorem dX3_crystalsOf_31 : decode cX3_crystalsOf 31 = .ok (.ireturn, 1) := by decide +kernel
theorem dX3_rainOf_0 : decode cX3_rainOf 0 = .ok (.aload_n 0, 1) := by decide +kernel
theorem dX3_rainOf_1 : decode cX3_rainOf 1 = .ok (.getfield 9, 3) := by decide +kernel
theorem dX3_rainOf_4 : decode cX3_rainOf 4 = .ok (.iload_n 1, 1) := by decide +kernel
theorem dX3_rainOf_5 : decode cX3_rainOf 5 = .ok (.bipush 6, 2) := by decide +kernel
theorem dX3_rainOf_7 : decode cX3_rainOf 7 = .ok (.invokestatic 227, 3) := by decide +kernel
theorem dX3_rainOf_10 : decode cX3_rainOf 10 = .ok (.iaload, 1) := by decide +kernel
theorem dX3_rainOf_11 : decode cX3_rainOf 11 = .ok (.ireturn, 1) := by decide +kernel
theorem dX3_shipOf_0 : decode cX3_shipOf 0 = .ok (.aload_n 0, 1) := by decide +kernel
theorem dX3_shipOf_1 : decode cX3_shipOf 1 = .ok (.getfield 13, 3) := by decide +kernel
theorem dX3_shipOf_4 : decode cX3_shipOf 4 = .ok (.iload_n 1, 1) := by decide +kernel
theorem dX3_shipOf_5 : decode cX3_shipOf 5 = .ok (.bipush 7, 2) := by decide +kernel
theorem dX3_shipOf_7 : decode cX3_shipOf 7 = .ok (.invokestatic 227, 3) := by decide +kernel
theorem dX3_shipOf_10 : decode cX3_shipOf 10 = .ok (.iaload, 1) := by decide +kernel
theorem dX3_shipOf_11 : decode cX3_shipOf 11 = .ok (.ireturn, 1) := by decide +kernel
theorem dX3_goOn_0 : decode cX3_goOn 0 = .ok (.iconst 0, 1) := by decide +kernel
theorem dX3_goOn_1 : decode cX3_goOn 1 = .ok (.istore_n 3, 1) := by decide +kernel
theorem dX3_goOn_2 : decode cX3_goOn 2 = .ok (.iload_n 3, 1) := by decide +kernel
theorem dX3_goOn_3 : decode cX3_goOn 3 = .ok (.iload_n 2, 1) := by decide +kernel
theorem dX3_goOn_4 : decode cX3_goOn 4 = .ok (.if_icmp .ge 29, 3) := by decide +kernel
theorem dX3_goOn_7 : decode cX3_goOn 7 = .ok (.aload_n 1, 1) := by decide +kernel
theorem dX3_goOn_8 : decode cX3_goOn 8 = .ok (.aload_n 0, 1) := by decide +kernel
theorem dX3_goOn_9 : decode cX3_goOn 9 = .ok (.aload_n 1, 1) := by decide +kernel
theorem dX3_goOn_10 : decode cX3_goOn 10 = .ok (.getfield 230, 3) := by decide +kernel
theorem dX3_goOn_13 : decode cX3_goOn 13 = .ok (.invokevirtual 233, 3) := by decide +kernel
theorem dX3_goOn_16 : decode cX3_goOn 16 = .ok (.aload_n 0, 1) := by decide +kernel
theorem dX3_goOn_17 : decode cX3_goOn 17 = .ok (.aload_n 1, 1) := by decide +kernel
theorem dX3_goOn_18 : decode cX3_goOn 18 = .ok (.getfield 230, 3) := by decide +kernel
theorem dX3_goOn_21 : decode cX3_goOn 21 = .ok (.invokevirtual 236, 3) := by decide +kernel
theorem dX3_goOn_24 : decode cX3_goOn 24 = .ok (.invokevirtual 239, 3) := by decide +kernel
theorem dX3_goOn_27 : decode cX3_goOn 27 = .ok (.iinc 3 1, 3) := by decide +kernel
theorem dX3_goOn_30 : decode cX3_goOn 30 = .ok (.goto (-28), 3) := by decide +kernel
theorem dX3_goOn_33 : decode cX3_goOn 33 = .ok (.return_, 1) := by decide +kernel
theorem dX3_countIn_0 : decode cX3_countIn 0 = .ok (.iload_n 2, 1) := by decide +kernel
theorem dX3_countIn_1 : decode cX3_countIn 1 = .ok (.tableswitch 114 0 8 #[51, 56, 65, 70, 75, 80, 85, 90, 98], 51) := by decide +kernel
theorem dX3_countIn_52 : decode cX3_countIn 52 = .ok (.aload_n 1, 1) := by decide +kernel
theorem dX3_countIn_53 : decode cX3_countIn 53 = .ok (.getfield 230, 3) := by decide +kernel
theorem dX3_countIn_56 : decode cX3_countIn 56 = .ok (.ireturn, 1) := by decide +kernel
theorem dX3_countIn_57 : decode cX3_countIn 57 = .ok (.aload_n 0, 1) := by decide +kernel
theorem dX3_countIn_58 : decode cX3_countIn 58 = .ok (.aload_n 1, 1) := by decide +kernel
theorem dX3_countIn_59 : decode cX3_countIn 59 = .ok (.getfield 230, 3) := by decide +kernel
theorem dX3_countIn_62 : decode cX3_countIn 62 = .ok (.invokevirtual 233, 3) := by decide +kernel
theorem dX3_countIn_65 : decode cX3_countIn 65 = .ok (.ireturn, 1) := by decide +kernel
theorem dX3_countIn_66 : decode cX3_countIn 66 = .ok (.aload_n 1, 1) := by decide +kernel
theorem dX3_countIn_67 : decode cX3_countIn 67 = .ok (.getfield 42, 3) := by decide +kernel
theorem dX3_countIn_70 : decode cX3_countIn 70 = .ok (.ireturn, 1) := by decide +kernel
theorem dX3_countIn_71 : decode cX3_countIn 71 = .ok (.aload_n 1, 1) := by decide +kernel
theorem dX3_countIn_72 : decode cX3_countIn 72 = .ok (.getfield 52, 3) := by decide +kernel
theorem dX3_countIn_75 : decode cX3_countIn 75 = .ok (.ireturn, 1) := by decide +kernel
theorem dX3_countIn_76 : decode cX3_countIn 76 = .ok (.aload_n 1, 1) := by decide +kernel
theorem dX3_countIn_77 : decode cX3_countIn 77 = .ok (.getfield 155, 3) := by decide +kernel
theorem dX3_countIn_80 : decode cX3_countIn 80 = .ok (.ireturn, 1) := by decide +kernel
theorem dX3_countIn_81 : decode cX3_countIn 81 = .ok (.aload_n 1, 1) := by decide +kernel
theorem dX3_countIn_82 : decode cX3_countIn 82 = .ok (.getfield 158, 3) := by decide +kernel
theorem dX3_countIn_85 : decode cX3_countIn 85 = .ok (.ireturn, 1) := by decide +kernel
theorem dX3_countIn_86 : decode cX3_countIn 86 = .ok (.aload_n 1, 1) := by decide +kernel
theorem dX3_countIn_87 : decode cX3_countIn 87 = .ok (.getfield 183, 3) := by decide +kernel
theorem dX3_countIn_90 : decode cX3_countIn 90 = .ok (.ireturn, 1) := by decide +kernel
theorem dX3_countIn_91 : decode cX3_countIn 91 = .ok (.aload_n 1, 1) := by decide +kernel
theorem dX3_countIn_92 : decode cX3_countIn 92 = .ok (.getfield 65, 3) := by decide +kernel
theorem dX3_countIn_95 : decode cX3_countIn 95 = .ok (.invokevirtual 243, 3) := by decide +kernel
theorem dX3_countIn_98 : decode cX3_countIn 98 = .ok (.ireturn, 1) := by decide +kernel
theorem dX3_countIn_99 : decode cX3_countIn 99 = .ok (.aload_n 1, 1) := by decide +kernel
theorem dX3_countIn_100 : decode cX3_countIn 100 = .ok (.getfield 105, 3) := by decide +kernel
theorem dX3_countIn_103 : decode cX3_countIn 103 = .ok (.invokevirtual 246, 3) := by decide +kernel
theorem dX3_countIn_106 : decode cX3_countIn 106 = .ok (.aload_n 1, 1) := by decide +kernel
theorem dX3_countIn_107 : decode cX3_countIn 107 = .ok (.getfield 129, 3) := by decide +kernel
theorem dX3_countIn_110 : decode cX3_countIn 110 = .ok (.invokevirtual 246, 3) := by decide +kernel
theorem dX3_countIn_113 : decode cX3_countIn 113 = .ok (.iadd, 1) := by decide +kernel
theorem dX3_countIn_114 : decode cX3_countIn 114 = .ok (.ireturn, 1) := by decide +kernel
theorem dX3_countIn_115 : decode cX3_countIn 115 = .ok (.aload_n 1, 1) := by decide +kernel
theorem dX3_countIn_116 : decode cX3_countIn 116 = .ok (.getfield 249, 3) := by decide +kernel
theorem dX3_countIn_119 : decode cX3_countIn 119 = .ok (.ireturn, 1) := by decide +kernel
theorem dX3_mix_0 : decode cX3_mix 0 = .ok (.lload_n 0, 1) := by decide +kernel
theorem dX3_mix_1 : decode cX3_mix 1 = .ok (.ldc2_w 252, 3) := by decide +kernel
theorem dX3_mix_4 : decode cX3_mix 4 = .ok (.lmul, 1) := by decide +kernel
theorem dX3_mix_5 : decode cX3_mix 5 = .ok (.iload_n 2, 1) := by decide +kernel
theorem dX3_mix_6 : decode cX3_mix 6 = .ok (.i2l, 1) := by decide +kernel
theorem dX3_mix_7 : decode cX3_mix 7 = .ok (.ladd, 1) := by decide +kernel
theorem dX3_mix_8 : decode cX3_mix 8 = .ok (.lreturn, 1) := by decide +kernel
theorem dX3_mixLiquors_0 : decode cX3_mixLiquors 0 = .ok (.lload_n 0, 1) := by decide +kernel
theorem dX3_mixLiquors_1 : decode cX3_mixLiquors 1 = .ok (.lstore 4, 2) := by decide +kernel
theorem dX3_mixLiquors_3 : decode cX3_mixLiquors 3 = .ok (.iconst 0, 1) := by decide +kernel
theorem dX3_mixLiquors_4 : decode cX3_mixLiquors 4 = .ok (.istore 6, 2) := by decide +kernel
theorem dX3_mixLiquors_6 : decode cX3_mixLiquors 6 = .ok (.iload 6, 2) := by decide +kernel
theorem dX3_mixLiquors_8 : decode cX3_mixLiquors 8 = .ok (.aload_n 2, 1) := by decide +kernel
theorem dX3_mixLiquors_9 : decode cX3_mixLiquors 9 = .ok (.getfield 254, 3) := by decide +kernel
theorem dX3_mixLiquors_12 : decode cX3_mixLiquors 12 = .ok (.if_icmp .ge 39, 3) := by decide +kernel
theorem dX3_mixLiquors_15 : decode cX3_mixLiquors 15 = .ok (.iconst 0, 1) := by decide +kernel
theorem dX3_mixLiquors_16 : decode cX3_mixLiquors 16 = .ok (.istore 7, 2) := by decide +kernel
theorem dX3_mixLiquors_18 : decode cX3_mixLiquors 18 = .ok (.iload 7, 2) := by decide +kernel
theorem dX3_mixLiquors_20 : decode cX3_mixLiquors 20 = .ok (.iload_n 3, 1) := by decide +kernel
theorem dX3_mixLiquors_21 : decode cX3_mixLiquors 21 = .ok (.if_icmp .ge 24, 3) := by decide +kernel
theorem dX3_mixLiquors_24 : decode cX3_mixLiquors 24 = .ok (.lload 4, 2) := by decide +kernel
theorem dX3_mixLiquors_26 : decode cX3_mixLiquors 26 = .ok (.aload_n 2, 1) := by decide +kernel
theorem dX3_mixLiquors_27 : decode cX3_mixLiquors 27 = .ok (.iload 6, 2) := by decide +kernel
theorem dX3_mixLiquors_29 : decode cX3_mixLiquors 29 = .ok (.iload 7, 2) := by decide +kernel
theorem dX3_mixLiquors_31 : decode cX3_mixLiquors 31 = .ok (.invokevirtual 172, 3) := by decide +kernel
theorem dX3_mixLiquors_34 : decode cX3_mixLiquors 34 = .ok (.invokestatic 213, 3) := by decide +kernel
theorem dX3_mixLiquors_37 : decode cX3_mixLiquors 37 = .ok (.lstore 4, 2) := by decide +kernel
theorem dX3_mixLiquors_39 : decode cX3_mixLiquors 39 = .ok (.iinc 7 1, 3) := by decide +kernel
theorem dX3_mixLiquors_42 : decode cX3_mixLiquors 42 = .ok (.goto (-24), 3) := by decide +kernel
theorem dX3_mixLiquors_45 : decode cX3_mixLiquors 45 = .ok (.iinc 6 1, 3) := by decide +kernel
theorem dX3_mixLiquors_48 : decode cX3_mixLiquors 48 = .ok (.goto (-42), 3) := by decide +kernel
theorem dX3_mixLiquors_51 : decode cX3_mixLiquors 51 = .ok (.lload 4, 2) := by decide +kernel
theorem dX3_mixLiquors_53 : decode cX3_mixLiquors 53 = .ok (.lreturn, 1) := by decide +kernel
theorem dX4_init_0 : decode cX4_init 0 = .ok (.aload_n 0, 1) := by decide +kernel
theorem dX4_init_1 : decode cX4_init 1 = .ok (.invokespecial 1, 3) := by decide +kernel
theorem dX4_init_4 : decode cX4_init 4 = .ok (.aload_n 0, 1) := by decide +kernel
theorem dX4_init_5 : decode cX4_init 5 = .ok (.bipush 7, 2) := by decide +kernel
theorem dX4_init_7 : decode cX4_init 7 = .ok (.newarray .int, 2) := by decide +kernel
theorem dX4_init_9 : decode cX4_init 9 = .ok (.putfield 7, 3) := by decide +kernel
theorem dX4_init_12 : decode cX4_init 12 = .ok (.aload_n 0, 1) := by decide +kernel
theorem dX4_init_13 : decode cX4_init 13 = .ok (.bipush 6, 2) := by decide +kernel
theorem dX4_init_15 : decode cX4_init 15 = .ok (.newarray .int, 2) := by decide +kernel
theorem dX4_init_17 : decode cX4_init 17 = .ok (.putfield 13, 3) := by decide +kernel
theorem dX4_init_20 : decode cX4_init 20 = .ok (.aload_n 0, 1) := by decide +kernel
theorem dX4_init_21 : decode cX4_init 21 = .ok (.bipush 7, 2) := by decide +kernel
theorem dX4_init_23 : decode cX4_init 23 = .ok (.newarray .int, 2) := by decide +kernel
theorem dX4_init_25 : decode cX4_init 25 = .ok (.putfield 16, 3) := by decide +kernel
theorem dX4_init_28 : decode cX4_init 28 = .ok (.aload_n 0, 1) := by decide +kernel
theorem dX4_init_29 : decode cX4_init 29 = .ok (.bipush 16, 2) := by decide +kernel
theorem dX4_init_31 : decode cX4_init 31 = .ok (.newarray .int, 2) := by decide +kernel
theorem dX4_init_33 : decode cX4_init 33 = .ok (.putfield 19, 3) := by decide +kernel
theorem dX4_init_36 : decode cX4_init 36 = .ok (.aload_n 0, 1) := by decide +kernel
theorem dX4_init_37 : decode cX4_init 37 = .ok (.bipush 8, 2) := by decide +kernel
theorem dX4_init_39 : decode cX4_init 39 = .ok (.newarray .int, 2) := by decide +kernel
theorem dX4_init_41 : decode cX4_init 41 = .ok (.putfield 22, 3) := by decide +kernel
theorem dX4_init_44 : decode cX4_init 44 = .ok (.aload_n 0, 1) := by decide +kernel
theorem dX4_init_45 : decode cX4_init 45 = .ok (.bipush 9, 2) := by decide +kernel
theorem dX4_init_47 : decode cX4_init 47 = .ok (.newarray .int, 2) := by decide +kernel
theorem dX4_init_49 : decode cX4_init 49 = .ok (.putfield 25, 3) := by decide +kernel
theorem dX4_init_52 : decode cX4_init 52 = .ok (.return_, 1) := by decide +kernel
theorem dX4_thrown_0 : decode cX4_thrown 0 = .ok (.aload_n 0, 1) := by decide +kernel
theorem dX4_thrown_1 : decode cX4_thrown 1 = .ok (.getfield 28, 3) := by decide +kernel
theorem dX4_thrown_4 : decode cX4_thrown 4 = .ok (.ireturn, 1) := by decide +kernel
theorem dX4_fail_0 : decode cX4_fail 0 = .ok (.aload_n 0, 1) := by decide +kernel
theorem dX4_fail_1 : decode cX4_fail 1 = .ok (.iload_n 1, 1) := by decide +kernel
theorem dX4_fail_2 : decode cX4_fail 2 = .ok (.putfield 28, 3) := by decide +kernel
theorem dX4_fail_5 : decode cX4_fail 5 = .ok (.iconst 0, 1) := by decide +kernel
theorem dX4_fail_6 : decode cX4_fail 6 = .ok (.ireturn, 1) := by decide +kernel
theorem dX4_isIn_0 : decode cX4_isIn 0 = .ok (.iload_n 0, 1) := by decide +kernel
theorem dX4_isIn_1 : decode cX4_isIn 1 = .ok (.iload_n 1, 1) := by decide +kernel
theorem dX4_isIn_2 : decode cX4_isIn 2 = .ok (.if_icmp .lt 12, 3) := by decide +kernel
theorem dX4_isIn_5 : decode cX4_isIn 5 = .ok (.iload_n 0, 1) := by decide +kernel
theorem dX4_isIn_6 : decode cX4_isIn 6 = .ok (.iload_n 2, 1) := by decide +kernel
theorem dX4_isIn_7 : decode cX4_isIn 7 = .ok (.if_icmp .gt 7, 3) := by decide +kernel
theorem dX4_isIn_10 : decode cX4_isIn 10 = .ok (.iconst 1, 1) := by decide +kernel
theorem dX4_isIn_11 : decode cX4_isIn 11 = .ok (.goto 4, 3) := by decide +kernel
theorem dX4_isIn_14 : decode cX4_isIn 14 = .ok (.iconst 0, 1) := by decide +kernel
theorem dX4_isIn_15 : decode cX4_isIn 15 = .ok (.ireturn, 1) := by decide +kernel
theorem dX4_isClamp_0 : decode cX4_isClamp 0 = .ok (.iload_n 1, 1) := by decide +kernel
theorem dX4_isClamp_1 : decode cX4_isClamp 1 = .ok (.iconst 0, 1) := by decide +kernel
theorem dX4_isClamp_2 : decode cX4_isClamp 2 = .ok (.aload_n 0, 1) := by decide +kernel
theorem dX4_isClamp_3 : decode cX4_isClamp 3 = .ok (.getfield 32, 3) := by decide +kernel
theorem dX4_isClamp_6 : decode cX4_isClamp 6 = .ok (.iconst 1, 1) := by decide +kernel
theorem dX4_isClamp_7 : decode cX4_isClamp 7 = .ok (.isub, 1) := by decide +kernel
theorem dX4_isClamp_8 : decode cX4_isClamp 8 = .ok (.invokestatic 35, 3) := by decide +kernel
theorem dX4_isClamp_11 : decode cX4_isClamp 11 = .ok (.ireturn, 1) := by decide +kernel
theorem dX4_isPit_0 : decode cX4_isPit 0 = .ok (.iload_n 1, 1) := by decide +kernel
theorem dX4_isPit_1 : decode cX4_isPit 1 = .ok (.iconst 0, 1) := by decide +kernel
theorem dX4_isPit_2 : decode cX4_isPit 2 = .ok (.aload_n 0, 1) := by decide +kernel
theorem dX4_isPit_3 : decode cX4_isPit 3 = .ok (.getfield 39, 3) := by decide +kernel
theorem dX4_isPit_6 : decode cX4_isPit 6 = .ok (.iconst 1, 1) := by decide +kernel
theorem dX4_isPit_7 : decode cX4_isPit 7 = .ok (.isub, 1) := by decide +kernel
theorem dX4_isPit_8 : decode cX4_isPit 8 = .ok (.invokestatic 35, 3) := by decide +kernel
theorem dX4_isPit_11 : decode cX4_isPit 11 = .ok (.ireturn, 1) := by decide +kernel
theorem dX4_isPan_0 : decode cX4_isPan 0 = .ok (.iload_n 1, 1) := by decide +kernel
theorem dX4_isPan_1 : decode cX4_isPan 1 = .ok (.iconst 0, 1) := by decide +kernel
theorem dX4_isPan_2 : decode cX4_isPan 2 = .ok (.aload_n 0, 1) := by decide +kernel
theorem dX4_isPan_3 : decode cX4_isPan 3 = .ok (.getfield 42, 3) := by decide +kernel
theorem dX4_isPan_6 : decode cX4_isPan 6 = .ok (.iconst 1, 1) := by decide +kernel
theorem dX4_isPan_7 : decode cX4_isPan 7 = .ok (.isub, 1) := by decide +kernel
theorem dX4_isPan_8 : decode cX4_isPan 8 = .ok (.invokestatic 35, 3) := by decide +kernel
theorem dX4_isPan_11 : decode cX4_isPan 11 = .ok (.ireturn, 1) := by decide +kernel
theorem dX4_bring_0 : decode cX4_bring 0 = .ok (.aload_n 0, 1) := by decide +kernel
theorem dX4_bring_1 : decode cX4_bring 1 = .ok (.iconst 0, 1) := by decide +kernel
theorem dX4_bring_2 : decode cX4_bring 2 = .ok (.putfield 28, 3) := by decide +kernel
theorem dX4_bring_5 : decode cX4_bring 5 = .ok (.iload_n 1, 1) := by decide +kernel
theorem dX4_bring_6 : decode cX4_bring 6 = .ok (.iconst 0, 1) := by decide +kernel
theorem dX4_bring_7 : decode cX4_bring 7 = .ok (.iconst 1, 1) := by decide +kernel
theorem dX4_bring_8 : decode cX4_bring 8 = .ok (.invokestatic 35, 3) := by decide +kernel
theorem dX4_bring_11 : decode cX4_bring 11 = .ok (.ifCond .ne 9, 3) := by decide +kernel
theorem dX4_bring_14 : decode cX4_bring 14 = .ok (.aload_n 0, 1) := by decide +kernel
theorem dX4_bring_15 : decode cX4_bring 15 = .ok (.iconst 1, 1) := by decide +kernel
theorem dX4_bring_16 : decode cX4_bring 16 = .ok (.invokevirtual 45, 3) := by decide +kernel
theorem dX4_bring_19 : decode cX4_bring 19 = .ok (.ireturn, 1) := by decide +kernel
theorem dX4_bring_20 : decode cX4_bring 20 = .ok (.iload_n 2, 1) := by decide +kernel
theorem dX4_bring_21 : decode cX4_bring 21 = .ok (.iconst 1, 1) := by decide +kernel
theorem dX4_bring_22 : decode cX4_bring 22 = .ok (.sipush 500, 3) := by decide +kernel
theorem dX4_bring_25 : decode cX4_bring 25 = .ok (.invokestatic 35, 3) := by decide +kernel
theorem dX4_bring_28 : decode cX4_bring 28 = .ok (.ifCond .ne 9, 3) := by decide +kernel
theorem dX4_bring_31 : decode cX4_bring 31 = .ok (.aload_n 0, 1) := by decide +kernel
theorem dX4_bring_32 : decode cX4_bring 32 = .ok (.iconst 2, 1) := by decide +kernel
theorem dX4_bring_33 : decode cX4_bring 33 = .ok (.invokevirtual 45, 3) := by decide +kernel
theorem dX4_bring_36 : decode cX4_bring 36 = .ok (.ireturn, 1) := by decide +kernel
theorem dX4_bring_37 : decode cX4_bring 37 = .ok (.aload_n 0, 1) := by decide +kernel
theorem dX4_bring_38 : decode cX4_bring 38 = .ok (.getfield 7, 3) := by decide +kernel
theorem dX4_bring_41 : decode cX4_bring 41 = .ok (.iconst 1, 1) := by decide +kernel
theorem dX4_bring_42 : decode cX4_bring 42 = .ok (.iload_n 1, 1) := by decide +kernel
theorem dX4_bring_43 : decode cX4_bring 43 = .ok (.iadd, 1) := by decide +kernel
theorem dX4_bring_44 : decode cX4_bring 44 = .ok (.iload_n 1, 1) := by decide +kernel
theorem dX4_bring_45 : decode cX4_bring 45 = .ok (.ifCond .ne 9, 3) := by decide +kernel
theorem dX4_bring_48 : decode cX4_bring 48 = .ok (.sipush 500, 3) := by decide +kernel
theorem dX4_bring_51 : decode cX4_bring 51 = .ok (.goto 5, 3) := by decide +kernel
theorem dX4_bring_54 : decode cX4_bring 54 = .ok (.bipush 99, 2) := by decide +kernel
theorem dX4_bring_56 : decode cX4_bring 56 = .ok (.aload_n 0, 1) := by decide +kernel
theorem dX4_bring_57 : decode cX4_bring 57 = .ok (.getfield 7, 3) := by decide +kernel
theorem dX4_bring_60 : decode cX4_bring 60 = .ok (.iconst 1, 1) := by decide +kernel
theorem dX4_bring_61 : decode cX4_bring 61 = .ok (.iload_n 1, 1) := by decide +kernel
theorem dX4_bring_62 : decode cX4_bring 62 = .ok (.iadd, 1) := by decide +kernel
theorem dX4_bring_63 : decode cX4_bring 63 = .ok (.iaload, 1) := by decide +kernel
theorem dX4_bring_64 : decode cX4_bring 64 = .ok (.iload_n 2, 1) := by decide +kernel
theorem dX4_bring_65 : decode cX4_bring 65 = .ok (.iadd, 1) := by decide +kernel
theorem dX4_bring_66 : decode cX4_bring 66 = .ok (.invokestatic 49, 3) := by decide +kernel
theorem dX4_bring_69 : decode cX4_bring 69 = .ok (.iastore, 1) := by decide +kernel
theorem dX4_bring_70 : decode cX4_bring 70 = .ok (.aload_n 0, 1) := by decide +kernel
theorem dX4_bring_71 : decode cX4_bring 71 = .ok (.getfield 7, 3) := by decide +kernel
theorem dX4_bring_74 : decode cX4_bring 74 = .ok (.iconst 1, 1) := by decide +kernel
theorem dX4_bring_75 : decode cX4_bring 75 = .ok (.iload_n 1, 1) := by decide +kernel
theorem dX4_bring_76 : decode cX4_bring 76 = .ok (.iadd, 1) := by decide +kernel
theorem dX4_bring_77 : decode cX4_bring 77 = .ok (.iaload, 1) := by decide +kernel
theorem dX4_bring_78 : decode cX4_bring 78 = .ok (.ireturn, 1) := by decide +kernel
theorem dX4_setRain_0 : decode cX4_setRain 0 = .ok (.aload_n 0, 1) := by decide +kernel
theorem dX4_setRain_1 : decode cX4_setRain 1 = .ok (.iconst 0, 1) := by decide +kernel
theorem dX4_setRain_2 : decode cX4_setRain 2 = .ok (.putfield 28, 3) := by decide +kernel
theorem dX4_setRain_5 : decode cX4_setRain 5 = .ok (.iload_n 1, 1) := by decide +kernel
theorem dX4_setRain_6 : decode cX4_setRain 6 = .ok (.iconst 0, 1) := by decide +kernel
theorem dX4_setRain_7 : decode cX4_setRain 7 = .ok (.iconst 5, 1) := by decide +kernel
theorem dX4_setRain_8 : decode cX4_setRain 8 = .ok (.invokestatic 35, 3) := by decide +kernel
theorem dX4_setRain_11 : decode cX4_setRain 11 = .ok (.ifCond .ne 9, 3) := by decide +kernel
theorem dX4_setRain_14 : decode cX4_setRain 14 = .ok (.aload_n 0, 1) := by decide +kernel
theorem dX4_setRain_15 : decode cX4_setRain 15 = .ok (.iconst 1, 1) := by decide +kernel
theorem dX4_setRain_16 : decode cX4_setRain 16 = .ok (.invokevirtual 45, 3) := by decide +kernel
theorem dX4_setRain_19 : decode cX4_setRain 19 = .ok (.ireturn, 1) := by decide +kernel
theorem dX4_setRain_20 : decode cX4_setRain 20 = .ok (.iload_n 2, 1) := by decide +kernel
theorem dX4_setRain_21 : decode cX4_setRain 21 = .ok (.iconst 0, 1) := by decide +kernel
theorem dX4_setRain_22 : decode cX4_setRain 22 = .ok (.bipush 9, 2) := by decide +kernel
theorem dX4_setRain_24 : decode cX4_setRain 24 = .ok (.invokestatic 35, 3) := by decide +kernel
theorem dX4_setRain_27 : decode cX4_setRain 27 = .ok (.ifCond .ne 9, 3) := by decide +kernel
theorem dX4_setRain_30 : decode cX4_setRain 30 = .ok (.aload_n 0, 1) := by decide +kernel
theorem dX4_setRain_31 : decode cX4_setRain 31 = .ok (.iconst 2, 1) := by decide +kernel
theorem dX4_setRain_32 : decode cX4_setRain 32 = .ok (.invokevirtual 45, 3) := by decide +kernel
theorem dX4_setRain_35 : decode cX4_setRain 35 = .ok (.ireturn, 1) := by decide +kernel
theorem dX4_setRain_36 : decode cX4_setRain 36 = .ok (.aload_n 0, 1) := by decide +kernel
theorem dX4_setRain_37 : decode cX4_setRain 37 = .ok (.getfield 13, 3) := by decide +kernel
theorem dX4_setRain_40 : decode cX4_setRain 40 = .ok (.iload_n 1, 1) := by decide +kernel
theorem dX4_setRain_41 : decode cX4_setRain 41 = .ok (.iaload, 1) := by decide +kernel
theorem dX4_setRain_42 : decode cX4_setRain 42 = .ok (.istore_n 3, 1) := by decide +kernel
theorem dX4_setRain_43 : decode cX4_setRain 43 = .ok (.aload_n 0, 1) := by decide +kernel
theorem dX4_setRain_44 : decode cX4_setRain 44 = .ok (.getfield 13, 3) := by decide +kernel
theorem dX4_setRain_47 : decode cX4_setRain 47 = .ok (.iload_n 1, 1) := by decide +kernel
theorem dX4_setRain_48 : decode cX4_setRain 48 = .ok (.iload_n 2, 1) := by decide +kernel
theorem dX4_setRain_49 : decode cX4_setRain 49 = .ok (.iastore, 1) := by decide +kernel
theorem dX4_setRain_50 : decode cX4_setRain 50 = .ok (.iload_n 3, 1) := by decide +kernel
theorem dX4_setRain_51 : decode cX4_setRain 51 = .ok (.ireturn, 1) := by decide +kernel
theorem dX4_setShip_0 : decode cX4_setShip 0 = .ok (.aload_n 0, 1) := by decide +kernel
theorem dX4_setShip_1 : decode cX4_setShip 1 = .ok (.iconst 0, 1) := by decide +kernel
theorem dX4_setShip_2 : decode cX4_setShip 2 = .ok (.putfield 28, 3) := by decide +kernel
theorem dX4_setShip_5 : decode cX4_setShip 5 = .ok (.iload_n 1, 1) := by decide +kernel
theorem dX4_setShip_6 : decode cX4_setShip 6 = .ok (.iconst 0, 1) := by decide +kernel
theorem dX4_setShip_7 : decode cX4_setShip 7 = .ok (.bipush 6, 2) := by decide +kernel
theorem dX4_setShip_9 : decode cX4_setShip 9 = .ok (.invokestatic 35, 3) := by decide +kernel
theorem dX4_setShip_12 : decode cX4_setShip 12 = .ok (.ifCond .ne 9, 3) := by decide +kernel
theorem dX4_setShip_15 : decode cX4_setShip 15 = .ok (.aload_n 0, 1) := by decide +kernel
theorem dX4_setShip_16 : decode cX4_setShip 16 = .ok (.iconst 1, 1) := by decide +kernel
theorem dX4_setShip_17 : decode cX4_setShip 17 = .ok (.invokevirtual 45, 3) := by decide +kernel
theorem dX4_setShip_20 : decode cX4_setShip 20 = .ok (.ireturn, 1) := by decide +kernel
theorem dX4_setShip_21 : decode cX4_setShip 21 = .ok (.iload_n 2, 1) := by decide +kernel
theorem dX4_setShip_22 : decode cX4_setShip 22 = .ok (.iconst 0, 1) := by decide +kernel
theorem dX4_setShip_23 : decode cX4_setShip 23 = .ok (.bipush 60, 2) := by decide +kernel
theorem dX4_setShip_25 : decode cX4_setShip 25 = .ok (.invokestatic 35, 3) := by decide +kernel
theorem dX4_setShip_28 : decode cX4_setShip 28 = .ok (.ifCond .ne 9, 3) := by decide +kernel
theorem dX4_setShip_31 : decode cX4_setShip 31 = .ok (.aload_n 0, 1) := by decide +kernel
theorem dX4_setShip_32 : decode cX4_setShip 32 = .ok (.iconst 2, 1) := by decide +kernel
theorem dX4_setShip_33 : decode cX4_setShip 33 = .ok (.invokevirtual 45, 3) := by decide +kernel
theorem dX4_setShip_36 : decode cX4_setShip 36 = .ok (.ireturn, 1) := by decide +kernel
theorem dX4_setShip_37 : decode cX4_setShip 37 = .ok (.aload_n 0, 1) := by decide +kernel
theorem dX4_setShip_38 : decode cX4_setShip 38 = .ok (.getfield 16, 3) := by decide +kernel
theorem dX4_setShip_41 : decode cX4_setShip 41 = .ok (.iload_n 1, 1) := by decide +kernel
theorem dX4_setShip_42 : decode cX4_setShip 42 = .ok (.iaload, 1) := by decide +kernel
theorem dX4_setShip_43 : decode cX4_setShip 43 = .ok (.istore_n 3, 1) := by decide +kernel
theorem dX4_setShip_44 : decode cX4_setShip 44 = .ok (.aload_n 0, 1) := by decide +kernel
theorem dX4_setShip_45 : decode cX4_setShip 45 = .ok (.getfield 16, 3) := by decide +kernel
theorem dX4_setShip_48 : decode cX4_setShip 48 = .ok (.iload_n 1, 1) := by decide +kernel
theorem dX4_setShip_49 : decode cX4_setShip 49 = .ok (.iload_n 2, 1) := by decide +kernel
theorem dX4_setShip_50 : decode cX4_setShip 50 = .ok (.iastore, 1) := by decide +kernel
theorem dX4_setShip_51 : decode cX4_setShip 51 = .ok (.iload_n 3, 1) := by decide +kernel
theorem dX4_setShip_52 : decode cX4_setShip 52 = .ok (.ireturn, 1) := by decide +kernel
theorem dX4_pile_0 : decode cX4_pile 0 = .ok (.aload_n 0, 1) := by decide +kernel
theorem dX4_pile_1 : decode cX4_pile 1 = .ok (.iconst 0, 1) := by decide +kernel
theorem dX4_pile_2 : decode cX4_pile 2 = .ok (.putfield 28, 3) := by decide +kernel
theorem dX4_pile_5 : decode cX4_pile 5 = .ok (.iload_n 1, 1) := by decide +kernel
theorem dX4_pile_6 : decode cX4_pile 6 = .ok (.iconst 1, 1) := by decide +kernel
theorem dX4_pile_7 : decode cX4_pile 7 = .ok (.sipush 200, 3) := by decide +kernel
theorem dX4_pile_10 : decode cX4_pile 10 = .ok (.invokestatic 35, 3) := by decide +kernel
theorem dX4_pile_13 : decode cX4_pile 13 = .ok (.ifCond .ne 9, 3) := by decide +kernel
theorem dX4_pile_16 : decode cX4_pile 16 = .ok (.aload_n 0, 1) := by decide +kernel
theorem dX4_pile_17 : decode cX4_pile 17 = .ok (.iconst 1, 1) := by decide +kernel
theorem dX4_pile_18 : decode cX4_pile 18 = .ok (.invokevirtual 45, 3) := by decide +kernel
theorem dX4_pile_21 : decode cX4_pile 21 = .ok (.ireturn, 1) := by decide +kernel
theorem dX4_pile_22 : decode cX4_pile 22 = .ok (.aload_n 0, 1) := by decide +kernel
theorem dX4_pile_23 : decode cX4_pile 23 = .ok (.getfield 32, 3) := by decide +kernel
theorem dX4_pile_26 : decode cX4_pile 26 = .ok (.iconst 4, 1) := by decide +kernel
theorem dX4_pile_27 : decode cX4_pile 27 = .ok (.if_icmp .ne 9, 3) := by decide +kernel
theorem dX4_pile_30 : decode cX4_pile 30 = .ok (.aload_n 0, 1) := by decide +kernel
theorem dX4_pile_31 : decode cX4_pile 31 = .ok (.iconst 2, 1) := by decide +kernel
theorem dX4_pile_32 : decode cX4_pile 32 = .ok (.invokevirtual 45, 3) := by decide +kernel
theorem dX4_pile_35 : decode cX4_pile 35 = .ok (.ireturn, 1) := by decide +kernel
theorem dX4_pile_36 : decode cX4_pile 36 = .ok (.aload_n 0, 1) := by decide +kernel
theorem dX4_pile_37 : decode cX4_pile 37 = .ok (.getfield 19, 3) := by decide +kernel
theorem dX4_pile_40 : decode cX4_pile 40 = .ok (.iconst 4, 1) := by decide +kernel
theorem dX4_pile_41 : decode cX4_pile 41 = .ok (.aload_n 0, 1) := by decide +kernel
theorem dX4_pile_42 : decode cX4_pile 42 = .ok (.getfield 32, 3) := by decide +kernel
theorem dX4_pile_45 : decode cX4_pile 45 = .ok (.imul, 1) := by decide +kernel
theorem dX4_pile_46 : decode cX4_pile 46 = .ok (.iload_n 1, 1) := by decide +kernel
theorem dX4_pile_47 : decode cX4_pile 47 = .ok (.iastore, 1) := by decide +kernel
theorem dX4_pile_48 : decode cX4_pile 48 = .ok (.aload_n 0, 1) := by decide +kernel
theorem dX4_pile_49 : decode cX4_pile 49 = .ok (.dup, 1) := by decide +kernel
theorem dX4_pile_50 : decode cX4_pile 50 = .ok (.getfield 32, 3) := by decide +kernel
theorem dX4_pile_53 : decode cX4_pile 53 = .ok (.iconst 1, 1) := by decide +kernel
theorem dX4_pile_54 : decode cX4_pile 54 = .ok (.iadd, 1) := by decide +kernel
theorem dX4_pile_55 : decode cX4_pile 55 = .ok (.putfield 32, 3) := by decide +kernel
theorem dX4_pile_58 : decode cX4_pile 58 = .ok (.aload_n 0, 1) := by decide +kernel
theorem dX4_pile_59 : decode cX4_pile 59 = .ok (.getfield 32, 3) := by decide +kernel
theorem dX4_pile_62 : decode cX4_pile 62 = .ok (.iconst 1, 1) := by decide +kernel
theorem dX4_pile_63 : decode cX4_pile 63 = .ok (.isub, 1) := by decide +kernel
theorem dX4_pile_64 : decode cX4_pile 64 = .ok (.ireturn, 1) := by decide +kernel
theorem dX4_light_0 : decode cX4_light 0 = .ok (.aload_n 0, 1) := by decide +kernel
theorem dX4_light_1 : decode cX4_light 1 = .ok (.iconst 0, 1) := by decide +kernel
theorem dX4_light_2 : decode cX4_light 2 = .ok (.putfield 28, 3) := by decide +kernel
theorem dX4_light_5 : decode cX4_light 5 = .ok (.aload_n 0, 1) := by decide +kernel
theorem dX4_light_6 : decode cX4_light 6 = .ok (.iload_n 1, 1) := by decide +kernel
theorem dX4_light_7 : decode cX4_light 7 = .ok (.invokevirtual 55, 3) := by decide +kernel
theorem dX4_light_10 : decode cX4_light 10 = .ok (.ifCond .ne 9, 3) := by decide +kernel
theorem dX4_light_13 : decode cX4_light 13 = .ok (.aload_n 0, 1) := by decide +kernel
theorem dX4_light_14 : decode cX4_light 14 = .ok (.iconst 1, 1) := by decide +kernel
theorem dX4_light_15 : decode cX4_light 15 = .ok (.invokevirtual 45, 3) := by decide +kernel
theorem dX4_light_18 : decode cX4_light 18 = .ok (.ireturn, 1) := by decide +kernel
theorem dX4_light_19 : decode cX4_light 19 = .ok (.iload_n 2, 1) := by decide +kernel
theorem dX4_light_20 : decode cX4_light 20 = .ok (.iconst 1, 1) := by decide +kernel
theorem dX4_light_21 : decode cX4_light 21 = .ok (.bipush 60, 2) := by decide +kernel
theorem dX4_light_23 : decode cX4_light 23 = .ok (.invokestatic 35, 3) := by decide +kernel
theorem dX4_light_26 : decode cX4_light 26 = .ok (.ifCond .ne 9, 3) := by decide +kernel
theorem dX4_light_29 : decode cX4_light 29 = .ok (.aload_n 0, 1) := by decide +kernel
theorem dX4_light_30 : decode cX4_light 30 = .ok (.iconst 2, 1) := by decide +kernel
theorem dX4_light_31 : decode cX4_light 31 = .ok (.invokevirtual 45, 3) := by decide +kernel
theorem dX4_light_34 : decode cX4_light 34 = .ok (.ireturn, 1) := by decide +kernel
theorem dX4_light_35 : decode cX4_light 35 = .ok (.iconst 4, 1) := by decide +kernel
theorem dX4_light_36 : decode cX4_light 36 = .ok (.iload_n 1, 1) := by decide +kernel
theorem dX4_light_37 : decode cX4_light 37 = .ok (.imul, 1) := by decide +kernel
theorem dX4_light_38 : decode cX4_light 38 = .ok (.istore_n 3, 1) := by decide +kernel
theorem dX4_light_39 : decode cX4_light 39 = .ok (.aload_n 0, 1) := by decide +kernel
theorem dX4_light_40 : decode cX4_light 40 = .ok (.getfield 7, 3) := by decide +kernel
theorem dX4_light_43 : decode cX4_light 43 = .ok (.iconst 1, 1) := by decide +kernel
theorem dX4_light_44 : decode cX4_light 44 = .ok (.iaload, 1) := by decide +kernel
theorem dX4_light_45 : decode cX4_light 45 = .ok (.iload_n 2, 1) := by decide +kernel
theorem dX4_light_46 : decode cX4_light 46 = .ok (.if_icmp .lt 12, 3) := by decide +kernel
theorem dX4_light_49 : decode cX4_light 49 = .ok (.aload_n 0, 1) := by decide +kernel
theorem dX4_light_50 : decode cX4_light 50 = .ok (.getfield 19, 3) := by decide +kernel
theorem dX4_light_53 : decode cX4_light 53 = .ok (.iload_n 3, 1) := by decide +kernel
theorem dX4_light_54 : decode cX4_light 54 = .ok (.iaload, 1) := by decide +kernel
theorem dX4_light_55 : decode cX4_light 55 = .ok (.ifCond .ne 9, 3) := by decide +kernel
theorem dX4_light_58 : decode cX4_light 58 = .ok (.aload_n 0, 1) := by decide +kernel
theorem dX4_light_59 : decode cX4_light 59 = .ok (.iconst 3, 1) := by decide +kernel
theorem dX4_light_60 : decode cX4_light 60 = .ok (.invokevirtual 45, 3) := by decide +kernel
theorem dX4_light_63 : decode cX4_light 63 = .ok (.ireturn, 1) := by decide +kernel
theorem dX4_light_64 : decode cX4_light 64 = .ok (.aload_n 0, 1) := by decide +kernel
theorem dX4_light_65 : decode cX4_light 65 = .ok (.getfield 7, 3) := by decide +kernel
theorem dX4_light_68 : decode cX4_light 68 = .ok (.iconst 1, 1) := by decide +kernel
theorem dX4_light_69 : decode cX4_light 69 = .ok (.dup2, 1) := by decide +kernel
theorem dX4_light_70 : decode cX4_light 70 = .ok (.iaload, 1) := by decide +kernel
theorem dX4_light_71 : decode cX4_light 71 = .ok (.iload_n 2, 1) := by decide +kernel
theorem dX4_light_72 : decode cX4_light 72 = .ok (.isub, 1) := by decide +kernel
theorem dX4_light_73 : decode cX4_light 73 = .ok (.iastore, 1) := by decide +kernel
theorem dX4_light_74 : decode cX4_light 74 = .ok (.aload_n 0, 1) := by decide +kernel
theorem dX4_light_75 : decode cX4_light 75 = .ok (.getfield 19, 3) := by decide +kernel
theorem dX4_light_78 : decode cX4_light 78 = .ok (.iload_n 3, 1) := by decide +kernel
theorem dX4_light_79 : decode cX4_light 79 = .ok (.iconst 1, 1) := by decide +kernel
theorem dX4_light_80 : decode cX4_light 80 = .ok (.iadd, 1) := by decide +kernel
theorem dX4_light_81 : decode cX4_light 81 = .ok (.bipush 60, 2) := by decide +kernel
theorem dX4_light_83 : decode cX4_light 83 = .ok (.aload_n 0, 1) := by decide +kernel
theorem dX4_light_84 : decode cX4_light 84 = .ok (.getfield 19, 3) := by decide +kernel
theorem dX4_light_87 : decode cX4_light 87 = .ok (.iload_n 3, 1) := by decide +kernel
theorem dX4_light_88 : decode cX4_light 88 = .ok (.iconst 1, 1) := by decide +kernel
theorem dX4_light_89 : decode cX4_light 89 = .ok (.iadd, 1) := by decide +kernel
theorem dX4_light_90 : decode cX4_light 90 = .ok (.iaload, 1) := by decide +kernel
theorem dX4_light_91 : decode cX4_light 91 = .ok (.iload_n 2, 1) := by decide +kernel
theorem dX4_light_92 : decode cX4_light 92 = .ok (.iadd, 1) := by decide +kernel
theorem dX4_light_93 : decode cX4_light 93 = .ok (.invokestatic 49, 3) := by decide +kernel
theorem dX4_light_96 : decode cX4_light 96 = .ok (.iastore, 1) := by decide +kernel
theorem dX4_light_97 : decode cX4_light 97 = .ok (.aload_n 0, 1) := by decide +kernel
theorem dX4_light_98 : decode cX4_light 98 = .ok (.getfield 19, 3) := by decide +kernel
theorem dX4_light_101 : decode cX4_light 101 = .ok (.iload_n 3, 1) := by decide +kernel
theorem dX4_light_102 : decode cX4_light 102 = .ok (.iconst 3, 1) := by decide +kernel
theorem dX4_light_103 : decode cX4_light 103 = .ok (.iadd, 1) := by decide +kernel
theorem dX4_light_104 : decode cX4_light 104 = .ok (.iconst 1, 1) := by decide +kernel
theorem dX4_light_105 : decode cX4_light 105 = .ok (.iastore, 1) := by decide +kernel
theorem dX4_light_106 : decode cX4_light 106 = .ok (.aload_n 0, 1) := by decide +kernel
theorem dX4_light_107 : decode cX4_light 107 = .ok (.getfield 19, 3) := by decide +kernel
theorem dX4_light_110 : decode cX4_light 110 = .ok (.iload_n 3, 1) := by decide +kernel
theorem dX4_light_111 : decode cX4_light 111 = .ok (.iconst 1, 1) := by decide +kernel
theorem dX4_light_112 : decode cX4_light 112 = .ok (.iadd, 1) := by decide +kernel
theorem dX4_light_113 : decode cX4_light 113 = .ok (.iaload, 1) := by decide +kernel
theorem dX4_light_114 : decode cX4_light 114 = .ok (.ireturn, 1) := by decide +kernel
theorem dX4_dig_0 : decode cX4_dig 0 = .ok (.aload_n 0, 1) := by decide +kernel
theorem dX4_dig_1 : decode cX4_dig 1 = .ok (.iconst 0, 1) := by decide +kernel
theorem dX4_dig_2 : decode cX4_dig 2 = .ok (.putfield 28, 3) := by decide +kernel
theorem dX4_dig_5 : decode cX4_dig 5 = .ok (.iload_n 1, 1) := by decide +kernel
theorem dX4_dig_6 : decode cX4_dig 6 = .ok (.iconst 0, 1) := by decide +kernel
theorem dX4_dig_7 : decode cX4_dig 7 = .ok (.sipush 400, 3) := by decide +kernel
theorem dX4_dig_10 : decode cX4_dig 10 = .ok (.invokestatic 35, 3) := by decide +kernel
theorem dX4_dig_13 : decode cX4_dig 13 = .ok (.ifCond .ne 9, 3) := by decide +kernel
theorem dX4_dig_16 : decode cX4_dig 16 = .ok (.aload_n 0, 1) := by decide +kernel
theorem dX4_dig_17 : decode cX4_dig 17 = .ok (.iconst 1, 1) := by decide +kernel
theorem dX4_dig_18 : decode cX4_dig 18 = .ok (.invokevirtual 45, 3) := by decide +kernel
theorem dX4_dig_21 : decode cX4_dig 21 = .ok (.ireturn, 1) := by decide +kernel
theorem dX4_dig_22 : decode cX4_dig 22 = .ok (.aload_n 0, 1) := by decide +kernel
theorem dX4_dig_23 : decode cX4_dig 23 = .ok (.getfield 39, 3) := by decide +kernel
theorem dX4_dig_26 : decode cX4_dig 26 = .ok (.iconst 4, 1) := by decide +kernel
theorem dX4_dig_27 : decode cX4_dig 27 = .ok (.if_icmp .ne 9, 3) := by decide +kernel
theorem dX4_dig_30 : decode cX4_dig 30 = .ok (.aload_n 0, 1) := by decide +kernel
theorem dX4_dig_31 : decode cX4_dig 31 = .ok (.iconst 2, 1) := by decide +kernel
theorem dX4_dig_32 : decode cX4_dig 32 = .ok (.invokevirtual 45, 3) := by decide +kernel
theorem dX4_dig_35 : decode cX4_dig 35 = .ok (.ireturn, 1) := by decide +kernel
theorem dX4_dig_36 : decode cX4_dig 36 = .ok (.aload_n 0, 1) := by decide +kernel
theorem dX4_dig_37 : decode cX4_dig 37 = .ok (.getfield 22, 3) := by decide +kernel
theorem dX4_dig_40 : decode cX4_dig 40 = .ok (.iconst 2, 1) := by decide +kernel
theorem dX4_dig_41 : decode cX4_dig 41 = .ok (.aload_n 0, 1) := by decide +kernel
theorem dX4_dig_42 : decode cX4_dig 42 = .ok (.getfield 39, 3) := by decide +kernel
theorem dX4_dig_45 : decode cX4_dig 45 = .ok (.imul, 1) := by decide +kernel
theorem dX4_dig_46 : decode cX4_dig 46 = .ok (.iload_n 1, 1) := by decide +kernel
theorem dX4_dig_47 : decode cX4_dig 47 = .ok (.iastore, 1) := by decide +kernel
theorem dX4_dig_48 : decode cX4_dig 48 = .ok (.aload_n 0, 1) := by decide +kernel
theorem dX4_dig_49 : decode cX4_dig 49 = .ok (.dup, 1) := by decide +kernel
theorem dX4_dig_50 : decode cX4_dig 50 = .ok (.getfield 39, 3) := by decide +kernel
theorem dX4_dig_53 : decode cX4_dig 53 = .ok (.iconst 1, 1) := by decide +kernel
theorem dX4_dig_54 : decode cX4_dig 54 = .ok (.iadd, 1) := by decide +kernel
theorem dX4_dig_55 : decode cX4_dig 55 = .ok (.putfield 39, 3) := by decide +kernel
theorem dX4_dig_58 : decode cX4_dig 58 = .ok (.aload_n 0, 1) := by decide +kernel
theorem dX4_dig_59 : decode cX4_dig 59 = .ok (.getfield 39, 3) := by decide +kernel
theorem dX4_dig_62 : decode cX4_dig 62 = .ok (.iconst 1, 1) := by decide +kernel
theorem dX4_dig_63 : decode cX4_dig 63 = .ok (.isub, 1) := by decide +kernel
theorem dX4_dig_64 : decode cX4_dig 64 = .ok (.ireturn, 1) := by decide +kernel
theorem dX4_steep_0 : decode cX4_steep 0 = .ok (.aload_n 0, 1) := by decide +kernel
theorem dX4_steep_1 : decode cX4_steep 1 = .ok (.iconst 0, 1) := by decide +kernel
theorem dX4_steep_2 : decode cX4_steep 2 = .ok (.putfield 28, 3) := by decide +kernel
theorem dX4_steep_5 : decode cX4_steep 5 = .ok (.aload_n 0, 1) := by decide +kernel
theorem dX4_steep_6 : decode cX4_steep 6 = .ok (.iload_n 1, 1) := by decide +kernel
theorem dX4_steep_7 : decode cX4_steep 7 = .ok (.invokevirtual 55, 3) := by decide +kernel
theorem dX4_steep_10 : decode cX4_steep 10 = .ok (.ifCond .eq 11, 3) := by decide +kernel
theorem dX4_steep_13 : decode cX4_steep 13 = .ok (.aload_n 0, 1) := by decide +kernel
theorem dX4_steep_14 : decode cX4_steep 14 = .ok (.iload_n 2, 1) := by decide +kernel
theorem dX4_steep_15 : decode cX4_steep 15 = .ok (.invokevirtual 59, 3) := by decide +kernel
theorem dX4_steep_18 : decode cX4_steep 18 = .ok (.ifCond .ne 9, 3) := by decide +kernel
theorem dX4_steep_21 : decode cX4_steep 21 = .ok (.aload_n 0, 1) := by decide +kernel
theorem dX4_steep_22 : decode cX4_steep 22 = .ok (.iconst 1, 1) := by decide +kernel
theorem dX4_steep_23 : decode cX4_steep 23 = .ok (.invokevirtual 45, 3) := by decide +kernel
theorem dX4_steep_26 : decode cX4_steep 26 = .ok (.ireturn, 1) := by decide +kernel
theorem dX4_steep_27 : decode cX4_steep 27 = .ok (.iconst 4, 1) := by decide +kernel
theorem dX4_steep_28 : decode cX4_steep 28 = .ok (.iload_n 1, 1) := by decide +kernel
theorem dX4_steep_29 : decode cX4_steep 29 = .ok (.imul, 1) := by decide +kernel
theorem dX4_steep_30 : decode cX4_steep 30 = .ok (.istore_n 3, 1) := by decide +kernel
theorem dX4_steep_31 : decode cX4_steep 31 = .ok (.iconst 2, 1) := by decide +kernel
theorem dX4_steep_32 : decode cX4_steep 32 = .ok (.iload_n 2, 1) := by decide +kernel
theorem dX4_steep_33 : decode cX4_steep 33 = .ok (.imul, 1) := by decide +kernel
theorem dX4_steep_34 : decode cX4_steep 34 = .ok (.istore 4, 2) := by decide +kernel
theorem dX4_steep_36 : decode cX4_steep 36 = .ok (.aload_n 0, 1) := by decide +kernel
theorem dX4_steep_37 : decode cX4_steep 37 = .ok (.getfield 19, 3) := by decide +kernel
theorem dX4_steep_40 : decode cX4_steep 40 = .ok (.iload_n 3, 1) := by decide +kernel
theorem dX4_steep_41 : decode cX4_steep 41 = .ok (.iconst 2, 1) := by decide +kernel
theorem dX4_steep_42 : decode cX4_steep 42 = .ok (.iadd, 1) := by decide +kernel
theorem dX4_steep_43 : decode cX4_steep 43 = .ok (.iaload, 1) := by decide +kernel
theorem dX4_steep_44 : decode cX4_steep 44 = .ok (.ifCond .eq 25, 3) := by decide +kernel
theorem dX4_steep_47 : decode cX4_steep 47 = .ok (.aload_n 0, 1) := by decide +kernel
theorem dX4_steep_48 : decode cX4_steep 48 = .ok (.getfield 19, 3) := by decide +kernel
theorem dX4_steep_51 : decode cX4_steep 51 = .ok (.iload_n 3, 1) := by decide +kernel
theorem dX4_steep_52 : decode cX4_steep 52 = .ok (.iconst 3, 1) := by decide +kernel
theorem dX4_steep_53 : decode cX4_steep 53 = .ok (.iadd, 1) := by decide +kernel
theorem dX4_steep_54 : decode cX4_steep 54 = .ok (.iaload, 1) := by decide +kernel
theorem dX4_steep_55 : decode cX4_steep 55 = .ok (.iconst 1, 1) := by decide +kernel
theorem dX4_steep_56 : decode cX4_steep 56 = .ok (.if_icmp .eq 13, 3) := by decide +kernel
theorem dX4_steep_59 : decode cX4_steep 59 = .ok (.aload_n 0, 1) := by decide +kernel
theorem dX4_steep_60 : decode cX4_steep 60 = .ok (.getfield 22, 3) := by decide +kernel
theorem dX4_steep_63 : decode cX4_steep 63 = .ok (.iload 4, 2) := by decide +kernel
theorem dX4_steep_65 : decode cX4_steep 65 = .ok (.iaload, 1) := by decide +kernel
theorem dX4_steep_66 : decode cX4_steep 66 = .ok (.ifCond .ne 9, 3) := by decide +kernel
theorem dX4_steep_69 : decode cX4_steep 69 = .ok (.aload_n 0, 1) := by decide +kernel
theorem dX4_steep_70 : decode cX4_steep 70 = .ok (.iconst 2, 1) := by decide +kernel
theorem dX4_steep_71 : decode cX4_steep 71 = .ok (.invokevirtual 45, 3) := by decide +kernel
theorem dX4_steep_74 : decode cX4_steep 74 = .ok (.ireturn, 1) := by decide +kernel
theorem dX4_steep_75 : decode cX4_steep 75 = .ok (.aload_n 0, 1) := by decide +kernel
theorem dX4_steep_76 : decode cX4_steep 76 = .ok (.getfield 22, 3) := by decide +kernel
theorem dX4_steep_79 : decode cX4_steep 79 = .ok (.iload 4, 2) := by decide +kernel
theorem dX4_steep_81 : decode cX4_steep 81 = .ok (.iconst 1, 1) := by decide +kernel
theorem dX4_steep_82 : decode cX4_steep 82 = .ok (.iadd, 1) := by decide +kernel
theorem dX4_steep_83 : decode cX4_steep 83 = .ok (.dup2, 1) := by decide +kernel
theorem dX4_steep_84 : decode cX4_steep 84 = .ok (.iaload, 1) := by decide +kernel
theorem dX4_steep_85 : decode cX4_steep 85 = .ok (.aload_n 0, 1) := by decide +kernel
theorem dX4_steep_86 : decode cX4_steep 86 = .ok (.getfield 19, 3) := by decide +kernel
theorem dX4_steep_89 : decode cX4_steep 89 = .ok (.iload_n 3, 1) := by decide +kernel
theorem dX4_steep_90 : decode cX4_steep 90 = .ok (.iconst 2, 1) := by decide +kernel
theorem dX4_steep_91 : decode cX4_steep 91 = .ok (.iadd, 1) := by decide +kernel
theorem dX4_steep_92 : decode cX4_steep 92 = .ok (.iaload, 1) := by decide +kernel
theorem dX4_steep_93 : decode cX4_steep 93 = .ok (.iconst 2, 1) := by decide +kernel
theorem dX4_steep_94 : decode cX4_steep 94 = .ok (.idiv, 1) := by decide +kernel
theorem dX4_steep_95 : decode cX4_steep 95 = .ok (.iadd, 1) := by decide +kernel
theorem dX4_steep_96 : decode cX4_steep 96 = .ok (.iastore, 1) := by decide +kernel
theorem dX4_steep_97 : decode cX4_steep 97 = .ok (.aload_n 0, 1) := by decide +kernel
theorem dX4_steep_98 : decode cX4_steep 98 = .ok (.getfield 19, 3) := by decide +kernel
theorem dX4_steep_101 : decode cX4_steep 101 = .ok (.iload_n 3, 1) := by decide +kernel
theorem dX4_steep_102 : decode cX4_steep 102 = .ok (.iconst 2, 1) := by decide +kernel
theorem dX4_steep_103 : decode cX4_steep 103 = .ok (.iadd, 1) := by decide +kernel
theorem dX4_steep_104 : decode cX4_steep 104 = .ok (.iconst 0, 1) := by decide +kernel
theorem dX4_steep_105 : decode cX4_steep 105 = .ok (.iastore, 1) := by decide +kernel
theorem dX4_steep_106 : decode cX4_steep 106 = .ok (.aload_n 0, 1) := by decide +kernel
theorem dX4_steep_107 : decode cX4_steep 107 = .ok (.getfield 22, 3) := by decide +kernel
theorem dX4_steep_110 : decode cX4_steep 110 = .ok (.iload 4, 2) := by decide +kernel
theorem dX4_steep_112 : decode cX4_steep 112 = .ok (.iconst 1, 1) := by decide +kernel
theorem dX4_steep_113 : decode cX4_steep 113 = .ok (.iadd, 1) := by decide +kernel
theorem dX4_steep_114 : decode cX4_steep 114 = .ok (.iaload, 1) := by decide +kernel
theorem dX4_steep_115 : decode cX4_steep 115 = .ok (.ireturn, 1) := by decide +kernel
theorem dX4_pan_0 : decode cX4_pan 0 = .ok (.aload_n 0, 1) := by decide +kernel
theorem dX4_pan_1 : decode cX4_pan 1 = .ok (.iconst 0, 1) := by decide +kernel
theorem dX4_pan_2 : decode cX4_pan 2 = .ok (.putfield 28, 3) := by decide +kernel
theorem dX4_pan_5 : decode cX4_pan 5 = .ok (.aload_n 0, 1) := by decide +kernel
theorem dX4_pan_6 : decode cX4_pan 6 = .ok (.getfield 42, 3) := by decide +kernel
theorem dX4_pan_9 : decode cX4_pan 9 = .ok (.iconst 3, 1) := by decide +kernel
theorem dX4_pan_10 : decode cX4_pan 10 = .ok (.if_icmp .ne 9, 3) := by decide +kernel
theorem dX4_pan_13 : decode cX4_pan 13 = .ok (.aload_n 0, 1) := by decide +kernel
theorem dX4_pan_14 : decode cX4_pan 14 = .ok (.iconst 1, 1) := by decide +kernel
theorem dX4_pan_15 : decode cX4_pan 15 = .ok (.invokevirtual 45, 3) := by decide +kernel
theorem dX4_pan_18 : decode cX4_pan 18 = .ok (.ireturn, 1) := by decide +kernel
theorem dX4_pan_19 : decode cX4_pan 19 = .ok (.aload_n 0, 1) := by decide +kernel
theorem dX4_pan_20 : decode cX4_pan 20 = .ok (.dup, 1) := by decide +kernel
theorem dX4_pan_21 : decode cX4_pan 21 = .ok (.getfield 42, 3) := by decide +kernel
theorem dX4_pan_24 : decode cX4_pan 24 = .ok (.iconst 1, 1) := by decide +kernel
theorem dX4_pan_25 : decode cX4_pan 25 = .ok (.iadd, 1) := by decide +kernel
theorem dX4_pan_26 : decode cX4_pan 26 = .ok (.putfield 42, 3) := by decide +kernel
theorem dX4_pan_29 : decode cX4_pan 29 = .ok (.aload_n 0, 1) := by decide +kernel
theorem dX4_pan_30 : decode cX4_pan 30 = .ok (.getfield 42, 3) := by decide +kernel
theorem dX4_pan_33 : decode cX4_pan 33 = .ok (.iconst 1, 1) := by decide +kernel
theorem dX4_pan_34 : decode cX4_pan 34 = .ok (.isub, 1) := by decide +kernel
theorem dX4_pan_35 : decode cX4_pan 35 = .ok (.ireturn, 1) := by decide +kernel
theorem dX4_draw_0 : decode cX4_draw 0 = .ok (.aload_n 0, 1) := by decide +kernel
theorem dX4_draw_1 : decode cX4_draw 1 = .ok (.iconst 0, 1) := by decide +kernel
theorem dX4_draw_2 : decode cX4_draw 2 = .ok (.putfield 28, 3) := by decide +kernel
theorem dX4_draw_5 : decode cX4_draw 5 = .ok (.aload_n 0, 1) := by decide +kernel
theorem dX4_draw_6 : decode cX4_draw 6 = .ok (.iload_n 1, 1) := by decide +kernel
theorem dX4_draw_7 : decode cX4_draw 7 = .ok (.invokevirtual 59, 3) := by decide +kernel
theorem dX4_draw_10 : decode cX4_draw 10 = .ok (.ifCond .eq 11, 3) := by decide +kernel
theorem dX4_draw_13 : decode cX4_draw 13 = .ok (.aload_n 0, 1) := by decide +kernel
theorem dX4_draw_14 : decode cX4_draw 14 = .ok (.iload_n 2, 1) := by decide +kernel
theorem dX4_draw_15 : decode cX4_draw 15 = .ok (.invokevirtual 62, 3) := by decide +kernel
theorem dX4_draw_18 : decode cX4_draw 18 = .ok (.ifCond .ne 9, 3) := by decide +kernel
theorem dX4_draw_21 : decode cX4_draw 21 = .ok (.aload_n 0, 1) := by decide +kernel
theorem dX4_draw_22 : decode cX4_draw 22 = .ok (.iconst 1, 1) := by decide +kernel
theorem dX4_draw_23 : decode cX4_draw 23 = .ok (.invokevirtual 45, 3) := by decide +kernel
theorem dX4_draw_26 : decode cX4_draw 26 = .ok (.ireturn, 1) := by decide +kernel
theorem dX4_draw_27 : decode cX4_draw 27 = .ok (.iload_n 3, 1) := by decide +kernel
theorem dX4_draw_28 : decode cX4_draw 28 = .ok (.iconst 1, 1) := by decide +kernel
theorem dX4_draw_29 : decode cX4_draw 29 = .ok (.sipush 150, 3) := by decide +kernel
theorem dX4_draw_32 : decode cX4_draw 32 = .ok (.invokestatic 35, 3) := by decide +kernel
theorem dX4_draw_35 : decode cX4_draw 35 = .ok (.ifCond .ne 9, 3) := by decide +kernel
theorem dX4_draw_38 : decode cX4_draw 38 = .ok (.aload_n 0, 1) := by decide +kernel
theorem dX4_draw_39 : decode cX4_draw 39 = .ok (.iconst 2, 1) := by decide +kernel
theorem dX4_draw_40 : decode cX4_draw 40 = .ok (.invokevirtual 45, 3) := by decide +kernel
theorem dX4_draw_43 : decode cX4_draw 43 = .ok (.ireturn, 1) := by decide +kernel
theorem dX4_draw_44 : decode cX4_draw 44 = .ok (.iconst 2, 1) := by decide +kernel
theorem dX4_draw_45 : decode cX4_draw 45 = .ok (.iload_n 1, 1) := by decide +kernel
theorem dX4_draw_46 : decode cX4_draw 46 = .ok (.imul, 1) := by decide +kernel
theorem dX4_draw_47 : decode cX4_draw 47 = .ok (.istore 4, 2) := by decide +kernel
theorem dX4_draw_49 : decode cX4_draw 49 = .ok (.iconst 3, 1) := by decide +kernel
theorem dX4_draw_50 : decode cX4_draw 50 = .ok (.iload_n 2, 1) := by decide +kernel
theorem dX4_draw_51 : decode cX4_draw 51 = .ok (.imul, 1) := by decide +kernel
theorem dX4_draw_52 : decode cX4_draw 52 = .ok (.istore 5, 2) := by decide +kernel
theorem dX4_draw_54 : decode cX4_draw 54 = .ok (.aload_n 0, 1) := by decide +kernel
theorem dX4_draw_55 : decode cX4_draw 55 = .ok (.getfield 22, 3) := by decide +kernel
theorem dX4_draw_58 : decode cX4_draw 58 = .ok (.iload 4, 2) := by decide +kernel
theorem dX4_draw_60 : decode cX4_draw 60 = .ok (.iaload, 1) := by decide +kernel
theorem dX4_draw_61 : decode cX4_draw 61 = .ok (.iload_n 3, 1) := by decide +kernel
theorem dX4_draw_62 : decode cX4_draw 62 = .ok (.if_icmp .lt 18, 3) := by decide +kernel
theorem dX4_draw_65 : decode cX4_draw 65 = .ok (.aload_n 0, 1) := by decide +kernel
theorem dX4_draw_66 : decode cX4_draw 66 = .ok (.getfield 25, 3) := by decide +kernel
theorem dX4_draw_69 : decode cX4_draw 69 = .ok (.iload 5, 2) := by decide +kernel
theorem dX4_draw_71 : decode cX4_draw 71 = .ok (.iaload, 1) := by decide +kernel
theorem dX4_draw_72 : decode cX4_draw 72 = .ok (.iload_n 3, 1) := by decide +kernel
theorem dX4_draw_73 : decode cX4_draw 73 = .ok (.iadd, 1) := by decide +kernel
theorem dX4_draw_74 : decode cX4_draw 74 = .ok (.sipush 150, 3) := by decide +kernel
theorem dX4_draw_77 : decode cX4_draw 77 = .ok (.if_icmp .le 9, 3) := by decide +kernel
theorem dX4_draw_80 : decode cX4_draw 80 = .ok (.aload_n 0, 1) := by decide +kernel
theorem dX4_draw_81 : decode cX4_draw 81 = .ok (.iconst 3, 1) := by decide +kernel
theorem dX4_draw_82 : decode cX4_draw 82 = .ok (.invokevirtual 45, 3) := by decide +kernel
theorem dX4_draw_85 : decode cX4_draw 85 = .ok (.ireturn, 1) := by decide +kernel
theorem dX4_draw_86 : decode cX4_draw 86 = .ok (.aload_n 0, 1) := by decide +kernel
theorem dX4_draw_87 : decode cX4_draw 87 = .ok (.getfield 22, 3) := by decide +kernel
theorem dX4_draw_90 : decode cX4_draw 90 = .ok (.iload 4, 2) := by decide +kernel
theorem dX4_draw_92 : decode cX4_draw 92 = .ok (.iconst 1, 1) := by decide +kernel
theorem dX4_draw_93 : decode cX4_draw 93 = .ok (.iadd, 1) := by decide +kernel
theorem dX4_draw_94 : decode cX4_draw 94 = .ok (.iaload, 1) := by decide +kernel
theorem dX4_draw_95 : decode cX4_draw 95 = .ok (.iload_n 3, 1) := by decide +kernel
theorem dX4_draw_96 : decode cX4_draw 96 = .ok (.imul, 1) := by decide +kernel
theorem dX4_draw_97 : decode cX4_draw 97 = .ok (.aload_n 0, 1) := by decide +kernel
theorem dX4_draw_98 : decode cX4_draw 98 = .ok (.getfield 22, 3) := by decide +kernel
theorem dX4_draw_101 : decode cX4_draw 101 = .ok (.iload 4, 2) := by decide +kernel
theorem dX4_draw_103 : decode cX4_draw 103 = .ok (.iaload, 1) := by decide +kernel
theorem dX4_draw_104 : decode cX4_draw 104 = .ok (.idiv, 1) := by decide +kernel
theorem dX4_draw_105 : decode cX4_draw 105 = .ok (.istore 6, 2) := by decide +kernel
theorem dX4_draw_107 : decode cX4_draw 107 = .ok (.aload_n 0, 1) := by decide +kernel
theorem dX4_draw_108 : decode cX4_draw 108 = .ok (.getfield 22, 3) := by decide +kernel
theorem dX4_draw_111 : decode cX4_draw 111 = .ok (.iload 4, 2) := by decide +kernel
theorem dX4_draw_113 : decode cX4_draw 113 = .ok (.dup2, 1) := by decide +kernel
theorem dX4_draw_114 : decode cX4_draw 114 = .ok (.iaload, 1) := by decide +kernel
theorem dX4_draw_115 : decode cX4_draw 115 = .ok (.iload_n 3, 1) := by decide +kernel
theorem dX4_draw_116 : decode cX4_draw 116 = .ok (.isub, 1) := by decide +kernel
theorem dX4_draw_117 : decode cX4_draw 117 = .ok (.iastore, 1) := by decide +kernel
theorem dX4_draw_118 : decode cX4_draw 118 = .ok (.aload_n 0, 1) := by decide +kernel
theorem dX4_draw_119 : decode cX4_draw 119 = .ok (.getfield 22, 3) := by decide +kernel
theorem dX4_draw_122 : decode cX4_draw 122 = .ok (.iload 4, 2) := by decide +kernel
theorem dX4_draw_124 : decode cX4_draw 124 = .ok (.iconst 1, 1) := by decide +kernel
theorem dX4_draw_125 : decode cX4_draw 125 = .ok (.iadd, 1) := by decide +kernel
theorem dX4_draw_126 : decode cX4_draw 126 = .ok (.dup2, 1) := by decide +kernel
theorem dX4_draw_127 : decode cX4_draw 127 = .ok (.iaload, 1) := by decide +kernel
theorem dX4_draw_128 : decode cX4_draw 128 = .ok (.iload 6, 2) := by decide +kernel
theorem dX4_draw_130 : decode cX4_draw 130 = .ok (.isub, 1) := by decide +kernel
theorem dX4_draw_131 : decode cX4_draw 131 = .ok (.iastore, 1) := by decide +kernel
theorem dX4_draw_132 : decode cX4_draw 132 = .ok (.aload_n 0, 1) := by decide +kernel
theorem dX4_draw_133 : decode cX4_draw 133 = .ok (.getfield 25, 3) := by decide +kernel
theorem dX4_draw_136 : decode cX4_draw 136 = .ok (.iload 5, 2) := by decide +kernel
theorem dX4_draw_138 : decode cX4_draw 138 = .ok (.dup2, 1) := by decide +kernel
theorem dX4_draw_139 : decode cX4_draw 139 = .ok (.iaload, 1) := by decide +kernel
theorem dX4_draw_140 : decode cX4_draw 140 = .ok (.iload_n 3, 1) := by decide +kernel
theorem dX4_draw_141 : decode cX4_draw 141 = .ok (.iadd, 1) := by decide +kernel
theorem dX4_draw_142 : decode cX4_draw 142 = .ok (.iastore, 1) := by decide +kernel
theorem dX4_draw_143 : decode cX4_draw 143 = .ok (.aload_n 0, 1) := by decide +kernel
theorem dX4_draw_144 : decode cX4_draw 144 = .ok (.getfield 25, 3) := by decide +kernel
theorem dX4_draw_147 : decode cX4_draw 147 = .ok (.iload 5, 2) := by decide +kernel
theorem dX4_draw_149 : decode cX4_draw 149 = .ok (.iconst 1, 1) := by decide +kernel
theorem dX4_draw_150 : decode cX4_draw 150 = .ok (.iadd, 1) := by decide +kernel
theorem dX4_draw_151 : decode cX4_draw 151 = .ok (.dup2, 1) := by decide +kernel
theorem dX4_draw_152 : decode cX4_draw 152 = .ok (.iaload, 1) := by decide +kernel
theorem dX4_draw_153 : decode cX4_draw 153 = .ok (.iload 6, 2) := by decide +kernel
theorem dX4_draw_155 : decode cX4_draw 155 = .ok (.iadd, 1) := by decide +kernel
theorem dX4_draw_156 : decode cX4_draw 156 = .ok (.iastore, 1) := by decide +kernel
theorem dX4_draw_157 : decode cX4_draw 157 = .ok (.iload 6, 2) := by decide +kernel
theorem dX4_draw_159 : decode cX4_draw 159 = .ok (.ireturn, 1) := by decide +kernel
theorem dX4_boil_0 : decode cX4_boil 0 = .ok (.aload_n 0, 1) := by decide +kernel
theorem dX4_boil_1 : decode cX4_boil 1 = .ok (.aload_n 0, 1) := by decide +kernel
theorem dX4_boil_2 : decode cX4_boil 2 = .ok (.iload_n 1, 1) := by decide +kernel
theorem dX4_boil_3 : decode cX4_boil 3 = .ok (.invokevirtual 62, 3) := by decide +kernel
theorem dX4_boil_6 : decode cX4_boil 6 = .ok (.ifCond .eq 7, 3) := by decide +kernel
theorem dX4_boil_9 : decode cX4_boil 9 = .ok (.iconst 0, 1) := by decide +kernel
theorem dX4_boil_10 : decode cX4_boil 10 = .ok (.goto 4, 3) := by decide +kernel
theorem dX4_boil_13 : decode cX4_boil 13 = .ok (.iconst 1, 1) := by decide +kernel
theorem dX4_boil_14 : decode cX4_boil 14 = .ok (.putfield 28, 3) := by decide +kernel
theorem dX4_boil_17 : decode cX4_boil 17 = .ok (.aload_n 0, 1) := by decide +kernel
theorem dX4_boil_18 : decode cX4_boil 18 = .ok (.getfield 28, 3) := by decide +kernel
theorem dX4_boil_21 : decode cX4_boil 21 = .ok (.ifCond .eq 5, 3) := by decide +kernel
theorem dX4_boil_24 : decode cX4_boil 24 = .ok (.iconst 0, 1) := by decide +kernel
theorem dX4_boil_25 : decode cX4_boil 25 = .ok (.ireturn, 1) := by decide +kernel
theorem dX4_boil_26 : decode cX4_boil 26 = .ok (.aload_n 0, 1) := by decide +kernel
theorem dX4_boil_27 : decode cX4_boil 27 = .ok (.getfield 25, 3) := by decide +kernel
theorem dX4_boil_30 : decode cX4_boil 30 = .ok (.iconst 3, 1) := by decide +kernel
theorem dX4_boil_31 : decode cX4_boil 31 = .ok (.iload_n 1, 1) := by decide +kernel
theorem dX4_boil_32 : decode cX4_boil 32 = .ok (.imul, 1) := by decide +kernel
theorem dX4_boil_33 : decode cX4_boil 33 = .ok (.iconst 2, 1) := by decide +kernel
theorem dX4_boil_34 : decode cX4_boil 34 = .ok (.iadd, 1) := by decide +kernel
theorem dX4_boil_35 : decode cX4_boil 35 = .ok (.iconst 1, 1) := by decide +kernel
theorem dX4_boil_36 : decode cX4_boil 36 = .ok (.aload_n 0, 1) := by decide +kernel
theorem dX4_boil_37 : decode cX4_boil 37 = .ok (.getfield 25, 3) := by decide +kernel
theorem dX4_boil_40 : decode cX4_boil 40 = .ok (.iconst 3, 1) := by decide +kernel
theorem dX4_boil_41 : decode cX4_boil 41 = .ok (.iload_n 1, 1) := by decide +kernel
theorem dX4_boil_42 : decode cX4_boil 42 = .ok (.imul, 1) := by decide +kernel
theorem dX4_boil_43 : decode cX4_boil 43 = .ok (.iconst 2, 1) := by decide +kernel
theorem dX4_boil_44 : decode cX4_boil 44 = .ok (.iadd, 1) := by decide +kernel
theorem dX4_boil_45 : decode cX4_boil 45 = .ok (.iaload, 1) := by decide +kernel
theorem dX4_boil_46 : decode cX4_boil 46 = .ok (.isub, 1) := by decide +kernel
theorem dX4_boil_47 : decode cX4_boil 47 = .ok (.iastore, 1) := by decide +kernel
theorem dX4_boil_48 : decode cX4_boil 48 = .ok (.aload_n 0, 1) := by decide +kernel
theorem dX4_boil_49 : decode cX4_boil 49 = .ok (.getfield 25, 3) := by decide +kernel
theorem dX4_boil_52 : decode cX4_boil 52 = .ok (.iconst 3, 1) := by decide +kernel
theorem dX4_boil_53 : decode cX4_boil 53 = .ok (.iload_n 1, 1) := by decide +kernel
theorem dX4_boil_54 : decode cX4_boil 54 = .ok (.imul, 1) := by decide +kernel
theorem dX4_boil_55 : decode cX4_boil 55 = .ok (.iconst 2, 1) := by decide +kernel
theorem dX4_boil_56 : decode cX4_boil 56 = .ok (.iadd, 1) := by decide +kernel
theorem dX4_boil_57 : decode cX4_boil 57 = .ok (.iaload, 1) := by decide +kernel
theorem dX4_boil_58 : decode cX4_boil 58 = .ok (.iconst 1, 1) := by decide +kernel
theorem dX4_boil_59 : decode cX4_boil 59 = .ok (.if_icmp .ne 7, 3) := by decide +kernel
theorem dX4_boil_62 : decode cX4_boil 62 = .ok (.iconst 1, 1) := by decide +kernel
theorem dX4_boil_63 : decode cX4_boil 63 = .ok (.goto 4, 3) := by decide +kernel
theorem dX4_boil_66 : decode cX4_boil 66 = .ok (.iconst 0, 1) := by decide +kernel
theorem dX4_boil_67 : decode cX4_boil 67 = .ok (.ireturn, 1) := by decide +kernel
theorem dX4_strength_0 : decode cX4_strength 0 = .ok (.iload_n 0, 1) := by decide +kernel
theorem dX4_strength_1 : decode cX4_strength 1 = .ok (.iload_n 1, 1) := by decide +kernel
theorem dX4_strength_2 : decode cX4_strength 2 = .ok (.iadd, 1) := by decide +kernel
theorem dX4_strength_3 : decode cX4_strength 3 = .ok (.ifCond .ne 7, 3) := by decide +kernel
theorem dX4_strength_6 : decode cX4_strength 6 = .ok (.iconst 0, 1) := by decide +kernel
theorem dX4_strength_7 : decode cX4_strength 7 = .ok (.goto 11, 3) := by decide +kernel
theorem dX4_strength_10 : decode cX4_strength 10 = .ok (.bipush 100, 2) := by decide +kernel
theorem dX4_strength_12 : decode cX4_strength 12 = .ok (.iload_n 1, 1) := by decide +kernel
theorem dX4_strength_13 : decode cX4_strength 13 = .ok (.imul, 1) := by decide +kernel
theorem dX4_strength_14 : decode cX4_strength 14 = .ok (.iload_n 0, 1) := by decide +kernel
theorem dX4_strength_15 : decode cX4_strength 15 = .ok (.iload_n 1, 1) := by decide +kernel
theorem dX4_strength_16 : decode cX4_strength 16 = .ok (.iadd, 1) := by decide +kernel
theorem dX4_strength_17 : decode cX4_strength 17 = .ok (.idiv, 1) := by decide +kernel
theorem dX4_strength_18 : decode cX4_strength 18 = .ok (.ireturn, 1) := by decide +kernel
theorem dX4_egg_0 : decode cX4_egg 0 = .ok (.iload_n 0, 1) := by decide +kernel
theorem dX4_egg_1 : decode cX4_egg 1 = .ok (.bipush 20, 2) := by decide +kernel
theorem dX4_egg_3 : decode cX4_egg 3 = .ok (.if_icmp .ge 7, 3) := by decide +kernel
theorem dX4_egg_6 : decode cX4_egg 6 = .ok (.iconst 0, 1) := by decide +kernel
theorem dX4_egg_7 : decode cX4_egg 7 = .ok (.goto 14, 3) := by decide +kernel
theorem dX4_egg_10 : decode cX4_egg 10 = .ok (.iload_n 0, 1) := by decide +kernel
theorem dX4_egg_11 : decode cX4_egg 11 = .ok (.bipush 35, 2) := by decide +kernel
theorem dX4_egg_13 : decode cX4_egg 13 = .ok (.if_icmp .ge 7, 3) := by decide +kernel
theorem dX4_egg_16 : decode cX4_egg 16 = .ok (.iconst 1, 1) := by decide +kernel
theorem dX4_egg_17 : decode cX4_egg 17 = .ok (.goto 4, 3) := by decide +kernel
theorem dX4_egg_20 : decode cX4_egg 20 = .ok (.iconst 2, 1) := by decide +kernel
theorem dX4_egg_21 : decode cX4_egg 21 = .ok (.ireturn, 1) := by decide +kernel
theorem dX4_panEgg_0 : decode cX4_panEgg 0 = .ok (.aload_n 0, 1) := by decide +kernel
theorem dX4_panEgg_1 : decode cX4_panEgg 1 = .ok (.getfield 25, 3) := by decide +kernel
theorem dX4_panEgg_4 : decode cX4_panEgg 4 = .ok (.iconst 3, 1) := by decide +kernel
theorem dX4_panEgg_5 : decode cX4_panEgg 5 = .ok (.iload_n 1, 1) := by decide +kernel
theorem dX4_panEgg_6 : decode cX4_panEgg 6 = .ok (.imul, 1) := by decide +kernel
theorem dX4_panEgg_7 : decode cX4_panEgg 7 = .ok (.iaload, 1) := by decide +kernel
theorem dX4_panEgg_8 : decode cX4_panEgg 8 = .ok (.aload_n 0, 1) := by decide +kernel
theorem dX4_panEgg_9 : decode cX4_panEgg 9 = .ok (.getfield 25, 3) := by decide +kernel
theorem dX4_panEgg_12 : decode cX4_panEgg 12 = .ok (.iconst 3, 1) := by decide +kernel
theorem dX4_panEgg_13 : decode cX4_panEgg 13 = .ok (.iload_n 1, 1) := by decide +kernel
theorem dX4_panEgg_14 : decode cX4_panEgg 14 = .ok (.imul, 1) := by decide +kernel
theorem dX4_panEgg_15 : decode cX4_panEgg 15 = .ok (.iconst 1, 1) := by decide +kernel
theorem dX4_panEgg_16 : decode cX4_panEgg 16 = .ok (.iadd, 1) := by decide +kernel
theorem dX4_panEgg_17 : decode cX4_panEgg 17 = .ok (.iaload, 1) := by decide +kernel
theorem dX4_panEgg_18 : decode cX4_panEgg 18 = .ok (.invokestatic 65, 3) := by decide +kernel
theorem dX4_panEgg_21 : decode cX4_panEgg 21 = .ok (.invokestatic 68, 3) := by decide +kernel
theorem dX4_panEgg_24 : decode cX4_panEgg 24 = .ok (.ireturn, 1) := by decide +kernel
theorem dX4_comes_0 : decode cX4_comes 0 = .ok (.aload_n 0, 1) := by decide +kernel
theorem dX4_comes_1 : decode cX4_comes 1 = .ok (.iload_n 1, 1) := by decide +kernel
theorem dX4_comes_2 : decode cX4_comes 2 = .ok (.invokevirtual 71, 3) := by decide +kernel
theorem dX4_comes_5 : decode cX4_comes 5 = .ok (.istore_n 3, 1) := by decide +kernel
theorem dX4_comes_6 : decode cX4_comes 6 = .ok (.aload_n 0, 1) := by decide +kernel
theorem dX4_comes_7 : decode cX4_comes 7 = .ok (.getfield 25, 3) := by decide +kernel
theorem dX4_comes_10 : decode cX4_comes 10 = .ok (.iconst 3, 1) := by decide +kernel
theorem dX4_comes_11 : decode cX4_comes 11 = .ok (.iload_n 1, 1) := by decide +kernel
theorem dX4_comes_12 : decode cX4_comes 12 = .ok (.imul, 1) := by decide +kernel
theorem dX4_comes_13 : decode cX4_comes 13 = .ok (.iconst 1, 1) := by decide +kernel
theorem dX4_comes_14 : decode cX4_comes 14 = .ok (.iadd, 1) := by decide +kernel
theorem dX4_comes_15 : decode cX4_comes 15 = .ok (.iaload, 1) := by decide +kernel
theorem dX4_comes_16 : decode cX4_comes 16 = .ok (.iload_n 2, 1) := by decide +kernel
theorem dX4_comes_17 : decode cX4_comes 17 = .ok (.iload_n 3, 1) := by decide +kernel
theorem dX4_comes_18 : decode cX4_comes 18 = .ok (.ifCond .ne 7, 3) := by decide +kernel
theorem dX4_comes_21 : decode cX4_comes 21 = .ok (.iconst 2, 1) := by decide +kernel
theorem dX4_comes_22 : decode cX4_comes 22 = .ok (.goto 13, 3) := by decide +kernel
theorem dX4_comes_25 : decode cX4_comes 25 = .ok (.iload_n 3, 1) := by decide +kernel
theorem dX4_comes_26 : decode cX4_comes 26 = .ok (.iconst 1, 1) := by decide +kernel
theorem dX4_comes_27 : decode cX4_comes 27 = .ok (.if_icmp .ne 7, 3) := by decide +kernel
theorem dX4_comes_30 : decode cX4_comes 30 = .ok (.iconst 5, 1) := by decide +kernel
theorem dX4_comes_31 : decode cX4_comes 31 = .ok (.goto 4, 3) := by decide +kernel
theorem dX4_comes_34 : decode cX4_comes 34 = .ok (.iconst 3, 1) := by decide +kernel
theorem dX4_comes_35 : decode cX4_comes 35 = .ok (.imul, 1) := by decide +kernel
theorem dX4_comes_36 : decode cX4_comes 36 = .ok (.invokestatic 49, 3) := by decide +kernel
theorem dX4_comes_39 : decode cX4_comes 39 = .ok (.ireturn, 1) := by decide +kernel
theorem dX4_pour_0 : decode cX4_pour 0 = .ok (.aload_n 0, 1) := by decide +kernel
theorem dX4_pour_1 : decode cX4_pour 1 = .ok (.iconst 0, 1) := by decide +kernel
theorem dX4_pour_2 : decode cX4_pour 2 = .ok (.putfield 28, 3) := by decide +kernel
theorem dX4_pour_5 : decode cX4_pour 5 = .ok (.aload_n 0, 1) := by decide +kernel
theorem dX4_pour_6 : decode cX4_pour 6 = .ok (.iload_n 1, 1) := by decide +kernel
theorem dX4_pour_7 : decode cX4_pour 7 = .ok (.invokevirtual 62, 3) := by decide +kernel
theorem dX4_pour_10 : decode cX4_pour 10 = .ok (.ifCond .ne 9, 3) := by decide +kernel
theorem dX4_pour_13 : decode cX4_pour 13 = .ok (.aload_n 0, 1) := by decide +kernel
theorem dX4_pour_14 : decode cX4_pour 14 = .ok (.iconst 1, 1) := by decide +kernel
theorem dX4_pour_15 : decode cX4_pour 15 = .ok (.invokevirtual 45, 3) := by decide +kernel
theorem dX4_pour_18 : decode cX4_pour 18 = .ok (.ireturn, 1) := by decide +kernel
theorem dX4_pour_19 : decode cX4_pour 19 = .ok (.iload_n 2, 1) := by decide +kernel
theorem dX4_pour_20 : decode cX4_pour 20 = .ok (.iconst 1, 1) := by decide +kernel
theorem dX4_pour_21 : decode cX4_pour 21 = .ok (.bipush 20, 2) := by decide +kernel
theorem dX4_pour_23 : decode cX4_pour 23 = .ok (.invokestatic 35, 3) := by decide +kernel
theorem dX4_pour_26 : decode cX4_pour 26 = .ok (.ifCond .ne 9, 3) := by decide +kernel
theorem dX4_pour_29 : decode cX4_pour 29 = .ok (.aload_n 0, 1) := by decide +kernel
theorem dX4_pour_30 : decode cX4_pour 30 = .ok (.iconst 2, 1) := by decide +kernel
theorem dX4_pour_31 : decode cX4_pour 31 = .ok (.invokevirtual 45, 3) := by decide +kernel
theorem dX4_pour_34 : decode cX4_pour 34 = .ok (.ireturn, 1) := by decide +kernel
theorem dX4_pour_35 : decode cX4_pour 35 = .ok (.iconst 3, 1) := by decide +kernel
theorem dX4_pour_36 : decode cX4_pour 36 = .ok (.iload_n 1, 1) := by decide +kernel
theorem dX4_pour_37 : decode cX4_pour 37 = .ok (.imul, 1) := by decide +kernel
theorem dX4_pour_38 : decode cX4_pour 38 = .ok (.istore_n 3, 1) := by decide +kernel
theorem dX4_pour_39 : decode cX4_pour 39 = .ok (.aload_n 0, 1) := by decide +kernel
theorem dX4_pour_40 : decode cX4_pour 40 = .ok (.getfield 7, 3) := by decide +kernel
theorem dX4_pour_43 : decode cX4_pour 43 = .ok (.iconst 2, 1) := by decide +kernel
theorem dX4_pour_44 : decode cX4_pour 44 = .ok (.iaload, 1) := by decide +kernel
theorem dX4_pour_45 : decode cX4_pour 45 = .ok (.iload_n 2, 1) := by decide +kernel
theorem dX4_pour_46 : decode cX4_pour 46 = .ok (.if_icmp .lt 14, 3) := by decide +kernel
theorem dX4_pour_49 : decode cX4_pour 49 = .ok (.aload_n 0, 1) := by decide +kernel
theorem dX4_pour_50 : decode cX4_pour 50 = .ok (.getfield 25, 3) := by decide +kernel
theorem dX4_pour_53 : decode cX4_pour 53 = .ok (.iload_n 3, 1) := by decide +kernel
theorem dX4_pour_54 : decode cX4_pour 54 = .ok (.iconst 1, 1) := by decide +kernel
theorem dX4_pour_55 : decode cX4_pour 55 = .ok (.iadd, 1) := by decide +kernel
theorem dX4_pour_56 : decode cX4_pour 56 = .ok (.iaload, 1) := by decide +kernel
theorem dX4_pour_57 : decode cX4_pour 57 = .ok (.ifCond .ne 9, 3) := by decide +kernel
theorem dX4_pour_60 : decode cX4_pour 60 = .ok (.aload_n 0, 1) := by decide +kernel
theorem dX4_pour_61 : decode cX4_pour 61 = .ok (.iconst 3, 1) := by decide +kernel
theorem dX4_pour_62 : decode cX4_pour 62 = .ok (.invokevirtual 45, 3) := by decide +kernel
theorem dX4_pour_65 : decode cX4_pour 65 = .ok (.ireturn, 1) := by decide +kernel
theorem dX4_pour_66 : decode cX4_pour 66 = .ok (.aload_n 0, 1) := by decide +kernel
theorem dX4_pour_67 : decode cX4_pour 67 = .ok (.iload_n 1, 1) := by decide +kernel
theorem dX4_pour_68 : decode cX4_pour 68 = .ok (.iload_n 2, 1) := by decide +kernel
theorem dX4_pour_69 : decode cX4_pour 69 = .ok (.invokevirtual 74, 3) := by decide +kernel
theorem dX4_pour_72 : decode cX4_pour 72 = .ok (.istore 4, 2) := by decide +kernel
theorem dX4_pour_74 : decode cX4_pour 74 = .ok (.aload_n 0, 1) := by decide +kernel
theorem dX4_pour_75 : decode cX4_pour 75 = .ok (.getfield 7, 3) := by decide +kernel
theorem dX4_pour_78 : decode cX4_pour 78 = .ok (.iconst 2, 1) := by decide +kernel
theorem dX4_pour_79 : decode cX4_pour 79 = .ok (.dup2, 1) := by decide +kernel
theorem dX4_pour_80 : decode cX4_pour 80 = .ok (.iaload, 1) := by decide +kernel
theorem dX4_pour_81 : decode cX4_pour 81 = .ok (.iload_n 2, 1) := by decide +kernel
theorem dX4_pour_82 : decode cX4_pour 82 = .ok (.isub, 1) := by decide +kernel
theorem dX4_pour_83 : decode cX4_pour 83 = .ok (.iastore, 1) := by decide +kernel
theorem dX4_pour_84 : decode cX4_pour 84 = .ok (.aload_n 0, 1) := by decide +kernel
theorem dX4_pour_85 : decode cX4_pour 85 = .ok (.getfield 7, 3) := by decide +kernel
theorem dX4_pour_88 : decode cX4_pour 88 = .ok (.aload_n 0, 1) := by decide +kernel
theorem dX4_pour_89 : decode cX4_pour 89 = .ok (.iload_n 1, 1) := by decide +kernel
theorem dX4_pour_90 : decode cX4_pour 90 = .ok (.invokevirtual 71, 3) := by decide +kernel
theorem dX4_pour_93 : decode cX4_pour 93 = .ok (.iconst 1, 1) := by decide +kernel
theorem dX4_pour_94 : decode cX4_pour 94 = .ok (.if_icmp .ne 7, 3) := by decide +kernel
theorem dX4_pour_97 : decode cX4_pour 97 = .ok (.iconst 3, 1) := by decide +kernel
theorem dX4_pour_98 : decode cX4_pour 98 = .ok (.goto 4, 3) := by decide +kernel
theorem dX4_pour_101 : decode cX4_pour 101 = .ok (.iconst 4, 1) := by decide +kernel
theorem dX4_pour_102 : decode cX4_pour 102 = .ok (.dup2, 1) := by decide +kernel
theorem dX4_pour_103 : decode cX4_pour 103 = .ok (.iaload, 1) := by decide +kernel
theorem dX4_pour_104 : decode cX4_pour 104 = .ok (.iload 4, 2) := by decide +kernel
theorem dX4_pour_106 : decode cX4_pour 106 = .ok (.iadd, 1) := by decide +kernel
theorem dX4_pour_107 : decode cX4_pour 107 = .ok (.iastore, 1) := by decide +kernel
theorem dX4_pour_108 : decode cX4_pour 108 = .ok (.iconst 0, 1) := by decide +kernel
theorem dX4_pour_109 : decode cX4_pour 109 = .ok (.istore 5, 2) := by decide +kernel
theorem dX4_pour_111 : decode cX4_pour 111 = .ok (.iload 5, 2) := by decide +kernel
theorem dX4_pour_113 : decode cX4_pour 113 = .ok (.iconst 3, 1) := by decide +kernel
theorem dX4_pour_114 : decode cX4_pour 114 = .ok (.if_icmp .ge 19, 3) := by decide +kernel
theorem dX4_pour_117 : decode cX4_pour 117 = .ok (.aload_n 0, 1) := by decide +kernel
theorem dX4_pour_118 : decode cX4_pour 118 = .ok (.getfield 25, 3) := by decide +kernel
theorem dX4_pour_121 : decode cX4_pour 121 = .ok (.iload_n 3, 1) := by decide +kernel
theorem dX4_pour_122 : decode cX4_pour 122 = .ok (.iload 5, 2) := by decide +kernel
theorem dX4_pour_124 : decode cX4_pour 124 = .ok (.iadd, 1) := by decide +kernel
theorem dX4_pour_125 : decode cX4_pour 125 = .ok (.iconst 0, 1) := by decide +kernel
theorem dX4_pour_126 : decode cX4_pour 126 = .ok (.iastore, 1) := by decide +kernel
theorem dX4_pour_127 : decode cX4_pour 127 = .ok (.iinc 5 1, 3) := by decide +kernel
theorem dX4_pour_130 : decode cX4_pour 130 = .ok (.goto (-19), 3) := by decide +kernel
theorem dX4_pour_133 : decode cX4_pour 133 = .ok (.iload 4, 2) := by decide +kernel
theorem dX4_pour_135 : decode cX4_pour 135 = .ok (.ireturn, 1) := by decide +kernel
theorem dX4_clamp_0 : decode cX4_clamp 0 = .ok (.aload_n 0, 1) := by decide +kernel
theorem dX4_clamp_1 : decode cX4_clamp 1 = .ok (.iconst 0, 1) := by decide +kernel
theorem dX4_clamp_2 : decode cX4_clamp 2 = .ok (.putfield 28, 3) := by decide +kernel
theorem dX4_clamp_5 : decode cX4_clamp 5 = .ok (.aload_n 0, 1) := by decide +kernel
theorem dX4_clamp_6 : decode cX4_clamp 6 = .ok (.iload_n 1, 1) := by decide +kernel
theorem dX4_clamp_7 : decode cX4_clamp 7 = .ok (.invokevirtual 55, 3) := by decide +kernel
theorem dX4_clamp_10 : decode cX4_clamp 10 = .ok (.ifCond .eq 25, 3) := by decide +kernel
theorem dX4_clamp_13 : decode cX4_clamp 13 = .ok (.iload_n 2, 1) := by decide +kernel
theorem dX4_clamp_14 : decode cX4_clamp 14 = .ok (.iconst 0, 1) := by decide +kernel
theorem dX4_clamp_15 : decode cX4_clamp 15 = .ok (.iconst 3, 1) := by decide +kernel
theorem dX4_clamp_16 : decode cX4_clamp 16 = .ok (.invokestatic 35, 3) := by decide +kernel
theorem dX4_clamp_19 : decode cX4_clamp 19 = .ok (.ifCond .eq 16, 3) := by decide +kernel
theorem dX4_clamp_22 : decode cX4_clamp 22 = .ok (.aload_n 0, 1) := by decide +kernel
theorem dX4_clamp_23 : decode cX4_clamp 23 = .ok (.getfield 19, 3) := by decide +kernel
theorem dX4_clamp_26 : decode cX4_clamp 26 = .ok (.iconst 4, 1) := by decide +kernel
theorem dX4_clamp_27 : decode cX4_clamp 27 = .ok (.iload_n 1, 1) := by decide +kernel
theorem dX4_clamp_28 : decode cX4_clamp 28 = .ok (.imul, 1) := by decide +kernel
theorem dX4_clamp_29 : decode cX4_clamp 29 = .ok (.iload_n 2, 1) := by decide +kernel
theorem dX4_clamp_30 : decode cX4_clamp 30 = .ok (.iadd, 1) := by decide +kernel
theorem dX4_clamp_31 : decode cX4_clamp 31 = .ok (.iaload, 1) := by decide +kernel
theorem dX4_clamp_32 : decode cX4_clamp 32 = .ok (.goto 8, 3) := by decide +kernel
theorem dX4_clamp_35 : decode cX4_clamp 35 = .ok (.aload_n 0, 1) := by decide +kernel
theorem dX4_clamp_36 : decode cX4_clamp 36 = .ok (.iconst 1, 1) := by decide +kernel
theorem dX4_clamp_37 : decode cX4_clamp 37 = .ok (.invokevirtual 45, 3) := by decide +kernel
theorem dX4_clamp_40 : decode cX4_clamp 40 = .ok (.ireturn, 1) := by decide +kernel
theorem dX4_told_0 : decode cX4_told 0 = .ok (.iload_n 2, 1) := by decide +kernel
theorem dX4_told_1 : decode cX4_told 1 = .ok (.ifCond .ne 7, 3) := by decide +kernel
theorem dX4_told_4 : decode cX4_told 4 = .ok (.iload_n 0, 1) := by decide +kernel
theorem dX4_told_5 : decode cX4_told 5 = .ok (.goto 33, 3) := by decide +kernel
theorem dX4_told_8 : decode cX4_told 8 = .ok (.iload_n 2, 1) := by decide +kernel
theorem dX4_told_9 : decode cX4_told 9 = .ok (.iconst 1, 1) := by decide +kernel
theorem dX4_told_10 : decode cX4_told 10 = .ok (.if_icmp .ne 7, 3) := by decide +kernel
theorem dX4_told_13 : decode cX4_told 13 = .ok (.iload_n 1, 1) := by decide +kernel
theorem dX4_told_14 : decode cX4_told 14 = .ok (.goto 24, 3) := by decide +kernel
theorem dX4_told_17 : decode cX4_told 17 = .ok (.iload_n 2, 1) := by decide +kernel
theorem dX4_told_18 : decode cX4_told 18 = .ok (.iconst 2, 1) := by decide +kernel
theorem dX4_told_19 : decode cX4_told 19 = .ok (.if_icmp .ne 11, 3) := by decide +kernel
theorem dX4_told_22 : decode cX4_told 22 = .ok (.iload_n 0, 1) := by decide +kernel
theorem dX4_told_23 : decode cX4_told 23 = .ok (.iload_n 1, 1) := by decide +kernel
theorem dX4_told_24 : decode cX4_told 24 = .ok (.invokestatic 65, 3) := by decide +kernel
theorem dX4_told_27 : decode cX4_told 27 = .ok (.goto 11, 3) := by decide +kernel
theorem dX4_told_30 : decode cX4_told 30 = .ok (.iload_n 0, 1) := by decide +kernel
theorem dX4_told_31 : decode cX4_told 31 = .ok (.iload_n 1, 1) := by decide +kernel
theorem dX4_told_32 : decode cX4_told 32 = .ok (.invokestatic 65, 3) := by decide +kernel
theorem dX4_told_35 : decode cX4_told 35 = .ok (.invokestatic 68, 3) := by decide +kernel
theorem dX4_told_38 : decode cX4_told 38 = .ok (.ireturn, 1) := by decide +kernel
theorem dX4_pitTold_0 : decode cX4_pitTold 0 = .ok (.aload_n 0, 1) := by decide +kernel
theorem dX4_pitTold_1 : decode cX4_pitTold 1 = .ok (.getfield 22, 3) := by decide +kernel
theorem dX4_pitTold_4 : decode cX4_pitTold 4 = .ok (.iconst 2, 1) := by decide +kernel
theorem dX4_pitTold_5 : decode cX4_pitTold 5 = .ok (.iload_n 1, 1) := by decide +kernel
theorem dX4_pitTold_6 : decode cX4_pitTold 6 = .ok (.imul, 1) := by decide +kernel
theorem dX4_pitTold_7 : decode cX4_pitTold 7 = .ok (.iaload, 1) := by decide +kernel
theorem dX4_pitTold_8 : decode cX4_pitTold 8 = .ok (.aload_n 0, 1) := by decide +kernel
theorem dX4_pitTold_9 : decode cX4_pitTold 9 = .ok (.getfield 22, 3) := by decide +kernel
theorem dX4_pitTold_12 : decode cX4_pitTold 12 = .ok (.iconst 2, 1) := by decide +kernel
theorem dX4_pitTold_13 : decode cX4_pitTold 13 = .ok (.iload_n 1, 1) := by decide +kernel
theorem dX4_pitTold_14 : decode cX4_pitTold 14 = .ok (.imul, 1) := by decide +kernel
theorem dX4_pitTold_15 : decode cX4_pitTold 15 = .ok (.iconst 1, 1) := by decide +kernel
theorem dX4_pitTold_16 : decode cX4_pitTold 16 = .ok (.iadd, 1) := by decide +kernel
theorem dX4_pitTold_17 : decode cX4_pitTold 17 = .ok (.iaload, 1) := by decide +kernel
theorem dX4_pitTold_18 : decode cX4_pitTold 18 = .ok (.iload_n 2, 1) := by decide +kernel
theorem dX4_pitTold_19 : decode cX4_pitTold 19 = .ok (.invokestatic 77, 3) := by decide +kernel
theorem dX4_pitTold_22 : decode cX4_pitTold 22 = .ok (.ireturn, 1) := by decide +kernel
theorem dX4_panTold_0 : decode cX4_panTold 0 = .ok (.iload_n 2, 1) := by decide +kernel
theorem dX4_panTold_1 : decode cX4_panTold 1 = .ok (.iconst 4, 1) := by decide +kernel
theorem dX4_panTold_2 : decode cX4_panTold 2 = .ok (.if_icmp .ne 16, 3) := by decide +kernel
theorem dX4_panTold_5 : decode cX4_panTold 5 = .ok (.aload_n 0, 1) := by decide +kernel
theorem dX4_panTold_6 : decode cX4_panTold 6 = .ok (.getfield 25, 3) := by decide +kernel
theorem dX4_panTold_9 : decode cX4_panTold 9 = .ok (.iconst 3, 1) := by decide +kernel
theorem dX4_panTold_10 : decode cX4_panTold 10 = .ok (.iload_n 1, 1) := by decide +kernel
theorem dX4_panTold_11 : decode cX4_panTold 11 = .ok (.imul, 1) := by decide +kernel
theorem dX4_panTold_12 : decode cX4_panTold 12 = .ok (.iconst 2, 1) := by decide +kernel
theorem dX4_panTold_13 : decode cX4_panTold 13 = .ok (.iadd, 1) := by decide +kernel
theorem dX4_panTold_14 : decode cX4_panTold 14 = .ok (.iaload, 1) := by decide +kernel
theorem dX4_panTold_15 : decode cX4_panTold 15 = .ok (.goto 25, 3) := by decide +kernel
theorem dX4_panTold_18 : decode cX4_panTold 18 = .ok (.aload_n 0, 1) := by decide +kernel
theorem dX4_panTold_19 : decode cX4_panTold 19 = .ok (.getfield 25, 3) := by decide +kernel
theorem dX4_panTold_22 : decode cX4_panTold 22 = .ok (.iconst 3, 1) := by decide +kernel
theorem dX4_panTold_23 : decode cX4_panTold 23 = .ok (.iload_n 1, 1) := by decide +kernel
theorem dX4_panTold_24 : decode cX4_panTold 24 = .ok (.imul, 1) := by decide +kernel
theorem dX4_panTold_25 : decode cX4_panTold 25 = .ok (.iaload, 1) := by decide +kernel
theorem dX4_panTold_26 : decode cX4_panTold 26 = .ok (.aload_n 0, 1) := by decide +kernel
theorem dX4_panTold_27 : decode cX4_panTold 27 = .ok (.getfield 25, 3) := by decide +kernel
theorem dX4_panTold_30 : decode cX4_panTold 30 = .ok (.iconst 3, 1) := by decide +kernel
theorem dX4_panTold_31 : decode cX4_panTold 31 = .ok (.iload_n 1, 1) := by decide +kernel
theorem dX4_panTold_32 : decode cX4_panTold 32 = .ok (.imul, 1) := by decide +kernel
theorem dX4_panTold_33 : decode cX4_panTold 33 = .ok (.iconst 1, 1) := by decide +kernel
theorem dX4_panTold_34 : decode cX4_panTold 34 = .ok (.iadd, 1) := by decide +kernel
theorem dX4_panTold_35 : decode cX4_panTold 35 = .ok (.iaload, 1) := by decide +kernel
theorem dX4_panTold_36 : decode cX4_panTold 36 = .ok (.iload_n 2, 1) := by decide +kernel
theorem dX4_panTold_37 : decode cX4_panTold 37 = .ok (.invokestatic 77, 3) := by decide +kernel
theorem dX4_panTold_40 : decode cX4_panTold 40 = .ok (.ireturn, 1) := by decide +kernel
theorem dX4_pit_0 : decode cX4_pit 0 = .ok (.aload_n 0, 1) := by decide +kernel
theorem dX4_pit_1 : decode cX4_pit 1 = .ok (.iconst 0, 1) := by decide +kernel
theorem dX4_pit_2 : decode cX4_pit 2 = .ok (.putfield 28, 3) := by decide +kernel
theorem dX4_pit_5 : decode cX4_pit 5 = .ok (.aload_n 0, 1) := by decide +kernel
theorem dX4_pit_6 : decode cX4_pit 6 = .ok (.iload_n 1, 1) := by decide +kernel
theorem dX4_pit_7 : decode cX4_pit 7 = .ok (.invokevirtual 59, 3) := by decide +kernel
theorem dX4_pit_10 : decode cX4_pit 10 = .ok (.ifCond .eq 21, 3) := by decide +kernel
theorem dX4_pit_13 : decode cX4_pit 13 = .ok (.iload_n 2, 1) := by decide +kernel
theorem dX4_pit_14 : decode cX4_pit 14 = .ok (.iconst 0, 1) := by decide +kernel
theorem dX4_pit_15 : decode cX4_pit 15 = .ok (.iconst 3, 1) := by decide +kernel
theorem dX4_pit_16 : decode cX4_pit 16 = .ok (.invokestatic 35, 3) := by decide +kernel
theorem dX4_pit_19 : decode cX4_pit 19 = .ok (.ifCond .eq 12, 3) := by decide +kernel
theorem dX4_pit_22 : decode cX4_pit 22 = .ok (.aload_n 0, 1) := by decide +kernel
theorem dX4_pit_23 : decode cX4_pit 23 = .ok (.iload_n 1, 1) := by decide +kernel
theorem dX4_pit_24 : decode cX4_pit 24 = .ok (.iload_n 2, 1) := by decide +kernel
theorem dX4_pit_25 : decode cX4_pit 25 = .ok (.invokevirtual 81, 3) := by decide +kernel
theorem dX4_pit_28 : decode cX4_pit 28 = .ok (.goto 8, 3) := by decide +kernel
theorem dX4_pit_31 : decode cX4_pit 31 = .ok (.aload_n 0, 1) := by decide +kernel
theorem dX4_pit_32 : decode cX4_pit 32 = .ok (.iconst 1, 1) := by decide +kernel
theorem dX4_pit_33 : decode cX4_pit 33 = .ok (.invokevirtual 45, 3) := by decide +kernel
theorem dX4_pit_36 : decode cX4_pit 36 = .ok (.ireturn, 1) := by decide +kernel
theorem dX4_about_0 : decode cX4_about 0 = .ok (.aload_n 0, 1) := by decide +kernel
theorem dX4_about_1 : decode cX4_about 1 = .ok (.iconst 0, 1) := by decide +kernel
theorem dX4_about_2 : decode cX4_about 2 = .ok (.putfield 28, 3) := by decide +kernel
theorem dX4_about_5 : decode cX4_about 5 = .ok (.aload_n 0, 1) := by decide +kernel
theorem dX4_about_6 : decode cX4_about 6 = .ok (.iload_n 1, 1) := by decide +kernel
theorem dX4_about_7 : decode cX4_about 7 = .ok (.invokevirtual 62, 3) := by decide +kernel
theorem dX4_about_10 : decode cX4_about 10 = .ok (.ifCond .eq 21, 3) := by decide +kernel
theorem dX4_about_13 : decode cX4_about 13 = .ok (.iload_n 2, 1) := by decide +kernel
theorem dX4_about_14 : decode cX4_about 14 = .ok (.iconst 0, 1) := by decide +kernel
theorem dX4_about_15 : decode cX4_about 15 = .ok (.iconst 4, 1) := by decide +kernel
theorem dX4_about_16 : decode cX4_about 16 = .ok (.invokestatic 35, 3) := by decide +kernel
theorem dX4_about_19 : decode cX4_about 19 = .ok (.ifCond .eq 12, 3) := by decide +kernel
theorem dX4_about_22 : decode cX4_about 22 = .ok (.aload_n 0, 1) := by decide +kernel
theorem dX4_about_23 : decode cX4_about 23 = .ok (.iload_n 1, 1) := by decide +kernel
theorem dX4_about_24 : decode cX4_about 24 = .ok (.iload_n 2, 1) := by decide +kernel
theorem dX4_about_25 : decode cX4_about 25 = .ok (.invokevirtual 84, 3) := by decide +kernel
theorem dX4_about_28 : decode cX4_about 28 = .ok (.goto 8, 3) := by decide +kernel
theorem dX4_about_31 : decode cX4_about 31 = .ok (.aload_n 0, 1) := by decide +kernel
theorem dX4_about_32 : decode cX4_about 32 = .ok (.iconst 1, 1) := by decide +kernel
theorem dX4_about_33 : decode cX4_about 33 = .ok (.invokevirtual 45, 3) := by decide +kernel
theorem dX4_about_36 : decode cX4_about 36 = .ok (.ireturn, 1) := by decide +kernel
theorem dX4_rain_0 : decode cX4_rain 0 = .ok (.aload_n 0, 1) := by decide +kernel
theorem dX4_rain_1 : decode cX4_rain 1 = .ok (.getfield 13, 3) := by decide +kernel
theorem dX4_rain_4 : decode cX4_rain 4 = .ok (.aload_n 0, 1) := by decide +kernel
theorem dX4_rain_5 : decode cX4_rain 5 = .ok (.getfield 7, 3) := by decide +kernel
theorem dX4_rain_8 : decode cX4_rain 8 = .ok (.iconst 0, 1) := by decide +kernel
theorem dX4_rain_9 : decode cX4_rain 9 = .ok (.iaload, 1) := by decide +kernel
theorem dX4_rain_10 : decode cX4_rain 10 = .ok (.bipush 6, 2) := by decide +kernel
theorem dX4_rain_12 : decode cX4_rain 12 = .ok (.irem, 1) := by decide +kernel
theorem dX4_rain_13 : decode cX4_rain 13 = .ok (.iaload, 1) := by decide +kernel
theorem dX4_rain_14 : decode cX4_rain 14 = .ok (.ireturn, 1) := by decide +kernel
theorem dX4_counted_0 : decode cX4_counted 0 = .ok (.iconst 0, 1) := by decide +kernel
theorem dX4_counted_1 : decode cX4_counted 1 = .ok (.istore_n 2, 1) := by decide +kernel
theorem dX4_counted_2 : decode cX4_counted 2 = .ok (.iload_n 1, 1) := by decide +kernel
theorem dX4_counted_3 : decode cX4_counted 3 = .ok (.tableswitch 164 0 9 #[53, 60, 164, 164, 164, 164, 164, 65, 96, 156], 53) := by decide +kernel
theorem dX4_counted_56 : decode cX4_counted 56 = .ok (.aload_n 0, 1) := by decide +kernel
theorem dX4_counted_57 : decode cX4_counted 57 = .ok (.getfield 7, 3) := by decide +kernel
theorem dX4_counted_60 : decode cX4_counted 60 = .ok (.iconst 0, 1) := by decide +kernel
theorem dX4_counted_61 : decode cX4_counted 61 = .ok (.iaload, 1) := by decide +kernel
theorem dX4_counted_62 : decode cX4_counted 62 = .ok (.ireturn, 1) := by decide +kernel
theorem dX4_counted_63 : decode cX4_counted 63 = .ok (.aload_n 0, 1) := by decide +kernel
theorem dX4_counted_64 : decode cX4_counted 64 = .ok (.invokevirtual 87, 3) := by decide +kernel
theorem dX4_counted_67 : decode cX4_counted 67 = .ok (.ireturn, 1) := by decide +kernel
theorem dX4_counted_68 : decode cX4_counted 68 = .ok (.iconst 0, 1) := by decide +kernel
theorem dX4_counted_69 : decode cX4_counted 69 = .ok (.istore_n 3, 1) := by decide +kernel
theorem dX4_counted_70 : decode cX4_counted 70 = .ok (.iload_n 3, 1) := by decide +kernel
theorem dX4_counted_71 : decode cX4_counted 71 = .ok (.aload_n 0, 1) := by decide +kernel
theorem dX4_counted_72 : decode cX4_counted 72 = .ok (.getfield 32, 3) := by decide +kernel
theorem dX4_counted_75 : decode cX4_counted 75 = .ok (.if_icmp .ge 22, 3) := by decide +kernel
theorem dX4_counted_78 : decode cX4_counted 78 = .ok (.iload_n 2, 1) := by decide +kernel
theorem dX4_counted_79 : decode cX4_counted 79 = .ok (.aload_n 0, 1) := by decide +kernel
theorem dX4_counted_80 : decode cX4_counted 80 = .ok (.getfield 19, 3) := by decide +kernel
theorem dX4_counted_83 : decode cX4_counted 83 = .ok (.iconst 4, 1) := by decide +kernel
theorem dX4_counted_84 : decode cX4_counted 84 = .ok (.iload_n 3, 1) := by decide +kernel
theorem dX4_counted_85 : decode cX4_counted 85 = .ok (.imul, 1) := by decide +kernel
theorem dX4_counted_86 : decode cX4_counted 86 = .ok (.iconst 3, 1) := by decide +kernel
theorem dX4_counted_87 : decode cX4_counted 87 = .ok (.iadd, 1) := by decide +kernel
theorem dX4_counted_88 : decode cX4_counted 88 = .ok (.iaload, 1) := by decide +kernel
theorem dX4_counted_89 : decode cX4_counted 89 = .ok (.iadd, 1) := by decide +kernel
theorem dX4_counted_90 : decode cX4_counted 90 = .ok (.istore_n 2, 1) := by decide +kernel
theorem dX4_counted_91 : decode cX4_counted 91 = .ok (.iinc 3 1, 3) := by decide +kernel
theorem dX4_counted_94 : decode cX4_counted 94 = .ok (.goto (-24), 3) := by decide +kernel
theorem dX4_counted_97 : decode cX4_counted 97 = .ok (.iload_n 2, 1) := by decide +kernel
theorem dX4_counted_98 : decode cX4_counted 98 = .ok (.ireturn, 1) := by decide +kernel
theorem dX4_counted_99 : decode cX4_counted 99 = .ok (.iconst 0, 1) := by decide +kernel
theorem dX4_counted_100 : decode cX4_counted 100 = .ok (.istore_n 3, 1) := by decide +kernel
theorem dX4_counted_101 : decode cX4_counted 101 = .ok (.iload_n 3, 1) := by decide +kernel
theorem dX4_counted_102 : decode cX4_counted 102 = .ok (.aload_n 0, 1) := by decide +kernel
theorem dX4_counted_103 : decode cX4_counted 103 = .ok (.getfield 39, 3) := by decide +kernel
theorem dX4_counted_106 : decode cX4_counted 106 = .ok (.if_icmp .ge 22, 3) := by decide +kernel
theorem dX4_counted_109 : decode cX4_counted 109 = .ok (.iload_n 2, 1) := by decide +kernel
theorem dX4_counted_110 : decode cX4_counted 110 = .ok (.aload_n 0, 1) := by decide +kernel
theorem dX4_counted_111 : decode cX4_counted 111 = .ok (.getfield 22, 3) := by decide +kernel
theorem dX4_counted_114 : decode cX4_counted 114 = .ok (.iconst 2, 1) := by decide +kernel
theorem dX4_counted_115 : decode cX4_counted 115 = .ok (.iload_n 3, 1) := by decide +kernel
theorem dX4_counted_116 : decode cX4_counted 116 = .ok (.imul, 1) := by decide +kernel
theorem dX4_counted_117 : decode cX4_counted 117 = .ok (.iconst 1, 1) := by decide +kernel
theorem dX4_counted_118 : decode cX4_counted 118 = .ok (.iadd, 1) := by decide +kernel
theorem dX4_counted_119 : decode cX4_counted 119 = .ok (.iaload, 1) := by decide +kernel
theorem dX4_counted_120 : decode cX4_counted 120 = .ok (.iadd, 1) := by decide +kernel
theorem dX4_counted_121 : decode cX4_counted 121 = .ok (.istore_n 2, 1) := by decide +kernel
theorem dX4_counted_122 : decode cX4_counted 122 = .ok (.iinc 3 1, 3) := by decide +kernel
theorem dX4_counted_125 : decode cX4_counted 125 = .ok (.goto (-24), 3) := by decide +kernel
theorem dX4_counted_128 : decode cX4_counted 128 = .ok (.iconst 0, 1) := by decide +kernel
theorem dX4_counted_129 : decode cX4_counted 129 = .ok (.istore_n 3, 1) := by decide +kernel
theorem dX4_counted_130 : decode cX4_counted 130 = .ok (.iload_n 3, 1) := by decide +kernel
theorem dX4_counted_131 : decode cX4_counted 131 = .ok (.aload_n 0, 1) := by decide +kernel
theorem dX4_counted_132 : decode cX4_counted 132 = .ok (.getfield 42, 3) := by decide +kernel
theorem dX4_counted_135 : decode cX4_counted 135 = .ok (.if_icmp .ge 22, 3) := by decide +kernel
theorem dX4_counted_138 : decode cX4_counted 138 = .ok (.iload_n 2, 1) := by decide +kernel
theorem dX4_counted_139 : decode cX4_counted 139 = .ok (.aload_n 0, 1) := by decide +kernel
theorem dX4_counted_140 : decode cX4_counted 140 = .ok (.getfield 25, 3) := by decide +kernel
theorem dX4_counted_143 : decode cX4_counted 143 = .ok (.iconst 3, 1) := by decide +kernel
theorem dX4_counted_144 : decode cX4_counted 144 = .ok (.iload_n 3, 1) := by decide +kernel
theorem dX4_counted_145 : decode cX4_counted 145 = .ok (.imul, 1) := by decide +kernel
theorem dX4_counted_146 : decode cX4_counted 146 = .ok (.iconst 1, 1) := by decide +kernel
theorem dX4_counted_147 : decode cX4_counted 147 = .ok (.iadd, 1) := by decide +kernel
theorem dX4_counted_148 : decode cX4_counted 148 = .ok (.iaload, 1) := by decide +kernel
theorem dX4_counted_149 : decode cX4_counted 149 = .ok (.iadd, 1) := by decide +kernel
theorem dX4_counted_150 : decode cX4_counted 150 = .ok (.istore_n 2, 1) := by decide +kernel
theorem dX4_counted_151 : decode cX4_counted 151 = .ok (.iinc 3 1, 3) := by decide +kernel
theorem dX4_counted_154 : decode cX4_counted 154 = .ok (.goto (-24), 3) := by decide +kernel
theorem dX4_counted_157 : decode cX4_counted 157 = .ok (.iload_n 2, 1) := by decide +kernel
theorem dX4_counted_158 : decode cX4_counted 158 = .ok (.ireturn, 1) := by decide +kernel
theorem dX4_counted_159 : decode cX4_counted 159 = .ok (.aload_n 0, 1) := by decide +kernel
theorem dX4_counted_160 : decode cX4_counted 160 = .ok (.getfield 7, 3) := by decide +kernel
theorem dX4_counted_163 : decode cX4_counted 163 = .ok (.bipush 6, 2) := by decide +kernel
theorem dX4_counted_165 : decode cX4_counted 165 = .ok (.iaload, 1) := by decide +kernel
theorem dX4_counted_166 : decode cX4_counted 166 = .ok (.ireturn, 1) := by decide +kernel
theorem dX4_counted_167 : decode cX4_counted 167 = .ok (.aload_n 0, 1) := by decide +kernel
theorem dX4_counted_168 : decode cX4_counted 168 = .ok (.getfield 7, 3) := by decide +kernel
theorem dX4_counted_171 : decode cX4_counted 171 = .ok (.iload_n 1, 1) := by decide +kernel
theorem dX4_counted_172 : decode cX4_counted 172 = .ok (.iconst 1, 1) := by decide +kernel
theorem dX4_counted_173 : decode cX4_counted 173 = .ok (.isub, 1) := by decide +kernel
theorem dX4_counted_174 : decode cX4_counted 174 = .ok (.iaload, 1) := by decide +kernel
theorem dX4_counted_175 : decode cX4_counted 175 = .ok (.ireturn, 1) := by decide +kernel
theorem dX4_count_0 : decode cX4_count 0 = .ok (.aload_n 0, 1) := by decide +kernel
theorem dX4_count_1 : decode cX4_count 1 = .ok (.iconst 0, 1) := by decide +kernel
theorem dX4_count_2 : decode cX4_count 2 = .ok (.putfield 28, 3) := by decide +kernel
theorem dX4_count_5 : decode cX4_count 5 = .ok (.iload_n 1, 1) := by decide +kernel
theorem dX4_count_6 : decode cX4_count 6 = .ok (.iconst 0, 1) := by decide +kernel
theorem dX4_count_7 : decode cX4_count 7 = .ok (.bipush 9, 2) := by decide +kernel
theorem dX4_count_9 : decode cX4_count 9 = .ok (.invokestatic 35, 3) := by decide +kernel
theorem dX4_count_12 : decode cX4_count 12 = .ok (.ifCond .eq 11, 3) := by decide +kernel
theorem dX4_count_15 : decode cX4_count 15 = .ok (.aload_n 0, 1) := by decide +kernel
theorem dX4_count_16 : decode cX4_count 16 = .ok (.iload_n 1, 1) := by decide +kernel
theorem dX4_count_17 : decode cX4_count 17 = .ok (.invokevirtual 91, 3) := by decide +kernel
theorem dX4_count_20 : decode cX4_count 20 = .ok (.goto 8, 3) := by decide +kernel
theorem dX4_count_23 : decode cX4_count 23 = .ok (.aload_n 0, 1) := by decide +kernel
theorem dX4_count_24 : decode cX4_count 24 = .ok (.iconst 1, 1) := by decide +kernel
theorem dX4_count_25 : decode cX4_count 25 = .ok (.invokevirtual 45, 3) := by decide +kernel
theorem dX4_count_28 : decode cX4_count 28 = .ok (.ireturn, 1) := by decide +kernel
theorem dX4_burn_0 : decode cX4_burn 0 = .ok (.aload_n 0, 1) := by decide +kernel
theorem dX4_burn_1 : decode cX4_burn 1 = .ok (.getfield 19, 3) := by decide +kernel
theorem dX4_burn_4 : decode cX4_burn 4 = .ok (.iload_n 1, 1) := by decide +kernel
theorem dX4_burn_5 : decode cX4_burn 5 = .ok (.iconst 3, 1) := by decide +kernel
theorem dX4_burn_6 : decode cX4_burn 6 = .ok (.iadd, 1) := by decide +kernel
theorem dX4_burn_7 : decode cX4_burn 7 = .ok (.iaload, 1) := by decide +kernel
theorem dX4_burn_8 : decode cX4_burn 8 = .ok (.ifCond .ne 4, 3) := by decide +kernel
theorem dX4_burn_11 : decode cX4_burn 11 = .ok (.return_, 1) := by decide +kernel
theorem dX4_burn_12 : decode cX4_burn 12 = .ok (.aload_n 0, 1) := by decide +kernel
theorem dX4_burn_13 : decode cX4_burn 13 = .ok (.getfield 19, 3) := by decide +kernel
theorem dX4_burn_16 : decode cX4_burn 16 = .ok (.iload_n 1, 1) := by decide +kernel
theorem dX4_burn_17 : decode cX4_burn 17 = .ok (.iaload, 1) := by decide +kernel
theorem dX4_burn_18 : decode cX4_burn 18 = .ok (.aload_n 0, 1) := by decide +kernel
theorem dX4_burn_19 : decode cX4_burn 19 = .ok (.invokevirtual 87, 3) := by decide +kernel
theorem dX4_burn_22 : decode cX4_burn 22 = .ok (.iconst 5, 1) := by decide +kernel
theorem dX4_burn_23 : decode cX4_burn 23 = .ok (.if_icmp .ge 8, 3) := by decide +kernel
theorem dX4_burn_26 : decode cX4_burn 26 = .ok (.bipush 8, 2) := by decide +kernel
theorem dX4_burn_28 : decode cX4_burn 28 = .ok (.goto 4, 3) := by decide +kernel
theorem dX4_burn_31 : decode cX4_burn 31 = .ok (.iconst 4, 1) := by decide +kernel
theorem dX4_burn_32 : decode cX4_burn 32 = .ok (.invokestatic 49, 3) := by decide +kernel
theorem dX4_burn_35 : decode cX4_burn 35 = .ok (.istore_n 2, 1) := by decide +kernel
theorem dX4_burn_36 : decode cX4_burn 36 = .ok (.aload_n 0, 1) := by decide +kernel
theorem dX4_burn_37 : decode cX4_burn 37 = .ok (.getfield 19, 3) := by decide +kernel
theorem dX4_burn_40 : decode cX4_burn 40 = .ok (.iload_n 1, 1) := by decide +kernel
theorem dX4_burn_41 : decode cX4_burn 41 = .ok (.dup2, 1) := by decide +kernel
theorem dX4_burn_42 : decode cX4_burn 42 = .ok (.iaload, 1) := by decide +kernel
theorem dX4_burn_43 : decode cX4_burn 43 = .ok (.iload_n 2, 1) := by decide +kernel
theorem dX4_burn_44 : decode cX4_burn 44 = .ok (.isub, 1) := by decide +kernel
theorem dX4_burn_45 : decode cX4_burn 45 = .ok (.iastore, 1) := by decide +kernel
theorem dX4_burn_46 : decode cX4_burn 46 = .ok (.aload_n 0, 1) := by decide +kernel
theorem dX4_burn_47 : decode cX4_burn 47 = .ok (.getfield 19, 3) := by decide +kernel
theorem dX4_burn_50 : decode cX4_burn 50 = .ok (.iload_n 1, 1) := by decide +kernel
theorem dX4_burn_51 : decode cX4_burn 51 = .ok (.iconst 1, 1) := by decide +kernel
theorem dX4_burn_52 : decode cX4_burn 52 = .ok (.iadd, 1) := by decide +kernel
theorem dX4_burn_53 : decode cX4_burn 53 = .ok (.iconst 0, 1) := by decide +kernel
theorem dX4_burn_54 : decode cX4_burn 54 = .ok (.aload_n 0, 1) := by decide +kernel
theorem dX4_burn_55 : decode cX4_burn 55 = .ok (.getfield 19, 3) := by decide +kernel
theorem dX4_burn_58 : decode cX4_burn 58 = .ok (.iload_n 1, 1) := by decide +kernel
theorem dX4_burn_59 : decode cX4_burn 59 = .ok (.iconst 1, 1) := by decide +kernel
theorem dX4_burn_60 : decode cX4_burn 60 = .ok (.iadd, 1) := by decide +kernel
theorem dX4_burn_61 : decode cX4_burn 61 = .ok (.iaload, 1) := by decide +kernel
theorem dX4_burn_62 : decode cX4_burn 62 = .ok (.iconst 2, 1) := by decide +kernel
theorem dX4_burn_63 : decode cX4_burn 63 = .ok (.isub, 1) := by decide +kernel
theorem dX4_burn_64 : decode cX4_burn 64 = .ok (.invokestatic 94, 3) := by decide +kernel
theorem dX4_burn_67 : decode cX4_burn 67 = .ok (.iastore, 1) := by decide +kernel
theorem dX4_burn_68 : decode cX4_burn 68 = .ok (.aload_n 0, 1) := by decide +kernel
theorem dX4_burn_69 : decode cX4_burn 69 = .ok (.getfield 19, 3) := by decide +kernel
theorem dX4_burn_72 : decode cX4_burn 72 = .ok (.iload_n 1, 1) := by decide +kernel
theorem dX4_burn_73 : decode cX4_burn 73 = .ok (.iconst 2, 1) := by decide +kernel
theorem dX4_burn_74 : decode cX4_burn 74 = .ok (.iadd, 1) := by decide +kernel
theorem dX4_burn_75 : decode cX4_burn 75 = .ok (.dup2, 1) := by decide +kernel
theorem dX4_burn_76 : decode cX4_burn 76 = .ok (.iaload, 1) := by decide +kernel
theorem dX4_burn_77 : decode cX4_burn 77 = .ok (.iload_n 2, 1) := by decide +kernel
theorem dX4_burn_78 : decode cX4_burn 78 = .ok (.iadd, 1) := by decide +kernel
theorem dX4_burn_79 : decode cX4_burn 79 = .ok (.iastore, 1) := by decide +kernel
theorem dX4_burn_80 : decode cX4_burn 80 = .ok (.aload_n 0, 1) := by decide +kernel
theorem dX4_burn_81 : decode cX4_burn 81 = .ok (.getfield 19, 3) := by decide +kernel
theorem dX4_burn_84 : decode cX4_burn 84 = .ok (.iload_n 1, 1) := by decide +kernel
theorem dX4_burn_85 : decode cX4_burn 85 = .ok (.iaload, 1) := by decide +kernel
theorem dX4_burn_86 : decode cX4_burn 86 = .ok (.ifCond .eq 14, 3) := by decide +kernel
theorem dX4_burn_89 : decode cX4_burn 89 = .ok (.aload_n 0, 1) := by decide +kernel
theorem dX4_burn_90 : decode cX4_burn 90 = .ok (.getfield 19, 3) := by decide +kernel
theorem dX4_burn_93 : decode cX4_burn 93 = .ok (.iload_n 1, 1) := by decide +kernel
theorem dX4_burn_94 : decode cX4_burn 94 = .ok (.iconst 1, 1) := by decide +kernel
theorem dX4_burn_95 : decode cX4_burn 95 = .ok (.iadd, 1) := by decide +kernel
theorem dX4_burn_96 : decode cX4_burn 96 = .ok (.iaload, 1) := by decide +kernel
theorem dX4_burn_97 : decode cX4_burn 97 = .ok (.ifCond .ne 12, 3) := by decide +kernel
theorem dX4_burn_100 : decode cX4_burn 100 = .ok (.aload_n 0, 1) := by decide +kernel
theorem dX4_burn_101 : decode cX4_burn 101 = .ok (.getfield 19, 3) := by decide +kernel
theorem dX4_burn_104 : decode cX4_burn 104 = .ok (.iload_n 1, 1) := by decide +kernel
theorem dX4_burn_105 : decode cX4_burn 105 = .ok (.iconst 3, 1) := by decide +kernel
theorem dX4_burn_106 : decode cX4_burn 106 = .ok (.iadd, 1) := by decide +kernel
theorem dX4_burn_107 : decode cX4_burn 107 = .ok (.iconst 0, 1) := by decide +kernel
theorem dX4_burn_108 : decode cX4_burn 108 = .ok (.iastore, 1) := by decide +kernel
theorem dX4_burn_109 : decode cX4_burn 109 = .ok (.return_, 1) := by decide +kernel
theorem dX4_cook_0 : decode cX4_cook 0 = .ok (.aload_n 0, 1) := by decide +kernel
theorem dX4_cook_1 : decode cX4_cook 1 = .ok (.getfield 25, 3) := by decide +kernel
theorem dX4_cook_4 : decode cX4_cook 4 = .ok (.iload_n 1, 1) := by decide +kernel
theorem dX4_cook_5 : decode cX4_cook 5 = .ok (.iconst 2, 1) := by decide +kernel
theorem dX4_cook_6 : decode cX4_cook 6 = .ok (.iadd, 1) := by decide +kernel
theorem dX4_cook_7 : decode cX4_cook 7 = .ok (.iaload, 1) := by decide +kernel
theorem dX4_cook_8 : decode cX4_cook 8 = .ok (.ifCond .ne 4, 3) := by decide +kernel
theorem dX4_cook_11 : decode cX4_cook 11 = .ok (.return_, 1) := by decide +kernel
theorem dX4_cook_12 : decode cX4_cook 12 = .ok (.aload_n 0, 1) := by decide +kernel
theorem dX4_cook_13 : decode cX4_cook 13 = .ok (.getfield 7, 3) := by decide +kernel
theorem dX4_cook_16 : decode cX4_cook 16 = .ok (.iconst 1, 1) := by decide +kernel
theorem dX4_cook_17 : decode cX4_cook 17 = .ok (.iaload, 1) := by decide +kernel
theorem dX4_cook_18 : decode cX4_cook 18 = .ok (.iconst 4, 1) := by decide +kernel
theorem dX4_cook_19 : decode cX4_cook 19 = .ok (.if_icmp .lt 12, 3) := by decide +kernel
theorem dX4_cook_22 : decode cX4_cook 22 = .ok (.aload_n 0, 1) := by decide +kernel
theorem dX4_cook_23 : decode cX4_cook 23 = .ok (.getfield 25, 3) := by decide +kernel
theorem dX4_cook_26 : decode cX4_cook 26 = .ok (.iload_n 1, 1) := by decide +kernel
theorem dX4_cook_27 : decode cX4_cook 27 = .ok (.iaload, 1) := by decide +kernel
theorem dX4_cook_28 : decode cX4_cook 28 = .ok (.ifCond .ne 13, 3) := by decide +kernel
theorem dX4_cook_31 : decode cX4_cook 31 = .ok (.aload_n 0, 1) := by decide +kernel
theorem dX4_cook_32 : decode cX4_cook 32 = .ok (.getfield 25, 3) := by decide +kernel
theorem dX4_cook_35 : decode cX4_cook 35 = .ok (.iload_n 1, 1) := by decide +kernel
theorem dX4_cook_36 : decode cX4_cook 36 = .ok (.iconst 2, 1) := by decide +kernel
theorem dX4_cook_37 : decode cX4_cook 37 = .ok (.iadd, 1) := by decide +kernel
theorem dX4_cook_38 : decode cX4_cook 38 = .ok (.iconst 0, 1) := by decide +kernel
theorem dX4_cook_39 : decode cX4_cook 39 = .ok (.iastore, 1) := by decide +kernel
theorem dX4_cook_40 : decode cX4_cook 40 = .ok (.return_, 1) := by decide +kernel
theorem dX4_cook_41 : decode cX4_cook 41 = .ok (.aload_n 0, 1) := by decide +kernel
theorem dX4_cook_42 : decode cX4_cook 42 = .ok (.getfield 7, 3) := by decide +kernel
theorem dX4_cook_45 : decode cX4_cook 45 = .ok (.iconst 1, 1) := by decide +kernel
theorem dX4_cook_46 : decode cX4_cook 46 = .ok (.dup2, 1) := by decide +kernel
theorem dX4_cook_47 : decode cX4_cook 47 = .ok (.iaload, 1) := by decide +kernel
theorem dX4_cook_48 : decode cX4_cook 48 = .ok (.iconst 4, 1) := by decide +kernel
theorem dX4_cook_49 : decode cX4_cook 49 = .ok (.isub, 1) := by decide +kernel
theorem dX4_cook_50 : decode cX4_cook 50 = .ok (.iastore, 1) := by decide +kernel
theorem dX4_cook_51 : decode cX4_cook 51 = .ok (.aload_n 0, 1) := by decide +kernel
theorem dX4_cook_52 : decode cX4_cook 52 = .ok (.getfield 25, 3) := by decide +kernel
theorem dX4_cook_55 : decode cX4_cook 55 = .ok (.iload_n 1, 1) := by decide +kernel
theorem dX4_cook_56 : decode cX4_cook 56 = .ok (.iconst 0, 1) := by decide +kernel
theorem dX4_cook_57 : decode cX4_cook 57 = .ok (.aload_n 0, 1) := by decide +kernel
theorem dX4_cook_58 : decode cX4_cook 58 = .ok (.getfield 25, 3) := by decide +kernel
theorem dX4_cook_61 : decode cX4_cook 61 = .ok (.iload_n 1, 1) := by decide +kernel
theorem dX4_cook_62 : decode cX4_cook 62 = .ok (.iaload, 1) := by decide +kernel
theorem dX4_cook_63 : decode cX4_cook 63 = .ok (.bipush 12, 2) := by decide +kernel
theorem dX4_cook_65 : decode cX4_cook 65 = .ok (.isub, 1) := by decide +kernel
theorem dX4_cook_66 : decode cX4_cook 66 = .ok (.invokestatic 94, 3) := by decide +kernel
theorem dX4_cook_69 : decode cX4_cook 69 = .ok (.iastore, 1) := by decide +kernel
theorem dX4_cook_70 : decode cX4_cook 70 = .ok (.return_, 1) := by decide +kernel
theorem dX4_dayOn_0 : decode cX4_dayOn 0 = .ok (.iconst 0, 1) := by decide +kernel
theorem dX4_dayOn_1 : decode cX4_dayOn 1 = .ok (.istore_n 1, 1) := by decide +kernel
theorem dX4_dayOn_2 : decode cX4_dayOn 2 = .ok (.iload_n 1, 1) := by decide +kernel
theorem dX4_dayOn_3 : decode cX4_dayOn 3 = .ok (.aload_n 0, 1) := by decide +kernel
theorem dX4_dayOn_4 : decode cX4_dayOn 4 = .ok (.getfield 32, 3) := by decide +kernel
theorem dX4_dayOn_7 : decode cX4_dayOn 7 = .ok (.if_icmp .ge 16, 3) := by decide +kernel
theorem dX4_dayOn_10 : decode cX4_dayOn 10 = .ok (.aload_n 0, 1) := by decide +kernel
theorem dX4_dayOn_11 : decode cX4_dayOn 11 = .ok (.iconst 4, 1) := by decide +kernel
theorem dX4_dayOn_12 : decode cX4_dayOn 12 = .ok (.iload_n 1, 1) := by decide +kernel
theorem dX4_dayOn_13 : decode cX4_dayOn 13 = .ok (.imul, 1) := by decide +kernel
theorem dX4_dayOn_14 : decode cX4_dayOn 14 = .ok (.invokevirtual 97, 3) := by decide +kernel
theorem dX4_dayOn_17 : decode cX4_dayOn 17 = .ok (.iinc 1 1, 3) := by decide +kernel
theorem dX4_dayOn_20 : decode cX4_dayOn 20 = .ok (.goto (-18), 3) := by decide +kernel
theorem dX4_dayOn_23 : decode cX4_dayOn 23 = .ok (.iconst 0, 1) := by decide +kernel
theorem dX4_dayOn_24 : decode cX4_dayOn 24 = .ok (.istore_n 1, 1) := by decide +kernel
theorem dX4_dayOn_25 : decode cX4_dayOn 25 = .ok (.iload_n 1, 1) := by decide +kernel
theorem dX4_dayOn_26 : decode cX4_dayOn 26 = .ok (.aload_n 0, 1) := by decide +kernel
theorem dX4_dayOn_27 : decode cX4_dayOn 27 = .ok (.getfield 39, 3) := by decide +kernel
theorem dX4_dayOn_30 : decode cX4_dayOn 30 = .ok (.if_icmp .ge 64, 3) := by decide +kernel
theorem dX4_dayOn_33 : decode cX4_dayOn 33 = .ok (.aload_n 0, 1) := by decide +kernel
theorem dX4_dayOn_34 : decode cX4_dayOn 34 = .ok (.getfield 22, 3) := by decide +kernel
theorem dX4_dayOn_37 : decode cX4_dayOn 37 = .ok (.iconst 2, 1) := by decide +kernel
theorem dX4_dayOn_38 : decode cX4_dayOn 38 = .ok (.iload_n 1, 1) := by decide +kernel
theorem dX4_dayOn_39 : decode cX4_dayOn 39 = .ok (.imul, 1) := by decide +kernel
theorem dX4_dayOn_40 : decode cX4_dayOn 40 = .ok (.iaload, 1) := by decide +kernel
theorem dX4_dayOn_41 : decode cX4_dayOn 41 = .ok (.ifCond .le 47, 3) := by decide +kernel
theorem dX4_dayOn_44 : decode cX4_dayOn 44 = .ok (.aload_n 0, 1) := by decide +kernel
theorem dX4_dayOn_45 : decode cX4_dayOn 45 = .ok (.getfield 22, 3) := by decide +kernel
theorem dX4_dayOn_48 : decode cX4_dayOn 48 = .ok (.iconst 2, 1) := by decide +kernel
theorem dX4_dayOn_49 : decode cX4_dayOn 49 = .ok (.iload_n 1, 1) := by decide +kernel
theorem dX4_dayOn_50 : decode cX4_dayOn 50 = .ok (.imul, 1) := by decide +kernel
theorem dX4_dayOn_51 : decode cX4_dayOn 51 = .ok (.iconst 0, 1) := by decide +kernel
theorem dX4_dayOn_52 : decode cX4_dayOn 52 = .ok (.sipush 400, 3) := by decide +kernel
theorem dX4_dayOn_55 : decode cX4_dayOn 55 = .ok (.aload_n 0, 1) := by decide +kernel
theorem dX4_dayOn_56 : decode cX4_dayOn 56 = .ok (.getfield 22, 3) := by decide +kernel
theorem dX4_dayOn_59 : decode cX4_dayOn 59 = .ok (.iconst 2, 1) := by decide +kernel
theorem dX4_dayOn_60 : decode cX4_dayOn 60 = .ok (.iload_n 1, 1) := by decide +kernel
theorem dX4_dayOn_61 : decode cX4_dayOn 61 = .ok (.imul, 1) := by decide +kernel
theorem dX4_dayOn_62 : decode cX4_dayOn 62 = .ok (.iaload, 1) := by decide +kernel
theorem dX4_dayOn_63 : decode cX4_dayOn 63 = .ok (.aload_n 0, 1) := by decide +kernel
theorem dX4_dayOn_64 : decode cX4_dayOn 64 = .ok (.invokevirtual 87, 3) := by decide +kernel
theorem dX4_dayOn_67 : decode cX4_dayOn 67 = .ok (.iadd, 1) := by decide +kernel
theorem dX4_dayOn_68 : decode cX4_dayOn 68 = .ok (.invokestatic 49, 3) := by decide +kernel
theorem dX4_dayOn_71 : decode cX4_dayOn 71 = .ok (.aload_n 0, 1) := by decide +kernel
theorem dX4_dayOn_72 : decode cX4_dayOn 72 = .ok (.invokevirtual 87, 3) := by decide +kernel
theorem dX4_dayOn_75 : decode cX4_dayOn 75 = .ok (.ifCond .ne 7, 3) := by decide +kernel
theorem dX4_dayOn_78 : decode cX4_dayOn 78 = .ok (.iconst 3, 1) := by decide +kernel
theorem dX4_dayOn_79 : decode cX4_dayOn 79 = .ok (.goto 4, 3) := by decide +kernel
theorem dX4_dayOn_82 : decode cX4_dayOn 82 = .ok (.iconst 0, 1) := by decide +kernel
theorem dX4_dayOn_83 : decode cX4_dayOn 83 = .ok (.isub, 1) := by decide +kernel
theorem dX4_dayOn_84 : decode cX4_dayOn 84 = .ok (.invokestatic 94, 3) := by decide +kernel
theorem dX4_dayOn_87 : decode cX4_dayOn 87 = .ok (.iastore, 1) := by decide +kernel
theorem dX4_dayOn_88 : decode cX4_dayOn 88 = .ok (.iinc 1 1, 3) := by decide +kernel
theorem dX4_dayOn_91 : decode cX4_dayOn 91 = .ok (.goto (-66), 3) := by decide +kernel
theorem dX4_dayOn_94 : decode cX4_dayOn 94 = .ok (.iconst 0, 1) := by decide +kernel
theorem dX4_dayOn_95 : decode cX4_dayOn 95 = .ok (.istore_n 1, 1) := by decide +kernel
theorem dX4_dayOn_96 : decode cX4_dayOn 96 = .ok (.iload_n 1, 1) := by decide +kernel
theorem dX4_dayOn_97 : decode cX4_dayOn 97 = .ok (.aload_n 0, 1) := by decide +kernel
theorem dX4_dayOn_98 : decode cX4_dayOn 98 = .ok (.getfield 42, 3) := by decide +kernel
theorem dX4_dayOn_101 : decode cX4_dayOn 101 = .ok (.if_icmp .ge 16, 3) := by decide +kernel
theorem dX4_dayOn_104 : decode cX4_dayOn 104 = .ok (.aload_n 0, 1) := by decide +kernel
theorem dX4_dayOn_105 : decode cX4_dayOn 105 = .ok (.iconst 3, 1) := by decide +kernel
theorem dX4_dayOn_106 : decode cX4_dayOn 106 = .ok (.iload_n 1, 1) := by decide +kernel
theorem dX4_dayOn_107 : decode cX4_dayOn 107 = .ok (.imul, 1) := by decide +kernel
theorem dX4_dayOn_108 : decode cX4_dayOn 108 = .ok (.invokevirtual 101, 3) := by decide +kernel
theorem dX4_dayOn_111 : decode cX4_dayOn 111 = .ok (.iinc 1 1, 3) := by decide +kernel
theorem dX4_dayOn_114 : decode cX4_dayOn 114 = .ok (.goto (-18), 3) := by decide +kernel
theorem dX4_dayOn_117 : decode cX4_dayOn 117 = .ok (.aload_n 0, 1) := by decide +kernel
theorem dX4_dayOn_118 : decode cX4_dayOn 118 = .ok (.getfield 16, 3) := by decide +kernel
theorem dX4_dayOn_121 : decode cX4_dayOn 121 = .ok (.aload_n 0, 1) := by decide +kernel
theorem dX4_dayOn_122 : decode cX4_dayOn 122 = .ok (.getfield 7, 3) := by decide +kernel
theorem dX4_dayOn_125 : decode cX4_dayOn 125 = .ok (.iconst 0, 1) := by decide +kernel
theorem dX4_dayOn_126 : decode cX4_dayOn 126 = .ok (.iaload, 1) := by decide +kernel
theorem dX4_dayOn_127 : decode cX4_dayOn 127 = .ok (.bipush 7, 2) := by decide +kernel
theorem dX4_dayOn_129 : decode cX4_dayOn 129 = .ok (.irem, 1) := by decide +kernel
theorem dX4_dayOn_130 : decode cX4_dayOn 130 = .ok (.iaload, 1) := by decide +kernel
theorem dX4_dayOn_131 : decode cX4_dayOn 131 = .ok (.istore_n 1, 1) := by decide +kernel
theorem dX4_dayOn_132 : decode cX4_dayOn 132 = .ok (.iload_n 1, 1) := by decide +kernel
theorem dX4_dayOn_133 : decode cX4_dayOn 133 = .ok (.aload_n 0, 1) := by decide +kernel
theorem dX4_dayOn_134 : decode cX4_dayOn 134 = .ok (.getfield 7, 3) := by decide +kernel
theorem dX4_dayOn_137 : decode cX4_dayOn 137 = .ok (.iconst 3, 1) := by decide +kernel
theorem dX4_dayOn_138 : decode cX4_dayOn 138 = .ok (.iaload, 1) := by decide +kernel
theorem dX4_dayOn_139 : decode cX4_dayOn 139 = .ok (.invokestatic 49, 3) := by decide +kernel
theorem dX4_dayOn_142 : decode cX4_dayOn 142 = .ok (.istore_n 2, 1) := by decide +kernel
theorem dX4_dayOn_143 : decode cX4_dayOn 143 = .ok (.iload_n 1, 1) := by decide +kernel
theorem dX4_dayOn_144 : decode cX4_dayOn 144 = .ok (.iload_n 2, 1) := by decide +kernel
theorem dX4_dayOn_145 : decode cX4_dayOn 145 = .ok (.isub, 1) := by decide +kernel
theorem dX4_dayOn_146 : decode cX4_dayOn 146 = .ok (.aload_n 0, 1) := by decide +kernel
theorem dX4_dayOn_147 : decode cX4_dayOn 147 = .ok (.getfield 7, 3) := by decide +kernel
theorem dX4_dayOn_150 : decode cX4_dayOn 150 = .ok (.iconst 4, 1) := by decide +kernel
theorem dX4_dayOn_151 : decode cX4_dayOn 151 = .ok (.iaload, 1) := by decide +kernel
theorem dX4_dayOn_152 : decode cX4_dayOn 152 = .ok (.invokestatic 49, 3) := by decide +kernel
theorem dX4_dayOn_155 : decode cX4_dayOn 155 = .ok (.istore_n 3, 1) := by decide +kernel
theorem dX4_dayOn_156 : decode cX4_dayOn 156 = .ok (.aload_n 0, 1) := by decide +kernel
theorem dX4_dayOn_157 : decode cX4_dayOn 157 = .ok (.getfield 7, 3) := by decide +kernel
theorem dX4_dayOn_160 : decode cX4_dayOn 160 = .ok (.iconst 3, 1) := by decide +kernel
theorem dX4_dayOn_161 : decode cX4_dayOn 161 = .ok (.dup2, 1) := by decide +kernel
theorem dX4_dayOn_162 : decode cX4_dayOn 162 = .ok (.iaload, 1) := by decide +kernel
theorem dX4_dayOn_163 : decode cX4_dayOn 163 = .ok (.iload_n 2, 1) := by decide +kernel
theorem dX4_dayOn_164 : decode cX4_dayOn 164 = .ok (.isub, 1) := by decide +kernel
theorem dX4_dayOn_165 : decode cX4_dayOn 165 = .ok (.iastore, 1) := by decide +kernel
theorem dX4_dayOn_166 : decode cX4_dayOn 166 = .ok (.aload_n 0, 1) := by decide +kernel
theorem dX4_dayOn_167 : decode cX4_dayOn 167 = .ok (.getfield 7, 3) := by decide +kernel
theorem dX4_dayOn_170 : decode cX4_dayOn 170 = .ok (.iconst 4, 1) := by decide +kernel
theorem dX4_dayOn_171 : decode cX4_dayOn 171 = .ok (.dup2, 1) := by decide +kernel
theorem dX4_dayOn_172 : decode cX4_dayOn 172 = .ok (.iaload, 1) := by decide +kernel
theorem dX4_dayOn_173 : decode cX4_dayOn 173 = .ok (.iload_n 3, 1) := by decide +kernel
theorem dX4_dayOn_174 : decode cX4_dayOn 174 = .ok (.isub, 1) := by decide +kernel
theorem dX4_dayOn_175 : decode cX4_dayOn 175 = .ok (.iastore, 1) := by decide +kernel
theorem dX4_dayOn_176 : decode cX4_dayOn 176 = .ok (.aload_n 0, 1) := by decide +kernel
theorem dX4_dayOn_177 : decode cX4_dayOn 177 = .ok (.getfield 7, 3) := by decide +kernel
theorem dX4_dayOn_180 : decode cX4_dayOn 180 = .ok (.iconst 5, 1) := by decide +kernel
theorem dX4_dayOn_181 : decode cX4_dayOn 181 = .ok (.dup2, 1) := by decide +kernel
theorem dX4_dayOn_182 : decode cX4_dayOn 182 = .ok (.iaload, 1) := by decide +kernel
theorem dX4_dayOn_183 : decode cX4_dayOn 183 = .ok (.iconst 5, 1) := by decide +kernel
theorem dX4_dayOn_184 : decode cX4_dayOn 184 = .ok (.iload_n 2, 1) := by decide +kernel
theorem dX4_dayOn_185 : decode cX4_dayOn 185 = .ok (.imul, 1) := by decide +kernel
theorem dX4_dayOn_186 : decode cX4_dayOn 186 = .ok (.iconst 2, 1) := by decide +kernel
theorem dX4_dayOn_187 : decode cX4_dayOn 187 = .ok (.iload_n 3, 1) := by decide +kernel
theorem dX4_dayOn_188 : decode cX4_dayOn 188 = .ok (.imul, 1) := by decide +kernel
theorem dX4_dayOn_189 : decode cX4_dayOn 189 = .ok (.iadd, 1) := by decide +kernel
theorem dX4_dayOn_190 : decode cX4_dayOn 190 = .ok (.iadd, 1) := by decide +kernel
theorem dX4_dayOn_191 : decode cX4_dayOn 191 = .ok (.iastore, 1) := by decide +kernel
theorem dX4_dayOn_192 : decode cX4_dayOn 192 = .ok (.aload_n 0, 1) := by decide +kernel
theorem dX4_dayOn_193 : decode cX4_dayOn 193 = .ok (.getfield 7, 3) := by decide +kernel
theorem dX4_dayOn_196 : decode cX4_dayOn 196 = .ok (.bipush 6, 2) := by decide +kernel
theorem dX4_dayOn_198 : decode cX4_dayOn 198 = .ok (.dup2, 1) := by decide +kernel
theorem dX4_dayOn_199 : decode cX4_dayOn 199 = .ok (.iaload, 1) := by decide +kernel
theorem dX4_dayOn_200 : decode cX4_dayOn 200 = .ok (.iload_n 2, 1) := by decide +kernel
theorem dX4_dayOn_201 : decode cX4_dayOn 201 = .ok (.iload_n 3, 1) := by decide +kernel
theorem dX4_dayOn_202 : decode cX4_dayOn 202 = .ok (.iadd, 1) := by decide +kernel
theorem dX4_dayOn_203 : decode cX4_dayOn 203 = .ok (.iadd, 1) := by decide +kernel
theorem dX4_dayOn_204 : decode cX4_dayOn 204 = .ok (.iastore, 1) := by decide +kernel
theorem dX4_dayOn_205 : decode cX4_dayOn 205 = .ok (.aload_n 0, 1) := by decide +kernel
theorem dX4_dayOn_206 : decode cX4_dayOn 206 = .ok (.getfield 7, 3) := by decide +kernel
theorem dX4_dayOn_209 : decode cX4_dayOn 209 = .ok (.iconst 0, 1) := by decide +kernel
theorem dX4_dayOn_210 : decode cX4_dayOn 210 = .ok (.dup2, 1) := by decide +kernel
theorem dX4_dayOn_211 : decode cX4_dayOn 211 = .ok (.iaload, 1) := by decide +kernel
theorem dX4_dayOn_212 : decode cX4_dayOn 212 = .ok (.iconst 1, 1) := by decide +kernel
theorem dX4_dayOn_213 : decode cX4_dayOn 213 = .ok (.iadd, 1) := by decide +kernel
theorem dX4_dayOn_214 : decode cX4_dayOn 214 = .ok (.iastore, 1) := by decide +kernel
theorem dX4_dayOn_215 : decode cX4_dayOn 215 = .ok (.return_, 1) := by decide +kernel
theorem dX4_daysOn_0 : decode cX4_daysOn 0 = .ok (.iconst 0, 1) := by decide +kernel
theorem dX4_daysOn_1 : decode cX4_daysOn 1 = .ok (.istore_n 2, 1) := by decide +kernel
theorem dX4_daysOn_2 : decode cX4_daysOn 2 = .ok (.iload_n 2, 1) := by decide +kernel
theorem dX4_daysOn_3 : decode cX4_daysOn 3 = .ok (.iload_n 1, 1) := by decide +kernel
theorem dX4_daysOn_4 : decode cX4_daysOn 4 = .ok (.if_icmp .ge 13, 3) := by decide +kernel
theorem dX4_daysOn_7 : decode cX4_daysOn 7 = .ok (.aload_n 0, 1) := by decide +kernel
theorem dX4_daysOn_8 : decode cX4_daysOn 8 = .ok (.invokevirtual 104, 3) := by decide +kernel
theorem dX4_daysOn_11 : decode cX4_daysOn 11 = .ok (.iinc 2 1, 3) := by decide +kernel
theorem dX4_daysOn_14 : decode cX4_daysOn 14 = .ok (.goto (-12), 3) := by decide +kernel
theorem dX4_daysOn_17 : decode cX4_daysOn 17 = .ok (.return_, 1) := by decide +kernel
theorem dX4_pass_0 : decode cX4_pass 0 = .ok (.aload_n 0, 1) := by decide +kernel
theorem dX4_pass_1 : decode cX4_pass 1 = .ok (.iconst 0, 1) := by decide +kernel
theorem dX4_pass_2 : decode cX4_pass 2 = .ok (.putfield 28, 3) := by decide +kernel
theorem dX4_pass_5 : decode cX4_pass 5 = .ok (.iload_n 1, 1) := by decide +kernel
theorem dX4_pass_6 : decode cX4_pass 6 = .ok (.iconst 1, 1) := by decide +kernel
theorem dX4_pass_7 : decode cX4_pass 7 = .ok (.bipush 60, 2) := by decide +kernel
theorem dX4_pass_9 : decode cX4_pass 9 = .ok (.invokestatic 35, 3) := by decide +kernel
theorem dX4_pass_12 : decode cX4_pass 12 = .ok (.ifCond .ne 9, 3) := by decide +kernel
theorem dX4_pass_15 : decode cX4_pass 15 = .ok (.aload_n 0, 1) := by decide +kernel
theorem dX4_pass_16 : decode cX4_pass 16 = .ok (.iconst 1, 1) := by decide +kernel
theorem dX4_pass_17 : decode cX4_pass 17 = .ok (.invokevirtual 45, 3) := by decide +kernel
theorem dX4_pass_20 : decode cX4_pass 20 = .ok (.ireturn, 1) := by decide +kernel
theorem dX4_pass_21 : decode cX4_pass 21 = .ok (.aload_n 0, 1) := by decide +kernel
theorem dX4_pass_22 : decode cX4_pass 22 = .ok (.getfield 7, 3) := by decide +kernel
theorem dX4_pass_25 : decode cX4_pass 25 = .ok (.iconst 5, 1) := by decide +kernel
theorem dX4_pass_26 : decode cX4_pass 26 = .ok (.iaload, 1) := by decide +kernel
theorem dX4_pass_27 : decode cX4_pass 27 = .ok (.istore_n 2, 1) := by decide +kernel
theorem dX4_pass_28 : decode cX4_pass 28 = .ok (.aload_n 0, 1) := by decide +kernel
theorem dX4_pass_29 : decode cX4_pass 29 = .ok (.iload_n 1, 1) := by decide +kernel
theorem dX4_pass_30 : decode cX4_pass 30 = .ok (.invokevirtual 107, 3) := by decide +kernel
theorem dX4_pass_33 : decode cX4_pass 33 = .ok (.aload_n 0, 1) := by decide +kernel
theorem dX4_pass_34 : decode cX4_pass 34 = .ok (.getfield 7, 3) := by decide +kernel
theorem dX4_pass_37 : decode cX4_pass 37 = .ok (.iconst 5, 1) := by decide +kernel
theorem dX4_pass_38 : decode cX4_pass 38 = .ok (.iaload, 1) := by decide +kernel
theorem dX4_pass_39 : decode cX4_pass 39 = .ok (.iload_n 2, 1) := by decide +kernel
theorem dX4_pass_40 : decode cX4_pass 40 = .ok (.isub, 1) := by decide +kernel
theorem dX4_pass_41 : decode cX4_pass 41 = .ok (.ireturn, 1) := by decide +kernel
theorem dX4_kept_0 : decode cX4_kept 0 = .ok (.iconst 4, 1) := by decide +kernel
theorem dX4_kept_1 : decode cX4_kept 1 = .ok (.anewarray 110, 3) := by decide +kernel
theorem dX4_kept_4 : decode cX4_kept 4 = .ok (.dup, 1) := by decide +kernel
theorem dX4_kept_5 : decode cX4_kept 5 = .ok (.iconst 0, 1) := by decide +kernel
theorem dX4_kept_6 : decode cX4_kept 6 = .ok (.aload_n 0, 1) := by decide +kernel
theorem dX4_kept_7 : decode cX4_kept 7 = .ok (.getfield 7, 3) := by decide +kernel
theorem dX4_kept_10 : decode cX4_kept 10 = .ok (.invokevirtual 111, 3) := by decide +kernel
theorem dX4_kept_13 : decode cX4_kept 13 = .ok (.checkcast 110, 3) := by decide +kernel
theorem dX4_kept_16 : decode cX4_kept 16 = .ok (.aastore, 1) := by decide +kernel
theorem dX4_kept_17 : decode cX4_kept 17 = .ok (.dup, 1) := by decide +kernel
theorem dX4_kept_18 : decode cX4_kept 18 = .ok (.iconst 1, 1) := by decide +kernel
theorem dX4_kept_19 : decode cX4_kept 19 = .ok (.aload_n 0, 1) := by decide +kernel
theorem dX4_kept_20 : decode cX4_kept 20 = .ok (.getfield 19, 3) := by decide +kernel
theorem dX4_kept_23 : decode cX4_kept 23 = .ok (.invokevirtual 111, 3) := by decide +kernel
theorem dX4_kept_26 : decode cX4_kept 26 = .ok (.checkcast 110, 3) := by decide +kernel
theorem dX4_kept_29 : decode cX4_kept 29 = .ok (.aastore, 1) := by decide +kernel
theorem dX4_kept_30 : decode cX4_kept 30 = .ok (.dup, 1) := by decide +kernel
theorem dX4_kept_31 : decode cX4_kept 31 = .ok (.iconst 2, 1) := by decide +kernel
theorem dX4_kept_32 : decode cX4_kept 32 = .ok (.aload_n 0, 1) := by decide +kernel
theorem dX4_kept_33 : decode cX4_kept 33 = .ok (.getfield 22, 3) := by decide +kernel
theorem dX4_kept_36 : decode cX4_kept 36 = .ok (.invokevirtual 111, 3) := by decide +kernel
theorem dX4_kept_39 : decode cX4_kept 39 = .ok (.checkcast 110, 3) := by decide +kernel
theorem dX4_kept_42 : decode cX4_kept 42 = .ok (.aastore, 1) := by decide +kernel
theorem dX4_kept_43 : decode cX4_kept 43 = .ok (.dup, 1) := by decide +kernel
theorem dX4_kept_44 : decode cX4_kept 44 = .ok (.iconst 3, 1) := by decide +kernel
theorem dX4_kept_45 : decode cX4_kept 45 = .ok (.aload_n 0, 1) := by decide +kernel
theorem dX4_kept_46 : decode cX4_kept 46 = .ok (.getfield 25, 3) := by decide +kernel
theorem dX4_kept_49 : decode cX4_kept 49 = .ok (.invokevirtual 111, 3) := by decide +kernel
theorem dX4_kept_52 : decode cX4_kept 52 = .ok (.checkcast 110, 3) := by decide +kernel
theorem dX4_kept_55 : decode cX4_kept 55 = .ok (.aastore, 1) := by decide +kernel
theorem dX4_kept_56 : decode cX4_kept 56 = .ok (.areturn, 1) := by decide +kernel
theorem dX4_bringBack_0 : decode cX4_bringBack 0 = .ok (.iconst 4, 1) := by decide +kernel
theorem dX4_bringBack_1 : decode cX4_bringBack 1 = .ok (.anewarray 110, 3) := by decide +kernel
theorem dX4_bringBack_4 : decode cX4_bringBack 4 = .ok (.dup, 1) := by decide +kernel
theorem dX4_bringBack_5 : decode cX4_bringBack 5 = .ok (.iconst 0, 1) := by decide +kernel
theorem dX4_bringBack_6 : decode cX4_bringBack 6 = .ok (.aload_n 0, 1) := by decide +kernel
theorem dX4_bringBack_7 : decode cX4_bringBack 7 = .ok (.getfield 7, 3) := by decide +kernel
theorem dX4_bringBack_10 : decode cX4_bringBack 10 = .ok (.aastore, 1) := by decide +kernel
theorem dX4_bringBack_11 : decode cX4_bringBack 11 = .ok (.dup, 1) := by decide +kernel
theorem dX4_bringBack_12 : decode cX4_bringBack 12 = .ok (.iconst 1, 1) := by decide +kernel
theorem dX4_bringBack_13 : decode cX4_bringBack 13 = .ok (.aload_n 0, 1) := by decide +kernel
theorem dX4_bringBack_14 : decode cX4_bringBack 14 = .ok (.getfield 19, 3) := by decide +kernel
theorem dX4_bringBack_17 : decode cX4_bringBack 17 = .ok (.aastore, 1) := by decide +kernel
theorem dX4_bringBack_18 : decode cX4_bringBack 18 = .ok (.dup, 1) := by decide +kernel
theorem dX4_bringBack_19 : decode cX4_bringBack 19 = .ok (.iconst 2, 1) := by decide +kernel
theorem dX4_bringBack_20 : decode cX4_bringBack 20 = .ok (.aload_n 0, 1) := by decide +kernel
theorem dX4_bringBack_21 : decode cX4_bringBack 21 = .ok (.getfield 22, 3) := by decide +kernel
theorem dX4_bringBack_24 : decode cX4_bringBack 24 = .ok (.aastore, 1) := by decide +kernel
theorem dX4_bringBack_25 : decode cX4_bringBack 25 = .ok (.dup, 1) := by decide +kernel
theorem dX4_bringBack_26 : decode cX4_bringBack 26 = .ok (.iconst 3, 1) := by decide +kernel
theorem dX4_bringBack_27 : decode cX4_bringBack 27 = .ok (.aload_n 0, 1) := by decide +kernel
theorem dX4_bringBack_28 : decode cX4_bringBack 28 = .ok (.getfield 25, 3) := by decide +kernel
theorem dX4_bringBack_31 : decode cX4_bringBack 31 = .ok (.aastore, 1) := by decide +kernel
theorem dX4_bringBack_32 : decode cX4_bringBack 32 = .ok (.astore_n 2, 1) := by decide +kernel
theorem dX4_bringBack_33 : decode cX4_bringBack 33 = .ok (.iconst 0, 1) := by decide +kernel
theorem dX4_bringBack_34 : decode cX4_bringBack 34 = .ok (.istore_n 3, 1) := by decide +kernel
theorem dX4_bringBack_35 : decode cX4_bringBack 35 = .ok (.iload_n 3, 1) := by decide +kernel
theorem dX4_bringBack_36 : decode cX4_bringBack 36 = .ok (.aload_n 2, 1) := by decide +kernel
theorem dX4_bringBack_37 : decode cX4_bringBack 37 = .ok (.arraylength, 1) := by decide +kernel
theorem dX4_bringBack_38 : decode cX4_bringBack 38 = .ok (.if_icmp .ge 24, 3) := by decide +kernel
theorem dX4_bringBack_41 : decode cX4_bringBack 41 = .ok (.aload_n 1, 1) := by decide +kernel
theorem dX4_bringBack_42 : decode cX4_bringBack 42 = .ok (.iload_n 3, 1) := by decide +kernel
theorem dX4_bringBack_43 : decode cX4_bringBack 43 = .ok (.aaload, 1) := by decide +kernel
theorem dX4_bringBack_44 : decode cX4_bringBack 44 = .ok (.iconst 0, 1) := by decide +kernel
theorem dX4_bringBack_45 : decode cX4_bringBack 45 = .ok (.aload_n 2, 1) := by decide +kernel
theorem dX4_bringBack_46 : decode cX4_bringBack 46 = .ok (.iload_n 3, 1) := by decide +kernel
theorem dX4_bringBack_47 : decode cX4_bringBack 47 = .ok (.aaload, 1) := by decide +kernel
theorem dX4_bringBack_48 : decode cX4_bringBack 48 = .ok (.iconst 0, 1) := by decide +kernel
theorem dX4_bringBack_49 : decode cX4_bringBack 49 = .ok (.aload_n 2, 1) := by decide +kernel
theorem dX4_bringBack_50 : decode cX4_bringBack 50 = .ok (.iload_n 3, 1) := by decide +kernel
theorem dX4_bringBack_51 : decode cX4_bringBack 51 = .ok (.aaload, 1) := by decide +kernel
theorem dX4_bringBack_52 : decode cX4_bringBack 52 = .ok (.arraylength, 1) := by decide +kernel
theorem dX4_bringBack_53 : decode cX4_bringBack 53 = .ok (.invokestatic 115, 3) := by decide +kernel
theorem dX4_bringBack_56 : decode cX4_bringBack 56 = .ok (.iinc 3 1, 3) := by decide +kernel
theorem dX4_bringBack_59 : decode cX4_bringBack 59 = .ok (.goto (-24), 3) := by decide +kernel
theorem dX4_bringBack_62 : decode cX4_bringBack 62 = .ok (.return_, 1) := by decide +kernel
theorem dX4_right_0 : decode cX4_right 0 = .ok (.aload_n 0, 1) := by decide +kernel
theorem dX4_right_1 : decode cX4_right 1 = .ok (.iconst 0, 1) := by decide +kernel
theorem dX4_right_2 : decode cX4_right 2 = .ok (.putfield 28, 3) := by decide +kernel
theorem dX4_right_5 : decode cX4_right 5 = .ok (.aload_n 0, 1) := by decide +kernel
theorem dX4_right_6 : decode cX4_right 6 = .ok (.iload_n 1, 1) := by decide +kernel
theorem dX4_right_7 : decode cX4_right 7 = .ok (.invokevirtual 62, 3) := by decide +kernel
theorem dX4_right_10 : decode cX4_right 10 = .ok (.ifCond .ne 9, 3) := by decide +kernel
theorem dX4_right_13 : decode cX4_right 13 = .ok (.aload_n 0, 1) := by decide +kernel
theorem dX4_right_14 : decode cX4_right 14 = .ok (.iconst 1, 1) := by decide +kernel
theorem dX4_right_15 : decode cX4_right 15 = .ok (.invokevirtual 45, 3) := by decide +kernel
theorem dX4_right_18 : decode cX4_right 18 = .ok (.ireturn, 1) := by decide +kernel
theorem dX4_right_19 : decode cX4_right 19 = .ok (.aload_n 0, 1) := by decide +kernel
theorem dX4_right_20 : decode cX4_right 20 = .ok (.invokevirtual 121, 3) := by decide +kernel
theorem dX4_right_23 : decode cX4_right 23 = .ok (.astore_n 2, 1) := by decide +kernel
theorem dX4_right_24 : decode cX4_right 24 = .ok (.iconst 0, 1) := by decide +kernel
theorem dX4_right_25 : decode cX4_right 25 = .ok (.istore_n 3, 1) := by decide +kernel
theorem dX4_right_26 : decode cX4_right 26 = .ok (.iload_n 3, 1) := by decide +kernel
theorem dX4_right_27 : decode cX4_right 27 = .ok (.bipush 60, 2) := by decide +kernel
theorem dX4_right_29 : decode cX4_right 29 = .ok (.if_icmp .ge 22, 3) := by decide +kernel
theorem dX4_right_32 : decode cX4_right 32 = .ok (.aload_n 0, 1) := by decide +kernel
theorem dX4_right_33 : decode cX4_right 33 = .ok (.iload_n 1, 1) := by decide +kernel
theorem dX4_right_34 : decode cX4_right 34 = .ok (.invokevirtual 71, 3) := by decide +kernel
theorem dX4_right_37 : decode cX4_right 37 = .ok (.iconst 1, 1) := by decide +kernel
theorem dX4_right_38 : decode cX4_right 38 = .ok (.if_icmp .eq 13, 3) := by decide +kernel
theorem dX4_right_41 : decode cX4_right 41 = .ok (.aload_n 0, 1) := by decide +kernel
theorem dX4_right_42 : decode cX4_right 42 = .ok (.invokevirtual 104, 3) := by decide +kernel
theorem dX4_right_45 : decode cX4_right 45 = .ok (.iinc 3 1, 3) := by decide +kernel
theorem dX4_right_48 : decode cX4_right 48 = .ok (.goto (-22), 3) := by decide +kernel
theorem dX4_right_51 : decode cX4_right 51 = .ok (.aload_n 0, 1) := by decide +kernel
theorem dX4_right_52 : decode cX4_right 52 = .ok (.iload_n 1, 1) := by decide +kernel
theorem dX4_right_53 : decode cX4_right 53 = .ok (.invokevirtual 71, 3) := by decide +kernel
theorem dX4_right_56 : decode cX4_right 56 = .ok (.iconst 1, 1) := by decide +kernel
theorem dX4_right_57 : decode cX4_right 57 = .ok (.if_icmp .eq 5, 3) := by decide +kernel
theorem dX4_right_60 : decode cX4_right 60 = .ok (.iconst (-1), 1) := by decide +kernel
theorem dX4_right_61 : decode cX4_right 61 = .ok (.istore_n 3, 1) := by decide +kernel
theorem dX4_right_62 : decode cX4_right 62 = .ok (.aload_n 0, 1) := by decide +kernel
theorem dX4_right_63 : decode cX4_right 63 = .ok (.aload_n 2, 1) := by decide +kernel
theorem dX4_right_64 : decode cX4_right 64 = .ok (.invokevirtual 125, 3) := by decide +kernel
theorem dX4_right_67 : decode cX4_right 67 = .ok (.iload_n 3, 1) := by decide +kernel
theorem dX4_right_68 : decode cX4_right 68 = .ok (.ireturn, 1) := by decide +kernel
theorem dX4_foresee_0 : decode cX4_foresee 0 = .ok (.aload_n 0, 1) := by decide +kernel
theorem dX4_foresee_1 : decode cX4_foresee 1 = .ok (.iconst 0, 1) := by decide +kernel
theorem dX4_foresee_2 : decode cX4_foresee 2 = .ok (.putfield 28, 3) := by decide +kernel
theorem dX4_foresee_5 : decode cX4_foresee 5 = .ok (.iload_n 1, 1) := by decide +kernel
theorem dX4_foresee_6 : decode cX4_foresee 6 = .ok (.iconst 1, 1) := by decide +kernel
theorem dX4_foresee_7 : decode cX4_foresee 7 = .ok (.bipush 60, 2) := by decide +kernel
theorem dX4_foresee_9 : decode cX4_foresee 9 = .ok (.invokestatic 35, 3) := by decide +kernel
theorem dX4_foresee_12 : decode cX4_foresee 12 = .ok (.ifCond .ne 9, 3) := by decide +kernel
theorem dX4_foresee_15 : decode cX4_foresee 15 = .ok (.aload_n 0, 1) := by decide +kernel
theorem dX4_foresee_16 : decode cX4_foresee 16 = .ok (.iconst 1, 1) := by decide +kernel
theorem dX4_foresee_17 : decode cX4_foresee 17 = .ok (.invokevirtual 45, 3) := by decide +kernel
theorem dX4_foresee_20 : decode cX4_foresee 20 = .ok (.ireturn, 1) := by decide +kernel
theorem dX4_foresee_21 : decode cX4_foresee 21 = .ok (.iload_n 2, 1) := by decide +kernel
theorem dX4_foresee_22 : decode cX4_foresee 22 = .ok (.iconst 2, 1) := by decide +kernel
theorem dX4_foresee_23 : decode cX4_foresee 23 = .ok (.if_icmp .eq 19, 3) := by decide +kernel
theorem dX4_foresee_26 : decode cX4_foresee 26 = .ok (.iload_n 2, 1) := by decide +kernel
theorem dX4_foresee_27 : decode cX4_foresee 27 = .ok (.iconst 4, 1) := by decide +kernel
theorem dX4_foresee_28 : decode cX4_foresee 28 = .ok (.bipush 7, 2) := by decide +kernel
theorem dX4_foresee_30 : decode cX4_foresee 30 = .ok (.invokestatic 35, 3) := by decide +kernel
theorem dX4_foresee_33 : decode cX4_foresee 33 = .ok (.ifCond .ne 9, 3) := by decide +kernel
theorem dX4_foresee_36 : decode cX4_foresee 36 = .ok (.aload_n 0, 1) := by decide +kernel
theorem dX4_foresee_37 : decode cX4_foresee 37 = .ok (.iconst 2, 1) := by decide +kernel
theorem dX4_foresee_38 : decode cX4_foresee 38 = .ok (.invokevirtual 45, 3) := by decide +kernel
theorem dX4_foresee_41 : decode cX4_foresee 41 = .ok (.ireturn, 1) := by decide +kernel
theorem dX4_foresee_42 : decode cX4_foresee 42 = .ok (.aload_n 0, 1) := by decide +kernel
theorem dX4_foresee_43 : decode cX4_foresee 43 = .ok (.invokevirtual 121, 3) := by decide +kernel
theorem dX4_foresee_46 : decode cX4_foresee 46 = .ok (.astore_n 3, 1) := by decide +kernel
theorem dX4_foresee_47 : decode cX4_foresee 47 = .ok (.aload_n 0, 1) := by decide +kernel
theorem dX4_foresee_48 : decode cX4_foresee 48 = .ok (.iload_n 1, 1) := by decide +kernel
theorem dX4_foresee_49 : decode cX4_foresee 49 = .ok (.invokevirtual 107, 3) := by decide +kernel
theorem dX4_foresee_52 : decode cX4_foresee 52 = .ok (.aload_n 0, 1) := by decide +kernel
theorem dX4_foresee_53 : decode cX4_foresee 53 = .ok (.iload_n 2, 1) := by decide +kernel
theorem dX4_foresee_54 : decode cX4_foresee 54 = .ok (.invokevirtual 91, 3) := by decide +kernel
theorem dX4_foresee_57 : decode cX4_foresee 57 = .ok (.istore 4, 2) := by decide +kernel
theorem dX4_foresee_59 : decode cX4_foresee 59 = .ok (.aload_n 0, 1) := by decide +kernel
theorem dX4_foresee_60 : decode cX4_foresee 60 = .ok (.aload_n 3, 1) := by decide +kernel
theorem dX4_foresee_61 : decode cX4_foresee 61 = .ok (.invokevirtual 125, 3) := by decide +kernel
theorem dX4_foresee_64 : decode cX4_foresee 64 = .ok (.iload 4, 2) := by decide +kernel
theorem dX4_foresee_66 : decode cX4_foresee 66 = .ok (.ireturn, 1) := by decide +kernel
theorem dX4_barrels_0 : decode cX4_barrels 0 = .ok (.aload_n 0, 1) := by decide +kernel
theorem dX4_barrels_1 : decode cX4_barrels 1 = .ok (.iconst 0, 1) := by decide +kernel
theorem dX4_barrels_2 : decode cX4_barrels 2 = .ok (.putfield 28, 3) := by decide +kernel
theorem dX4_barrels_5 : decode cX4_barrels 5 = .ok (.aload_n 0, 1) := by decide +kernel
theorem dX4_barrels_6 : decode cX4_barrels 6 = .ok (.iload_n 1, 1) := by decide +kernel
theorem dX4_barrels_7 : decode cX4_barrels 7 = .ok (.invokevirtual 62, 3) := by decide +kernel
theorem dX4_barrels_10 : decode cX4_barrels 10 = .ok (.ifCond .ne 9, 3) := by decide +kernel
theorem dX4_barrels_13 : decode cX4_barrels 13 = .ok (.aload_n 0, 1) := by decide +kernel
theorem dX4_barrels_14 : decode cX4_barrels 14 = .ok (.iconst 1, 1) := by decide +kernel
theorem dX4_barrels_15 : decode cX4_barrels 15 = .ok (.invokevirtual 45, 3) := by decide +kernel
theorem dX4_barrels_18 : decode cX4_barrels 18 = .ok (.ireturn, 1) := by decide +kernel
theorem dX4_barrels_19 : decode cX4_barrels 19 = .ok (.aload_n 0, 1) := by decide +kernel
theorem dX4_barrels_20 : decode cX4_barrels 20 = .ok (.getfield 25, 3) := by decide +kernel
theorem dX4_barrels_23 : decode cX4_barrels 23 = .ok (.iconst 3, 1) := by decide +kernel
theorem dX4_barrels_24 : decode cX4_barrels 24 = .ok (.iload_n 1, 1) := by decide +kernel
theorem dX4_barrels_25 : decode cX4_barrels 25 = .ok (.imul, 1) := by decide +kernel
theorem dX4_barrels_26 : decode cX4_barrels 26 = .ok (.iconst 1, 1) := by decide +kernel
theorem dX4_barrels_27 : decode cX4_barrels 27 = .ok (.iadd, 1) := by decide +kernel
theorem dX4_barrels_28 : decode cX4_barrels 28 = .ok (.iaload, 1) := by decide +kernel
theorem dX4_barrels_29 : decode cX4_barrels 29 = .ok (.ifCond .ne 5, 3) := by decide +kernel
theorem dX4_barrels_32 : decode cX4_barrels 32 = .ok (.iconst (-1), 1) := by decide +kernel
theorem dX4_barrels_33 : decode cX4_barrels 33 = .ok (.ireturn, 1) := by decide +kernel
theorem dX4_barrels_34 : decode cX4_barrels 34 = .ok (.iconst 1, 1) := by decide +kernel
theorem dX4_barrels_35 : decode cX4_barrels 35 = .ok (.istore_n 2, 1) := by decide +kernel
theorem dX4_barrels_36 : decode cX4_barrels 36 = .ok (.iconst 2, 1) := by decide +kernel
theorem dX4_barrels_37 : decode cX4_barrels 37 = .ok (.istore_n 3, 1) := by decide +kernel
theorem dX4_barrels_38 : decode cX4_barrels 38 = .ok (.iload_n 3, 1) := by decide +kernel
theorem dX4_barrels_39 : decode cX4_barrels 39 = .ok (.bipush 20, 2) := by decide +kernel
theorem dX4_barrels_41 : decode cX4_barrels 41 = .ok (.if_icmp .gt 26, 3) := by decide +kernel
theorem dX4_barrels_44 : decode cX4_barrels 44 = .ok (.aload_n 0, 1) := by decide +kernel
theorem dX4_barrels_45 : decode cX4_barrels 45 = .ok (.iload_n 1, 1) := by decide +kernel
theorem dX4_barrels_46 : decode cX4_barrels 46 = .ok (.iload_n 3, 1) := by decide +kernel
theorem dX4_barrels_47 : decode cX4_barrels 47 = .ok (.invokevirtual 74, 3) := by decide +kernel
theorem dX4_barrels_50 : decode cX4_barrels 50 = .ok (.aload_n 0, 1) := by decide +kernel
theorem dX4_barrels_51 : decode cX4_barrels 51 = .ok (.iload_n 1, 1) := by decide +kernel
theorem dX4_barrels_52 : decode cX4_barrels 52 = .ok (.iload_n 2, 1) := by decide +kernel
theorem dX4_barrels_53 : decode cX4_barrels 53 = .ok (.invokevirtual 74, 3) := by decide +kernel
theorem dX4_barrels_56 : decode cX4_barrels 56 = .ok (.if_icmp .le 5, 3) := by decide +kernel
theorem dX4_barrels_59 : decode cX4_barrels 59 = .ok (.iload_n 3, 1) := by decide +kernel
theorem dX4_barrels_60 : decode cX4_barrels 60 = .ok (.istore_n 2, 1) := by decide +kernel
theorem dX4_barrels_61 : decode cX4_barrels 61 = .ok (.iinc 3 1, 3) := by decide +kernel
theorem dX4_barrels_64 : decode cX4_barrels 64 = .ok (.goto (-26), 3) := by decide +kernel
theorem dX4_barrels_67 : decode cX4_barrels 67 = .ok (.iload_n 2, 1) := by decide +kernel
theorem dX4_barrels_68 : decode cX4_barrels 68 = .ok (.ireturn, 1) := by decide +kernel
theorem dX4_dry_0 : decode cX4_dry 0 = .ok (.aload_n 0, 1) := by decide +kernel
theorem dX4_dry_1 : decode cX4_dry 1 = .ok (.iconst 0, 1) := by decide +kernel
theorem dX4_dry_2 : decode cX4_dry 2 = .ok (.putfield 28, 3) := by decide +kernel
theorem dX4_dry_5 : decode cX4_dry 5 = .ok (.aload_n 0, 1) := by decide +kernel
theorem dX4_dry_6 : decode cX4_dry 6 = .ok (.iload_n 1, 1) := by decide +kernel
theorem dX4_dry_7 : decode cX4_dry 7 = .ok (.invokevirtual 59, 3) := by decide +kernel
theorem dX4_dry_10 : decode cX4_dry 10 = .ok (.ifCond .ne 9, 3) := by decide +kernel
theorem dX4_dry_13 : decode cX4_dry 13 = .ok (.aload_n 0, 1) := by decide +kernel
theorem dX4_dry_14 : decode cX4_dry 14 = .ok (.iconst 1, 1) := by decide +kernel
theorem dX4_dry_15 : decode cX4_dry 15 = .ok (.invokevirtual 45, 3) := by decide +kernel
theorem dX4_dry_18 : decode cX4_dry 18 = .ok (.ireturn, 1) := by decide +kernel
theorem dX4_dry_19 : decode cX4_dry 19 = .ok (.aload_n 0, 1) := by decide +kernel
theorem dX4_dry_20 : decode cX4_dry 20 = .ok (.getfield 22, 3) := by decide +kernel
theorem dX4_dry_23 : decode cX4_dry 23 = .ok (.iconst 2, 1) := by decide +kernel
theorem dX4_dry_24 : decode cX4_dry 24 = .ok (.iload_n 1, 1) := by decide +kernel
theorem dX4_dry_25 : decode cX4_dry 25 = .ok (.imul, 1) := by decide +kernel
theorem dX4_dry_26 : decode cX4_dry 26 = .ok (.iaload, 1) := by decide +kernel
theorem dX4_dry_27 : decode cX4_dry 27 = .ok (.istore_n 2, 1) := by decide +kernel
theorem dX4_dry_28 : decode cX4_dry 28 = .ok (.aload_n 0, 1) := by decide +kernel
theorem dX4_dry_29 : decode cX4_dry 29 = .ok (.getfield 22, 3) := by decide +kernel
theorem dX4_dry_32 : decode cX4_dry 32 = .ok (.iconst 2, 1) := by decide +kernel
theorem dX4_dry_33 : decode cX4_dry 33 = .ok (.iload_n 1, 1) := by decide +kernel
theorem dX4_dry_34 : decode cX4_dry 34 = .ok (.imul, 1) := by decide +kernel
theorem dX4_dry_35 : decode cX4_dry 35 = .ok (.iconst 1, 1) := by decide +kernel
theorem dX4_dry_36 : decode cX4_dry 36 = .ok (.iadd, 1) := by decide +kernel
theorem dX4_dry_37 : decode cX4_dry 37 = .ok (.iaload, 1) := by decide +kernel
theorem dX4_dry_38 : decode cX4_dry 38 = .ok (.istore_n 3, 1) := by decide +kernel
theorem dX4_dry_39 : decode cX4_dry 39 = .ok (.iload_n 3, 1) := by decide +kernel
theorem dX4_dry_40 : decode cX4_dry 40 = .ok (.ifCond .ne 5, 3) := by decide +kernel
theorem dX4_dry_43 : decode cX4_dry 43 = .ok (.iconst (-1), 1) := by decide +kernel
theorem dX4_dry_44 : decode cX4_dry 44 = .ok (.ireturn, 1) := by decide +kernel
theorem dX4_dry_45 : decode cX4_dry 45 = .ok (.iconst 0, 1) := by decide +kernel
theorem dX4_dry_46 : decode cX4_dry 46 = .ok (.istore 4, 2) := by decide +kernel
theorem dX4_dry_48 : decode cX4_dry 48 = .ok (.iload_n 2, 1) := by decide +kernel
theorem dX4_dry_49 : decode cX4_dry 49 = .ok (.iload 4, 2) := by decide +kernel
theorem dX4_dry_51 : decode cX4_dry 51 = .ok (.isub, 1) := by decide +kernel
theorem dX4_dry_52 : decode cX4_dry 52 = .ok (.iload_n 3, 1) := by decide +kernel
theorem dX4_dry_53 : decode cX4_dry 53 = .ok (.invokestatic 65, 3) := by decide +kernel
theorem dX4_dry_56 : decode cX4_dry 56 = .ok (.invokestatic 68, 3) := by decide +kernel
theorem dX4_dry_59 : decode cX4_dry 59 = .ok (.ifCond .ne 9, 3) := by decide +kernel
theorem dX4_dry_62 : decode cX4_dry 62 = .ok (.iinc 4 1, 3) := by decide +kernel
theorem dX4_dry_65 : decode cX4_dry 65 = .ok (.goto (-17), 3) := by decide +kernel
theorem dX4_dry_68 : decode cX4_dry 68 = .ok (.iload 4, 2) := by decide +kernel
theorem dX4_dry_70 : decode cX4_dry 70 = .ok (.ireturn, 1) := by decide +kernel
theorem dX4_mean_0 : decode cX4_mean 0 = .ok (.aload_n 0, 1) := by decide +kernel
theorem dX4_mean_1 : decode cX4_mean 1 = .ok (.iconst 0, 1) := by decide +kernel
theorem dX4_mean_2 : decode cX4_mean 2 = .ok (.putfield 28, 3) := by decide +kernel
theorem dX4_mean_5 : decode cX4_mean 5 = .ok (.iconst 0, 1) := by decide +kernel
theorem dX4_mean_6 : decode cX4_mean 6 = .ok (.istore_n 1, 1) := by decide +kernel
theorem dX4_mean_7 : decode cX4_mean 7 = .ok (.iconst 0, 1) := by decide +kernel
theorem dX4_mean_8 : decode cX4_mean 8 = .ok (.istore_n 2, 1) := by decide +kernel
theorem dX4_mean_9 : decode cX4_mean 9 = .ok (.iconst 0, 1) := by decide +kernel
theorem dX4_mean_10 : decode cX4_mean 10 = .ok (.istore_n 3, 1) := by decide +kernel
theorem dX4_mean_11 : decode cX4_mean 11 = .ok (.iload_n 3, 1) := by decide +kernel
theorem dX4_mean_12 : decode cX4_mean 12 = .ok (.aload_n 0, 1) := by decide +kernel
theorem dX4_mean_13 : decode cX4_mean 13 = .ok (.getfield 39, 3) := by decide +kernel
theorem dX4_mean_16 : decode cX4_mean 16 = .ok (.if_icmp .ge 48, 3) := by decide +kernel
theorem dX4_mean_19 : decode cX4_mean 19 = .ok (.iload_n 2, 1) := by decide +kernel
theorem dX4_mean_20 : decode cX4_mean 20 = .ok (.aload_n 0, 1) := by decide +kernel
theorem dX4_mean_21 : decode cX4_mean 21 = .ok (.getfield 22, 3) := by decide +kernel
theorem dX4_mean_24 : decode cX4_mean 24 = .ok (.iconst 2, 1) := by decide +kernel
theorem dX4_mean_25 : decode cX4_mean 25 = .ok (.iload_n 3, 1) := by decide +kernel
theorem dX4_mean_26 : decode cX4_mean 26 = .ok (.imul, 1) := by decide +kernel
theorem dX4_mean_27 : decode cX4_mean 27 = .ok (.iaload, 1) := by decide +kernel
theorem dX4_mean_28 : decode cX4_mean 28 = .ok (.aload_n 0, 1) := by decide +kernel
theorem dX4_mean_29 : decode cX4_mean 29 = .ok (.getfield 22, 3) := by decide +kernel
theorem dX4_mean_32 : decode cX4_mean 32 = .ok (.iconst 2, 1) := by decide +kernel
theorem dX4_mean_33 : decode cX4_mean 33 = .ok (.iload_n 3, 1) := by decide +kernel
theorem dX4_mean_34 : decode cX4_mean 34 = .ok (.imul, 1) := by decide +kernel
theorem dX4_mean_35 : decode cX4_mean 35 = .ok (.iconst 1, 1) := by decide +kernel
theorem dX4_mean_36 : decode cX4_mean 36 = .ok (.iadd, 1) := by decide +kernel
theorem dX4_mean_37 : decode cX4_mean 37 = .ok (.iaload, 1) := by decide +kernel
theorem dX4_mean_38 : decode cX4_mean 38 = .ok (.iadd, 1) := by decide +kernel
theorem dX4_mean_39 : decode cX4_mean 39 = .ok (.ifCond .le 7, 3) := by decide +kernel
theorem dX4_mean_42 : decode cX4_mean 42 = .ok (.iconst 1, 1) := by decide +kernel
theorem dX4_mean_43 : decode cX4_mean 43 = .ok (.goto 4, 3) := by decide +kernel
theorem dX4_mean_46 : decode cX4_mean 46 = .ok (.iconst 0, 1) := by decide +kernel
theorem dX4_mean_47 : decode cX4_mean 47 = .ok (.iadd, 1) := by decide +kernel
theorem dX4_mean_48 : decode cX4_mean 48 = .ok (.istore_n 2, 1) := by decide +kernel
theorem dX4_mean_49 : decode cX4_mean 49 = .ok (.iload_n 1, 1) := by decide +kernel
theorem dX4_mean_50 : decode cX4_mean 50 = .ok (.aload_n 0, 1) := by decide +kernel
theorem dX4_mean_51 : decode cX4_mean 51 = .ok (.iload_n 3, 1) := by decide +kernel
theorem dX4_mean_52 : decode cX4_mean 52 = .ok (.iconst 2, 1) := by decide +kernel
theorem dX4_mean_53 : decode cX4_mean 53 = .ok (.invokevirtual 81, 3) := by decide +kernel
theorem dX4_mean_56 : decode cX4_mean 56 = .ok (.iadd, 1) := by decide +kernel
theorem dX4_mean_57 : decode cX4_mean 57 = .ok (.istore_n 1, 1) := by decide +kernel
theorem dX4_mean_58 : decode cX4_mean 58 = .ok (.iinc 3 1, 3) := by decide +kernel
theorem dX4_mean_61 : decode cX4_mean 61 = .ok (.goto (-50), 3) := by decide +kernel
theorem dX4_mean_64 : decode cX4_mean 64 = .ok (.iconst 0, 1) := by decide +kernel
theorem dX4_mean_65 : decode cX4_mean 65 = .ok (.istore_n 3, 1) := by decide +kernel
theorem dX4_mean_66 : decode cX4_mean 66 = .ok (.iload_n 3, 1) := by decide +kernel
theorem dX4_mean_67 : decode cX4_mean 67 = .ok (.aload_n 0, 1) := by decide +kernel
theorem dX4_mean_68 : decode cX4_mean 68 = .ok (.getfield 42, 3) := by decide +kernel
theorem dX4_mean_71 : decode cX4_mean 71 = .ok (.if_icmp .ge 48, 3) := by decide +kernel
theorem dX4_mean_74 : decode cX4_mean 74 = .ok (.iload_n 2, 1) := by decide +kernel
theorem dX4_mean_75 : decode cX4_mean 75 = .ok (.aload_n 0, 1) := by decide +kernel
theorem dX4_mean_76 : decode cX4_mean 76 = .ok (.getfield 25, 3) := by decide +kernel
theorem dX4_mean_79 : decode cX4_mean 79 = .ok (.iconst 3, 1) := by decide +kernel
theorem dX4_mean_80 : decode cX4_mean 80 = .ok (.iload_n 3, 1) := by decide +kernel
theorem dX4_mean_81 : decode cX4_mean 81 = .ok (.imul, 1) := by decide +kernel
theorem dX4_mean_82 : decode cX4_mean 82 = .ok (.iaload, 1) := by decide +kernel
theorem dX4_mean_83 : decode cX4_mean 83 = .ok (.aload_n 0, 1) := by decide +kernel
theorem dX4_mean_84 : decode cX4_mean 84 = .ok (.getfield 25, 3) := by decide +kernel
theorem dX4_mean_87 : decode cX4_mean 87 = .ok (.iconst 3, 1) := by decide +kernel
theorem dX4_mean_88 : decode cX4_mean 88 = .ok (.iload_n 3, 1) := by decide +kernel
theorem dX4_mean_89 : decode cX4_mean 89 = .ok (.imul, 1) := by decide +kernel
theorem dX4_mean_90 : decode cX4_mean 90 = .ok (.iconst 1, 1) := by decide +kernel
theorem dX4_mean_91 : decode cX4_mean 91 = .ok (.iadd, 1) := by decide +kernel
theorem dX4_mean_92 : decode cX4_mean 92 = .ok (.iaload, 1) := by decide +kernel
theorem dX4_mean_93 : decode cX4_mean 93 = .ok (.iadd, 1) := by decide +kernel
theorem dX4_mean_94 : decode cX4_mean 94 = .ok (.ifCond .le 7, 3) := by decide +kernel
theorem dX4_mean_97 : decode cX4_mean 97 = .ok (.iconst 1, 1) := by decide +kernel
theorem dX4_mean_98 : decode cX4_mean 98 = .ok (.goto 4, 3) := by decide +kernel
theorem dX4_mean_101 : decode cX4_mean 101 = .ok (.iconst 0, 1) := by decide +kernel
theorem dX4_mean_102 : decode cX4_mean 102 = .ok (.iadd, 1) := by decide +kernel
theorem dX4_mean_103 : decode cX4_mean 103 = .ok (.istore_n 2, 1) := by decide +kernel
theorem dX4_mean_104 : decode cX4_mean 104 = .ok (.iload_n 1, 1) := by decide +kernel
theorem dX4_mean_105 : decode cX4_mean 105 = .ok (.aload_n 0, 1) := by decide +kernel
theorem dX4_mean_106 : decode cX4_mean 106 = .ok (.iload_n 3, 1) := by decide +kernel
theorem dX4_mean_107 : decode cX4_mean 107 = .ok (.iconst 2, 1) := by decide +kernel
theorem dX4_mean_108 : decode cX4_mean 108 = .ok (.invokevirtual 84, 3) := by decide +kernel
theorem dX4_mean_111 : decode cX4_mean 111 = .ok (.iadd, 1) := by decide +kernel
theorem dX4_mean_112 : decode cX4_mean 112 = .ok (.istore_n 1, 1) := by decide +kernel
theorem dX4_mean_113 : decode cX4_mean 113 = .ok (.iinc 3 1, 3) := by decide +kernel
theorem dX4_mean_116 : decode cX4_mean 116 = .ok (.goto (-50), 3) := by decide +kernel
theorem dX4_mean_119 : decode cX4_mean 119 = .ok (.iload_n 2, 1) := by decide +kernel
theorem dX4_mean_120 : decode cX4_mean 120 = .ok (.ifCond .ne 7, 3) := by decide +kernel
theorem dX4_mean_123 : decode cX4_mean 123 = .ok (.dconst 0, 1) := by decide +kernel
theorem dX4_mean_124 : decode cX4_mean 124 = .ok (.goto 8, 3) := by decide +kernel
theorem dX4_mean_127 : decode cX4_mean 127 = .ok (.iload_n 1, 1) := by decide +kernel
theorem dX4_mean_128 : decode cX4_mean 128 = .ok (.i2d, 1) := by decide +kernel
theorem dX4_mean_129 : decode cX4_mean 129 = .ok (.iload_n 2, 1) := by decide +kernel
theorem dX4_mean_130 : decode cX4_mean 130 = .ok (.i2d, 1) := by decide +kernel
theorem dX4_mean_131 : decode cX4_mean 131 = .ok (.ddiv, 1) := by decide +kernel
theorem dX4_mean_132 : decode cX4_mean 132 = .ok (.dreturn, 1) := by decide +kernel
theorem dX4_digest_0 : decode cX4_digest 0 = .ok (.aload_n 0, 1) := by decide +kernel
theorem dX4_digest_1 : decode cX4_digest 1 = .ok (.iconst 0, 1) := by decide +kernel
theorem dX4_digest_2 : decode cX4_digest 2 = .ok (.putfield 28, 3) := by decide +kernel
theorem dX4_digest_5 : decode cX4_digest 5 = .ok (.ldc2_w 129, 3) := by decide +kernel
theorem dX4_digest_8 : decode cX4_digest 8 = .ok (.lstore_n 1, 1) := by decide +kernel
theorem dX4_digest_9 : decode cX4_digest 9 = .ok (.iconst 0, 1) := by decide +kernel
theorem dX4_digest_10 : decode cX4_digest 10 = .ok (.istore_n 3, 1) := by decide +kernel
theorem dX4_digest_11 : decode cX4_digest 11 = .ok (.iload_n 3, 1) := by decide +kernel
theorem dX4_digest_12 : decode cX4_digest 12 = .ok (.bipush 10, 2) := by decide +kernel
theorem dX4_digest_14 : decode cX4_digest 14 = .ok (.if_icmp .ge 22, 3) := by decide +kernel
theorem dX4_digest_17 : decode cX4_digest 17 = .ok (.lload_n 1, 1) := by decide +kernel
theorem dX4_digest_18 : decode cX4_digest 18 = .ok (.ldc2_w 131, 3) := by decide +kernel
theorem dX4_digest_21 : decode cX4_digest 21 = .ok (.lmul, 1) := by decide +kernel
theorem dX4_digest_22 : decode cX4_digest 22 = .ok (.aload_n 0, 1) := by decide +kernel
theorem dX4_digest_23 : decode cX4_digest 23 = .ok (.iload_n 3, 1) := by decide +kernel
theorem dX4_digest_24 : decode cX4_digest 24 = .ok (.invokevirtual 91, 3) := by decide +kernel
theorem dX4_digest_27 : decode cX4_digest 27 = .ok (.i2l, 1) := by decide +kernel
theorem dX4_digest_28 : decode cX4_digest 28 = .ok (.ladd, 1) := by decide +kernel
theorem dX4_digest_29 : decode cX4_digest 29 = .ok (.lstore_n 1, 1) := by decide +kernel
theorem dX4_digest_30 : decode cX4_digest 30 = .ok (.iinc 3 1, 3) := by decide +kernel
theorem dX4_digest_33 : decode cX4_digest 33 = .ok (.goto (-22), 3) := by decide +kernel
theorem dX4_digest_36 : decode cX4_digest 36 = .ok (.aload_n 0, 1) := by decide +kernel
theorem dX4_digest_37 : decode cX4_digest 37 = .ok (.getfield 13, 3) := by decide +kernel
theorem dX4_digest_40 : decode cX4_digest 40 = .ok (.astore_n 3, 1) := by decide +kernel
theorem dX4_digest_41 : decode cX4_digest 41 = .ok (.aload_n 3, 1) := by decide +kernel
theorem dX4_digest_42 : decode cX4_digest 42 = .ok (.arraylength, 1) := by decide +kernel
theorem dX4_digest_43 : decode cX4_digest 43 = .ok (.istore 4, 2) := by decide +kernel
theorem dX4_digest_45 : decode cX4_digest 45 = .ok (.iconst 0, 1) := by decide +kernel
theorem dX4_digest_46 : decode cX4_digest 46 = .ok (.istore 5, 2) := by decide +kernel
theorem dX4_digest_48 : decode cX4_digest 48 = .ok (.iload 5, 2) := by decide +kernel
theorem dX4_digest_50 : decode cX4_digest 50 = .ok (.iload 4, 2) := by decide +kernel
theorem dX4_digest_52 : decode cX4_digest 52 = .ok (.if_icmp .ge 25, 3) := by decide +kernel
theorem dX4_digest_55 : decode cX4_digest 55 = .ok (.aload_n 3, 1) := by decide +kernel
theorem dX4_digest_56 : decode cX4_digest 56 = .ok (.iload 5, 2) := by decide +kernel
theorem dX4_digest_58 : decode cX4_digest 58 = .ok (.iaload, 1) := by decide +kernel
theorem dX4_digest_59 : decode cX4_digest 59 = .ok (.istore 6, 2) := by decide +kernel
theorem dX4_digest_61 : decode cX4_digest 61 = .ok (.lload_n 1, 1) := by decide +kernel
theorem dX4_digest_62 : decode cX4_digest 62 = .ok (.ldc2_w 131, 3) := by decide +kernel
theorem dX4_digest_65 : decode cX4_digest 65 = .ok (.lmul, 1) := by decide +kernel
theorem dX4_digest_66 : decode cX4_digest 66 = .ok (.iload 6, 2) := by decide +kernel
theorem dX4_digest_68 : decode cX4_digest 68 = .ok (.i2l, 1) := by decide +kernel
theorem dX4_digest_69 : decode cX4_digest 69 = .ok (.ladd, 1) := by decide +kernel
theorem dX4_digest_70 : decode cX4_digest 70 = .ok (.lstore_n 1, 1) := by decide +kernel
theorem dX4_digest_71 : decode cX4_digest 71 = .ok (.iinc 5 1, 3) := by decide +kernel
theorem dX4_digest_74 : decode cX4_digest 74 = .ok (.goto (-26), 3) := by decide +kernel
theorem dX4_digest_77 : decode cX4_digest 77 = .ok (.aload_n 0, 1) := by decide +kernel
theorem dX4_digest_78 : decode cX4_digest 78 = .ok (.getfield 16, 3) := by decide +kernel
theorem dX4_digest_81 : decode cX4_digest 81 = .ok (.astore_n 3, 1) := by decide +kernel
theorem dX4_digest_82 : decode cX4_digest 82 = .ok (.aload_n 3, 1) := by decide +kernel
theorem dX4_digest_83 : decode cX4_digest 83 = .ok (.arraylength, 1) := by decide +kernel
theorem dX4_digest_84 : decode cX4_digest 84 = .ok (.istore 4, 2) := by decide +kernel
theorem dX4_digest_86 : decode cX4_digest 86 = .ok (.iconst 0, 1) := by decide +kernel
theorem dX4_digest_87 : decode cX4_digest 87 = .ok (.istore 5, 2) := by decide +kernel
theorem dX4_digest_89 : decode cX4_digest 89 = .ok (.iload 5, 2) := by decide +kernel
theorem dX4_digest_91 : decode cX4_digest 91 = .ok (.iload 4, 2) := by decide +kernel
theorem dX4_digest_93 : decode cX4_digest 93 = .ok (.if_icmp .ge 25, 3) := by decide +kernel
theorem dX4_digest_96 : decode cX4_digest 96 = .ok (.aload_n 3, 1) := by decide +kernel
theorem dX4_digest_97 : decode cX4_digest 97 = .ok (.iload 5, 2) := by decide +kernel
theorem dX4_digest_99 : decode cX4_digest 99 = .ok (.iaload, 1) := by decide +kernel
theorem dX4_digest_100 : decode cX4_digest 100 = .ok (.istore 6, 2) := by decide +kernel
theorem dX4_digest_102 : decode cX4_digest 102 = .ok (.lload_n 1, 1) := by decide +kernel
theorem dX4_digest_103 : decode cX4_digest 103 = .ok (.ldc2_w 131, 3) := by decide +kernel
theorem dX4_digest_106 : decode cX4_digest 106 = .ok (.lmul, 1) := by decide +kernel
theorem dX4_digest_107 : decode cX4_digest 107 = .ok (.iload 6, 2) := by decide +kernel
theorem dX4_digest_109 : decode cX4_digest 109 = .ok (.i2l, 1) := by decide +kernel
theorem dX4_digest_110 : decode cX4_digest 110 = .ok (.ladd, 1) := by decide +kernel
theorem dX4_digest_111 : decode cX4_digest 111 = .ok (.lstore_n 1, 1) := by decide +kernel
theorem dX4_digest_112 : decode cX4_digest 112 = .ok (.iinc 5 1, 3) := by decide +kernel
theorem dX4_digest_115 : decode cX4_digest 115 = .ok (.goto (-26), 3) := by decide +kernel
theorem dX4_digest_118 : decode cX4_digest 118 = .ok (.iconst 0, 1) := by decide +kernel
theorem dX4_digest_119 : decode cX4_digest 119 = .ok (.istore_n 3, 1) := by decide +kernel
theorem dX4_digest_120 : decode cX4_digest 120 = .ok (.iload_n 3, 1) := by decide +kernel
theorem dX4_digest_121 : decode cX4_digest 121 = .ok (.iconst 4, 1) := by decide +kernel
theorem dX4_digest_122 : decode cX4_digest 122 = .ok (.aload_n 0, 1) := by decide +kernel
theorem dX4_digest_123 : decode cX4_digest 123 = .ok (.getfield 32, 3) := by decide +kernel
theorem dX4_digest_126 : decode cX4_digest 126 = .ok (.imul, 1) := by decide +kernel
theorem dX4_digest_127 : decode cX4_digest 127 = .ok (.if_icmp .ge 23, 3) := by decide +kernel
theorem dX4_digest_130 : decode cX4_digest 130 = .ok (.lload_n 1, 1) := by decide +kernel
theorem dX4_digest_131 : decode cX4_digest 131 = .ok (.ldc2_w 131, 3) := by decide +kernel
theorem dX4_digest_134 : decode cX4_digest 134 = .ok (.lmul, 1) := by decide +kernel
theorem dX4_digest_135 : decode cX4_digest 135 = .ok (.aload_n 0, 1) := by decide +kernel
theorem dX4_digest_136 : decode cX4_digest 136 = .ok (.getfield 19, 3) := by decide +kernel
theorem dX4_digest_139 : decode cX4_digest 139 = .ok (.iload_n 3, 1) := by decide +kernel
theorem dX4_digest_140 : decode cX4_digest 140 = .ok (.iaload, 1) := by decide +kernel
theorem dX4_digest_141 : decode cX4_digest 141 = .ok (.i2l, 1) := by decide +kernel
theorem dX4_digest_142 : decode cX4_digest 142 = .ok (.ladd, 1) := by decide +kernel
theorem dX4_digest_143 : decode cX4_digest 143 = .ok (.lstore_n 1, 1) := by decide +kernel
theorem dX4_digest_144 : decode cX4_digest 144 = .ok (.iinc 3 1, 3) := by decide +kernel
theorem dX4_digest_147 : decode cX4_digest 147 = .ok (.goto (-27), 3) := by decide +kernel
theorem dX4_digest_150 : decode cX4_digest 150 = .ok (.iconst 0, 1) := by decide +kernel
theorem dX4_digest_151 : decode cX4_digest 151 = .ok (.istore_n 3, 1) := by decide +kernel
theorem dX4_digest_152 : decode cX4_digest 152 = .ok (.iload_n 3, 1) := by decide +kernel
theorem dX4_digest_153 : decode cX4_digest 153 = .ok (.aload_n 0, 1) := by decide +kernel
theorem dX4_digest_154 : decode cX4_digest 154 = .ok (.getfield 39, 3) := by decide +kernel
theorem dX4_digest_157 : decode cX4_digest 157 = .ok (.if_icmp .ge 39, 3) := by decide +kernel
theorem dX4_digest_160 : decode cX4_digest 160 = .ok (.iconst 0, 1) := by decide +kernel
theorem dX4_digest_161 : decode cX4_digest 161 = .ok (.istore 4, 2) := by decide +kernel
theorem dX4_digest_163 : decode cX4_digest 163 = .ok (.iload 4, 2) := by decide +kernel
theorem dX4_digest_165 : decode cX4_digest 165 = .ok (.iconst 4, 1) := by decide +kernel
theorem dX4_digest_166 : decode cX4_digest 166 = .ok (.if_icmp .ge 24, 3) := by decide +kernel
theorem dX4_digest_169 : decode cX4_digest 169 = .ok (.lload_n 1, 1) := by decide +kernel
theorem dX4_digest_170 : decode cX4_digest 170 = .ok (.ldc2_w 131, 3) := by decide +kernel
theorem dX4_digest_173 : decode cX4_digest 173 = .ok (.lmul, 1) := by decide +kernel
theorem dX4_digest_174 : decode cX4_digest 174 = .ok (.aload_n 0, 1) := by decide +kernel
theorem dX4_digest_175 : decode cX4_digest 175 = .ok (.iload_n 3, 1) := by decide +kernel
theorem dX4_digest_176 : decode cX4_digest 176 = .ok (.iload 4, 2) := by decide +kernel
theorem dX4_digest_178 : decode cX4_digest 178 = .ok (.invokevirtual 81, 3) := by decide +kernel
theorem dX4_digest_181 : decode cX4_digest 181 = .ok (.i2l, 1) := by decide +kernel
theorem dX4_digest_182 : decode cX4_digest 182 = .ok (.ladd, 1) := by decide +kernel
theorem dX4_digest_183 : decode cX4_digest 183 = .ok (.lstore_n 1, 1) := by decide +kernel
theorem dX4_digest_184 : decode cX4_digest 184 = .ok (.iinc 4 1, 3) := by decide +kernel
theorem dX4_digest_187 : decode cX4_digest 187 = .ok (.goto (-24), 3) := by decide +kernel
theorem dX4_digest_190 : decode cX4_digest 190 = .ok (.iinc 3 1, 3) := by decide +kernel
theorem dX4_digest_193 : decode cX4_digest 193 = .ok (.goto (-41), 3) := by decide +kernel
theorem dX4_digest_196 : decode cX4_digest 196 = .ok (.iconst 0, 1) := by decide +kernel
theorem dX4_digest_197 : decode cX4_digest 197 = .ok (.istore_n 3, 1) := by decide +kernel
theorem dX4_digest_198 : decode cX4_digest 198 = .ok (.iload_n 3, 1) := by decide +kernel
theorem dX4_digest_199 : decode cX4_digest 199 = .ok (.aload_n 0, 1) := by decide +kernel
theorem dX4_digest_200 : decode cX4_digest 200 = .ok (.getfield 42, 3) := by decide +kernel
theorem dX4_digest_203 : decode cX4_digest 203 = .ok (.if_icmp .ge 39, 3) := by decide +kernel
theorem dX4_digest_206 : decode cX4_digest 206 = .ok (.iconst 0, 1) := by decide +kernel
theorem dX4_digest_207 : decode cX4_digest 207 = .ok (.istore 4, 2) := by decide +kernel
theorem dX4_digest_209 : decode cX4_digest 209 = .ok (.iload 4, 2) := by decide +kernel
theorem dX4_digest_211 : decode cX4_digest 211 = .ok (.iconst 5, 1) := by decide +kernel
theorem dX4_digest_212 : decode cX4_digest 212 = .ok (.if_icmp .ge 24, 3) := by decide +kernel
theorem dX4_digest_215 : decode cX4_digest 215 = .ok (.lload_n 1, 1) := by decide +kernel
theorem dX4_digest_216 : decode cX4_digest 216 = .ok (.ldc2_w 131, 3) := by decide +kernel
theorem dX4_digest_219 : decode cX4_digest 219 = .ok (.lmul, 1) := by decide +kernel
theorem dX4_digest_220 : decode cX4_digest 220 = .ok (.aload_n 0, 1) := by decide +kernel
theorem dX4_digest_221 : decode cX4_digest 221 = .ok (.iload_n 3, 1) := by decide +kernel
theorem dX4_digest_222 : decode cX4_digest 222 = .ok (.iload 4, 2) := by decide +kernel
theorem dX4_digest_224 : decode cX4_digest 224 = .ok (.invokevirtual 84, 3) := by decide +kernel
theorem dX4_digest_227 : decode cX4_digest 227 = .ok (.i2l, 1) := by decide +kernel
theorem dX4_digest_228 : decode cX4_digest 228 = .ok (.ladd, 1) := by decide +kernel
theorem dX4_digest_229 : decode cX4_digest 229 = .ok (.lstore_n 1, 1) := by decide +kernel
theorem dX4_digest_230 : decode cX4_digest 230 = .ok (.iinc 4 1, 3) := by decide +kernel
theorem dX4_digest_233 : decode cX4_digest 233 = .ok (.goto (-24), 3) := by decide +kernel
theorem dX4_digest_236 : decode cX4_digest 236 = .ok (.iinc 3 1, 3) := by decide +kernel
theorem dX4_digest_239 : decode cX4_digest 239 = .ok (.goto (-41), 3) := by decide +kernel
theorem dX4_digest_242 : decode cX4_digest 242 = .ok (.lload_n 1, 1) := by decide +kernel
theorem dX4_digest_243 : decode cX4_digest 243 = .ok (.lreturn, 1) := by decide +kernel
theorem dJ9_floorMod_7cf53_0 : decode cJ9_floorMod_7cf53 0 = .ok (.iload_n 0, 1) := by decide +kernel
theorem dJ9_floorMod_7cf53_1 : decode cJ9_floorMod_7cf53 1 = .ok (.iload_n 1, 1) := by decide +kernel
theorem dJ9_floorMod_7cf53_2 : decode cJ9_floorMod_7cf53 2 = .ok (.irem, 1) := by decide +kernel
theorem dJ9_floorMod_7cf53_3 : decode cJ9_floorMod_7cf53 3 = .ok (.istore_n 2, 1) := by decide +kernel
theorem dJ9_floorMod_7cf53_4 : decode cJ9_floorMod_7cf53 4 = .ok (.iload_n 0, 1) := by decide +kernel
theorem dJ9_floorMod_7cf53_5 : decode cJ9_floorMod_7cf53 5 = .ok (.iload_n 1, 1) := by decide +kernel
theorem dJ9_floorMod_7cf53_6 : decode cJ9_floorMod_7cf53 6 = .ok (.ixor, 1) := by decide +kernel
theorem dJ9_floorMod_7cf53_7 : decode cJ9_floorMod_7cf53 7 = .ok (.ifCond .ge 11, 3) := by decide +kernel
theorem dJ9_floorMod_7cf53_10 : decode cJ9_floorMod_7cf53 10 = .ok (.iload_n 2, 1) := by decide +kernel
theorem dJ9_floorMod_7cf53_11 : decode cJ9_floorMod_7cf53 11 = .ok (.ifCond .eq 7, 3) := by decide +kernel
theorem dJ9_floorMod_7cf53_14 : decode cJ9_floorMod_7cf53 14 = .ok (.iload_n 2, 1) := by decide +kernel
theorem dJ9_floorMod_7cf53_15 : decode cJ9_floorMod_7cf53 15 = .ok (.iload_n 1, 1) := by decide +kernel
theorem dJ9_floorMod_7cf53_16 : decode cJ9_floorMod_7cf53 16 = .ok (.iadd, 1) := by decide +kernel
theorem dJ9_floorMod_7cf53_17 : decode cJ9_floorMod_7cf53 17 = .ok (.ireturn, 1) := by decide +kernel
theorem dJ9_floorMod_7cf53_18 : decode cJ9_floorMod_7cf53 18 = .ok (.iload_n 2, 1) := by decide +kernel
theorem dJ9_floorMod_7cf53_19 : decode cJ9_floorMod_7cf53 19 = .ok (.ireturn, 1) := by decide +kernel
theorem dJ9_max_7cf53_0 : decode cJ9_max_7cf53 0 = .ok (.iload_n 0, 1) := by decide +kernel
theorem dJ9_max_7cf53_1 : decode cJ9_max_7cf53 1 = .ok (.iload_n 1, 1) := by decide +kernel
theorem dJ9_max_7cf53_2 : decode cJ9_max_7cf53 2 = .ok (.if_icmp .lt 7, 3) := by decide +kernel
theorem dJ9_max_7cf53_5 : decode cJ9_max_7cf53 5 = .ok (.iload_n 0, 1) := by decide +kernel
theorem dJ9_max_7cf53_6 : decode cJ9_max_7cf53 6 = .ok (.goto 4, 3) := by decide +kernel
theorem dJ9_max_7cf53_9 : decode cJ9_max_7cf53 9 = .ok (.iload_n 1, 1) := by decide +kernel
theorem dJ9_max_7cf53_10 : decode cJ9_max_7cf53 10 = .ok (.ireturn, 1) := by decide +kernel
theorem dJ9_min_7cf53_0 : decode cJ9_min_7cf53 0 = .ok (.iload_n 0, 1) := by decide +kernel
theorem dJ9_min_7cf53_1 : decode cJ9_min_7cf53 1 = .ok (.iload_n 1, 1) := by decide +kernel
theorem dJ9_min_7cf53_2 : decode cJ9_min_7cf53 2 = .ok (.if_icmp .gt 7, 3) := by decide +kernel
theorem dJ9_min_7cf53_5 : decode cJ9_min_7cf53 5 = .ok (.iload_n 0, 1) := by decide +kernel
theorem dJ9_min_7cf53_6 : decode cJ9_min_7cf53 6 = .ok (.goto 4, 3) := by decide +kernel
theorem dJ9_min_7cf53_9 : decode cJ9_min_7cf53 9 = .ok (.iload_n 1, 1) := by decide +kernel
theorem dJ9_min_7cf53_10 : decode cJ9_min_7cf53 10 = .ok (.ireturn, 1) := by decide +kernel
theorem dL_bring_0 : decode cL_bring 0 = .ok (.aload_n 3, 1) := by decide +kernel
theorem dL_bring_1 : decode cL_bring 1 = .ok (.iconst 0, 1) := by decide +kernel
theorem dL_bring_2 : decode cL_bring 2 = .ok (.aload_n 0, 1) := by decide +kernel
theorem dL_bring_3 : decode cL_bring 3 = .ok (.iload_n 1, 1) := by decide +kernel
theorem dL_bring_4 : decode cL_bring 4 = .ok (.iload_n 2, 1) := by decide +kernel
theorem dL_bring_5 : decode cL_bring 5 = .ok (.invokevirtual 7, 3) := by decide +kernel
theorem dL_bring_8 : decode cL_bring 8 = .ok (.i2l, 1) := by decide +kernel
theorem dL_bring_9 : decode cL_bring 9 = .ok (.lastore, 1) := by decide +kernel
theorem dL_bring_10 : decode cL_bring 10 = .ok (.goto 11, 3) := by decide +kernel
theorem dL_bring_13 : decode cL_bring 13 = .ok (.astore 4, 2) := by decide +kernel
theorem dL_bring_15 : decode cL_bring 15 = .ok (.iconst 1, 1) := by decide +kernel
theorem dL_bring_16 : decode cL_bring 16 = .ok (.ireturn, 1) := by decide +kernel
theorem dL_bring_17 : decode cL_bring 17 = .ok (.astore 4, 2) := by decide +kernel
theorem dL_bring_19 : decode cL_bring 19 = .ok (.iconst 2, 1) := by decide +kernel
theorem dL_bring_20 : decode cL_bring 20 = .ok (.ireturn, 1) := by decide +kernel
theorem dL_bring_21 : decode cL_bring 21 = .ok (.iconst 0, 1) := by decide +kernel
theorem dL_bring_22 : decode cL_bring 22 = .ok (.ireturn, 1) := by decide +kernel
theorem dL_setRain_0 : decode cL_setRain 0 = .ok (.aload_n 3, 1) := by decide +kernel
theorem dL_setRain_1 : decode cL_setRain 1 = .ok (.iconst 0, 1) := by decide +kernel
theorem dL_setRain_2 : decode cL_setRain 2 = .ok (.aload_n 0, 1) := by decide +kernel
theorem dL_setRain_3 : decode cL_setRain 3 = .ok (.iload_n 1, 1) := by decide +kernel
theorem dL_setRain_4 : decode cL_setRain 4 = .ok (.iload_n 2, 1) := by decide +kernel
theorem dL_setRain_5 : decode cL_setRain 5 = .ok (.invokevirtual 17, 3) := by decide +kernel
theorem dL_setRain_8 : decode cL_setRain 8 = .ok (.i2l, 1) := by decide +kernel
theorem dL_setRain_9 : decode cL_setRain 9 = .ok (.lastore, 1) := by decide +kernel
theorem dL_setRain_10 : decode cL_setRain 10 = .ok (.goto 11, 3) := by decide +kernel
theorem dL_setRain_13 : decode cL_setRain 13 = .ok (.astore 4, 2) := by decide +kernel
theorem dL_setRain_15 : decode cL_setRain 15 = .ok (.iconst 1, 1) := by decide +kernel
theorem dL_setRain_16 : decode cL_setRain 16 = .ok (.ireturn, 1) := by decide +kernel
theorem dL_setRain_17 : decode cL_setRain 17 = .ok (.astore 4, 2) := by decide +kernel
theorem dL_setRain_19 : decode cL_setRain 19 = .ok (.iconst 2, 1) := by decide +kernel
theorem dL_setRain_20 : decode cL_setRain 20 = .ok (.ireturn, 1) := by decide +kernel
theorem dL_setRain_21 : decode cL_setRain 21 = .ok (.iconst 0, 1) := by decide +kernel
theorem dL_setRain_22 : decode cL_setRain 22 = .ok (.ireturn, 1) := by decide +kernel
theorem dL_setShip_0 : decode cL_setShip 0 = .ok (.aload_n 3, 1) := by decide +kernel
theorem dL_setShip_1 : decode cL_setShip 1 = .ok (.iconst 0, 1) := by decide +kernel
theorem dL_setShip_2 : decode cL_setShip 2 = .ok (.aload_n 0, 1) := by decide +kernel
theorem dL_setShip_3 : decode cL_setShip 3 = .ok (.iload_n 1, 1) := by decide +kernel
theorem dL_setShip_4 : decode cL_setShip 4 = .ok (.iload_n 2, 1) := by decide +kernel
theorem dL_setShip_5 : decode cL_setShip 5 = .ok (.invokevirtual 20, 3) := by decide +kernel
theorem dL_setShip_8 : decode cL_setShip 8 = .ok (.i2l, 1) := by decide +kernel
theorem dL_setShip_9 : decode cL_setShip 9 = .ok (.lastore, 1) := by decide +kernel
theorem dL_setShip_10 : decode cL_setShip 10 = .ok (.goto 11, 3) := by decide +kernel
theorem dL_setShip_13 : decode cL_setShip 13 = .ok (.astore 4, 2) := by decide +kernel
theorem dL_setShip_15 : decode cL_setShip 15 = .ok (.iconst 1, 1) := by decide +kernel
theorem dL_setShip_16 : decode cL_setShip 16 = .ok (.ireturn, 1) := by decide +kernel
theorem dL_setShip_17 : decode cL_setShip 17 = .ok (.astore 4, 2) := by decide +kernel
theorem dL_setShip_19 : decode cL_setShip 19 = .ok (.iconst 2, 1) := by decide +kernel
theorem dL_setShip_20 : decode cL_setShip 20 = .ok (.ireturn, 1) := by decide +kernel
theorem dL_setShip_21 : decode cL_setShip 21 = .ok (.iconst 0, 1) := by decide +kernel
theorem dL_setShip_22 : decode cL_setShip 22 = .ok (.ireturn, 1) := by decide +kernel
theorem dL_pile_0 : decode cL_pile 0 = .ok (.aload_n 2, 1) := by decide +kernel
theorem dL_pile_1 : decode cL_pile 1 = .ok (.iconst 0, 1) := by decide +kernel
theorem dL_pile_2 : decode cL_pile 2 = .ok (.aload_n 0, 1) := by decide +kernel
theorem dL_pile_3 : decode cL_pile 3 = .ok (.iload_n 1, 1) := by decide +kernel
theorem dL_pile_4 : decode cL_pile 4 = .ok (.invokevirtual 23, 3) := by decide +kernel
theorem dL_pile_7 : decode cL_pile 7 = .ok (.i2l, 1) := by decide +kernel
theorem dL_pile_8 : decode cL_pile 8 = .ok (.lastore, 1) := by decide +kernel
theorem dL_pile_9 : decode cL_pile 9 = .ok (.goto 9, 3) := by decide +kernel
theorem dL_pile_12 : decode cL_pile 12 = .ok (.astore_n 3, 1) := by decide +kernel
theorem dL_pile_13 : decode cL_pile 13 = .ok (.iconst 1, 1) := by decide +kernel
theorem dL_pile_14 : decode cL_pile 14 = .ok (.ireturn, 1) := by decide +kernel
theorem dL_pile_15 : decode cL_pile 15 = .ok (.astore_n 3, 1) := by decide +kernel
theorem dL_pile_16 : decode cL_pile 16 = .ok (.iconst 2, 1) := by decide +kernel
theorem dL_pile_17 : decode cL_pile 17 = .ok (.ireturn, 1) := by decide +kernel
theorem dL_pile_18 : decode cL_pile 18 = .ok (.iconst 0, 1) := by decide +kernel
theorem dL_pile_19 : decode cL_pile 19 = .ok (.ireturn, 1) := by decide +kernel
theorem dL_light_0 : decode cL_light 0 = .ok (.aload_n 3, 1) := by decide +kernel
theorem dL_light_1 : decode cL_light 1 = .ok (.iconst 0, 1) := by decide +kernel
theorem dL_light_2 : decode cL_light 2 = .ok (.aload_n 0, 1) := by decide +kernel
theorem dL_light_3 : decode cL_light 3 = .ok (.iload_n 1, 1) := by decide +kernel
theorem dL_light_4 : decode cL_light 4 = .ok (.iload_n 2, 1) := by decide +kernel
theorem dL_light_5 : decode cL_light 5 = .ok (.invokevirtual 29, 3) := by decide +kernel
theorem dL_light_8 : decode cL_light 8 = .ok (.i2l, 1) := by decide +kernel
theorem dL_light_9 : decode cL_light 9 = .ok (.lastore, 1) := by decide +kernel
theorem dL_light_10 : decode cL_light 10 = .ok (.goto 15, 3) := by decide +kernel
theorem dL_light_13 : decode cL_light 13 = .ok (.astore 4, 2) := by decide +kernel
theorem dL_light_15 : decode cL_light 15 = .ok (.iconst 1, 1) := by decide +kernel
theorem dL_light_16 : decode cL_light 16 = .ok (.ireturn, 1) := by decide +kernel
theorem dL_light_17 : decode cL_light 17 = .ok (.astore 4, 2) := by decide +kernel
theorem dL_light_19 : decode cL_light 19 = .ok (.iconst 2, 1) := by decide +kernel
theorem dL_light_20 : decode cL_light 20 = .ok (.ireturn, 1) := by decide +kernel
theorem dL_light_21 : decode cL_light 21 = .ok (.astore 4, 2) := by decide +kernel
theorem dL_light_23 : decode cL_light 23 = .ok (.iconst 3, 1) := by decide +kernel
theorem dL_light_24 : decode cL_light 24 = .ok (.ireturn, 1) := by decide +kernel
theorem dL_light_25 : decode cL_light 25 = .ok (.iconst 0, 1) := by decide +kernel
theorem dL_light_26 : decode cL_light 26 = .ok (.ireturn, 1) := by decide +kernel
theorem dL_dig_0 : decode cL_dig 0 = .ok (.aload_n 2, 1) := by decide +kernel
theorem dL_dig_1 : decode cL_dig 1 = .ok (.iconst 0, 1) := by decide +kernel
theorem dL_dig_2 : decode cL_dig 2 = .ok (.aload_n 0, 1) := by decide +kernel
theorem dL_dig_3 : decode cL_dig 3 = .ok (.iload_n 1, 1) := by decide +kernel
theorem dL_dig_4 : decode cL_dig 4 = .ok (.invokevirtual 32, 3) := by decide +kernel
theorem dL_dig_7 : decode cL_dig 7 = .ok (.i2l, 1) := by decide +kernel
theorem dL_dig_8 : decode cL_dig 8 = .ok (.lastore, 1) := by decide +kernel
theorem dL_dig_9 : decode cL_dig 9 = .ok (.goto 9, 3) := by decide +kernel
theorem dL_dig_12 : decode cL_dig 12 = .ok (.astore_n 3, 1) := by decide +kernel
theorem dL_dig_13 : decode cL_dig 13 = .ok (.iconst 1, 1) := by decide +kernel
theorem dL_dig_14 : decode cL_dig 14 = .ok (.ireturn, 1) := by decide +kernel
theorem dL_dig_15 : decode cL_dig 15 = .ok (.astore_n 3, 1) := by decide +kernel
theorem dL_dig_16 : decode cL_dig 16 = .ok (.iconst 2, 1) := by decide +kernel
theorem dL_dig_17 : decode cL_dig 17 = .ok (.ireturn, 1) := by decide +kernel
theorem dL_dig_18 : decode cL_dig 18 = .ok (.iconst 0, 1) := by decide +kernel
theorem dL_dig_19 : decode cL_dig 19 = .ok (.ireturn, 1) := by decide +kernel
theorem dL_steep_0 : decode cL_steep 0 = .ok (.aload_n 3, 1) := by decide +kernel
theorem dL_steep_1 : decode cL_steep 1 = .ok (.iconst 0, 1) := by decide +kernel
theorem dL_steep_2 : decode cL_steep 2 = .ok (.aload_n 0, 1) := by decide +kernel
theorem dL_steep_3 : decode cL_steep 3 = .ok (.iload_n 1, 1) := by decide +kernel
theorem dL_steep_4 : decode cL_steep 4 = .ok (.iload_n 2, 1) := by decide +kernel
theorem dL_steep_5 : decode cL_steep 5 = .ok (.invokevirtual 35, 3) := by decide +kernel
theorem dL_steep_8 : decode cL_steep 8 = .ok (.i2l, 1) := by decide +kernel
theorem dL_steep_9 : decode cL_steep 9 = .ok (.lastore, 1) := by decide +kernel
theorem dL_steep_10 : decode cL_steep 10 = .ok (.goto 11, 3) := by decide +kernel
theorem dL_steep_13 : decode cL_steep 13 = .ok (.astore 4, 2) := by decide +kernel
theorem dL_steep_15 : decode cL_steep 15 = .ok (.iconst 1, 1) := by decide +kernel
theorem dL_steep_16 : decode cL_steep 16 = .ok (.ireturn, 1) := by decide +kernel
theorem dL_steep_17 : decode cL_steep 17 = .ok (.astore 4, 2) := by decide +kernel
theorem dL_steep_19 : decode cL_steep 19 = .ok (.iconst 2, 1) := by decide +kernel
theorem dL_steep_20 : decode cL_steep 20 = .ok (.ireturn, 1) := by decide +kernel
theorem dL_steep_21 : decode cL_steep 21 = .ok (.iconst 0, 1) := by decide +kernel
theorem dL_steep_22 : decode cL_steep 22 = .ok (.ireturn, 1) := by decide +kernel
theorem dL_pan_0 : decode cL_pan 0 = .ok (.aload_n 1, 1) := by decide +kernel
theorem dL_pan_1 : decode cL_pan 1 = .ok (.iconst 0, 1) := by decide +kernel
theorem dL_pan_2 : decode cL_pan 2 = .ok (.aload_n 0, 1) := by decide +kernel
theorem dL_pan_3 : decode cL_pan 3 = .ok (.invokevirtual 38, 3) := by decide +kernel
theorem dL_pan_6 : decode cL_pan 6 = .ok (.i2l, 1) := by decide +kernel
theorem dL_pan_7 : decode cL_pan 7 = .ok (.lastore, 1) := by decide +kernel
theorem dL_pan_8 : decode cL_pan 8 = .ok (.goto 6, 3) := by decide +kernel
theorem dL_pan_11 : decode cL_pan 11 = .ok (.astore_n 2, 1) := by decide +kernel
theorem dL_pan_12 : decode cL_pan 12 = .ok (.iconst 1, 1) := by decide +kernel
theorem dL_pan_13 : decode cL_pan 13 = .ok (.ireturn, 1) := by decide +kernel
theorem dL_pan_14 : decode cL_pan 14 = .ok (.iconst 0, 1) := by decide +kernel
theorem dL_pan_15 : decode cL_pan 15 = .ok (.ireturn, 1) := by decide +kernel
theorem dL_draw_0 : decode cL_draw 0 = .ok (.aload 4, 2) := by decide +kernel
theorem dL_draw_2 : decode cL_draw 2 = .ok (.iconst 0, 1) := by decide +kernel
theorem dL_draw_3 : decode cL_draw 3 = .ok (.aload_n 0, 1) := by decide +kernel
theorem dL_draw_4 : decode cL_draw 4 = .ok (.iload_n 1, 1) := by decide +kernel
theorem dL_draw_5 : decode cL_draw 5 = .ok (.iload_n 2, 1) := by decide +kernel
theorem dL_draw_6 : decode cL_draw 6 = .ok (.iload_n 3, 1) := by decide +kernel
theorem dL_draw_7 : decode cL_draw 7 = .ok (.invokevirtual 42, 3) := by decide +kernel
theorem dL_draw_10 : decode cL_draw 10 = .ok (.i2l, 1) := by decide +kernel
theorem dL_draw_11 : decode cL_draw 11 = .ok (.lastore, 1) := by decide +kernel
theorem dL_draw_12 : decode cL_draw 12 = .ok (.goto 15, 3) := by decide +kernel
theorem dL_draw_15 : decode cL_draw 15 = .ok (.astore 5, 2) := by decide +kernel
theorem dL_draw_17 : decode cL_draw 17 = .ok (.iconst 1, 1) := by decide +kernel
theorem dL_draw_18 : decode cL_draw 18 = .ok (.ireturn, 1) := by decide +kernel
theorem dL_draw_19 : decode cL_draw 19 = .ok (.astore 5, 2) := by decide +kernel
theorem dL_draw_21 : decode cL_draw 21 = .ok (.iconst 2, 1) := by decide +kernel
theorem dL_draw_22 : decode cL_draw 22 = .ok (.ireturn, 1) := by decide +kernel
theorem dL_draw_23 : decode cL_draw 23 = .ok (.astore 5, 2) := by decide +kernel
theorem dL_draw_25 : decode cL_draw 25 = .ok (.iconst 3, 1) := by decide +kernel
theorem dL_draw_26 : decode cL_draw 26 = .ok (.ireturn, 1) := by decide +kernel
theorem dL_draw_27 : decode cL_draw 27 = .ok (.iconst 0, 1) := by decide +kernel
theorem dL_draw_28 : decode cL_draw 28 = .ok (.ireturn, 1) := by decide +kernel
theorem dL_boil_0 : decode cL_boil 0 = .ok (.aload_n 2, 1) := by decide +kernel
theorem dL_boil_1 : decode cL_boil 1 = .ok (.iconst 0, 1) := by decide +kernel
theorem dL_boil_2 : decode cL_boil 2 = .ok (.aload_n 0, 1) := by decide +kernel
theorem dL_boil_3 : decode cL_boil 3 = .ok (.iload_n 1, 1) := by decide +kernel
theorem dL_boil_4 : decode cL_boil 4 = .ok (.invokevirtual 46, 3) := by decide +kernel
theorem dL_boil_7 : decode cL_boil 7 = .ok (.ifCond .eq 7, 3) := by decide +kernel
theorem dL_boil_10 : decode cL_boil 10 = .ok (.lconst 1, 1) := by decide +kernel
theorem dL_boil_11 : decode cL_boil 11 = .ok (.goto 4, 3) := by decide +kernel
theorem dL_boil_14 : decode cL_boil 14 = .ok (.lconst 0, 1) := by decide +kernel
theorem dL_boil_15 : decode cL_boil 15 = .ok (.lastore, 1) := by decide +kernel
theorem dL_boil_16 : decode cL_boil 16 = .ok (.goto 6, 3) := by decide +kernel
theorem dL_boil_19 : decode cL_boil 19 = .ok (.astore_n 3, 1) := by decide +kernel
theorem dL_boil_20 : decode cL_boil 20 = .ok (.iconst 1, 1) := by decide +kernel
theorem dL_boil_21 : decode cL_boil 21 = .ok (.ireturn, 1) := by decide +kernel
theorem dL_boil_22 : decode cL_boil 22 = .ok (.iconst 0, 1) := by decide +kernel
theorem dL_boil_23 : decode cL_boil 23 = .ok (.ireturn, 1) := by decide +kernel
theorem dL_pour_0 : decode cL_pour 0 = .ok (.aload_n 3, 1) := by decide +kernel
theorem dL_pour_1 : decode cL_pour 1 = .ok (.iconst 0, 1) := by decide +kernel
theorem dL_pour_2 : decode cL_pour 2 = .ok (.aload_n 0, 1) := by decide +kernel
theorem dL_pour_3 : decode cL_pour 3 = .ok (.iload_n 1, 1) := by decide +kernel
theorem dL_pour_4 : decode cL_pour 4 = .ok (.iload_n 2, 1) := by decide +kernel
theorem dL_pour_5 : decode cL_pour 5 = .ok (.invokevirtual 50, 3) := by decide +kernel
theorem dL_pour_8 : decode cL_pour 8 = .ok (.i2l, 1) := by decide +kernel
theorem dL_pour_9 : decode cL_pour 9 = .ok (.lastore, 1) := by decide +kernel
theorem dL_pour_10 : decode cL_pour 10 = .ok (.goto 15, 3) := by decide +kernel
theorem dL_pour_13 : decode cL_pour 13 = .ok (.astore 4, 2) := by decide +kernel
theorem dL_pour_15 : decode cL_pour 15 = .ok (.iconst 1, 1) := by decide +kernel
theorem dL_pour_16 : decode cL_pour 16 = .ok (.ireturn, 1) := by decide +kernel
theorem dL_pour_17 : decode cL_pour 17 = .ok (.astore 4, 2) := by decide +kernel
theorem dL_pour_19 : decode cL_pour 19 = .ok (.iconst 2, 1) := by decide +kernel
theorem dL_pour_20 : decode cL_pour 20 = .ok (.ireturn, 1) := by decide +kernel
theorem dL_pour_21 : decode cL_pour 21 = .ok (.astore 4, 2) := by decide +kernel
theorem dL_pour_23 : decode cL_pour 23 = .ok (.iconst 3, 1) := by decide +kernel
theorem dL_pour_24 : decode cL_pour 24 = .ok (.ireturn, 1) := by decide +kernel
theorem dL_pour_25 : decode cL_pour 25 = .ok (.iconst 0, 1) := by decide +kernel
theorem dL_pour_26 : decode cL_pour 26 = .ok (.ireturn, 1) := by decide +kernel
theorem dL_clamp_0 : decode cL_clamp 0 = .ok (.aload_n 3, 1) := by decide +kernel
theorem dL_clamp_1 : decode cL_clamp 1 = .ok (.iconst 0, 1) := by decide +kernel
theorem dL_clamp_2 : decode cL_clamp 2 = .ok (.aload_n 0, 1) := by decide +kernel
theorem dL_clamp_3 : decode cL_clamp 3 = .ok (.iload_n 1, 1) := by decide +kernel
theorem dL_clamp_4 : decode cL_clamp 4 = .ok (.iload_n 2, 1) := by decide +kernel
theorem dL_clamp_5 : decode cL_clamp 5 = .ok (.invokevirtual 53, 3) := by decide +kernel
theorem dL_clamp_8 : decode cL_clamp 8 = .ok (.i2l, 1) := by decide +kernel
theorem dL_clamp_9 : decode cL_clamp 9 = .ok (.lastore, 1) := by decide +kernel
theorem dL_clamp_10 : decode cL_clamp 10 = .ok (.goto 7, 3) := by decide +kernel
theorem dL_clamp_13 : decode cL_clamp 13 = .ok (.astore 4, 2) := by decide +kernel
theorem dL_clamp_15 : decode cL_clamp 15 = .ok (.iconst 1, 1) := by decide +kernel
theorem dL_clamp_16 : decode cL_clamp 16 = .ok (.ireturn, 1) := by decide +kernel
theorem dL_clamp_17 : decode cL_clamp 17 = .ok (.iconst 0, 1) := by decide +kernel
theorem dL_clamp_18 : decode cL_clamp 18 = .ok (.ireturn, 1) := by decide +kernel
theorem dL_pit_0 : decode cL_pit 0 = .ok (.aload_n 3, 1) := by decide +kernel
theorem dL_pit_1 : decode cL_pit 1 = .ok (.iconst 0, 1) := by decide +kernel
theorem dL_pit_2 : decode cL_pit 2 = .ok (.aload_n 0, 1) := by decide +kernel
theorem dL_pit_3 : decode cL_pit 3 = .ok (.iload_n 1, 1) := by decide +kernel
theorem dL_pit_4 : decode cL_pit 4 = .ok (.iload_n 2, 1) := by decide +kernel
theorem dL_pit_5 : decode cL_pit 5 = .ok (.invokevirtual 56, 3) := by decide +kernel
theorem dL_pit_8 : decode cL_pit 8 = .ok (.i2l, 1) := by decide +kernel
theorem dL_pit_9 : decode cL_pit 9 = .ok (.lastore, 1) := by decide +kernel
theorem dL_pit_10 : decode cL_pit 10 = .ok (.goto 7, 3) := by decide +kernel
theorem dL_pit_13 : decode cL_pit 13 = .ok (.astore 4, 2) := by decide +kernel
theorem dL_pit_15 : decode cL_pit 15 = .ok (.iconst 1, 1) := by decide +kernel
theorem dL_pit_16 : decode cL_pit 16 = .ok (.ireturn, 1) := by decide +kernel
theorem dL_pit_17 : decode cL_pit 17 = .ok (.iconst 0, 1) := by decide +kernel
theorem dL_pit_18 : decode cL_pit 18 = .ok (.ireturn, 1) := by decide +kernel
theorem dL_about_0 : decode cL_about 0 = .ok (.aload_n 3, 1) := by decide +kernel
theorem dL_about_1 : decode cL_about 1 = .ok (.iconst 0, 1) := by decide +kernel
theorem dL_about_2 : decode cL_about 2 = .ok (.aload_n 0, 1) := by decide +kernel
theorem dL_about_3 : decode cL_about 3 = .ok (.iload_n 1, 1) := by decide +kernel
theorem dL_about_4 : decode cL_about 4 = .ok (.iload_n 2, 1) := by decide +kernel
theorem dL_about_5 : decode cL_about 5 = .ok (.invokevirtual 59, 3) := by decide +kernel
theorem dL_about_8 : decode cL_about 8 = .ok (.i2l, 1) := by decide +kernel
theorem dL_about_9 : decode cL_about 9 = .ok (.lastore, 1) := by decide +kernel
theorem dL_about_10 : decode cL_about 10 = .ok (.goto 7, 3) := by decide +kernel
theorem dL_about_13 : decode cL_about 13 = .ok (.astore 4, 2) := by decide +kernel
theorem dL_about_15 : decode cL_about 15 = .ok (.iconst 1, 1) := by decide +kernel
theorem dL_about_16 : decode cL_about 16 = .ok (.ireturn, 1) := by decide +kernel
theorem dL_about_17 : decode cL_about 17 = .ok (.iconst 0, 1) := by decide +kernel
theorem dL_about_18 : decode cL_about 18 = .ok (.ireturn, 1) := by decide +kernel
theorem dL_count_0 : decode cL_count 0 = .ok (.aload_n 2, 1) := by decide +kernel
theorem dL_count_1 : decode cL_count 1 = .ok (.iconst 0, 1) := by decide +kernel
theorem dL_count_2 : decode cL_count 2 = .ok (.aload_n 0, 1) := by decide +kernel
theorem dL_count_3 : decode cL_count 3 = .ok (.iload_n 1, 1) := by decide +kernel
theorem dL_count_4 : decode cL_count 4 = .ok (.invokevirtual 62, 3) := by decide +kernel
theorem dL_count_7 : decode cL_count 7 = .ok (.i2l, 1) := by decide +kernel
theorem dL_count_8 : decode cL_count 8 = .ok (.lastore, 1) := by decide +kernel
theorem dL_count_9 : decode cL_count 9 = .ok (.goto 6, 3) := by decide +kernel
theorem dL_count_12 : decode cL_count 12 = .ok (.astore_n 3, 1) := by decide +kernel
theorem dL_count_13 : decode cL_count 13 = .ok (.iconst 1, 1) := by decide +kernel
theorem dL_count_14 : decode cL_count 14 = .ok (.ireturn, 1) := by decide +kernel
theorem dL_count_15 : decode cL_count 15 = .ok (.iconst 0, 1) := by decide +kernel
theorem dL_count_16 : decode cL_count 16 = .ok (.ireturn, 1) := by decide +kernel
theorem dL_pass_0 : decode cL_pass 0 = .ok (.aload_n 2, 1) := by decide +kernel
theorem dL_pass_1 : decode cL_pass 1 = .ok (.iconst 0, 1) := by decide +kernel
theorem dL_pass_2 : decode cL_pass 2 = .ok (.aload_n 0, 1) := by decide +kernel
theorem dL_pass_3 : decode cL_pass 3 = .ok (.iload_n 1, 1) := by decide +kernel
theorem dL_pass_4 : decode cL_pass 4 = .ok (.invokevirtual 65, 3) := by decide +kernel
theorem dL_pass_7 : decode cL_pass 7 = .ok (.i2l, 1) := by decide +kernel
theorem dL_pass_8 : decode cL_pass 8 = .ok (.lastore, 1) := by decide +kernel
theorem dL_pass_9 : decode cL_pass 9 = .ok (.goto 6, 3) := by decide +kernel
theorem dL_pass_12 : decode cL_pass 12 = .ok (.astore_n 3, 1) := by decide +kernel
theorem dL_pass_13 : decode cL_pass 13 = .ok (.iconst 1, 1) := by decide +kernel
theorem dL_pass_14 : decode cL_pass 14 = .ok (.ireturn, 1) := by decide +kernel
theorem dL_pass_15 : decode cL_pass 15 = .ok (.iconst 0, 1) := by decide +kernel
theorem dL_pass_16 : decode cL_pass 16 = .ok (.ireturn, 1) := by decide +kernel
theorem dL_right_0 : decode cL_right 0 = .ok (.aload_n 2, 1) := by decide +kernel
theorem dL_right_1 : decode cL_right 1 = .ok (.iconst 0, 1) := by decide +kernel
theorem dL_right_2 : decode cL_right 2 = .ok (.aload_n 0, 1) := by decide +kernel
theorem dL_right_3 : decode cL_right 3 = .ok (.iload_n 1, 1) := by decide +kernel
theorem dL_right_4 : decode cL_right 4 = .ok (.invokevirtual 68, 3) := by decide +kernel
theorem dL_right_7 : decode cL_right 7 = .ok (.i2l, 1) := by decide +kernel
theorem dL_right_8 : decode cL_right 8 = .ok (.lastore, 1) := by decide +kernel
theorem dL_right_9 : decode cL_right 9 = .ok (.goto 6, 3) := by decide +kernel
theorem dL_right_12 : decode cL_right 12 = .ok (.astore_n 3, 1) := by decide +kernel
theorem dL_right_13 : decode cL_right 13 = .ok (.iconst 1, 1) := by decide +kernel
theorem dL_right_14 : decode cL_right 14 = .ok (.ireturn, 1) := by decide +kernel
theorem dL_right_15 : decode cL_right 15 = .ok (.iconst 0, 1) := by decide +kernel
theorem dL_right_16 : decode cL_right 16 = .ok (.ireturn, 1) := by decide +kernel
theorem dL_foresee_0 : decode cL_foresee 0 = .ok (.aload_n 3, 1) := by decide +kernel
theorem dL_foresee_1 : decode cL_foresee 1 = .ok (.iconst 0, 1) := by decide +kernel
theorem dL_foresee_2 : decode cL_foresee 2 = .ok (.aload_n 0, 1) := by decide +kernel
theorem dL_foresee_3 : decode cL_foresee 3 = .ok (.iload_n 1, 1) := by decide +kernel
theorem dL_foresee_4 : decode cL_foresee 4 = .ok (.iload_n 2, 1) := by decide +kernel
theorem dL_foresee_5 : decode cL_foresee 5 = .ok (.invokevirtual 71, 3) := by decide +kernel
theorem dL_foresee_8 : decode cL_foresee 8 = .ok (.i2l, 1) := by decide +kernel
theorem dL_foresee_9 : decode cL_foresee 9 = .ok (.lastore, 1) := by decide +kernel
theorem dL_foresee_10 : decode cL_foresee 10 = .ok (.goto 11, 3) := by decide +kernel
theorem dL_foresee_13 : decode cL_foresee 13 = .ok (.astore 4, 2) := by decide +kernel
theorem dL_foresee_15 : decode cL_foresee 15 = .ok (.iconst 1, 1) := by decide +kernel
theorem dL_foresee_16 : decode cL_foresee 16 = .ok (.ireturn, 1) := by decide +kernel
theorem dL_foresee_17 : decode cL_foresee 17 = .ok (.astore 4, 2) := by decide +kernel
theorem dL_foresee_19 : decode cL_foresee 19 = .ok (.iconst 2, 1) := by decide +kernel
theorem dL_foresee_20 : decode cL_foresee 20 = .ok (.ireturn, 1) := by decide +kernel
theorem dL_foresee_21 : decode cL_foresee 21 = .ok (.iconst 0, 1) := by decide +kernel
theorem dL_foresee_22 : decode cL_foresee 22 = .ok (.ireturn, 1) := by decide +kernel
theorem dL_barrels_0 : decode cL_barrels 0 = .ok (.aload_n 2, 1) := by decide +kernel
theorem dL_barrels_1 : decode cL_barrels 1 = .ok (.iconst 0, 1) := by decide +kernel
theorem dL_barrels_2 : decode cL_barrels 2 = .ok (.aload_n 0, 1) := by decide +kernel
theorem dL_barrels_3 : decode cL_barrels 3 = .ok (.iload_n 1, 1) := by decide +kernel
theorem dL_barrels_4 : decode cL_barrels 4 = .ok (.invokevirtual 74, 3) := by decide +kernel
theorem dL_barrels_7 : decode cL_barrels 7 = .ok (.i2l, 1) := by decide +kernel
theorem dL_barrels_8 : decode cL_barrels 8 = .ok (.lastore, 1) := by decide +kernel
theorem dL_barrels_9 : decode cL_barrels 9 = .ok (.goto 6, 3) := by decide +kernel
theorem dL_barrels_12 : decode cL_barrels 12 = .ok (.astore_n 3, 1) := by decide +kernel
theorem dL_barrels_13 : decode cL_barrels 13 = .ok (.iconst 1, 1) := by decide +kernel
theorem dL_barrels_14 : decode cL_barrels 14 = .ok (.ireturn, 1) := by decide +kernel
theorem dL_barrels_15 : decode cL_barrels 15 = .ok (.iconst 0, 1) := by decide +kernel
theorem dL_barrels_16 : decode cL_barrels 16 = .ok (.ireturn, 1) := by decide +kernel
theorem dL_dry_0 : decode cL_dry 0 = .ok (.aload_n 2, 1) := by decide +kernel
theorem dL_dry_1 : decode cL_dry 1 = .ok (.iconst 0, 1) := by decide +kernel
theorem dL_dry_2 : decode cL_dry 2 = .ok (.aload_n 0, 1) := by decide +kernel
theorem dL_dry_3 : decode cL_dry 3 = .ok (.iload_n 1, 1) := by decide +kernel
theorem dL_dry_4 : decode cL_dry 4 = .ok (.invokevirtual 77, 3) := by decide +kernel
theorem dL_dry_7 : decode cL_dry 7 = .ok (.i2l, 1) := by decide +kernel
theorem dL_dry_8 : decode cL_dry 8 = .ok (.lastore, 1) := by decide +kernel
theorem dL_dry_9 : decode cL_dry 9 = .ok (.goto 6, 3) := by decide +kernel
theorem dL_dry_12 : decode cL_dry 12 = .ok (.astore_n 3, 1) := by decide +kernel
theorem dL_dry_13 : decode cL_dry 13 = .ok (.iconst 1, 1) := by decide +kernel
theorem dL_dry_14 : decode cL_dry 14 = .ok (.ireturn, 1) := by decide +kernel
theorem dL_dry_15 : decode cL_dry 15 = .ok (.iconst 0, 1) := by decide +kernel
theorem dL_dry_16 : decode cL_dry 16 = .ok (.ireturn, 1) := by decide +kernel
abbrev vwCl : List vw_C := [(RX0, TX0, 5), (RX1, TX1, 5), (RX2, TX2, 10), (RX3, TX3, 4), (RX4, TX4, 10)]
end
section
/-! the law's own instructions -/
theorem dL_law_0 : decode cL_law 0 = .ok (.new 8, 3) := by decide +kernel
theorem dL_law_3 : decode cL_law 3 = .ok (.dup, 1) := by decide +kernel
theorem dL_law_4 : decode cL_law 4 = .ok (.invokespecial 80, 3) := by decide +kernel
theorem dL_law_7 : decode cL_law 7 = .ok (.astore_n 1, 1) := by decide +kernel
theorem dL_law_8 : decode cL_law 8 = .ok (.new 81, 3) := by decide +kernel
theorem dL_law_11 : decode cL_law 11 = .ok (.dup, 1) := by decide +kernel
theorem dL_law_12 : decode cL_law 12 = .ok (.invokespecial 83, 3) := by decide +kernel
theorem dL_law_15 : decode cL_law 15 = .ok (.astore_n 2, 1) := by decide +kernel
theorem dL_law_16 : decode cL_law 16 = .ok (.iconst 1, 1) := by decide +kernel
theorem dL_law_17 : decode cL_law 17 = .ok (.newarray .long, 2) := by decide +kernel
theorem dL_law_19 : decode cL_law 19 = .ok (.astore_n 3, 1) := by decide +kernel
theorem dL_law_20 : decode cL_law 20 = .ok (.iconst 0, 1) := by decide +kernel
theorem dL_law_21 : decode cL_law 21 = .ok (.istore 4, 2) := by decide +kernel
theorem dL_law_23 : decode cL_law 23 = .ok (.iload 4, 2) := by decide +kernel
theorem dL_law_25 : decode cL_law 25 = .ok (.aload_n 0, 1) := by decide +kernel
theorem dL_law_26 : decode cL_law 26 = .ok (.arraylength, 1) := by decide +kernel
theorem dL_law_27 : decode cL_law 27 = .ok (.iconst 4, 1) := by decide +kernel
theorem dL_law_28 : decode cL_law 28 = .ok (.isub, 1) := by decide +kernel
theorem dL_law_29 : decode cL_law 29 = .ok (.if_icmp .gt 1431, 3) := by decide +kernel
theorem dL_law_32 : decode cL_law 32 = .ok (.aload_n 0, 1) := by decide +kernel
theorem dL_law_33 : decode cL_law 33 = .ok (.iload 4, 2) := by decide +kernel
theorem dL_law_35 : decode cL_law 35 = .ok (.iaload, 1) := by decide +kernel
theorem dL_law_36 : decode cL_law 36 = .ok (.bipush 31, 2) := by decide +kernel
theorem dL_law_38 : decode cL_law 38 = .ok (.iand, 1) := by decide +kernel
theorem dL_law_39 : decode cL_law 39 = .ok (.tableswitch 1415 0 21 #[101, 169, 237, 305, 361, 429, 485, 553, 597, 677, 740, 808, 876, 944, 1012, 1068, 1124, 1180, 1248, 1304, 1360, 1401], 101) := by decide +kernel
theorem dL_law_140 : decode cL_law 140 = .ok (.aload_n 1, 1) := by decide +kernel
theorem dL_law_141 : decode cL_law 141 = .ok (.aload_n 0, 1) := by decide +kernel
theorem dL_law_142 : decode cL_law 142 = .ok (.iload 4, 2) := by decide +kernel
theorem dL_law_144 : decode cL_law 144 = .ok (.iconst 1, 1) := by decide +kernel
theorem dL_law_145 : decode cL_law 145 = .ok (.iadd, 1) := by decide +kernel
theorem dL_law_146 : decode cL_law 146 = .ok (.iaload, 1) := by decide +kernel
theorem dL_law_147 : decode cL_law 147 = .ok (.aload_n 0, 1) := by decide +kernel
theorem dL_law_148 : decode cL_law 148 = .ok (.iload 4, 2) := by decide +kernel
theorem dL_law_150 : decode cL_law 150 = .ok (.iconst 2, 1) := by decide +kernel
theorem dL_law_151 : decode cL_law 151 = .ok (.iadd, 1) := by decide +kernel
theorem dL_law_152 : decode cL_law 152 = .ok (.iaload, 1) := by decide +kernel
theorem dL_law_153 : decode cL_law 153 = .ok (.aload_n 3, 1) := by decide +kernel
theorem dL_law_154 : decode cL_law 154 = .ok (.invokestatic 84, 3) := by decide +kernel
theorem dL_law_157 : decode cL_law 157 = .ok (.istore 5, 2) := by decide +kernel
theorem dL_law_159 : decode cL_law 159 = .ok (.aload_n 2, 1) := by decide +kernel
theorem dL_law_160 : decode cL_law 160 = .ok (.aload_n 0, 1) := by decide +kernel
theorem dL_law_161 : decode cL_law 161 = .ok (.iload 4, 2) := by decide +kernel
theorem dL_law_163 : decode cL_law 163 = .ok (.iconst 1, 1) := by decide +kernel
theorem dL_law_164 : decode cL_law 164 = .ok (.iadd, 1) := by decide +kernel
theorem dL_law_165 : decode cL_law 165 = .ok (.iaload, 1) := by decide +kernel
theorem dL_law_166 : decode cL_law 166 = .ok (.aload_n 0, 1) := by decide +kernel
theorem dL_law_167 : decode cL_law 167 = .ok (.iload 4, 2) := by decide +kernel
theorem dL_law_169 : decode cL_law 169 = .ok (.iconst 2, 1) := by decide +kernel
theorem dL_law_170 : decode cL_law 170 = .ok (.iadd, 1) := by decide +kernel
theorem dL_law_171 : decode cL_law 171 = .ok (.iaload, 1) := by decide +kernel
theorem dL_law_172 : decode cL_law 172 = .ok (.invokevirtual 89, 3) := by decide +kernel
theorem dL_law_175 : decode cL_law 175 = .ok (.istore 6, 2) := by decide +kernel
theorem dL_law_177 : decode cL_law 177 = .ok (.aload_n 2, 1) := by decide +kernel
theorem dL_law_178 : decode cL_law 178 = .ok (.invokevirtual 90, 3) := by decide +kernel
theorem dL_law_181 : decode cL_law 181 = .ok (.iload 5, 2) := by decide +kernel
theorem dL_law_183 : decode cL_law 183 = .ok (.if_icmp .eq 5, 3) := by decide +kernel
theorem dL_law_186 : decode cL_law 186 = .ok (.iconst 0, 1) := by decide +kernel
theorem dL_law_187 : decode cL_law 187 = .ok (.ireturn, 1) := by decide +kernel
theorem dL_law_188 : decode cL_law 188 = .ok (.iload 5, 2) := by decide +kernel
theorem dL_law_190 : decode cL_law 190 = .ok (.ifCond .ne 15, 3) := by decide +kernel
theorem dL_law_193 : decode cL_law 193 = .ok (.aload_n 3, 1) := by decide +kernel
theorem dL_law_194 : decode cL_law 194 = .ok (.iconst 0, 1) := by decide +kernel
theorem dL_law_195 : decode cL_law 195 = .ok (.laload, 1) := by decide +kernel
theorem dL_law_196 : decode cL_law 196 = .ok (.iload 6, 2) := by decide +kernel
theorem dL_law_198 : decode cL_law 198 = .ok (.i2l, 1) := by decide +kernel
theorem dL_law_199 : decode cL_law 199 = .ok (.lcmp, 1) := by decide +kernel
theorem dL_law_200 : decode cL_law 200 = .ok (.ifCond .eq 5, 3) := by decide +kernel
theorem dL_law_203 : decode cL_law 203 = .ok (.iconst 0, 1) := by decide +kernel
theorem dL_law_204 : decode cL_law 204 = .ok (.ireturn, 1) := by decide +kernel
theorem dL_law_205 : decode cL_law 205 = .ok (.goto 1249, 3) := by decide +kernel
theorem dL_law_208 : decode cL_law 208 = .ok (.aload_n 1, 1) := by decide +kernel
theorem dL_law_209 : decode cL_law 209 = .ok (.aload_n 0, 1) := by decide +kernel
theorem dL_law_210 : decode cL_law 210 = .ok (.iload 4, 2) := by decide +kernel
theorem dL_law_212 : decode cL_law 212 = .ok (.iconst 1, 1) := by decide +kernel
theorem dL_law_213 : decode cL_law 213 = .ok (.iadd, 1) := by decide +kernel
theorem dL_law_214 : decode cL_law 214 = .ok (.iaload, 1) := by decide +kernel
theorem dL_law_215 : decode cL_law 215 = .ok (.aload_n 0, 1) := by decide +kernel
theorem dL_law_216 : decode cL_law 216 = .ok (.iload 4, 2) := by decide +kernel
theorem dL_law_218 : decode cL_law 218 = .ok (.iconst 2, 1) := by decide +kernel
theorem dL_law_219 : decode cL_law 219 = .ok (.iadd, 1) := by decide +kernel
theorem dL_law_220 : decode cL_law 220 = .ok (.iaload, 1) := by decide +kernel
theorem dL_law_221 : decode cL_law 221 = .ok (.aload_n 3, 1) := by decide +kernel
theorem dL_law_222 : decode cL_law 222 = .ok (.invokestatic 93, 3) := by decide +kernel
theorem dL_law_225 : decode cL_law 225 = .ok (.istore 5, 2) := by decide +kernel
theorem dL_law_227 : decode cL_law 227 = .ok (.aload_n 2, 1) := by decide +kernel
theorem dL_law_228 : decode cL_law 228 = .ok (.aload_n 0, 1) := by decide +kernel
theorem dL_law_229 : decode cL_law 229 = .ok (.iload 4, 2) := by decide +kernel
theorem dL_law_231 : decode cL_law 231 = .ok (.iconst 1, 1) := by decide +kernel
theorem dL_law_232 : decode cL_law 232 = .ok (.iadd, 1) := by decide +kernel
theorem dL_law_233 : decode cL_law 233 = .ok (.iaload, 1) := by decide +kernel
theorem dL_law_234 : decode cL_law 234 = .ok (.aload_n 0, 1) := by decide +kernel
theorem dL_law_235 : decode cL_law 235 = .ok (.iload 4, 2) := by decide +kernel
theorem dL_law_237 : decode cL_law 237 = .ok (.iconst 2, 1) := by decide +kernel
theorem dL_law_238 : decode cL_law 238 = .ok (.iadd, 1) := by decide +kernel
theorem dL_law_239 : decode cL_law 239 = .ok (.iaload, 1) := by decide +kernel
theorem dL_law_240 : decode cL_law 240 = .ok (.invokevirtual 95, 3) := by decide +kernel
theorem dL_law_243 : decode cL_law 243 = .ok (.istore 6, 2) := by decide +kernel
theorem dL_law_245 : decode cL_law 245 = .ok (.aload_n 2, 1) := by decide +kernel
theorem dL_law_246 : decode cL_law 246 = .ok (.invokevirtual 90, 3) := by decide +kernel
theorem dL_law_249 : decode cL_law 249 = .ok (.iload 5, 2) := by decide +kernel
theorem dL_law_251 : decode cL_law 251 = .ok (.if_icmp .eq 5, 3) := by decide +kernel
theorem dL_law_254 : decode cL_law 254 = .ok (.iconst 0, 1) := by decide +kernel
theorem dL_law_255 : decode cL_law 255 = .ok (.ireturn, 1) := by decide +kernel
theorem dL_law_256 : decode cL_law 256 = .ok (.iload 5, 2) := by decide +kernel
theorem dL_law_258 : decode cL_law 258 = .ok (.ifCond .ne 15, 3) := by decide +kernel
theorem dL_law_261 : decode cL_law 261 = .ok (.aload_n 3, 1) := by decide +kernel
theorem dL_law_262 : decode cL_law 262 = .ok (.iconst 0, 1) := by decide +kernel
theorem dL_law_263 : decode cL_law 263 = .ok (.laload, 1) := by decide +kernel
theorem dL_law_264 : decode cL_law 264 = .ok (.iload 6, 2) := by decide +kernel
theorem dL_law_266 : decode cL_law 266 = .ok (.i2l, 1) := by decide +kernel
theorem dL_law_267 : decode cL_law 267 = .ok (.lcmp, 1) := by decide +kernel
theorem dL_law_268 : decode cL_law 268 = .ok (.ifCond .eq 5, 3) := by decide +kernel
theorem dL_law_271 : decode cL_law 271 = .ok (.iconst 0, 1) := by decide +kernel
theorem dL_law_272 : decode cL_law 272 = .ok (.ireturn, 1) := by decide +kernel
theorem dL_law_273 : decode cL_law 273 = .ok (.goto 1181, 3) := by decide +kernel
theorem dL_law_276 : decode cL_law 276 = .ok (.aload_n 1, 1) := by decide +kernel
theorem dL_law_277 : decode cL_law 277 = .ok (.aload_n 0, 1) := by decide +kernel
theorem dL_law_278 : decode cL_law 278 = .ok (.iload 4, 2) := by decide +kernel
theorem dL_law_280 : decode cL_law 280 = .ok (.iconst 1, 1) := by decide +kernel
theorem dL_law_281 : decode cL_law 281 = .ok (.iadd, 1) := by decide +kernel
theorem dL_law_282 : decode cL_law 282 = .ok (.iaload, 1) := by decide +kernel
theorem dL_law_283 : decode cL_law 283 = .ok (.aload_n 0, 1) := by decide +kernel
theorem dL_law_284 : decode cL_law 284 = .ok (.iload 4, 2) := by decide +kernel
theorem dL_law_286 : decode cL_law 286 = .ok (.iconst 2, 1) := by decide +kernel
theorem dL_law_287 : decode cL_law 287 = .ok (.iadd, 1) := by decide +kernel
theorem dL_law_288 : decode cL_law 288 = .ok (.iaload, 1) := by decide +kernel
theorem dL_law_289 : decode cL_law 289 = .ok (.aload_n 3, 1) := by decide +kernel
theorem dL_law_290 : decode cL_law 290 = .ok (.invokestatic 96, 3) := by decide +kernel
theorem dL_law_293 : decode cL_law 293 = .ok (.istore 5, 2) := by decide +kernel
theorem dL_law_295 : decode cL_law 295 = .ok (.aload_n 2, 1) := by decide +kernel
theorem dL_law_296 : decode cL_law 296 = .ok (.aload_n 0, 1) := by decide +kernel
theorem dL_law_297 : decode cL_law 297 = .ok (.iload 4, 2) := by decide +kernel
theorem dL_law_299 : decode cL_law 299 = .ok (.iconst 1, 1) := by decide +kernel
theorem dL_law_300 : decode cL_law 300 = .ok (.iadd, 1) := by decide +kernel
theorem dL_law_301 : decode cL_law 301 = .ok (.iaload, 1) := by decide +kernel
theorem dL_law_302 : decode cL_law 302 = .ok (.aload_n 0, 1) := by decide +kernel
theorem dL_law_303 : decode cL_law 303 = .ok (.iload 4, 2) := by decide +kernel
theorem dL_law_305 : decode cL_law 305 = .ok (.iconst 2, 1) := by decide +kernel
theorem dL_law_306 : decode cL_law 306 = .ok (.iadd, 1) := by decide +kernel
theorem dL_law_307 : decode cL_law 307 = .ok (.iaload, 1) := by decide +kernel
theorem dL_law_308 : decode cL_law 308 = .ok (.invokevirtual 98, 3) := by decide +kernel
theorem dL_law_311 : decode cL_law 311 = .ok (.istore 6, 2) := by decide +kernel
theorem dL_law_313 : decode cL_law 313 = .ok (.aload_n 2, 1) := by decide +kernel
theorem dL_law_314 : decode cL_law 314 = .ok (.invokevirtual 90, 3) := by decide +kernel
theorem dL_law_317 : decode cL_law 317 = .ok (.iload 5, 2) := by decide +kernel
theorem dL_law_319 : decode cL_law 319 = .ok (.if_icmp .eq 5, 3) := by decide +kernel
theorem dL_law_322 : decode cL_law 322 = .ok (.iconst 0, 1) := by decide +kernel
theorem dL_law_323 : decode cL_law 323 = .ok (.ireturn, 1) := by decide +kernel
theorem dL_law_324 : decode cL_law 324 = .ok (.iload 5, 2) := by decide +kernel
theorem dL_law_326 : decode cL_law 326 = .ok (.ifCond .ne 15, 3) := by decide +kernel
theorem dL_law_329 : decode cL_law 329 = .ok (.aload_n 3, 1) := by decide +kernel
theorem dL_law_330 : decode cL_law 330 = .ok (.iconst 0, 1) := by decide +kernel
theorem dL_law_331 : decode cL_law 331 = .ok (.laload, 1) := by decide +kernel
theorem dL_law_332 : decode cL_law 332 = .ok (.iload 6, 2) := by decide +kernel
theorem dL_law_334 : decode cL_law 334 = .ok (.i2l, 1) := by decide +kernel
theorem dL_law_335 : decode cL_law 335 = .ok (.lcmp, 1) := by decide +kernel
theorem dL_law_336 : decode cL_law 336 = .ok (.ifCond .eq 5, 3) := by decide +kernel
theorem dL_law_339 : decode cL_law 339 = .ok (.iconst 0, 1) := by decide +kernel
theorem dL_law_340 : decode cL_law 340 = .ok (.ireturn, 1) := by decide +kernel
theorem dL_law_341 : decode cL_law 341 = .ok (.goto 1113, 3) := by decide +kernel
theorem dL_law_344 : decode cL_law 344 = .ok (.aload_n 1, 1) := by decide +kernel
theorem dL_law_345 : decode cL_law 345 = .ok (.aload_n 0, 1) := by decide +kernel
theorem dL_law_346 : decode cL_law 346 = .ok (.iload 4, 2) := by decide +kernel
theorem dL_law_348 : decode cL_law 348 = .ok (.iconst 1, 1) := by decide +kernel
theorem dL_law_349 : decode cL_law 349 = .ok (.iadd, 1) := by decide +kernel
theorem dL_law_350 : decode cL_law 350 = .ok (.iaload, 1) := by decide +kernel
theorem dL_law_351 : decode cL_law 351 = .ok (.aload_n 3, 1) := by decide +kernel
theorem dL_law_352 : decode cL_law 352 = .ok (.invokestatic 99, 3) := by decide +kernel
theorem dL_law_355 : decode cL_law 355 = .ok (.istore 5, 2) := by decide +kernel
theorem dL_law_357 : decode cL_law 357 = .ok (.aload_n 2, 1) := by decide +kernel
theorem dL_law_358 : decode cL_law 358 = .ok (.aload_n 0, 1) := by decide +kernel
theorem dL_law_359 : decode cL_law 359 = .ok (.iload 4, 2) := by decide +kernel
theorem dL_law_361 : decode cL_law 361 = .ok (.iconst 1, 1) := by decide +kernel
theorem dL_law_362 : decode cL_law 362 = .ok (.iadd, 1) := by decide +kernel
theorem dL_law_363 : decode cL_law 363 = .ok (.iaload, 1) := by decide +kernel
theorem dL_law_364 : decode cL_law 364 = .ok (.invokevirtual 102, 3) := by decide +kernel
theorem dL_law_367 : decode cL_law 367 = .ok (.istore 6, 2) := by decide +kernel
theorem dL_law_369 : decode cL_law 369 = .ok (.aload_n 2, 1) := by decide +kernel
theorem dL_law_370 : decode cL_law 370 = .ok (.invokevirtual 90, 3) := by decide +kernel
theorem dL_law_373 : decode cL_law 373 = .ok (.iload 5, 2) := by decide +kernel
theorem dL_law_375 : decode cL_law 375 = .ok (.if_icmp .eq 5, 3) := by decide +kernel
theorem dL_law_378 : decode cL_law 378 = .ok (.iconst 0, 1) := by decide +kernel
theorem dL_law_379 : decode cL_law 379 = .ok (.ireturn, 1) := by decide +kernel
theorem dL_law_380 : decode cL_law 380 = .ok (.iload 5, 2) := by decide +kernel
theorem dL_law_382 : decode cL_law 382 = .ok (.ifCond .ne 15, 3) := by decide +kernel
theorem dL_law_385 : decode cL_law 385 = .ok (.aload_n 3, 1) := by decide +kernel
theorem dL_law_386 : decode cL_law 386 = .ok (.iconst 0, 1) := by decide +kernel
theorem dL_law_387 : decode cL_law 387 = .ok (.laload, 1) := by decide +kernel
theorem dL_law_388 : decode cL_law 388 = .ok (.iload 6, 2) := by decide +kernel
theorem dL_law_390 : decode cL_law 390 = .ok (.i2l, 1) := by decide +kernel
theorem dL_law_391 : decode cL_law 391 = .ok (.lcmp, 1) := by decide +kernel
theorem dL_law_392 : decode cL_law 392 = .ok (.ifCond .eq 5, 3) := by decide +kernel
theorem dL_law_395 : decode cL_law 395 = .ok (.iconst 0, 1) := by decide +kernel
theorem dL_law_396 : decode cL_law 396 = .ok (.ireturn, 1) := by decide +kernel
theorem dL_law_397 : decode cL_law 397 = .ok (.goto 1057, 3) := by decide +kernel
theorem dL_law_400 : decode cL_law 400 = .ok (.aload_n 1, 1) := by decide +kernel
theorem dL_law_401 : decode cL_law 401 = .ok (.aload_n 0, 1) := by decide +kernel
theorem dL_law_402 : decode cL_law 402 = .ok (.iload 4, 2) := by decide +kernel
theorem dL_law_404 : decode cL_law 404 = .ok (.iconst 1, 1) := by decide +kernel
theorem dL_law_405 : decode cL_law 405 = .ok (.iadd, 1) := by decide +kernel
theorem dL_law_406 : decode cL_law 406 = .ok (.iaload, 1) := by decide +kernel
theorem dL_law_407 : decode cL_law 407 = .ok (.aload_n 0, 1) := by decide +kernel
theorem dL_law_408 : decode cL_law 408 = .ok (.iload 4, 2) := by decide +kernel
theorem dL_law_410 : decode cL_law 410 = .ok (.iconst 2, 1) := by decide +kernel
theorem dL_law_411 : decode cL_law 411 = .ok (.iadd, 1) := by decide +kernel
theorem dL_law_412 : decode cL_law 412 = .ok (.iaload, 1) := by decide +kernel
theorem dL_law_413 : decode cL_law 413 = .ok (.aload_n 3, 1) := by decide +kernel
theorem dL_law_414 : decode cL_law 414 = .ok (.invokestatic 103, 3) := by decide +kernel
theorem dL_law_417 : decode cL_law 417 = .ok (.istore 5, 2) := by decide +kernel
theorem dL_law_419 : decode cL_law 419 = .ok (.aload_n 2, 1) := by decide +kernel
theorem dL_law_420 : decode cL_law 420 = .ok (.aload_n 0, 1) := by decide +kernel
theorem dL_law_421 : decode cL_law 421 = .ok (.iload 4, 2) := by decide +kernel
theorem dL_law_423 : decode cL_law 423 = .ok (.iconst 1, 1) := by decide +kernel
theorem dL_law_424 : decode cL_law 424 = .ok (.iadd, 1) := by decide +kernel
theorem dL_law_425 : decode cL_law 425 = .ok (.iaload, 1) := by decide +kernel
theorem dL_law_426 : decode cL_law 426 = .ok (.aload_n 0, 1) := by decide +kernel
theorem dL_law_427 : decode cL_law 427 = .ok (.iload 4, 2) := by decide +kernel
theorem dL_law_429 : decode cL_law 429 = .ok (.iconst 2, 1) := by decide +kernel
theorem dL_law_430 : decode cL_law 430 = .ok (.iadd, 1) := by decide +kernel
theorem dL_law_431 : decode cL_law 431 = .ok (.iaload, 1) := by decide +kernel
theorem dL_law_432 : decode cL_law 432 = .ok (.invokevirtual 105, 3) := by decide +kernel
theorem dL_law_435 : decode cL_law 435 = .ok (.istore 6, 2) := by decide +kernel
theorem dL_law_437 : decode cL_law 437 = .ok (.aload_n 2, 1) := by decide +kernel
theorem dL_law_438 : decode cL_law 438 = .ok (.invokevirtual 90, 3) := by decide +kernel
theorem dL_law_441 : decode cL_law 441 = .ok (.iload 5, 2) := by decide +kernel
theorem dL_law_443 : decode cL_law 443 = .ok (.if_icmp .eq 5, 3) := by decide +kernel
theorem dL_law_446 : decode cL_law 446 = .ok (.iconst 0, 1) := by decide +kernel
theorem dL_law_447 : decode cL_law 447 = .ok (.ireturn, 1) := by decide +kernel
theorem dL_law_448 : decode cL_law 448 = .ok (.iload 5, 2) := by decide +kernel
theorem dL_law_450 : decode cL_law 450 = .ok (.ifCond .ne 15, 3) := by decide +kernel
theorem dL_law_453 : decode cL_law 453 = .ok (.aload_n 3, 1) := by decide +kernel
theorem dL_law_454 : decode cL_law 454 = .ok (.iconst 0, 1) := by decide +kernel
theorem dL_law_455 : decode cL_law 455 = .ok (.laload, 1) := by decide +kernel
theorem dL_law_456 : decode cL_law 456 = .ok (.iload 6, 2) := by decide +kernel
theorem dL_law_458 : decode cL_law 458 = .ok (.i2l, 1) := by decide +kernel
theorem dL_law_459 : decode cL_law 459 = .ok (.lcmp, 1) := by decide +kernel
theorem dL_law_460 : decode cL_law 460 = .ok (.ifCond .eq 5, 3) := by decide +kernel
theorem dL_law_463 : decode cL_law 463 = .ok (.iconst 0, 1) := by decide +kernel
theorem dL_law_464 : decode cL_law 464 = .ok (.ireturn, 1) := by decide +kernel
theorem dL_law_465 : decode cL_law 465 = .ok (.goto 989, 3) := by decide +kernel
theorem dL_law_468 : decode cL_law 468 = .ok (.aload_n 1, 1) := by decide +kernel
theorem dL_law_469 : decode cL_law 469 = .ok (.aload_n 0, 1) := by decide +kernel
theorem dL_law_470 : decode cL_law 470 = .ok (.iload 4, 2) := by decide +kernel
theorem dL_law_472 : decode cL_law 472 = .ok (.iconst 1, 1) := by decide +kernel
theorem dL_law_473 : decode cL_law 473 = .ok (.iadd, 1) := by decide +kernel
theorem dL_law_474 : decode cL_law 474 = .ok (.iaload, 1) := by decide +kernel
theorem dL_law_475 : decode cL_law 475 = .ok (.aload_n 3, 1) := by decide +kernel
theorem dL_law_476 : decode cL_law 476 = .ok (.invokestatic 106, 3) := by decide +kernel
theorem dL_law_479 : decode cL_law 479 = .ok (.istore 5, 2) := by decide +kernel
theorem dL_law_481 : decode cL_law 481 = .ok (.aload_n 2, 1) := by decide +kernel
theorem dL_law_482 : decode cL_law 482 = .ok (.aload_n 0, 1) := by decide +kernel
theorem dL_law_483 : decode cL_law 483 = .ok (.iload 4, 2) := by decide +kernel
theorem dL_law_485 : decode cL_law 485 = .ok (.iconst 1, 1) := by decide +kernel
theorem dL_law_486 : decode cL_law 486 = .ok (.iadd, 1) := by decide +kernel
theorem dL_law_487 : decode cL_law 487 = .ok (.iaload, 1) := by decide +kernel
theorem dL_law_488 : decode cL_law 488 = .ok (.invokevirtual 108, 3) := by decide +kernel
theorem dL_law_491 : decode cL_law 491 = .ok (.istore 6, 2) := by decide +kernel
theorem dL_law_493 : decode cL_law 493 = .ok (.aload_n 2, 1) := by decide +kernel
theorem dL_law_494 : decode cL_law 494 = .ok (.invokevirtual 90, 3) := by decide +kernel
theorem dL_law_497 : decode cL_law 497 = .ok (.iload 5, 2) := by decide +kernel
theorem dL_law_499 : decode cL_law 499 = .ok (.if_icmp .eq 5, 3) := by decide +kernel
theorem dL_law_502 : decode cL_law 502 = .ok (.iconst 0, 1) := by decide +kernel
theorem dL_law_503 : decode cL_law 503 = .ok (.ireturn, 1) := by decide +kernel
theorem dL_law_504 : decode cL_law 504 = .ok (.iload 5, 2) := by decide +kernel
theorem dL_law_506 : decode cL_law 506 = .ok (.ifCond .ne 15, 3) := by decide +kernel
theorem dL_law_509 : decode cL_law 509 = .ok (.aload_n 3, 1) := by decide +kernel
theorem dL_law_510 : decode cL_law 510 = .ok (.iconst 0, 1) := by decide +kernel
theorem dL_law_511 : decode cL_law 511 = .ok (.laload, 1) := by decide +kernel
theorem dL_law_512 : decode cL_law 512 = .ok (.iload 6, 2) := by decide +kernel
theorem dL_law_514 : decode cL_law 514 = .ok (.i2l, 1) := by decide +kernel
theorem dL_law_515 : decode cL_law 515 = .ok (.lcmp, 1) := by decide +kernel
theorem dL_law_516 : decode cL_law 516 = .ok (.ifCond .eq 5, 3) := by decide +kernel
theorem dL_law_519 : decode cL_law 519 = .ok (.iconst 0, 1) := by decide +kernel
theorem dL_law_520 : decode cL_law 520 = .ok (.ireturn, 1) := by decide +kernel
theorem dL_law_521 : decode cL_law 521 = .ok (.goto 933, 3) := by decide +kernel
theorem dL_law_524 : decode cL_law 524 = .ok (.aload_n 1, 1) := by decide +kernel
theorem dL_law_525 : decode cL_law 525 = .ok (.aload_n 0, 1) := by decide +kernel
theorem dL_law_526 : decode cL_law 526 = .ok (.iload 4, 2) := by decide +kernel
theorem dL_law_528 : decode cL_law 528 = .ok (.iconst 1, 1) := by decide +kernel
theorem dL_law_529 : decode cL_law 529 = .ok (.iadd, 1) := by decide +kernel
theorem dL_law_530 : decode cL_law 530 = .ok (.iaload, 1) := by decide +kernel
theorem dL_law_531 : decode cL_law 531 = .ok (.aload_n 0, 1) := by decide +kernel
theorem dL_law_532 : decode cL_law 532 = .ok (.iload 4, 2) := by decide +kernel
theorem dL_law_534 : decode cL_law 534 = .ok (.iconst 2, 1) := by decide +kernel
theorem dL_law_535 : decode cL_law 535 = .ok (.iadd, 1) := by decide +kernel
theorem dL_law_536 : decode cL_law 536 = .ok (.iaload, 1) := by decide +kernel
theorem dL_law_537 : decode cL_law 537 = .ok (.aload_n 3, 1) := by decide +kernel
theorem dL_law_538 : decode cL_law 538 = .ok (.invokestatic 109, 3) := by decide +kernel
theorem dL_law_541 : decode cL_law 541 = .ok (.istore 5, 2) := by decide +kernel
theorem dL_law_543 : decode cL_law 543 = .ok (.aload_n 2, 1) := by decide +kernel
theorem dL_law_544 : decode cL_law 544 = .ok (.aload_n 0, 1) := by decide +kernel
theorem dL_law_545 : decode cL_law 545 = .ok (.iload 4, 2) := by decide +kernel
theorem dL_law_547 : decode cL_law 547 = .ok (.iconst 1, 1) := by decide +kernel
theorem dL_law_548 : decode cL_law 548 = .ok (.iadd, 1) := by decide +kernel
theorem dL_law_549 : decode cL_law 549 = .ok (.iaload, 1) := by decide +kernel
theorem dL_law_550 : decode cL_law 550 = .ok (.aload_n 0, 1) := by decide +kernel
theorem dL_law_551 : decode cL_law 551 = .ok (.iload 4, 2) := by decide +kernel
theorem dL_law_553 : decode cL_law 553 = .ok (.iconst 2, 1) := by decide +kernel
theorem dL_law_554 : decode cL_law 554 = .ok (.iadd, 1) := by decide +kernel
theorem dL_law_555 : decode cL_law 555 = .ok (.iaload, 1) := by decide +kernel
theorem dL_law_556 : decode cL_law 556 = .ok (.invokevirtual 111, 3) := by decide +kernel
theorem dL_law_559 : decode cL_law 559 = .ok (.istore 6, 2) := by decide +kernel
theorem dL_law_561 : decode cL_law 561 = .ok (.aload_n 2, 1) := by decide +kernel
theorem dL_law_562 : decode cL_law 562 = .ok (.invokevirtual 90, 3) := by decide +kernel
theorem dL_law_565 : decode cL_law 565 = .ok (.iload 5, 2) := by decide +kernel
theorem dL_law_567 : decode cL_law 567 = .ok (.if_icmp .eq 5, 3) := by decide +kernel
theorem dL_law_570 : decode cL_law 570 = .ok (.iconst 0, 1) := by decide +kernel
theorem dL_law_571 : decode cL_law 571 = .ok (.ireturn, 1) := by decide +kernel
theorem dL_law_572 : decode cL_law 572 = .ok (.iload 5, 2) := by decide +kernel
theorem dL_law_574 : decode cL_law 574 = .ok (.ifCond .ne 15, 3) := by decide +kernel
theorem dL_law_577 : decode cL_law 577 = .ok (.aload_n 3, 1) := by decide +kernel
theorem dL_law_578 : decode cL_law 578 = .ok (.iconst 0, 1) := by decide +kernel
theorem dL_law_579 : decode cL_law 579 = .ok (.laload, 1) := by decide +kernel
theorem dL_law_580 : decode cL_law 580 = .ok (.iload 6, 2) := by decide +kernel
theorem dL_law_582 : decode cL_law 582 = .ok (.i2l, 1) := by decide +kernel
theorem dL_law_583 : decode cL_law 583 = .ok (.lcmp, 1) := by decide +kernel
theorem dL_law_584 : decode cL_law 584 = .ok (.ifCond .eq 5, 3) := by decide +kernel
theorem dL_law_587 : decode cL_law 587 = .ok (.iconst 0, 1) := by decide +kernel
theorem dL_law_588 : decode cL_law 588 = .ok (.ireturn, 1) := by decide +kernel
theorem dL_law_589 : decode cL_law 589 = .ok (.goto 865, 3) := by decide +kernel
theorem dL_law_592 : decode cL_law 592 = .ok (.aload_n 1, 1) := by decide +kernel
theorem dL_law_593 : decode cL_law 593 = .ok (.aload_n 3, 1) := by decide +kernel
theorem dL_law_594 : decode cL_law 594 = .ok (.invokestatic 112, 3) := by decide +kernel
theorem dL_law_597 : decode cL_law 597 = .ok (.istore 5, 2) := by decide +kernel
theorem dL_law_599 : decode cL_law 599 = .ok (.aload_n 2, 1) := by decide +kernel
theorem dL_law_600 : decode cL_law 600 = .ok (.invokevirtual 115, 3) := by decide +kernel
theorem dL_law_603 : decode cL_law 603 = .ok (.istore 6, 2) := by decide +kernel
theorem dL_law_605 : decode cL_law 605 = .ok (.aload_n 2, 1) := by decide +kernel
theorem dL_law_606 : decode cL_law 606 = .ok (.invokevirtual 90, 3) := by decide +kernel
theorem dL_law_609 : decode cL_law 609 = .ok (.iload 5, 2) := by decide +kernel
theorem dL_law_611 : decode cL_law 611 = .ok (.if_icmp .eq 5, 3) := by decide +kernel
theorem dL_law_614 : decode cL_law 614 = .ok (.iconst 0, 1) := by decide +kernel
theorem dL_law_615 : decode cL_law 615 = .ok (.ireturn, 1) := by decide +kernel
theorem dL_law_616 : decode cL_law 616 = .ok (.iload 5, 2) := by decide +kernel
theorem dL_law_618 : decode cL_law 618 = .ok (.ifCond .ne 15, 3) := by decide +kernel
theorem dL_law_621 : decode cL_law 621 = .ok (.aload_n 3, 1) := by decide +kernel
theorem dL_law_622 : decode cL_law 622 = .ok (.iconst 0, 1) := by decide +kernel
theorem dL_law_623 : decode cL_law 623 = .ok (.laload, 1) := by decide +kernel
theorem dL_law_624 : decode cL_law 624 = .ok (.iload 6, 2) := by decide +kernel
theorem dL_law_626 : decode cL_law 626 = .ok (.i2l, 1) := by decide +kernel
theorem dL_law_627 : decode cL_law 627 = .ok (.lcmp, 1) := by decide +kernel
theorem dL_law_628 : decode cL_law 628 = .ok (.ifCond .eq 5, 3) := by decide +kernel
theorem dL_law_631 : decode cL_law 631 = .ok (.iconst 0, 1) := by decide +kernel
theorem dL_law_632 : decode cL_law 632 = .ok (.ireturn, 1) := by decide +kernel
theorem dL_law_633 : decode cL_law 633 = .ok (.goto 821, 3) := by decide +kernel
theorem dL_law_636 : decode cL_law 636 = .ok (.aload_n 1, 1) := by decide +kernel
theorem dL_law_637 : decode cL_law 637 = .ok (.aload_n 0, 1) := by decide +kernel
theorem dL_law_638 : decode cL_law 638 = .ok (.iload 4, 2) := by decide +kernel
theorem dL_law_640 : decode cL_law 640 = .ok (.iconst 1, 1) := by decide +kernel
theorem dL_law_641 : decode cL_law 641 = .ok (.iadd, 1) := by decide +kernel
theorem dL_law_642 : decode cL_law 642 = .ok (.iaload, 1) := by decide +kernel
theorem dL_law_643 : decode cL_law 643 = .ok (.aload_n 0, 1) := by decide +kernel
theorem dL_law_644 : decode cL_law 644 = .ok (.iload 4, 2) := by decide +kernel
theorem dL_law_646 : decode cL_law 646 = .ok (.iconst 2, 1) := by decide +kernel
theorem dL_law_647 : decode cL_law 647 = .ok (.iadd, 1) := by decide +kernel
theorem dL_law_648 : decode cL_law 648 = .ok (.iaload, 1) := by decide +kernel
theorem dL_law_649 : decode cL_law 649 = .ok (.aload_n 0, 1) := by decide +kernel
theorem dL_law_650 : decode cL_law 650 = .ok (.iload 4, 2) := by decide +kernel
theorem dL_law_652 : decode cL_law 652 = .ok (.iconst 3, 1) := by decide +kernel
theorem dL_law_653 : decode cL_law 653 = .ok (.iadd, 1) := by decide +kernel
theorem dL_law_654 : decode cL_law 654 = .ok (.iaload, 1) := by decide +kernel
theorem dL_law_655 : decode cL_law 655 = .ok (.aload_n 3, 1) := by decide +kernel
theorem dL_law_656 : decode cL_law 656 = .ok (.invokestatic 116, 3) := by decide +kernel
theorem dL_law_659 : decode cL_law 659 = .ok (.istore 5, 2) := by decide +kernel
theorem dL_law_661 : decode cL_law 661 = .ok (.aload_n 2, 1) := by decide +kernel
theorem dL_law_662 : decode cL_law 662 = .ok (.aload_n 0, 1) := by decide +kernel
theorem dL_law_663 : decode cL_law 663 = .ok (.iload 4, 2) := by decide +kernel
theorem dL_law_665 : decode cL_law 665 = .ok (.iconst 1, 1) := by decide +kernel
theorem dL_law_666 : decode cL_law 666 = .ok (.iadd, 1) := by decide +kernel
theorem dL_law_667 : decode cL_law 667 = .ok (.iaload, 1) := by decide +kernel
theorem dL_law_668 : decode cL_law 668 = .ok (.aload_n 0, 1) := by decide +kernel
theorem dL_law_669 : decode cL_law 669 = .ok (.iload 4, 2) := by decide +kernel
theorem dL_law_671 : decode cL_law 671 = .ok (.iconst 2, 1) := by decide +kernel
theorem dL_law_672 : decode cL_law 672 = .ok (.iadd, 1) := by decide +kernel
theorem dL_law_673 : decode cL_law 673 = .ok (.iaload, 1) := by decide +kernel
theorem dL_law_674 : decode cL_law 674 = .ok (.aload_n 0, 1) := by decide +kernel
theorem dL_law_675 : decode cL_law 675 = .ok (.iload 4, 2) := by decide +kernel
theorem dL_law_677 : decode cL_law 677 = .ok (.iconst 3, 1) := by decide +kernel
theorem dL_law_678 : decode cL_law 678 = .ok (.iadd, 1) := by decide +kernel
theorem dL_law_679 : decode cL_law 679 = .ok (.iaload, 1) := by decide +kernel
theorem dL_law_680 : decode cL_law 680 = .ok (.invokevirtual 119, 3) := by decide +kernel
theorem dL_law_683 : decode cL_law 683 = .ok (.istore 6, 2) := by decide +kernel
theorem dL_law_685 : decode cL_law 685 = .ok (.aload_n 2, 1) := by decide +kernel
theorem dL_law_686 : decode cL_law 686 = .ok (.invokevirtual 90, 3) := by decide +kernel
theorem dL_law_689 : decode cL_law 689 = .ok (.iload 5, 2) := by decide +kernel
theorem dL_law_691 : decode cL_law 691 = .ok (.if_icmp .eq 5, 3) := by decide +kernel
theorem dL_law_694 : decode cL_law 694 = .ok (.iconst 0, 1) := by decide +kernel
theorem dL_law_695 : decode cL_law 695 = .ok (.ireturn, 1) := by decide +kernel
theorem dL_law_696 : decode cL_law 696 = .ok (.iload 5, 2) := by decide +kernel
theorem dL_law_698 : decode cL_law 698 = .ok (.ifCond .ne 15, 3) := by decide +kernel
theorem dL_law_701 : decode cL_law 701 = .ok (.aload_n 3, 1) := by decide +kernel
theorem dL_law_702 : decode cL_law 702 = .ok (.iconst 0, 1) := by decide +kernel
theorem dL_law_703 : decode cL_law 703 = .ok (.laload, 1) := by decide +kernel
theorem dL_law_704 : decode cL_law 704 = .ok (.iload 6, 2) := by decide +kernel
theorem dL_law_706 : decode cL_law 706 = .ok (.i2l, 1) := by decide +kernel
theorem dL_law_707 : decode cL_law 707 = .ok (.lcmp, 1) := by decide +kernel
theorem dL_law_708 : decode cL_law 708 = .ok (.ifCond .eq 5, 3) := by decide +kernel
theorem dL_law_711 : decode cL_law 711 = .ok (.iconst 0, 1) := by decide +kernel
theorem dL_law_712 : decode cL_law 712 = .ok (.ireturn, 1) := by decide +kernel
theorem dL_law_713 : decode cL_law 713 = .ok (.goto 741, 3) := by decide +kernel
theorem dL_law_716 : decode cL_law 716 = .ok (.aload_n 1, 1) := by decide +kernel
theorem dL_law_717 : decode cL_law 717 = .ok (.aload_n 0, 1) := by decide +kernel
theorem dL_law_718 : decode cL_law 718 = .ok (.iload 4, 2) := by decide +kernel
theorem dL_law_720 : decode cL_law 720 = .ok (.iconst 1, 1) := by decide +kernel
theorem dL_law_721 : decode cL_law 721 = .ok (.iadd, 1) := by decide +kernel
theorem dL_law_722 : decode cL_law 722 = .ok (.iaload, 1) := by decide +kernel
theorem dL_law_723 : decode cL_law 723 = .ok (.aload_n 3, 1) := by decide +kernel
theorem dL_law_724 : decode cL_law 724 = .ok (.invokestatic 120, 3) := by decide +kernel
theorem dL_law_727 : decode cL_law 727 = .ok (.istore 5, 2) := by decide +kernel
theorem dL_law_729 : decode cL_law 729 = .ok (.aload_n 2, 1) := by decide +kernel
theorem dL_law_730 : decode cL_law 730 = .ok (.aload_n 0, 1) := by decide +kernel
theorem dL_law_731 : decode cL_law 731 = .ok (.iload 4, 2) := by decide +kernel
theorem dL_law_733 : decode cL_law 733 = .ok (.iconst 1, 1) := by decide +kernel
theorem dL_law_734 : decode cL_law 734 = .ok (.iadd, 1) := by decide +kernel
theorem dL_law_735 : decode cL_law 735 = .ok (.iaload, 1) := by decide +kernel
theorem dL_law_736 : decode cL_law 736 = .ok (.invokevirtual 122, 3) := by decide +kernel
theorem dL_law_739 : decode cL_law 739 = .ok (.istore 6, 2) := by decide +kernel
theorem dL_law_741 : decode cL_law 741 = .ok (.aload_n 2, 1) := by decide +kernel
theorem dL_law_742 : decode cL_law 742 = .ok (.invokevirtual 90, 3) := by decide +kernel
theorem dL_law_745 : decode cL_law 745 = .ok (.iload 5, 2) := by decide +kernel
theorem dL_law_747 : decode cL_law 747 = .ok (.if_icmp .eq 5, 3) := by decide +kernel
theorem dL_law_750 : decode cL_law 750 = .ok (.iconst 0, 1) := by decide +kernel
theorem dL_law_751 : decode cL_law 751 = .ok (.ireturn, 1) := by decide +kernel
theorem dL_law_752 : decode cL_law 752 = .ok (.iload 5, 2) := by decide +kernel
theorem dL_law_754 : decode cL_law 754 = .ok (.ifCond .ne 22, 3) := by decide +kernel
theorem dL_law_757 : decode cL_law 757 = .ok (.aload_n 3, 1) := by decide +kernel
theorem dL_law_758 : decode cL_law 758 = .ok (.iconst 0, 1) := by decide +kernel
theorem dL_law_759 : decode cL_law 759 = .ok (.laload, 1) := by decide +kernel
theorem dL_law_760 : decode cL_law 760 = .ok (.iload 6, 2) := by decide +kernel
theorem dL_law_762 : decode cL_law 762 = .ok (.ifCond .eq 7, 3) := by decide +kernel
theorem dL_law_765 : decode cL_law 765 = .ok (.lconst 1, 1) := by decide +kernel
theorem dL_law_766 : decode cL_law 766 = .ok (.goto 4, 3) := by decide +kernel
theorem dL_law_769 : decode cL_law 769 = .ok (.lconst 0, 1) := by decide +kernel
theorem dL_law_770 : decode cL_law 770 = .ok (.lcmp, 1) := by decide +kernel
theorem dL_law_771 : decode cL_law 771 = .ok (.ifCond .eq 5, 3) := by decide +kernel
theorem dL_law_774 : decode cL_law 774 = .ok (.iconst 0, 1) := by decide +kernel
theorem dL_law_775 : decode cL_law 775 = .ok (.ireturn, 1) := by decide +kernel
theorem dL_law_776 : decode cL_law 776 = .ok (.goto 678, 3) := by decide +kernel
theorem dL_law_779 : decode cL_law 779 = .ok (.aload_n 1, 1) := by decide +kernel
theorem dL_law_780 : decode cL_law 780 = .ok (.aload_n 0, 1) := by decide +kernel
theorem dL_law_781 : decode cL_law 781 = .ok (.iload 4, 2) := by decide +kernel
theorem dL_law_783 : decode cL_law 783 = .ok (.iconst 1, 1) := by decide +kernel
theorem dL_law_784 : decode cL_law 784 = .ok (.iadd, 1) := by decide +kernel
theorem dL_law_785 : decode cL_law 785 = .ok (.iaload, 1) := by decide +kernel
theorem dL_law_786 : decode cL_law 786 = .ok (.aload_n 0, 1) := by decide +kernel
theorem dL_law_787 : decode cL_law 787 = .ok (.iload 4, 2) := by decide +kernel
theorem dL_law_789 : decode cL_law 789 = .ok (.iconst 2, 1) := by decide +kernel
theorem dL_law_790 : decode cL_law 790 = .ok (.iadd, 1) := by decide +kernel
theorem dL_law_791 : decode cL_law 791 = .ok (.iaload, 1) := by decide +kernel
theorem dL_law_792 : decode cL_law 792 = .ok (.aload_n 3, 1) := by decide +kernel
theorem dL_law_793 : decode cL_law 793 = .ok (.invokestatic 123, 3) := by decide +kernel
theorem dL_law_796 : decode cL_law 796 = .ok (.istore 5, 2) := by decide +kernel
theorem dL_law_798 : decode cL_law 798 = .ok (.aload_n 2, 1) := by decide +kernel
theorem dL_law_799 : decode cL_law 799 = .ok (.aload_n 0, 1) := by decide +kernel
theorem dL_law_800 : decode cL_law 800 = .ok (.iload 4, 2) := by decide +kernel
theorem dL_law_802 : decode cL_law 802 = .ok (.iconst 1, 1) := by decide +kernel
theorem dL_law_803 : decode cL_law 803 = .ok (.iadd, 1) := by decide +kernel
theorem dL_law_804 : decode cL_law 804 = .ok (.iaload, 1) := by decide +kernel
theorem dL_law_805 : decode cL_law 805 = .ok (.aload_n 0, 1) := by decide +kernel
theorem dL_law_806 : decode cL_law 806 = .ok (.iload 4, 2) := by decide +kernel
theorem dL_law_808 : decode cL_law 808 = .ok (.iconst 2, 1) := by decide +kernel
theorem dL_law_809 : decode cL_law 809 = .ok (.iadd, 1) := by decide +kernel
theorem dL_law_810 : decode cL_law 810 = .ok (.iaload, 1) := by decide +kernel
theorem dL_law_811 : decode cL_law 811 = .ok (.invokevirtual 125, 3) := by decide +kernel
theorem dL_law_814 : decode cL_law 814 = .ok (.istore 6, 2) := by decide +kernel
theorem dL_law_816 : decode cL_law 816 = .ok (.aload_n 2, 1) := by decide +kernel
theorem dL_law_817 : decode cL_law 817 = .ok (.invokevirtual 90, 3) := by decide +kernel
theorem dL_law_820 : decode cL_law 820 = .ok (.iload 5, 2) := by decide +kernel
theorem dL_law_822 : decode cL_law 822 = .ok (.if_icmp .eq 5, 3) := by decide +kernel
theorem dL_law_825 : decode cL_law 825 = .ok (.iconst 0, 1) := by decide +kernel
theorem dL_law_826 : decode cL_law 826 = .ok (.ireturn, 1) := by decide +kernel
theorem dL_law_827 : decode cL_law 827 = .ok (.iload 5, 2) := by decide +kernel
theorem dL_law_829 : decode cL_law 829 = .ok (.ifCond .ne 15, 3) := by decide +kernel
theorem dL_law_832 : decode cL_law 832 = .ok (.aload_n 3, 1) := by decide +kernel
theorem dL_law_833 : decode cL_law 833 = .ok (.iconst 0, 1) := by decide +kernel
theorem dL_law_834 : decode cL_law 834 = .ok (.laload, 1) := by decide +kernel
theorem dL_law_835 : decode cL_law 835 = .ok (.iload 6, 2) := by decide +kernel
theorem dL_law_837 : decode cL_law 837 = .ok (.i2l, 1) := by decide +kernel
theorem dL_law_838 : decode cL_law 838 = .ok (.lcmp, 1) := by decide +kernel
theorem dL_law_839 : decode cL_law 839 = .ok (.ifCond .eq 5, 3) := by decide +kernel
theorem dL_law_842 : decode cL_law 842 = .ok (.iconst 0, 1) := by decide +kernel
theorem dL_law_843 : decode cL_law 843 = .ok (.ireturn, 1) := by decide +kernel
theorem dL_law_844 : decode cL_law 844 = .ok (.goto 610, 3) := by decide +kernel
theorem dL_law_847 : decode cL_law 847 = .ok (.aload_n 1, 1) := by decide +kernel
theorem dL_law_848 : decode cL_law 848 = .ok (.aload_n 0, 1) := by decide +kernel
theorem dL_law_849 : decode cL_law 849 = .ok (.iload 4, 2) := by decide +kernel
theorem dL_law_851 : decode cL_law 851 = .ok (.iconst 1, 1) := by decide +kernel
theorem dL_law_852 : decode cL_law 852 = .ok (.iadd, 1) := by decide +kernel
theorem dL_law_853 : decode cL_law 853 = .ok (.iaload, 1) := by decide +kernel
theorem dL_law_854 : decode cL_law 854 = .ok (.aload_n 0, 1) := by decide +kernel
theorem dL_law_855 : decode cL_law 855 = .ok (.iload 4, 2) := by decide +kernel
theorem dL_law_857 : decode cL_law 857 = .ok (.iconst 2, 1) := by decide +kernel
theorem dL_law_858 : decode cL_law 858 = .ok (.iadd, 1) := by decide +kernel
theorem dL_law_859 : decode cL_law 859 = .ok (.iaload, 1) := by decide +kernel
theorem dL_law_860 : decode cL_law 860 = .ok (.aload_n 3, 1) := by decide +kernel
theorem dL_law_861 : decode cL_law 861 = .ok (.invokestatic 126, 3) := by decide +kernel
theorem dL_law_864 : decode cL_law 864 = .ok (.istore 5, 2) := by decide +kernel
theorem dL_law_866 : decode cL_law 866 = .ok (.aload_n 2, 1) := by decide +kernel
theorem dL_law_867 : decode cL_law 867 = .ok (.aload_n 0, 1) := by decide +kernel
theorem dL_law_868 : decode cL_law 868 = .ok (.iload 4, 2) := by decide +kernel
theorem dL_law_870 : decode cL_law 870 = .ok (.iconst 1, 1) := by decide +kernel
theorem dL_law_871 : decode cL_law 871 = .ok (.iadd, 1) := by decide +kernel
theorem dL_law_872 : decode cL_law 872 = .ok (.iaload, 1) := by decide +kernel
theorem dL_law_873 : decode cL_law 873 = .ok (.aload_n 0, 1) := by decide +kernel
theorem dL_law_874 : decode cL_law 874 = .ok (.iload 4, 2) := by decide +kernel
theorem dL_law_876 : decode cL_law 876 = .ok (.iconst 2, 1) := by decide +kernel
theorem dL_law_877 : decode cL_law 877 = .ok (.iadd, 1) := by decide +kernel
theorem dL_law_878 : decode cL_law 878 = .ok (.iaload, 1) := by decide +kernel
theorem dL_law_879 : decode cL_law 879 = .ok (.invokevirtual 128, 3) := by decide +kernel
theorem dL_law_882 : decode cL_law 882 = .ok (.istore 6, 2) := by decide +kernel
theorem dL_law_884 : decode cL_law 884 = .ok (.aload_n 2, 1) := by decide +kernel
theorem dL_law_885 : decode cL_law 885 = .ok (.invokevirtual 90, 3) := by decide +kernel
theorem dL_law_888 : decode cL_law 888 = .ok (.iload 5, 2) := by decide +kernel
theorem dL_law_890 : decode cL_law 890 = .ok (.if_icmp .eq 5, 3) := by decide +kernel
theorem dL_law_893 : decode cL_law 893 = .ok (.iconst 0, 1) := by decide +kernel
theorem dL_law_894 : decode cL_law 894 = .ok (.ireturn, 1) := by decide +kernel
theorem dL_law_895 : decode cL_law 895 = .ok (.iload 5, 2) := by decide +kernel
theorem dL_law_897 : decode cL_law 897 = .ok (.ifCond .ne 15, 3) := by decide +kernel
theorem dL_law_900 : decode cL_law 900 = .ok (.aload_n 3, 1) := by decide +kernel
theorem dL_law_901 : decode cL_law 901 = .ok (.iconst 0, 1) := by decide +kernel
theorem dL_law_902 : decode cL_law 902 = .ok (.laload, 1) := by decide +kernel
theorem dL_law_903 : decode cL_law 903 = .ok (.iload 6, 2) := by decide +kernel
theorem dL_law_905 : decode cL_law 905 = .ok (.i2l, 1) := by decide +kernel
theorem dL_law_906 : decode cL_law 906 = .ok (.lcmp, 1) := by decide +kernel
theorem dL_law_907 : decode cL_law 907 = .ok (.ifCond .eq 5, 3) := by decide +kernel
theorem dL_law_910 : decode cL_law 910 = .ok (.iconst 0, 1) := by decide +kernel
theorem dL_law_911 : decode cL_law 911 = .ok (.ireturn, 1) := by decide +kernel
theorem dL_law_912 : decode cL_law 912 = .ok (.goto 542, 3) := by decide +kernel
theorem dL_law_915 : decode cL_law 915 = .ok (.aload_n 1, 1) := by decide +kernel
theorem dL_law_916 : decode cL_law 916 = .ok (.aload_n 0, 1) := by decide +kernel
theorem dL_law_917 : decode cL_law 917 = .ok (.iload 4, 2) := by decide +kernel
theorem dL_law_919 : decode cL_law 919 = .ok (.iconst 1, 1) := by decide +kernel
theorem dL_law_920 : decode cL_law 920 = .ok (.iadd, 1) := by decide +kernel
theorem dL_law_921 : decode cL_law 921 = .ok (.iaload, 1) := by decide +kernel
theorem dL_law_922 : decode cL_law 922 = .ok (.aload_n 0, 1) := by decide +kernel
theorem dL_law_923 : decode cL_law 923 = .ok (.iload 4, 2) := by decide +kernel
theorem dL_law_925 : decode cL_law 925 = .ok (.iconst 2, 1) := by decide +kernel
theorem dL_law_926 : decode cL_law 926 = .ok (.iadd, 1) := by decide +kernel
theorem dL_law_927 : decode cL_law 927 = .ok (.iaload, 1) := by decide +kernel
theorem dL_law_928 : decode cL_law 928 = .ok (.aload_n 3, 1) := by decide +kernel
theorem dL_law_929 : decode cL_law 929 = .ok (.invokestatic 129, 3) := by decide +kernel
theorem dL_law_932 : decode cL_law 932 = .ok (.istore 5, 2) := by decide +kernel
theorem dL_law_934 : decode cL_law 934 = .ok (.aload_n 2, 1) := by decide +kernel
theorem dL_law_935 : decode cL_law 935 = .ok (.aload_n 0, 1) := by decide +kernel
theorem dL_law_936 : decode cL_law 936 = .ok (.iload 4, 2) := by decide +kernel
theorem dL_law_938 : decode cL_law 938 = .ok (.iconst 1, 1) := by decide +kernel
theorem dL_law_939 : decode cL_law 939 = .ok (.iadd, 1) := by decide +kernel
theorem dL_law_940 : decode cL_law 940 = .ok (.iaload, 1) := by decide +kernel
theorem dL_law_941 : decode cL_law 941 = .ok (.aload_n 0, 1) := by decide +kernel
theorem dL_law_942 : decode cL_law 942 = .ok (.iload 4, 2) := by decide +kernel
theorem dL_law_944 : decode cL_law 944 = .ok (.iconst 2, 1) := by decide +kernel
theorem dL_law_945 : decode cL_law 945 = .ok (.iadd, 1) := by decide +kernel
theorem dL_law_946 : decode cL_law 946 = .ok (.iaload, 1) := by decide +kernel
theorem dL_law_947 : decode cL_law 947 = .ok (.invokevirtual 131, 3) := by decide +kernel
theorem dL_law_950 : decode cL_law 950 = .ok (.istore 6, 2) := by decide +kernel
theorem dL_law_952 : decode cL_law 952 = .ok (.aload_n 2, 1) := by decide +kernel
theorem dL_law_953 : decode cL_law 953 = .ok (.invokevirtual 90, 3) := by decide +kernel
theorem dL_law_956 : decode cL_law 956 = .ok (.iload 5, 2) := by decide +kernel
theorem dL_law_958 : decode cL_law 958 = .ok (.if_icmp .eq 5, 3) := by decide +kernel
theorem dL_law_961 : decode cL_law 961 = .ok (.iconst 0, 1) := by decide +kernel
theorem dL_law_962 : decode cL_law 962 = .ok (.ireturn, 1) := by decide +kernel
theorem dL_law_963 : decode cL_law 963 = .ok (.iload 5, 2) := by decide +kernel
theorem dL_law_965 : decode cL_law 965 = .ok (.ifCond .ne 15, 3) := by decide +kernel
theorem dL_law_968 : decode cL_law 968 = .ok (.aload_n 3, 1) := by decide +kernel
theorem dL_law_969 : decode cL_law 969 = .ok (.iconst 0, 1) := by decide +kernel
theorem dL_law_970 : decode cL_law 970 = .ok (.laload, 1) := by decide +kernel
theorem dL_law_971 : decode cL_law 971 = .ok (.iload 6, 2) := by decide +kernel
theorem dL_law_973 : decode cL_law 973 = .ok (.i2l, 1) := by decide +kernel
theorem dL_law_974 : decode cL_law 974 = .ok (.lcmp, 1) := by decide +kernel
theorem dL_law_975 : decode cL_law 975 = .ok (.ifCond .eq 5, 3) := by decide +kernel
theorem dL_law_978 : decode cL_law 978 = .ok (.iconst 0, 1) := by decide +kernel
theorem dL_law_979 : decode cL_law 979 = .ok (.ireturn, 1) := by decide +kernel
theorem dL_law_980 : decode cL_law 980 = .ok (.goto 474, 3) := by decide +kernel
theorem dL_law_983 : decode cL_law 983 = .ok (.aload_n 1, 1) := by decide +kernel
theorem dL_law_984 : decode cL_law 984 = .ok (.aload_n 0, 1) := by decide +kernel
theorem dL_law_985 : decode cL_law 985 = .ok (.iload 4, 2) := by decide +kernel
theorem dL_law_987 : decode cL_law 987 = .ok (.iconst 1, 1) := by decide +kernel
theorem dL_law_988 : decode cL_law 988 = .ok (.iadd, 1) := by decide +kernel
theorem dL_law_989 : decode cL_law 989 = .ok (.iaload, 1) := by decide +kernel
theorem dL_law_990 : decode cL_law 990 = .ok (.aload_n 0, 1) := by decide +kernel
theorem dL_law_991 : decode cL_law 991 = .ok (.iload 4, 2) := by decide +kernel
theorem dL_law_993 : decode cL_law 993 = .ok (.iconst 2, 1) := by decide +kernel
theorem dL_law_994 : decode cL_law 994 = .ok (.iadd, 1) := by decide +kernel
theorem dL_law_995 : decode cL_law 995 = .ok (.iaload, 1) := by decide +kernel
theorem dL_law_996 : decode cL_law 996 = .ok (.aload_n 3, 1) := by decide +kernel
theorem dL_law_997 : decode cL_law 997 = .ok (.invokestatic 132, 3) := by decide +kernel
theorem dL_law_1000 : decode cL_law 1000 = .ok (.istore 5, 2) := by decide +kernel
theorem dL_law_1002 : decode cL_law 1002 = .ok (.aload_n 2, 1) := by decide +kernel
theorem dL_law_1003 : decode cL_law 1003 = .ok (.aload_n 0, 1) := by decide +kernel
theorem dL_law_1004 : decode cL_law 1004 = .ok (.iload 4, 2) := by decide +kernel
theorem dL_law_1006 : decode cL_law 1006 = .ok (.iconst 1, 1) := by decide +kernel
theorem dL_law_1007 : decode cL_law 1007 = .ok (.iadd, 1) := by decide +kernel
theorem dL_law_1008 : decode cL_law 1008 = .ok (.iaload, 1) := by decide +kernel
theorem dL_law_1009 : decode cL_law 1009 = .ok (.aload_n 0, 1) := by decide +kernel
theorem dL_law_1010 : decode cL_law 1010 = .ok (.iload 4, 2) := by decide +kernel
theorem dL_law_1012 : decode cL_law 1012 = .ok (.iconst 2, 1) := by decide +kernel
theorem dL_law_1013 : decode cL_law 1013 = .ok (.iadd, 1) := by decide +kernel
theorem dL_law_1014 : decode cL_law 1014 = .ok (.iaload, 1) := by decide +kernel
theorem dL_law_1015 : decode cL_law 1015 = .ok (.invokevirtual 134, 3) := by decide +kernel
theorem dL_law_1018 : decode cL_law 1018 = .ok (.istore 6, 2) := by decide +kernel
theorem dL_law_1020 : decode cL_law 1020 = .ok (.aload_n 2, 1) := by decide +kernel
theorem dL_law_1021 : decode cL_law 1021 = .ok (.invokevirtual 90, 3) := by decide +kernel
theorem dL_law_1024 : decode cL_law 1024 = .ok (.iload 5, 2) := by decide +kernel
theorem dL_law_1026 : decode cL_law 1026 = .ok (.if_icmp .eq 5, 3) := by decide +kernel
theorem dL_law_1029 : decode cL_law 1029 = .ok (.iconst 0, 1) := by decide +kernel
theorem dL_law_1030 : decode cL_law 1030 = .ok (.ireturn, 1) := by decide +kernel
theorem dL_law_1031 : decode cL_law 1031 = .ok (.iload 5, 2) := by decide +kernel
theorem dL_law_1033 : decode cL_law 1033 = .ok (.ifCond .ne 15, 3) := by decide +kernel
theorem dL_law_1036 : decode cL_law 1036 = .ok (.aload_n 3, 1) := by decide +kernel
theorem dL_law_1037 : decode cL_law 1037 = .ok (.iconst 0, 1) := by decide +kernel
theorem dL_law_1038 : decode cL_law 1038 = .ok (.laload, 1) := by decide +kernel
theorem dL_law_1039 : decode cL_law 1039 = .ok (.iload 6, 2) := by decide +kernel
theorem dL_law_1041 : decode cL_law 1041 = .ok (.i2l, 1) := by decide +kernel
theorem dL_law_1042 : decode cL_law 1042 = .ok (.lcmp, 1) := by decide +kernel
theorem dL_law_1043 : decode cL_law 1043 = .ok (.ifCond .eq 5, 3) := by decide +kernel
theorem dL_law_1046 : decode cL_law 1046 = .ok (.iconst 0, 1) := by decide +kernel
theorem dL_law_1047 : decode cL_law 1047 = .ok (.ireturn, 1) := by decide +kernel
theorem dL_law_1048 : decode cL_law 1048 = .ok (.goto 406, 3) := by decide +kernel
theorem dL_law_1051 : decode cL_law 1051 = .ok (.aload_n 1, 1) := by decide +kernel
theorem dL_law_1052 : decode cL_law 1052 = .ok (.aload_n 0, 1) := by decide +kernel
theorem dL_law_1053 : decode cL_law 1053 = .ok (.iload 4, 2) := by decide +kernel
theorem dL_law_1055 : decode cL_law 1055 = .ok (.iconst 1, 1) := by decide +kernel
theorem dL_law_1056 : decode cL_law 1056 = .ok (.iadd, 1) := by decide +kernel
theorem dL_law_1057 : decode cL_law 1057 = .ok (.iaload, 1) := by decide +kernel
theorem dL_law_1058 : decode cL_law 1058 = .ok (.aload_n 3, 1) := by decide +kernel
theorem dL_law_1059 : decode cL_law 1059 = .ok (.invokestatic 135, 3) := by decide +kernel
theorem dL_law_1062 : decode cL_law 1062 = .ok (.istore 5, 2) := by decide +kernel
theorem dL_law_1064 : decode cL_law 1064 = .ok (.aload_n 2, 1) := by decide +kernel
theorem dL_law_1065 : decode cL_law 1065 = .ok (.aload_n 0, 1) := by decide +kernel
theorem dL_law_1066 : decode cL_law 1066 = .ok (.iload 4, 2) := by decide +kernel
theorem dL_law_1068 : decode cL_law 1068 = .ok (.iconst 1, 1) := by decide +kernel
theorem dL_law_1069 : decode cL_law 1069 = .ok (.iadd, 1) := by decide +kernel
theorem dL_law_1070 : decode cL_law 1070 = .ok (.iaload, 1) := by decide +kernel
theorem dL_law_1071 : decode cL_law 1071 = .ok (.invokevirtual 137, 3) := by decide +kernel
theorem dL_law_1074 : decode cL_law 1074 = .ok (.istore 6, 2) := by decide +kernel
theorem dL_law_1076 : decode cL_law 1076 = .ok (.aload_n 2, 1) := by decide +kernel
theorem dL_law_1077 : decode cL_law 1077 = .ok (.invokevirtual 90, 3) := by decide +kernel
theorem dL_law_1080 : decode cL_law 1080 = .ok (.iload 5, 2) := by decide +kernel
theorem dL_law_1082 : decode cL_law 1082 = .ok (.if_icmp .eq 5, 3) := by decide +kernel
theorem dL_law_1085 : decode cL_law 1085 = .ok (.iconst 0, 1) := by decide +kernel
theorem dL_law_1086 : decode cL_law 1086 = .ok (.ireturn, 1) := by decide +kernel
theorem dL_law_1087 : decode cL_law 1087 = .ok (.iload 5, 2) := by decide +kernel
theorem dL_law_1089 : decode cL_law 1089 = .ok (.ifCond .ne 15, 3) := by decide +kernel
theorem dL_law_1092 : decode cL_law 1092 = .ok (.aload_n 3, 1) := by decide +kernel
theorem dL_law_1093 : decode cL_law 1093 = .ok (.iconst 0, 1) := by decide +kernel
theorem dL_law_1094 : decode cL_law 1094 = .ok (.laload, 1) := by decide +kernel
theorem dL_law_1095 : decode cL_law 1095 = .ok (.iload 6, 2) := by decide +kernel
theorem dL_law_1097 : decode cL_law 1097 = .ok (.i2l, 1) := by decide +kernel
theorem dL_law_1098 : decode cL_law 1098 = .ok (.lcmp, 1) := by decide +kernel
theorem dL_law_1099 : decode cL_law 1099 = .ok (.ifCond .eq 5, 3) := by decide +kernel
theorem dL_law_1102 : decode cL_law 1102 = .ok (.iconst 0, 1) := by decide +kernel
theorem dL_law_1103 : decode cL_law 1103 = .ok (.ireturn, 1) := by decide +kernel
theorem dL_law_1104 : decode cL_law 1104 = .ok (.goto 350, 3) := by decide +kernel
theorem dL_law_1107 : decode cL_law 1107 = .ok (.aload_n 1, 1) := by decide +kernel
theorem dL_law_1108 : decode cL_law 1108 = .ok (.aload_n 0, 1) := by decide +kernel
theorem dL_law_1109 : decode cL_law 1109 = .ok (.iload 4, 2) := by decide +kernel
theorem dL_law_1111 : decode cL_law 1111 = .ok (.iconst 1, 1) := by decide +kernel
theorem dL_law_1112 : decode cL_law 1112 = .ok (.iadd, 1) := by decide +kernel
theorem dL_law_1113 : decode cL_law 1113 = .ok (.iaload, 1) := by decide +kernel
theorem dL_law_1114 : decode cL_law 1114 = .ok (.aload_n 3, 1) := by decide +kernel
theorem dL_law_1115 : decode cL_law 1115 = .ok (.invokestatic 138, 3) := by decide +kernel
theorem dL_law_1118 : decode cL_law 1118 = .ok (.istore 5, 2) := by decide +kernel
theorem dL_law_1120 : decode cL_law 1120 = .ok (.aload_n 2, 1) := by decide +kernel
theorem dL_law_1121 : decode cL_law 1121 = .ok (.aload_n 0, 1) := by decide +kernel
theorem dL_law_1122 : decode cL_law 1122 = .ok (.iload 4, 2) := by decide +kernel
theorem dL_law_1124 : decode cL_law 1124 = .ok (.iconst 1, 1) := by decide +kernel
theorem dL_law_1125 : decode cL_law 1125 = .ok (.iadd, 1) := by decide +kernel
theorem dL_law_1126 : decode cL_law 1126 = .ok (.iaload, 1) := by decide +kernel
theorem dL_law_1127 : decode cL_law 1127 = .ok (.invokevirtual 140, 3) := by decide +kernel
theorem dL_law_1130 : decode cL_law 1130 = .ok (.istore 6, 2) := by decide +kernel
theorem dL_law_1132 : decode cL_law 1132 = .ok (.aload_n 2, 1) := by decide +kernel
theorem dL_law_1133 : decode cL_law 1133 = .ok (.invokevirtual 90, 3) := by decide +kernel
theorem dL_law_1136 : decode cL_law 1136 = .ok (.iload 5, 2) := by decide +kernel
theorem dL_law_1138 : decode cL_law 1138 = .ok (.if_icmp .eq 5, 3) := by decide +kernel
theorem dL_law_1141 : decode cL_law 1141 = .ok (.iconst 0, 1) := by decide +kernel
theorem dL_law_1142 : decode cL_law 1142 = .ok (.ireturn, 1) := by decide +kernel
theorem dL_law_1143 : decode cL_law 1143 = .ok (.iload 5, 2) := by decide +kernel
theorem dL_law_1145 : decode cL_law 1145 = .ok (.ifCond .ne 15, 3) := by decide +kernel
theorem dL_law_1148 : decode cL_law 1148 = .ok (.aload_n 3, 1) := by decide +kernel
theorem dL_law_1149 : decode cL_law 1149 = .ok (.iconst 0, 1) := by decide +kernel
theorem dL_law_1150 : decode cL_law 1150 = .ok (.laload, 1) := by decide +kernel
theorem dL_law_1151 : decode cL_law 1151 = .ok (.iload 6, 2) := by decide +kernel
theorem dL_law_1153 : decode cL_law 1153 = .ok (.i2l, 1) := by decide +kernel
theorem dL_law_1154 : decode cL_law 1154 = .ok (.lcmp, 1) := by decide +kernel
theorem dL_law_1155 : decode cL_law 1155 = .ok (.ifCond .eq 5, 3) := by decide +kernel
theorem dL_law_1158 : decode cL_law 1158 = .ok (.iconst 0, 1) := by decide +kernel
theorem dL_law_1159 : decode cL_law 1159 = .ok (.ireturn, 1) := by decide +kernel
theorem dL_law_1160 : decode cL_law 1160 = .ok (.goto 294, 3) := by decide +kernel
theorem dL_law_1163 : decode cL_law 1163 = .ok (.aload_n 1, 1) := by decide +kernel
theorem dL_law_1164 : decode cL_law 1164 = .ok (.aload_n 0, 1) := by decide +kernel
theorem dL_law_1165 : decode cL_law 1165 = .ok (.iload 4, 2) := by decide +kernel
theorem dL_law_1167 : decode cL_law 1167 = .ok (.iconst 1, 1) := by decide +kernel
theorem dL_law_1168 : decode cL_law 1168 = .ok (.iadd, 1) := by decide +kernel
theorem dL_law_1169 : decode cL_law 1169 = .ok (.iaload, 1) := by decide +kernel
theorem dL_law_1170 : decode cL_law 1170 = .ok (.aload_n 3, 1) := by decide +kernel
theorem dL_law_1171 : decode cL_law 1171 = .ok (.invokestatic 141, 3) := by decide +kernel
theorem dL_law_1174 : decode cL_law 1174 = .ok (.istore 5, 2) := by decide +kernel
theorem dL_law_1176 : decode cL_law 1176 = .ok (.aload_n 2, 1) := by decide +kernel
theorem dL_law_1177 : decode cL_law 1177 = .ok (.aload_n 0, 1) := by decide +kernel
theorem dL_law_1178 : decode cL_law 1178 = .ok (.iload 4, 2) := by decide +kernel
theorem dL_law_1180 : decode cL_law 1180 = .ok (.iconst 1, 1) := by decide +kernel
theorem dL_law_1181 : decode cL_law 1181 = .ok (.iadd, 1) := by decide +kernel
theorem dL_law_1182 : decode cL_law 1182 = .ok (.iaload, 1) := by decide +kernel
theorem dL_law_1183 : decode cL_law 1183 = .ok (.invokevirtual 143, 3) := by decide +kernel
theorem dL_law_1186 : decode cL_law 1186 = .ok (.istore 6, 2) := by decide +kernel
theorem dL_law_1188 : decode cL_law 1188 = .ok (.aload_n 2, 1) := by decide +kernel
theorem dL_law_1189 : decode cL_law 1189 = .ok (.invokevirtual 90, 3) := by decide +kernel
theorem dL_law_1192 : decode cL_law 1192 = .ok (.iload 5, 2) := by decide +kernel
theorem dL_law_1194 : decode cL_law 1194 = .ok (.if_icmp .eq 5, 3) := by decide +kernel
theorem dL_law_1197 : decode cL_law 1197 = .ok (.iconst 0, 1) := by decide +kernel
theorem dL_law_1198 : decode cL_law 1198 = .ok (.ireturn, 1) := by decide +kernel
theorem dL_law_1199 : decode cL_law 1199 = .ok (.iload 5, 2) := by decide +kernel
theorem dL_law_1201 : decode cL_law 1201 = .ok (.ifCond .ne 15, 3) := by decide +kernel
theorem dL_law_1204 : decode cL_law 1204 = .ok (.aload_n 3, 1) := by decide +kernel
theorem dL_law_1205 : decode cL_law 1205 = .ok (.iconst 0, 1) := by decide +kernel
theorem dL_law_1206 : decode cL_law 1206 = .ok (.laload, 1) := by decide +kernel
theorem dL_law_1207 : decode cL_law 1207 = .ok (.iload 6, 2) := by decide +kernel
theorem dL_law_1209 : decode cL_law 1209 = .ok (.i2l, 1) := by decide +kernel
theorem dL_law_1210 : decode cL_law 1210 = .ok (.lcmp, 1) := by decide +kernel
theorem dL_law_1211 : decode cL_law 1211 = .ok (.ifCond .eq 5, 3) := by decide +kernel
theorem dL_law_1214 : decode cL_law 1214 = .ok (.iconst 0, 1) := by decide +kernel
theorem dL_law_1215 : decode cL_law 1215 = .ok (.ireturn, 1) := by decide +kernel
theorem dL_law_1216 : decode cL_law 1216 = .ok (.goto 238, 3) := by decide +kernel
theorem dL_law_1219 : decode cL_law 1219 = .ok (.aload_n 1, 1) := by decide +kernel
theorem dL_law_1220 : decode cL_law 1220 = .ok (.aload_n 0, 1) := by decide +kernel
theorem dL_law_1221 : decode cL_law 1221 = .ok (.iload 4, 2) := by decide +kernel
theorem dL_law_1223 : decode cL_law 1223 = .ok (.iconst 1, 1) := by decide +kernel
theorem dL_law_1224 : decode cL_law 1224 = .ok (.iadd, 1) := by decide +kernel
theorem dL_law_1225 : decode cL_law 1225 = .ok (.iaload, 1) := by decide +kernel
theorem dL_law_1226 : decode cL_law 1226 = .ok (.aload_n 0, 1) := by decide +kernel
theorem dL_law_1227 : decode cL_law 1227 = .ok (.iload 4, 2) := by decide +kernel
theorem dL_law_1229 : decode cL_law 1229 = .ok (.iconst 2, 1) := by decide +kernel
theorem dL_law_1230 : decode cL_law 1230 = .ok (.iadd, 1) := by decide +kernel
theorem dL_law_1231 : decode cL_law 1231 = .ok (.iaload, 1) := by decide +kernel
theorem dL_law_1232 : decode cL_law 1232 = .ok (.aload_n 3, 1) := by decide +kernel
theorem dL_law_1233 : decode cL_law 1233 = .ok (.invokestatic 144, 3) := by decide +kernel
theorem dL_law_1236 : decode cL_law 1236 = .ok (.istore 5, 2) := by decide +kernel
theorem dL_law_1238 : decode cL_law 1238 = .ok (.aload_n 2, 1) := by decide +kernel
theorem dL_law_1239 : decode cL_law 1239 = .ok (.aload_n 0, 1) := by decide +kernel
theorem dL_law_1240 : decode cL_law 1240 = .ok (.iload 4, 2) := by decide +kernel
theorem dL_law_1242 : decode cL_law 1242 = .ok (.iconst 1, 1) := by decide +kernel
theorem dL_law_1243 : decode cL_law 1243 = .ok (.iadd, 1) := by decide +kernel
theorem dL_law_1244 : decode cL_law 1244 = .ok (.iaload, 1) := by decide +kernel
theorem dL_law_1245 : decode cL_law 1245 = .ok (.aload_n 0, 1) := by decide +kernel
theorem dL_law_1246 : decode cL_law 1246 = .ok (.iload 4, 2) := by decide +kernel
theorem dL_law_1248 : decode cL_law 1248 = .ok (.iconst 2, 1) := by decide +kernel
theorem dL_law_1249 : decode cL_law 1249 = .ok (.iadd, 1) := by decide +kernel
theorem dL_law_1250 : decode cL_law 1250 = .ok (.iaload, 1) := by decide +kernel
theorem dL_law_1251 : decode cL_law 1251 = .ok (.invokevirtual 146, 3) := by decide +kernel
theorem dL_law_1254 : decode cL_law 1254 = .ok (.istore 6, 2) := by decide +kernel
theorem dL_law_1256 : decode cL_law 1256 = .ok (.aload_n 2, 1) := by decide +kernel
theorem dL_law_1257 : decode cL_law 1257 = .ok (.invokevirtual 90, 3) := by decide +kernel
theorem dL_law_1260 : decode cL_law 1260 = .ok (.iload 5, 2) := by decide +kernel
theorem dL_law_1262 : decode cL_law 1262 = .ok (.if_icmp .eq 5, 3) := by decide +kernel
theorem dL_law_1265 : decode cL_law 1265 = .ok (.iconst 0, 1) := by decide +kernel
theorem dL_law_1266 : decode cL_law 1266 = .ok (.ireturn, 1) := by decide +kernel
theorem dL_law_1267 : decode cL_law 1267 = .ok (.iload 5, 2) := by decide +kernel
theorem dL_law_1269 : decode cL_law 1269 = .ok (.ifCond .ne 15, 3) := by decide +kernel
theorem dL_law_1272 : decode cL_law 1272 = .ok (.aload_n 3, 1) := by decide +kernel
theorem dL_law_1273 : decode cL_law 1273 = .ok (.iconst 0, 1) := by decide +kernel
theorem dL_law_1274 : decode cL_law 1274 = .ok (.laload, 1) := by decide +kernel
theorem dL_law_1275 : decode cL_law 1275 = .ok (.iload 6, 2) := by decide +kernel
theorem dL_law_1277 : decode cL_law 1277 = .ok (.i2l, 1) := by decide +kernel
theorem dL_law_1278 : decode cL_law 1278 = .ok (.lcmp, 1) := by decide +kernel
theorem dL_law_1279 : decode cL_law 1279 = .ok (.ifCond .eq 5, 3) := by decide +kernel
theorem dL_law_1282 : decode cL_law 1282 = .ok (.iconst 0, 1) := by decide +kernel
theorem dL_law_1283 : decode cL_law 1283 = .ok (.ireturn, 1) := by decide +kernel
theorem dL_law_1284 : decode cL_law 1284 = .ok (.goto 170, 3) := by decide +kernel
theorem dL_law_1287 : decode cL_law 1287 = .ok (.aload_n 1, 1) := by decide +kernel
theorem dL_law_1288 : decode cL_law 1288 = .ok (.aload_n 0, 1) := by decide +kernel
theorem dL_law_1289 : decode cL_law 1289 = .ok (.iload 4, 2) := by decide +kernel
theorem dL_law_1291 : decode cL_law 1291 = .ok (.iconst 1, 1) := by decide +kernel
theorem dL_law_1292 : decode cL_law 1292 = .ok (.iadd, 1) := by decide +kernel
theorem dL_law_1293 : decode cL_law 1293 = .ok (.iaload, 1) := by decide +kernel
theorem dL_law_1294 : decode cL_law 1294 = .ok (.aload_n 3, 1) := by decide +kernel
theorem dL_law_1295 : decode cL_law 1295 = .ok (.invokestatic 147, 3) := by decide +kernel
theorem dL_law_1298 : decode cL_law 1298 = .ok (.istore 5, 2) := by decide +kernel
theorem dL_law_1300 : decode cL_law 1300 = .ok (.aload_n 2, 1) := by decide +kernel
theorem dL_law_1301 : decode cL_law 1301 = .ok (.aload_n 0, 1) := by decide +kernel
theorem dL_law_1302 : decode cL_law 1302 = .ok (.iload 4, 2) := by decide +kernel
theorem dL_law_1304 : decode cL_law 1304 = .ok (.iconst 1, 1) := by decide +kernel
theorem dL_law_1305 : decode cL_law 1305 = .ok (.iadd, 1) := by decide +kernel
theorem dL_law_1306 : decode cL_law 1306 = .ok (.iaload, 1) := by decide +kernel
theorem dL_law_1307 : decode cL_law 1307 = .ok (.invokevirtual 149, 3) := by decide +kernel
theorem dL_law_1310 : decode cL_law 1310 = .ok (.istore 6, 2) := by decide +kernel
theorem dL_law_1312 : decode cL_law 1312 = .ok (.aload_n 2, 1) := by decide +kernel
theorem dL_law_1313 : decode cL_law 1313 = .ok (.invokevirtual 90, 3) := by decide +kernel
theorem dL_law_1316 : decode cL_law 1316 = .ok (.iload 5, 2) := by decide +kernel
theorem dL_law_1318 : decode cL_law 1318 = .ok (.if_icmp .eq 5, 3) := by decide +kernel
theorem dL_law_1321 : decode cL_law 1321 = .ok (.iconst 0, 1) := by decide +kernel
theorem dL_law_1322 : decode cL_law 1322 = .ok (.ireturn, 1) := by decide +kernel
theorem dL_law_1323 : decode cL_law 1323 = .ok (.iload 5, 2) := by decide +kernel
theorem dL_law_1325 : decode cL_law 1325 = .ok (.ifCond .ne 15, 3) := by decide +kernel
theorem dL_law_1328 : decode cL_law 1328 = .ok (.aload_n 3, 1) := by decide +kernel
theorem dL_law_1329 : decode cL_law 1329 = .ok (.iconst 0, 1) := by decide +kernel
theorem dL_law_1330 : decode cL_law 1330 = .ok (.laload, 1) := by decide +kernel
theorem dL_law_1331 : decode cL_law 1331 = .ok (.iload 6, 2) := by decide +kernel
theorem dL_law_1333 : decode cL_law 1333 = .ok (.i2l, 1) := by decide +kernel
theorem dL_law_1334 : decode cL_law 1334 = .ok (.lcmp, 1) := by decide +kernel
theorem dL_law_1335 : decode cL_law 1335 = .ok (.ifCond .eq 5, 3) := by decide +kernel
theorem dL_law_1338 : decode cL_law 1338 = .ok (.iconst 0, 1) := by decide +kernel
theorem dL_law_1339 : decode cL_law 1339 = .ok (.ireturn, 1) := by decide +kernel
theorem dL_law_1340 : decode cL_law 1340 = .ok (.goto 114, 3) := by decide +kernel
theorem dL_law_1343 : decode cL_law 1343 = .ok (.aload_n 1, 1) := by decide +kernel
theorem dL_law_1344 : decode cL_law 1344 = .ok (.aload_n 0, 1) := by decide +kernel
theorem dL_law_1345 : decode cL_law 1345 = .ok (.iload 4, 2) := by decide +kernel
theorem dL_law_1347 : decode cL_law 1347 = .ok (.iconst 1, 1) := by decide +kernel
theorem dL_law_1348 : decode cL_law 1348 = .ok (.iadd, 1) := by decide +kernel
theorem dL_law_1349 : decode cL_law 1349 = .ok (.iaload, 1) := by decide +kernel
theorem dL_law_1350 : decode cL_law 1350 = .ok (.aload_n 3, 1) := by decide +kernel
theorem dL_law_1351 : decode cL_law 1351 = .ok (.invokestatic 150, 3) := by decide +kernel
theorem dL_law_1354 : decode cL_law 1354 = .ok (.istore 5, 2) := by decide +kernel
theorem dL_law_1356 : decode cL_law 1356 = .ok (.aload_n 2, 1) := by decide +kernel
theorem dL_law_1357 : decode cL_law 1357 = .ok (.aload_n 0, 1) := by decide +kernel
theorem dL_law_1358 : decode cL_law 1358 = .ok (.iload 4, 2) := by decide +kernel
theorem dL_law_1360 : decode cL_law 1360 = .ok (.iconst 1, 1) := by decide +kernel
theorem dL_law_1361 : decode cL_law 1361 = .ok (.iadd, 1) := by decide +kernel
theorem dL_law_1362 : decode cL_law 1362 = .ok (.iaload, 1) := by decide +kernel
theorem dL_law_1363 : decode cL_law 1363 = .ok (.invokevirtual 152, 3) := by decide +kernel
theorem dL_law_1366 : decode cL_law 1366 = .ok (.istore 6, 2) := by decide +kernel
theorem dL_law_1368 : decode cL_law 1368 = .ok (.aload_n 2, 1) := by decide +kernel
theorem dL_law_1369 : decode cL_law 1369 = .ok (.invokevirtual 90, 3) := by decide +kernel
theorem dL_law_1372 : decode cL_law 1372 = .ok (.iload 5, 2) := by decide +kernel
theorem dL_law_1374 : decode cL_law 1374 = .ok (.if_icmp .eq 5, 3) := by decide +kernel
theorem dL_law_1377 : decode cL_law 1377 = .ok (.iconst 0, 1) := by decide +kernel
theorem dL_law_1378 : decode cL_law 1378 = .ok (.ireturn, 1) := by decide +kernel
theorem dL_law_1379 : decode cL_law 1379 = .ok (.iload 5, 2) := by decide +kernel
theorem dL_law_1381 : decode cL_law 1381 = .ok (.ifCond .ne 15, 3) := by decide +kernel
theorem dL_law_1384 : decode cL_law 1384 = .ok (.aload_n 3, 1) := by decide +kernel
theorem dL_law_1385 : decode cL_law 1385 = .ok (.iconst 0, 1) := by decide +kernel
theorem dL_law_1386 : decode cL_law 1386 = .ok (.laload, 1) := by decide +kernel
theorem dL_law_1387 : decode cL_law 1387 = .ok (.iload 6, 2) := by decide +kernel
theorem dL_law_1389 : decode cL_law 1389 = .ok (.i2l, 1) := by decide +kernel
theorem dL_law_1390 : decode cL_law 1390 = .ok (.lcmp, 1) := by decide +kernel
theorem dL_law_1391 : decode cL_law 1391 = .ok (.ifCond .eq 5, 3) := by decide +kernel
theorem dL_law_1394 : decode cL_law 1394 = .ok (.iconst 0, 1) := by decide +kernel
theorem dL_law_1395 : decode cL_law 1395 = .ok (.ireturn, 1) := by decide +kernel
theorem dL_law_1396 : decode cL_law 1396 = .ok (.goto 58, 3) := by decide +kernel
theorem dL_law_1399 : decode cL_law 1399 = .ok (.aload_n 1, 1) := by decide +kernel
theorem dL_law_1400 : decode cL_law 1400 = .ok (.invokevirtual 153, 3) := by decide +kernel
theorem dL_law_1403 : decode cL_law 1403 = .ok (.dstore 5, 2) := by decide +kernel
theorem dL_law_1405 : decode cL_law 1405 = .ok (.aload_n 2, 1) := by decide +kernel
theorem dL_law_1406 : decode cL_law 1406 = .ok (.invokevirtual 157, 3) := by decide +kernel
theorem dL_law_1409 : decode cL_law 1409 = .ok (.dstore 7, 2) := by decide +kernel
theorem dL_law_1411 : decode cL_law 1411 = .ok (.dload 5, 2) := by decide +kernel
theorem dL_law_1413 : decode cL_law 1413 = .ok (.dload 7, 2) := by decide +kernel
theorem dL_law_1415 : decode cL_law 1415 = .ok (.dcmp .l, 1) := by decide +kernel
theorem dL_law_1416 : decode cL_law 1416 = .ok (.ifCond .eq 21, 3) := by decide +kernel
theorem dL_law_1419 : decode cL_law 1419 = .ok (.dload 5, 2) := by decide +kernel
theorem dL_law_1421 : decode cL_law 1421 = .ok (.dload 5, 2) := by decide +kernel
theorem dL_law_1423 : decode cL_law 1423 = .ok (.dcmp .l, 1) := by decide +kernel
theorem dL_law_1424 : decode cL_law 1424 = .ok (.ifCond .eq 11, 3) := by decide +kernel
theorem dL_law_1427 : decode cL_law 1427 = .ok (.dload 7, 2) := by decide +kernel
theorem dL_law_1429 : decode cL_law 1429 = .ok (.dload 7, 2) := by decide +kernel
theorem dL_law_1431 : decode cL_law 1431 = .ok (.dcmp .l, 1) := by decide +kernel
theorem dL_law_1432 : decode cL_law 1432 = .ok (.ifCond .ne 5, 3) := by decide +kernel
theorem dL_law_1435 : decode cL_law 1435 = .ok (.iconst 0, 1) := by decide +kernel
theorem dL_law_1436 : decode cL_law 1436 = .ok (.ireturn, 1) := by decide +kernel
theorem dL_law_1437 : decode cL_law 1437 = .ok (.goto 17, 3) := by decide +kernel
theorem dL_law_1440 : decode cL_law 1440 = .ok (.aload_n 1, 1) := by decide +kernel
theorem dL_law_1441 : decode cL_law 1441 = .ok (.invokevirtual 158, 3) := by decide +kernel
theorem dL_law_1444 : decode cL_law 1444 = .ok (.aload_n 2, 1) := by decide +kernel
theorem dL_law_1445 : decode cL_law 1445 = .ok (.invokevirtual 162, 3) := by decide +kernel
theorem dL_law_1448 : decode cL_law 1448 = .ok (.lcmp, 1) := by decide +kernel
theorem dL_law_1449 : decode cL_law 1449 = .ok (.ifCond .eq 5, 3) := by decide +kernel
theorem dL_law_1452 : decode cL_law 1452 = .ok (.iconst 0, 1) := by decide +kernel
theorem dL_law_1453 : decode cL_law 1453 = .ok (.ireturn, 1) := by decide +kernel
theorem dL_law_1454 : decode cL_law 1454 = .ok (.iinc 4 4, 3) := by decide +kernel
theorem dL_law_1457 : decode cL_law 1457 = .ok (.goto (-1434), 3) := by decide +kernel
theorem dL_law_1460 : decode cL_law 1460 = .ok (.iconst 1, 1) := by decide +kernel
theorem dL_law_1461 : decode cL_law 1461 = .ok (.ireturn, 1) := by decide +kernel
end
section
/-! the good words of the tables, by their places -/
def G_ : List Cond := lw_tbl.filter goodWord
theorem G_of {w : Cond} (i : Nat) (h : lw_tbl[i]? = some w) (g : goodWord w = true) : w ∈ G_ := List.mem_filter.mpr ⟨List.mem_of_getElem? h, g⟩
theorem G_tbl {w : Cond} (h : w ∈ G_) : w ∈ lw_tbl := (List.mem_filter.mp h).1
theorem G_good : ∀ w ∈ G_, goodWord w = true := fun w h => (List.mem_filter.mp h).2
theorem G_GG : GoodIn G_ G_ := fun w h => ⟨h, good_of_word (G_good w h)⟩
theorem G_sub (ws : List Cond) (ps : List Nat) (hp : ws = ps.filterMap (fun i => lw_tbl[i]?)) (h : ws.all goodWord = true) : ∀ w ∈ ws, w ∈ G_ := fun w hw => by
  have h1 := List.all_eq_true.mp h w hw
  rw [hp] at hw
  obtain ⟨i, -, hi⟩ := List.mem_filterMap.mp hw
  exact G_of i hi h1
theorem wsL_law_x0 : ∀ w ∈ (vx_atS RX3 34 "java/lang/IndexOutOfBoundsException" ["java/lang/RuntimeException", "java/lang/Exception"]).filter goodWord, w ∈ lw_tbl := by decide +kernel
theorem wsL_law_x1 : ∀ w ∈ (vx_atS RX3 41 "java/lang/IllegalArgumentException" ["java/lang/RuntimeException", "java/lang/Exception"]).filter goodWord, w ∈ lw_tbl := by decide +kernel
theorem wsL_law_x2 : ∀ w ∈ (vx_atS RX3 79 "java/lang/IllegalStateException" ["java/lang/RuntimeException", "java/lang/Exception"]).filter goodWord, w ∈ lw_tbl := by decide +kernel
theorem qV_yX3_countIn : Cond.selects RX3 yX3_countIn yX3_countIn ∈ G_ := G_of 0 (by decide +kernel) (by decide +kernel)
theorem qV_yX3_rainOf : Cond.selects RX3 yX3_rainOf yX3_rainOf ∈ G_ := G_of 1 (by decide +kernel) (by decide +kernel)
theorem qV_yX3_crystalsOf : Cond.selects RX3 yX3_crystalsOf yX3_crystalsOf ∈ G_ := G_of 3 (by decide +kernel) (by decide +kernel)
theorem qV_yX3_goOn : Cond.selects RX3 yX3_goOn yX3_goOn ∈ G_ := G_of 4 (by decide +kernel) (by decide +kernel)
theorem qV_yX3_shipOf : Cond.selects RX3 yX3_shipOf yX3_shipOf ∈ G_ := G_of 5 (by decide +kernel) (by decide +kernel)
theorem qV_yX4_fail : Cond.selects RX4 yX4_fail yX4_fail ∈ G_ := G_of 6 (by decide +kernel) (by decide +kernel)
theorem qV_yX4_isClamp : Cond.selects RX4 yX4_isClamp yX4_isClamp ∈ G_ := G_of 7 (by decide +kernel) (by decide +kernel)
theorem qV_yX4_isPit : Cond.selects RX4 yX4_isPit yX4_isPit ∈ G_ := G_of 8 (by decide +kernel) (by decide +kernel)
theorem qV_yX4_isPan : Cond.selects RX4 yX4_isPan yX4_isPan ∈ G_ := G_of 9 (by decide +kernel) (by decide +kernel)
theorem qV_yX4_comes : Cond.selects RX4 yX4_comes yX4_comes ∈ G_ := G_of 10 (by decide +kernel) (by decide +kernel)
theorem qV_yX4_panEgg : Cond.selects RX4 yX4_panEgg yX4_panEgg ∈ G_ := G_of 11 (by decide +kernel) (by decide +kernel)
theorem qV_yX4_pitTold : Cond.selects RX4 yX4_pitTold yX4_pitTold ∈ G_ := G_of 12 (by decide +kernel) (by decide +kernel)
theorem qV_yX4_panTold : Cond.selects RX4 yX4_panTold yX4_panTold ∈ G_ := G_of 13 (by decide +kernel) (by decide +kernel)
theorem qV_yX4_counted : Cond.selects RX4 yX4_counted yX4_counted ∈ G_ := G_of 14 (by decide +kernel) (by decide +kernel)
theorem qV_yX4_rain : Cond.selects RX4 yX4_rain yX4_rain ∈ G_ := G_of 15 (by decide +kernel) (by decide +kernel)
theorem qV_yX4_daysOn : Cond.selects RX4 yX4_daysOn yX4_daysOn ∈ G_ := G_of 16 (by decide +kernel) (by decide +kernel)
theorem qV_yX4_dayOn : Cond.selects RX4 yX4_dayOn yX4_dayOn ∈ G_ := G_of 17 (by decide +kernel) (by decide +kernel)
theorem qV_yX4_burn : Cond.selects RX4 yX4_burn yX4_burn ∈ G_ := G_of 18 (by decide +kernel) (by decide +kernel)
theorem qV_yX4_cook : Cond.selects RX4 yX4_cook yX4_cook ∈ G_ := G_of 19 (by decide +kernel) (by decide +kernel)
theorem qV_yX4_kept : Cond.selects RX4 yX4_kept yX4_kept ∈ G_ := G_of 20 (by decide +kernel) (by decide +kernel)
theorem qV_yX4_bringBack : Cond.selects RX4 yX4_bringBack yX4_bringBack ∈ G_ := G_of 21 (by decide +kernel) (by decide +kernel)
theorem qN_RL : Cond.initialized RL ∈ G_ := G_of 22 (by decide +kernel) (by decide +kernel)
theorem qN_RX3 : Cond.initialized RX3 ∈ G_ := G_of 23 (by decide +kernel) (by decide +kernel)
theorem qN_RX2 : Cond.initialized RX2 ∈ G_ := G_of 24 (by decide +kernel) (by decide +kernel)
theorem qN_RX0 : Cond.initialized RX0 ∈ G_ := G_of 25 (by decide +kernel) (by decide +kernel)
theorem qN_RX1 : Cond.initialized RX1 ∈ G_ := G_of 26 (by decide +kernel) (by decide +kernel)
theorem qN_RJ9 : Cond.initialized RJ9 ∈ G_ := G_of 27 (by decide +kernel) (by decide +kernel)
theorem qN_RX4 : Cond.initialized RX4 ∈ G_ := G_of 28 (by decide +kernel) (by decide +kernel)
theorem qN_java_lang_Throwable : Cond.initialized "java/lang/Throwable" ∈ G_ := G_of 29 (by decide +kernel) (by decide +kernel)
theorem qN_java_lang_Exception : Cond.initialized "java/lang/Exception" ∈ G_ := G_of 30 (by decide +kernel) (by decide +kernel)
theorem qN_java_lang_RuntimeException : Cond.initialized "java/lang/RuntimeException" ∈ G_ := G_of 31 (by decide +kernel) (by decide +kernel)
theorem qN_java_lang_IndexOutOfBoundsException : Cond.initialized "java/lang/IndexOutOfBoundsException" ∈ G_ := G_of 32 (by decide +kernel) (by decide +kernel)
theorem qN_java_lang_IllegalArgumentException : Cond.initialized "java/lang/IllegalArgumentException" ∈ G_ := G_of 33 (by decide +kernel) (by decide +kernel)
theorem qN_java_lang_IllegalStateException : Cond.initialized "java/lang/IllegalStateException" ∈ G_ := G_of 34 (by decide +kernel) (by decide +kernel)
theorem qN_RJ10 : Cond.initialized RJ10 ∈ G_ := G_of 35 (by decide +kernel) (by decide +kernel)
theorem qL_RL_8 : Cond.classLink RL 8 RX3 ∈ G_ := G_of 36 (by decide +kernel) (by decide +kernel)
theorem qA_RX3 : Cond.instantiable RX3 4 ∈ G_ := G_of 37 (by decide +kernel) (by decide +kernel)
theorem qM_RL_80 : Cond.methodLink RL 80 yX3_init ∈ G_ := G_of 38 (by decide +kernel) (by decide +kernel)
theorem qI_yX3_init : Cond.instanceMethod yX3_init ∈ G_ := G_of 39 (by decide +kernel) (by decide +kernel)
theorem qC_yX3_init : Cond.code yX3_init cX3_init 1 none ∈ G_ := G_of 40 (by decide +kernel) (by decide +kernel)
theorem qM_RX3_1 : Cond.methodLink RX3 1 objectInit ∈ G_ := G_of 41 (by decide +kernel) (by decide +kernel)
theorem qI_objectInit : Cond.instanceMethod objectInit ∈ G_ := G_of 42 (by decide +kernel) (by decide +kernel)
theorem qC_objectInit : Cond.code objectInit ⟨#[0xb1]⟩ 1 none ∈ G_ := G_of 43 (by decide +kernel) (by decide +kernel)
theorem qL_RX3_16 : Cond.classLink RX3 16 RX2 ∈ G_ := G_of 44 (by decide +kernel) (by decide +kernel)
theorem qA_RX2 : Cond.instantiable RX2 10 ∈ G_ := G_of 45 (by decide +kernel) (by decide +kernel)
theorem qI_yX2_init : Cond.instanceMethod yX2_init ∈ G_ := G_of 47 (by decide +kernel) (by decide +kernel)
theorem qC_yX2_init : Cond.code yX2_init cX2_init 1 none ∈ G_ := G_of 48 (by decide +kernel) (by decide +kernel)
theorem qM_RX2_3 : Cond.methodLink RX2 3 objectInit ∈ G_ := G_of 49 (by decide +kernel) (by decide +kernel)
theorem qL_RX2_9 : Cond.classLink RX2 9 RX0 ∈ G_ := G_of 50 (by decide +kernel) (by decide +kernel)
theorem qA_RX0 : Cond.instantiable RX0 5 ∈ G_ := G_of 51 (by decide +kernel) (by decide +kernel)
theorem qI_yX0_init : Cond.instanceMethod yX0_init ∈ G_ := G_of 53 (by decide +kernel) (by decide +kernel)
theorem qC_yX0_init : Cond.code yX0_init cX0_init 1 none ∈ G_ := G_of 54 (by decide +kernel) (by decide +kernel)
theorem qM_RX0_3 : Cond.methodLink RX0 3 objectInit ∈ G_ := G_of 55 (by decide +kernel) (by decide +kernel)
theorem qF_RX0_9 : Cond.fieldLink RX0 9 "AlumWorks$Clamps" "shale" "[I" ∈ G_ := G_of 56 (by decide +kernel) (by decide +kernel)
theorem qF_RX3_92 : Cond.fieldLink RX3 92 "AlumWorks$Clamps" "shale" "[I" ∈ G_ := G_of 57 (by decide +kernel) (by decide +kernel)
theorem qF_RX0_15 : Cond.fieldLink RX0 15 "AlumWorks$Clamps" "coal" "[I" ∈ G_ := G_of 58 (by decide +kernel) (by decide +kernel)
theorem qF_RX3_97 : Cond.fieldLink RX3 97 "AlumWorks$Clamps" "coal" "[I" ∈ G_ := G_of 59 (by decide +kernel) (by decide +kernel)
theorem qF_RX0_18 : Cond.fieldLink RX0 18 "AlumWorks$Clamps" "burnt" "[I" ∈ G_ := G_of 60 (by decide +kernel) (by decide +kernel)
theorem qF_RX3_118 : Cond.fieldLink RX3 118 "AlumWorks$Clamps" "burnt" "[I" ∈ G_ := G_of 61 (by decide +kernel) (by decide +kernel)
theorem qF_RX0_21 : Cond.fieldLink RX0 21 "AlumWorks$Clamps" "burns" "[Z" ∈ G_ := G_of 62 (by decide +kernel) (by decide +kernel)
theorem qF_RX3_99 : Cond.fieldLink RX3 99 "AlumWorks$Clamps" "burns" "[Z" ∈ G_ := G_of 63 (by decide +kernel) (by decide +kernel)
theorem qF_RX0_25 : Cond.fieldLink RX0 25 "AlumWorks$Clamps" "many" "I" ∈ G_ := G_of 64 (by decide +kernel) (by decide +kernel)
theorem qF_RX3_217 : Cond.fieldLink RX3 217 "AlumWorks$Clamps" "many" "I" ∈ G_ := G_of 65 (by decide +kernel) (by decide +kernel)
theorem qY_RX0_shale : Cond.laysFinal "AlumWorks$Clamps" "AlumWorks$Clamps" "shale" "[I" ∈ G_ := G_of 66 (by decide +kernel) (by decide +kernel)
theorem qY_RX0_coal : Cond.laysFinal "AlumWorks$Clamps" "AlumWorks$Clamps" "coal" "[I" ∈ G_ := G_of 68 (by decide +kernel) (by decide +kernel)
theorem qY_RX0_burnt : Cond.laysFinal "AlumWorks$Clamps" "AlumWorks$Clamps" "burnt" "[I" ∈ G_ := G_of 70 (by decide +kernel) (by decide +kernel)
theorem qY_RX0_burns : Cond.laysFinal "AlumWorks$Clamps" "AlumWorks$Clamps" "burns" "[Z" ∈ G_ := G_of 72 (by decide +kernel) (by decide +kernel)
theorem qY_RX0_many : Cond.lays "AlumWorks$Clamps" "AlumWorks$Clamps" "many" "I" ∈ G_ := G_of 74 (by decide +kernel) (by decide +kernel)
theorem qR_int : Cond.arrayClass .int ∈ G_ := G_of 77 (by decide +kernel) (by decide +kernel)
theorem qR_boolean : Cond.arrayClass .boolean ∈ G_ := G_of 78 (by decide +kernel) (by decide +kernel)
theorem qL_RX2_18 : Cond.classLink RX2 18 RX1 ∈ G_ := G_of 79 (by decide +kernel) (by decide +kernel)
theorem qA_RX1 : Cond.instantiable RX1 5 ∈ G_ := G_of 80 (by decide +kernel) (by decide +kernel)
theorem qM_RX2_20 : Cond.methodLink RX2 20 yX1_init ∈ G_ := G_of 81 (by decide +kernel) (by decide +kernel)
theorem qI_yX1_init : Cond.instanceMethod yX1_init ∈ G_ := G_of 82 (by decide +kernel) (by decide +kernel)
theorem qC_yX1_init : Cond.code yX1_init cX1_init 2 none ∈ G_ := G_of 83 (by decide +kernel) (by decide +kernel)
theorem qM_RX1_3 : Cond.methodLink RX1 3 objectInit ∈ G_ := G_of 84 (by decide +kernel) (by decide +kernel)
theorem qM_RX1_26 : Cond.methodLink RX1 26 yJ9_min_7cf53 ∈ G_ := G_of 85 (by decide +kernel) (by decide +kernel)
theorem qS_yJ9_min_7cf53 : Cond.static yJ9_min_7cf53 ∈ G_ := G_of 86 (by decide +kernel) (by decide +kernel)
theorem qC_yJ9_min_7cf53 : Cond.code yJ9_min_7cf53 cJ9_min_7cf53 2 (some .int) ∈ G_ := G_of 87 (by decide +kernel) (by decide +kernel)
theorem qF_RX1_9 : Cond.fieldLink RX1 9 "AlumWorks$Liquors" "water" "[I" ∈ G_ := G_of 88 (by decide +kernel) (by decide +kernel)
theorem qF_RX2_78 : Cond.fieldLink RX2 78 "AlumWorks$Liquors" "water" "[I" ∈ G_ := G_of 89 (by decide +kernel) (by decide +kernel)
theorem qF_RX3_121 : Cond.fieldLink RX3 121 "AlumWorks$Liquors" "water" "[I" ∈ G_ := G_of 90 (by decide +kernel) (by decide +kernel)
theorem qF_RX1_15 : Cond.fieldLink RX1 15 "AlumWorks$Liquors" "alum" "[I" ∈ G_ := G_of 91 (by decide +kernel) (by decide +kernel)
theorem qF_RX3_126 : Cond.fieldLink RX3 126 "AlumWorks$Liquors" "alum" "[I" ∈ G_ := G_of 92 (by decide +kernel) (by decide +kernel)
theorem qF_RX1_18 : Cond.fieldLink RX1 18 "AlumWorks$Liquors" "boils" "[Z" ∈ G_ := G_of 93 (by decide +kernel) (by decide +kernel)
theorem qF_RX2_74 : Cond.fieldLink RX2 74 "AlumWorks$Liquors" "boils" "[Z" ∈ G_ := G_of 94 (by decide +kernel) (by decide +kernel)
theorem qF_RX3_142 : Cond.fieldLink RX3 142 "AlumWorks$Liquors" "boils" "[Z" ∈ G_ := G_of 95 (by decide +kernel) (by decide +kernel)
theorem qF_RX1_32 : Cond.fieldLink RX1 32 "AlumWorks$Liquors" "most" "I" ∈ G_ := G_of 96 (by decide +kernel) (by decide +kernel)
theorem qF_RX1_22 : Cond.fieldLink RX1 22 "AlumWorks$Liquors" "many" "I" ∈ G_ := G_of 97 (by decide +kernel) (by decide +kernel)
theorem qF_RX2_71 : Cond.fieldLink RX2 71 "AlumWorks$Liquors" "many" "I" ∈ G_ := G_of 98 (by decide +kernel) (by decide +kernel)
theorem qF_RX3_254 : Cond.fieldLink RX3 254 "AlumWorks$Liquors" "many" "I" ∈ G_ := G_of 99 (by decide +kernel) (by decide +kernel)
theorem qY_RX1_water : Cond.laysFinal "AlumWorks$Liquors" "AlumWorks$Liquors" "water" "[I" ∈ G_ := G_of 100 (by decide +kernel) (by decide +kernel)
theorem qY_RX1_alum : Cond.laysFinal "AlumWorks$Liquors" "AlumWorks$Liquors" "alum" "[I" ∈ G_ := G_of 102 (by decide +kernel) (by decide +kernel)
theorem qY_RX1_boils : Cond.laysFinal "AlumWorks$Liquors" "AlumWorks$Liquors" "boils" "[Z" ∈ G_ := G_of 104 (by decide +kernel) (by decide +kernel)
theorem qY_RX1_most : Cond.laysFinal "AlumWorks$Liquors" "AlumWorks$Liquors" "most" "I" ∈ G_ := G_of 106 (by decide +kernel) (by decide +kernel)
theorem qY_RX1_many : Cond.lays "AlumWorks$Liquors" "AlumWorks$Liquors" "many" "I" ∈ G_ := G_of 108 (by decide +kernel) (by decide +kernel)
theorem qF_RX2_12 : Cond.fieldLink RX2 12 "AlumWorks$State" "clamps" "LAlumWorks$Clamps;" ∈ G_ := G_of 111 (by decide +kernel) (by decide +kernel)
theorem qF_RX3_65 : Cond.fieldLink RX3 65 "AlumWorks$State" "clamps" "LAlumWorks$Clamps;" ∈ G_ := G_of 112 (by decide +kernel) (by decide +kernel)
theorem qF_RX2_23 : Cond.fieldLink RX2 23 "AlumWorks$State" "pits" "LAlumWorks$Liquors;" ∈ G_ := G_of 113 (by decide +kernel) (by decide +kernel)
theorem qF_RX3_105 : Cond.fieldLink RX3 105 "AlumWorks$State" "pits" "LAlumWorks$Liquors;" ∈ G_ := G_of 114 (by decide +kernel) (by decide +kernel)
theorem qF_RX2_27 : Cond.fieldLink RX2 27 "AlumWorks$State" "pans" "LAlumWorks$Liquors;" ∈ G_ := G_of 115 (by decide +kernel) (by decide +kernel)
theorem qF_RX3_129 : Cond.fieldLink RX3 129 "AlumWorks$State" "pans" "LAlumWorks$Liquors;" ∈ G_ := G_of 116 (by decide +kernel) (by decide +kernel)
theorem qF_RX2_30 : Cond.fieldLink RX2 30 "AlumWorks$State" "day" "I" ∈ G_ := G_of 117 (by decide +kernel) (by decide +kernel)
theorem qF_RX3_230 : Cond.fieldLink RX3 230 "AlumWorks$State" "day" "I" ∈ G_ := G_of 118 (by decide +kernel) (by decide +kernel)
theorem qF_RX2_34 : Cond.fieldLink RX2 34 "AlumWorks$State" "coal" "I" ∈ G_ := G_of 119 (by decide +kernel) (by decide +kernel)
theorem qF_RX3_42 : Cond.fieldLink RX3 42 "AlumWorks$State" "coal" "I" ∈ G_ := G_of 120 (by decide +kernel) (by decide +kernel)
theorem qF_RX2_37 : Cond.fieldLink RX2 37 "AlumWorks$State" "barrels" "I" ∈ G_ := G_of 121 (by decide +kernel) (by decide +kernel)
theorem qF_RX3_52 : Cond.fieldLink RX3 52 "AlumWorks$State" "barrels" "I" ∈ G_ := G_of 122 (by decide +kernel) (by decide +kernel)
theorem qF_RX2_40 : Cond.fieldLink RX2 40 "AlumWorks$State" "fine" "I" ∈ G_ := G_of 123 (by decide +kernel) (by decide +kernel)
theorem qF_RX3_155 : Cond.fieldLink RX3 155 "AlumWorks$State" "fine" "I" ∈ G_ := G_of 124 (by decide +kernel) (by decide +kernel)
theorem qF_RX2_43 : Cond.fieldLink RX2 43 "AlumWorks$State" "coarse" "I" ∈ G_ := G_of 125 (by decide +kernel) (by decide +kernel)
theorem qF_RX3_158 : Cond.fieldLink RX3 158 "AlumWorks$State" "coarse" "I" ∈ G_ := G_of 126 (by decide +kernel) (by decide +kernel)
theorem qF_RX2_46 : Cond.fieldLink RX2 46 "AlumWorks$State" "coins" "I" ∈ G_ := G_of 127 (by decide +kernel) (by decide +kernel)
theorem qF_RX3_183 : Cond.fieldLink RX3 183 "AlumWorks$State" "coins" "I" ∈ G_ := G_of 128 (by decide +kernel) (by decide +kernel)
theorem qF_RX2_49 : Cond.fieldLink RX2 49 "AlumWorks$State" "shipped" "I" ∈ G_ := G_of 129 (by decide +kernel) (by decide +kernel)
theorem qF_RX3_249 : Cond.fieldLink RX3 249 "AlumWorks$State" "shipped" "I" ∈ G_ := G_of 130 (by decide +kernel) (by decide +kernel)
theorem qY_RX2_clamps : Cond.laysFinal "AlumWorks$State" "AlumWorks$State" "clamps" "LAlumWorks$Clamps;" ∈ G_ := G_of 131 (by decide +kernel) (by decide +kernel)
theorem qY_RX2_pits : Cond.laysFinal "AlumWorks$State" "AlumWorks$State" "pits" "LAlumWorks$Liquors;" ∈ G_ := G_of 133 (by decide +kernel) (by decide +kernel)
theorem qY_RX2_pans : Cond.laysFinal "AlumWorks$State" "AlumWorks$State" "pans" "LAlumWorks$Liquors;" ∈ G_ := G_of 135 (by decide +kernel) (by decide +kernel)
theorem qY_RX2_day : Cond.lays "AlumWorks$State" "AlumWorks$State" "day" "I" ∈ G_ := G_of 137 (by decide +kernel) (by decide +kernel)
theorem qY_RX2_coal : Cond.lays "AlumWorks$State" "AlumWorks$State" "coal" "I" ∈ G_ := G_of 139 (by decide +kernel) (by decide +kernel)
theorem qY_RX2_barrels : Cond.lays "AlumWorks$State" "AlumWorks$State" "barrels" "I" ∈ G_ := G_of 141 (by decide +kernel) (by decide +kernel)
theorem qY_RX2_fine : Cond.lays "AlumWorks$State" "AlumWorks$State" "fine" "I" ∈ G_ := G_of 143 (by decide +kernel) (by decide +kernel)
theorem qY_RX2_coarse : Cond.lays "AlumWorks$State" "AlumWorks$State" "coarse" "I" ∈ G_ := G_of 145 (by decide +kernel) (by decide +kernel)
theorem qY_RX2_coins : Cond.lays "AlumWorks$State" "AlumWorks$State" "coins" "I" ∈ G_ := G_of 147 (by decide +kernel) (by decide +kernel)
theorem qY_RX2_shipped : Cond.lays "AlumWorks$State" "AlumWorks$State" "shipped" "I" ∈ G_ := G_of 149 (by decide +kernel) (by decide +kernel)
theorem qF_RX3_9 : Cond.fieldLink RX3 9 "AlumWorks" "rains" "[I" ∈ G_ := G_of 152 (by decide +kernel) (by decide +kernel)
theorem qF_RX3_13 : Cond.fieldLink RX3 13 "AlumWorks" "ships" "[I" ∈ G_ := G_of 153 (by decide +kernel) (by decide +kernel)
theorem qF_RX3_19 : Cond.fieldLink RX3 19 "AlumWorks" "now" "LAlumWorks$State;" ∈ G_ := G_of 154 (by decide +kernel) (by decide +kernel)
theorem qF_RX3_23 : Cond.fieldLink RX3 23 "AlumWorks" "ahead" "LAlumWorks$State;" ∈ G_ := G_of 155 (by decide +kernel) (by decide +kernel)
theorem qY_RX3_rains : Cond.laysFinal "AlumWorks" "AlumWorks" "rains" "[I" ∈ G_ := G_of 156 (by decide +kernel) (by decide +kernel)
theorem qY_RX3_ships : Cond.laysFinal "AlumWorks" "AlumWorks" "ships" "[I" ∈ G_ := G_of 158 (by decide +kernel) (by decide +kernel)
theorem qY_RX3_now : Cond.laysFinal "AlumWorks" "AlumWorks" "now" "LAlumWorks$State;" ∈ G_ := G_of 160 (by decide +kernel) (by decide +kernel)
theorem qY_RX3_ahead : Cond.laysFinal "AlumWorks" "AlumWorks" "ahead" "LAlumWorks$State;" ∈ G_ := G_of 162 (by decide +kernel) (by decide +kernel)
theorem qM_RL_153 : Cond.methodLink RL 153 yX3_mean ∈ G_ := G_of 165 (by decide +kernel) (by decide +kernel)
theorem qI_yX3_mean : Cond.instanceMethod yX3_mean ∈ G_ := G_of 166 (by decide +kernel) (by decide +kernel)
theorem qV_yX3_mean : Cond.selects RX3 yX3_mean yX3_mean ∈ G_ := G_of 167 (by decide +kernel) (by decide +kernel)
theorem qC_yX3_mean : Cond.code yX3_mean cX3_mean 2 (some .double) ∈ G_ := G_of 168 (by decide +kernel) (by decide +kernel)
theorem qM_RX3_204 : Cond.methodLink RX3 204 yX1_filled ∈ G_ := G_of 169 (by decide +kernel) (by decide +kernel)
theorem qI_yX1_filled : Cond.instanceMethod yX1_filled ∈ G_ := G_of 170 (by decide +kernel) (by decide +kernel)
theorem qV_yX1_filled : Cond.selects RX1 yX1_filled yX1_filled ∈ G_ := G_of 171 (by decide +kernel) (by decide +kernel)
theorem qC_yX1_filled : Cond.code yX1_filled cX1_filled 3 (some .int) ∈ G_ := G_of 172 (by decide +kernel) (by decide +kernel)
theorem qM_RX3_208 : Cond.methodLink RX3 208 yX1_strengths ∈ G_ := G_of 173 (by decide +kernel) (by decide +kernel)
theorem qI_yX1_strengths : Cond.instanceMethod yX1_strengths ∈ G_ := G_of 174 (by decide +kernel) (by decide +kernel)
theorem qV_yX1_strengths : Cond.selects RX1 yX1_strengths yX1_strengths ∈ G_ := G_of 175 (by decide +kernel) (by decide +kernel)
theorem qC_yX1_strengths : Cond.code yX1_strengths cX1_strengths 3 (some .int) ∈ G_ := G_of 176 (by decide +kernel) (by decide +kernel)
theorem qM_RX1_38 : Cond.methodLink RX1 38 yX1_strength ∈ G_ := G_of 177 (by decide +kernel) (by decide +kernel)
theorem qI_yX1_strength : Cond.instanceMethod yX1_strength ∈ G_ := G_of 178 (by decide +kernel) (by decide +kernel)
theorem qV_yX1_strength : Cond.selects RX1 yX1_strength yX1_strength ∈ G_ := G_of 179 (by decide +kernel) (by decide +kernel)
theorem qC_yX1_strength : Cond.code yX1_strength cX1_strength 2 (some .int) ∈ G_ := G_of 180 (by decide +kernel) (by decide +kernel)
theorem qS_yX3_strengthOf : Cond.static yX3_strengthOf ∈ G_ := G_of 182 (by decide +kernel) (by decide +kernel)
theorem qC_yX3_strengthOf : Cond.code yX3_strengthOf cX3_strengthOf 3 (some .int) ∈ G_ := G_of 183 (by decide +kernel) (by decide +kernel)
theorem qM_RL_158 : Cond.methodLink RL 158 yX3_digest ∈ G_ := G_of 184 (by decide +kernel) (by decide +kernel)
theorem qI_yX3_digest : Cond.instanceMethod yX3_digest ∈ G_ := G_of 185 (by decide +kernel) (by decide +kernel)
theorem qV_yX3_digest : Cond.selects RX3 yX3_digest yX3_digest ∈ G_ := G_of 186 (by decide +kernel) (by decide +kernel)
theorem qC_yX3_digest : Cond.code yX3_digest cX3_digest 7 (some .long) ∈ G_ := G_of 187 (by decide +kernel) (by decide +kernel)
theorem qK_RX3_211 : Cond.constantLong RX3 211 (1231) ∈ G_ := G_of 188 (by decide +kernel) (by decide +kernel)
theorem qM_RX3_177 : Cond.methodLink RX3 177 yX3_countIn ∈ G_ := G_of 189 (by decide +kernel) (by decide +kernel)
theorem qI_yX3_countIn : Cond.instanceMethod yX3_countIn ∈ G_ := G_of 191 (by decide +kernel) (by decide +kernel)
theorem qC_yX3_countIn : Cond.code yX3_countIn cX3_countIn 3 (some .int) ∈ G_ := G_of 192 (by decide +kernel) (by decide +kernel)
theorem qM_RX3_233 : Cond.methodLink RX3 233 yX3_rainOf ∈ G_ := G_of 193 (by decide +kernel) (by decide +kernel)
theorem qI_yX3_rainOf : Cond.instanceMethod yX3_rainOf ∈ G_ := G_of 195 (by decide +kernel) (by decide +kernel)
theorem qC_yX3_rainOf : Cond.code yX3_rainOf cX3_rainOf 2 (some .int) ∈ G_ := G_of 196 (by decide +kernel) (by decide +kernel)
theorem qM_RX3_227 : Cond.methodLink RX3 227 yJ9_floorMod_7cf53 ∈ G_ := G_of 197 (by decide +kernel) (by decide +kernel)
theorem qS_yJ9_floorMod_7cf53 : Cond.static yJ9_floorMod_7cf53 ∈ G_ := G_of 198 (by decide +kernel) (by decide +kernel)
theorem qC_yJ9_floorMod_7cf53 : Cond.code yJ9_floorMod_7cf53 cJ9_floorMod_7cf53 3 (some .int) ∈ G_ := G_of 199 (by decide +kernel) (by decide +kernel)
theorem qM_RX3_243 : Cond.methodLink RX3 243 yX0_burning ∈ G_ := G_of 200 (by decide +kernel) (by decide +kernel)
theorem qI_yX0_burning : Cond.instanceMethod yX0_burning ∈ G_ := G_of 201 (by decide +kernel) (by decide +kernel)
theorem qV_yX0_burning : Cond.selects RX0 yX0_burning yX0_burning ∈ G_ := G_of 202 (by decide +kernel) (by decide +kernel)
theorem qC_yX0_burning : Cond.code yX0_burning cX0_burning 3 (some .int) ∈ G_ := G_of 203 (by decide +kernel) (by decide +kernel)
theorem qM_RX3_246 : Cond.methodLink RX3 246 yX1_allAlum ∈ G_ := G_of 204 (by decide +kernel) (by decide +kernel)
theorem qI_yX1_allAlum : Cond.instanceMethod yX1_allAlum ∈ G_ := G_of 205 (by decide +kernel) (by decide +kernel)
theorem qV_yX1_allAlum : Cond.selects RX1 yX1_allAlum yX1_allAlum ∈ G_ := G_of 206 (by decide +kernel) (by decide +kernel)
theorem qC_yX1_allAlum : Cond.code yX1_allAlum cX1_allAlum 3 (some .int) ∈ G_ := G_of 207 (by decide +kernel) (by decide +kernel)
theorem qM_RX3_213 : Cond.methodLink RX3 213 yX3_mix ∈ G_ := G_of 208 (by decide +kernel) (by decide +kernel)
theorem qS_yX3_mix : Cond.static yX3_mix ∈ G_ := G_of 209 (by decide +kernel) (by decide +kernel)
theorem qC_yX3_mix : Cond.code yX3_mix cX3_mix 3 (some .long) ∈ G_ := G_of 210 (by decide +kernel) (by decide +kernel)
theorem qK_RX3_252 : Cond.constantLong RX3 252 (31) ∈ G_ := G_of 211 (by decide +kernel) (by decide +kernel)
theorem qM_RX3_167 : Cond.methodLink RX3 167 yX0_tell ∈ G_ := G_of 212 (by decide +kernel) (by decide +kernel)
theorem qI_yX0_tell : Cond.instanceMethod yX0_tell ∈ G_ := G_of 213 (by decide +kernel) (by decide +kernel)
theorem qV_yX0_tell : Cond.selects RX0 yX0_tell yX0_tell ∈ G_ := G_of 214 (by decide +kernel) (by decide +kernel)
theorem qC_yX0_tell : Cond.code yX0_tell cX0_tell 3 (some .int) ∈ G_ := G_of 215 (by decide +kernel) (by decide +kernel)
theorem qM_RX3_220 : Cond.methodLink RX3 220 yX3_mixLiquors ∈ G_ := G_of 216 (by decide +kernel) (by decide +kernel)
theorem qS_yX3_mixLiquors : Cond.static yX3_mixLiquors ∈ G_ := G_of 217 (by decide +kernel) (by decide +kernel)
theorem qC_yX3_mixLiquors : Cond.code yX3_mixLiquors cX3_mixLiquors 8 (some .long) ∈ G_ := G_of 218 (by decide +kernel) (by decide +kernel)
theorem qM_RX3_172 : Cond.methodLink RX3 172 yX1_tell ∈ G_ := G_of 219 (by decide +kernel) (by decide +kernel)
theorem qI_yX1_tell : Cond.instanceMethod yX1_tell ∈ G_ := G_of 220 (by decide +kernel) (by decide +kernel)
theorem qV_yX1_tell : Cond.selects RX1 yX1_tell yX1_tell ∈ G_ := G_of 221 (by decide +kernel) (by decide +kernel)
theorem qC_yX1_tell : Cond.code yX1_tell cX1_tell 3 (some .int) ∈ G_ := G_of 222 (by decide +kernel) (by decide +kernel)
theorem qM_RX1_45 : Cond.methodLink RX1 45 yX1_egg ∈ G_ := G_of 223 (by decide +kernel) (by decide +kernel)
theorem qI_yX1_egg : Cond.instanceMethod yX1_egg ∈ G_ := G_of 224 (by decide +kernel) (by decide +kernel)
theorem qV_yX1_egg : Cond.selects RX1 yX1_egg yX1_egg ∈ G_ := G_of 225 (by decide +kernel) (by decide +kernel)
theorem qC_yX1_egg : Cond.code yX1_egg cX1_egg 2 (some .int) ∈ G_ := G_of 226 (by decide +kernel) (by decide +kernel)
theorem qS_yX3_eggBy : Cond.static yX3_eggBy ∈ G_ := G_of 228 (by decide +kernel) (by decide +kernel)
theorem qC_yX3_eggBy : Cond.code yX3_eggBy cX3_eggBy 1 (some .int) ∈ G_ := G_of 229 (by decide +kernel) (by decide +kernel)
theorem qM_RL_84 : Cond.methodLink RL 84 yL_bring ∈ G_ := G_of 230 (by decide +kernel) (by decide +kernel)
theorem qS_yL_bring : Cond.static yL_bring ∈ G_ := G_of 231 (by decide +kernel) (by decide +kernel)
theorem qC_yL_bring : Cond.codeWith yL_bring cL_bring 5 (some .int) [(0, 10, 13, 13), (0, 10, 17, 15)] ∈ G_ := G_of 232 (by decide +kernel) (by decide +kernel)
theorem qL_RL_13 : Cond.classLink RL 13 "java/lang/IndexOutOfBoundsException" ∈ G_ := G_of 233 (by decide +kernel) (by decide +kernel)
theorem qL_RL_15 : Cond.classLink RL 15 "java/lang/IllegalArgumentException" ∈ G_ := G_of 234 (by decide +kernel) (by decide +kernel)
theorem qM_RL_7 : Cond.methodLink RL 7 yX3_bring ∈ G_ := G_of 235 (by decide +kernel) (by decide +kernel)
theorem qI_yX3_bring : Cond.instanceMethod yX3_bring ∈ G_ := G_of 236 (by decide +kernel) (by decide +kernel)
theorem qV_yX3_bring : Cond.selects RX3 yX3_bring yX3_bring ∈ G_ := G_of 237 (by decide +kernel) (by decide +kernel)
theorem qC_yX3_bring : Cond.code yX3_bring cX3_bring 3 (some .int) ∈ G_ := G_of 238 (by decide +kernel) (by decide +kernel)
theorem qM_RX3_26 : Cond.methodLink RX3 26 yX3_within ∈ G_ := G_of 239 (by decide +kernel) (by decide +kernel)
theorem qS_yX3_within : Cond.static yX3_within ∈ G_ := G_of 240 (by decide +kernel) (by decide +kernel)
theorem qC_yX3_within : Cond.code yX3_within cX3_within 3 (some .boolean) ∈ G_ := G_of 241 (by decide +kernel) (by decide +kernel)
theorem qL_RX3_30 : Cond.classLink RX3 30 "java/lang/IndexOutOfBoundsException" ∈ G_ := G_of 242 (by decide +kernel) (by decide +kernel)
theorem qA_java_lang_IndexOutOfBoundsException : Cond.instantiable "java/lang/IndexOutOfBoundsException" 6 ∈ G_ := G_of 243 (by decide +kernel) (by decide +kernel)
theorem qY_java_lang_IndexOutOfBoundsException_cause : Cond.lays "java/lang/IndexOutOfBoundsException" "java/lang/Throwable" "cause" "Ljava/lang/Throwable;" ∈ G_ := G_of 253 (by decide +kernel) (by decide +kernel)
theorem qY_java_lang_Throwable_cause : Cond.lays "java/lang/Throwable" "java/lang/Throwable" "cause" "Ljava/lang/Throwable;" ∈ G_ := G_of 254 (by decide +kernel) (by decide +kernel)
theorem qY_java_lang_IndexOutOfBoundsException_stackTrace : Cond.lays "java/lang/IndexOutOfBoundsException" "java/lang/Throwable" "stackTrace" "[Ljava/lang/StackTraceElement;" ∈ G_ := G_of 255 (by decide +kernel) (by decide +kernel)
theorem qY_java_lang_Throwable_stackTrace : Cond.lays "java/lang/Throwable" "java/lang/Throwable" "stackTrace" "[Ljava/lang/StackTraceElement;" ∈ G_ := G_of 256 (by decide +kernel) (by decide +kernel)
theorem qY_java_lang_IndexOutOfBoundsException_suppressedExceptions : Cond.lays "java/lang/IndexOutOfBoundsException" "java/lang/Throwable" "suppressedExceptions" "Ljava/util/List;" ∈ G_ := G_of 257 (by decide +kernel) (by decide +kernel)
theorem qY_java_lang_Throwable_suppressedExceptions : Cond.lays "java/lang/Throwable" "java/lang/Throwable" "suppressedExceptions" "Ljava/util/List;" ∈ G_ := G_of 258 (by decide +kernel) (by decide +kernel)
theorem qY_java_lang_IndexOutOfBoundsException_detailMessage : Cond.lays "java/lang/IndexOutOfBoundsException" "java/lang/Throwable" "detailMessage" "Ljava/lang/String;" ∈ G_ := G_of 259 (by decide +kernel) (by decide +kernel)
theorem qY_java_lang_Throwable_detailMessage : Cond.lays "java/lang/Throwable" "java/lang/Throwable" "detailMessage" "Ljava/lang/String;" ∈ G_ := G_of 260 (by decide +kernel) (by decide +kernel)
theorem qY_java_lang_IndexOutOfBoundsException_backtrace : Cond.lays "java/lang/IndexOutOfBoundsException" "java/lang/Throwable" "backtrace" "Ljava/lang/Object;" ∈ G_ := G_of 261 (by decide +kernel) (by decide +kernel)
theorem qY_java_lang_Throwable_backtrace : Cond.lays "java/lang/Throwable" "java/lang/Throwable" "backtrace" "Ljava/lang/Object;" ∈ G_ := G_of 262 (by decide +kernel) (by decide +kernel)
theorem qF_java_lang_Throwable_198 : Cond.fieldLink "java/lang/Throwable" 198 "java/lang/Throwable" "backtrace" "Ljava/lang/Object;" ∈ G_ := G_of 296 (by decide +kernel) (by decide +kernel)
theorem qM_java_lang_Throwable_1 : Cond.methodLink "java/lang/Throwable" 1 objectInit ∈ G_ := G_of 267 (by decide +kernel) (by decide +kernel)
theorem qF_java_lang_Throwable_13 : Cond.fieldLink "java/lang/Throwable" 13 "java/lang/Throwable" "UNASSIGNED_STACK" "[Ljava/lang/StackTraceElement;" ∈ G_ := G_of 268 (by decide +kernel) (by decide +kernel)
theorem qF_java_lang_Throwable_20 : Cond.fieldLink "java/lang/Throwable" 20 "java/lang/Throwable" "SUPPRESSED_SENTINEL" "Ljava/util/List;" ∈ G_ := G_of 270 (by decide +kernel) (by decide +kernel)
theorem qM_java_lang_Throwable_27 : Cond.methodLink "java/lang/Throwable" 27 ⟨"java/lang/Throwable", "fillInStackTrace", "()Ljava/lang/Throwable;"⟩ ∈ G_ := G_of 272 (by decide +kernel) (by decide +kernel)
theorem qM_java_lang_Throwable_202 : Cond.methodLink "java/lang/Throwable" 202 ⟨"java/lang/Throwable", "fillInStackTrace", "(I)Ljava/lang/Throwable;"⟩ ∈ G_ := G_of 278 (by decide +kernel) (by decide +kernel)
theorem qA_java_lang_Throwable : Cond.instantiable "java/lang/Throwable" 6 ∈ G_ := G_of 281 (by decide +kernel) (by decide +kernel)
theorem qT_fillInStackTrace : Cond.native ⟨"java/lang/Throwable", "fillInStackTrace", "(I)Ljava/lang/Throwable;"⟩ ∈ G_ := G_of 282 (by decide +kernel) (by decide +kernel)
theorem qM_RX3_34 : Cond.methodLink RX3 34 ⟨"java/lang/IndexOutOfBoundsException", "<init>", "(Ljava/lang/String;)V"⟩ ∈ G_ := G_of 284 (by decide +kernel) (by decide +kernel)
theorem qM_java_lang_IndexOutOfBoundsException_7 : Cond.methodLink "java/lang/IndexOutOfBoundsException" 7 ⟨"java/lang/RuntimeException", "<init>", "(Ljava/lang/String;)V"⟩ ∈ G_ := G_of 287 (by decide +kernel) (by decide +kernel)
theorem qM_java_lang_RuntimeException_7 : Cond.methodLink "java/lang/RuntimeException" 7 ⟨"java/lang/Exception", "<init>", "(Ljava/lang/String;)V"⟩ ∈ G_ := G_of 290 (by decide +kernel) (by decide +kernel)
theorem qM_java_lang_Exception_7 : Cond.methodLink "java/lang/Exception" 7 ⟨"java/lang/Throwable", "<init>", "(Ljava/lang/String;)V"⟩ ∈ G_ := G_of 293 (by decide +kernel) (by decide +kernel)
theorem qF_java_lang_Throwable_31 : Cond.fieldLink "java/lang/Throwable" 31 "java/lang/Throwable" "detailMessage" "Ljava/lang/String;" ∈ G_ := G_of 297 (by decide +kernel) (by decide +kernel)
theorem qF_java_lang_Throwable_7 : Cond.fieldLink "java/lang/Throwable" 7 "java/lang/Throwable" "cause" "Ljava/lang/Throwable;" ∈ G_ := G_of 298 (by decide +kernel) (by decide +kernel)
theorem qF_java_lang_Throwable_17 : Cond.fieldLink "java/lang/Throwable" 17 "java/lang/Throwable" "stackTrace" "[Ljava/lang/StackTraceElement;" ∈ G_ := G_of 299 (by decide +kernel) (by decide +kernel)
theorem qF_java_lang_Throwable_24 : Cond.fieldLink "java/lang/Throwable" 24 "java/lang/Throwable" "suppressedExceptions" "Ljava/util/List;" ∈ G_ := G_of 300 (by decide +kernel) (by decide +kernel)
theorem qY_java_lang_IndexOutOfBoundsException_depth : Cond.lays "java/lang/IndexOutOfBoundsException" "java/lang/Throwable" "depth" "I" ∈ G_ := G_of 305 (by decide +kernel) (by decide +kernel)
theorem qR_byte : Cond.arrayClass .byte ∈ G_ := G_of 309 (by decide +kernel) (by decide +kernel)
theorem qL_RX3_37 : Cond.classLink RX3 37 "java/lang/IllegalArgumentException" ∈ G_ := G_of 310 (by decide +kernel) (by decide +kernel)
theorem qA_java_lang_IllegalArgumentException : Cond.instantiable "java/lang/IllegalArgumentException" 6 ∈ G_ := G_of 311 (by decide +kernel) (by decide +kernel)
theorem qY_java_lang_IllegalArgumentException_cause : Cond.lays "java/lang/IllegalArgumentException" "java/lang/Throwable" "cause" "Ljava/lang/Throwable;" ∈ G_ := G_of 314 (by decide +kernel) (by decide +kernel)
theorem qY_java_lang_IllegalArgumentException_stackTrace : Cond.lays "java/lang/IllegalArgumentException" "java/lang/Throwable" "stackTrace" "[Ljava/lang/StackTraceElement;" ∈ G_ := G_of 315 (by decide +kernel) (by decide +kernel)
theorem qY_java_lang_IllegalArgumentException_suppressedExceptions : Cond.lays "java/lang/IllegalArgumentException" "java/lang/Throwable" "suppressedExceptions" "Ljava/util/List;" ∈ G_ := G_of 316 (by decide +kernel) (by decide +kernel)
theorem qY_java_lang_IllegalArgumentException_detailMessage : Cond.lays "java/lang/IllegalArgumentException" "java/lang/Throwable" "detailMessage" "Ljava/lang/String;" ∈ G_ := G_of 317 (by decide +kernel) (by decide +kernel)
theorem qY_java_lang_IllegalArgumentException_backtrace : Cond.lays "java/lang/IllegalArgumentException" "java/lang/Throwable" "backtrace" "Ljava/lang/Object;" ∈ G_ := G_of 318 (by decide +kernel) (by decide +kernel)
theorem qM_RX3_41 : Cond.methodLink RX3 41 ⟨"java/lang/IllegalArgumentException", "<init>", "(Ljava/lang/String;)V"⟩ ∈ G_ := G_of 320 (by decide +kernel) (by decide +kernel)
theorem qM_java_lang_IllegalArgumentException_7 : Cond.methodLink "java/lang/IllegalArgumentException" 7 ⟨"java/lang/RuntimeException", "<init>", "(Ljava/lang/String;)V"⟩ ∈ G_ := G_of 323 (by decide +kernel) (by decide +kernel)
theorem qY_java_lang_IllegalArgumentException_depth : Cond.lays "java/lang/IllegalArgumentException" "java/lang/Throwable" "depth" "I" ∈ G_ := G_of 324 (by decide +kernel) (by decide +kernel)
theorem qM_RX3_46 : Cond.methodLink RX3 46 yJ9_min_7cf53 ∈ G_ := G_of 326 (by decide +kernel) (by decide +kernel)
theorem qM_RL_93 : Cond.methodLink RL 93 yL_setRain ∈ G_ := G_of 327 (by decide +kernel) (by decide +kernel)
theorem qS_yL_setRain : Cond.static yL_setRain ∈ G_ := G_of 328 (by decide +kernel) (by decide +kernel)
theorem qC_yL_setRain : Cond.codeWith yL_setRain cL_setRain 5 (some .int) [(0, 10, 13, 13), (0, 10, 17, 15)] ∈ G_ := G_of 329 (by decide +kernel) (by decide +kernel)
theorem qM_RL_17 : Cond.methodLink RL 17 yX3_setRain ∈ G_ := G_of 330 (by decide +kernel) (by decide +kernel)
theorem qI_yX3_setRain : Cond.instanceMethod yX3_setRain ∈ G_ := G_of 331 (by decide +kernel) (by decide +kernel)
theorem qV_yX3_setRain : Cond.selects RX3 yX3_setRain yX3_setRain ∈ G_ := G_of 332 (by decide +kernel) (by decide +kernel)
theorem qC_yX3_setRain : Cond.code yX3_setRain cX3_setRain 4 (some .int) ∈ G_ := G_of 333 (by decide +kernel) (by decide +kernel)
theorem qM_RL_96 : Cond.methodLink RL 96 yL_setShip ∈ G_ := G_of 336 (by decide +kernel) (by decide +kernel)
theorem qS_yL_setShip : Cond.static yL_setShip ∈ G_ := G_of 337 (by decide +kernel) (by decide +kernel)
theorem qC_yL_setShip : Cond.codeWith yL_setShip cL_setShip 5 (some .int) [(0, 10, 13, 13), (0, 10, 17, 15)] ∈ G_ := G_of 338 (by decide +kernel) (by decide +kernel)
theorem qM_RL_20 : Cond.methodLink RL 20 yX3_setShip ∈ G_ := G_of 339 (by decide +kernel) (by decide +kernel)
theorem qI_yX3_setShip : Cond.instanceMethod yX3_setShip ∈ G_ := G_of 340 (by decide +kernel) (by decide +kernel)
theorem qV_yX3_setShip : Cond.selects RX3 yX3_setShip yX3_setShip ∈ G_ := G_of 341 (by decide +kernel) (by decide +kernel)
theorem qC_yX3_setShip : Cond.code yX3_setShip cX3_setShip 4 (some .int) ∈ G_ := G_of 342 (by decide +kernel) (by decide +kernel)
theorem qM_RL_99 : Cond.methodLink RL 99 yL_pile ∈ G_ := G_of 345 (by decide +kernel) (by decide +kernel)
theorem qS_yL_pile : Cond.static yL_pile ∈ G_ := G_of 346 (by decide +kernel) (by decide +kernel)
theorem qC_yL_pile : Cond.codeWith yL_pile cL_pile 4 (some .int) [(0, 9, 12, 15), (0, 9, 15, 27)] ∈ G_ := G_of 347 (by decide +kernel) (by decide +kernel)
theorem qL_RL_27 : Cond.classLink RL 27 "java/lang/IllegalStateException" ∈ G_ := G_of 348 (by decide +kernel) (by decide +kernel)
theorem qM_RL_23 : Cond.methodLink RL 23 yX3_pile ∈ G_ := G_of 349 (by decide +kernel) (by decide +kernel)
theorem qI_yX3_pile : Cond.instanceMethod yX3_pile ∈ G_ := G_of 350 (by decide +kernel) (by decide +kernel)
theorem qV_yX3_pile : Cond.selects RX3 yX3_pile yX3_pile ∈ G_ := G_of 351 (by decide +kernel) (by decide +kernel)
theorem qC_yX3_pile : Cond.code yX3_pile cX3_pile 2 (some .int) ∈ G_ := G_of 352 (by decide +kernel) (by decide +kernel)
theorem qM_RX3_69 : Cond.methodLink RX3 69 yX0_full ∈ G_ := G_of 354 (by decide +kernel) (by decide +kernel)
theorem qI_yX0_full : Cond.instanceMethod yX0_full ∈ G_ := G_of 355 (by decide +kernel) (by decide +kernel)
theorem qV_yX0_full : Cond.selects RX0 yX0_full yX0_full ∈ G_ := G_of 356 (by decide +kernel) (by decide +kernel)
theorem qC_yX0_full : Cond.code yX0_full cX0_full 1 (some .boolean) ∈ G_ := G_of 357 (by decide +kernel) (by decide +kernel)
theorem qL_RX3_75 : Cond.classLink RX3 75 "java/lang/IllegalStateException" ∈ G_ := G_of 358 (by decide +kernel) (by decide +kernel)
theorem qA_java_lang_IllegalStateException : Cond.instantiable "java/lang/IllegalStateException" 6 ∈ G_ := G_of 359 (by decide +kernel) (by decide +kernel)
theorem qY_java_lang_IllegalStateException_cause : Cond.lays "java/lang/IllegalStateException" "java/lang/Throwable" "cause" "Ljava/lang/Throwable;" ∈ G_ := G_of 362 (by decide +kernel) (by decide +kernel)
theorem qY_java_lang_IllegalStateException_stackTrace : Cond.lays "java/lang/IllegalStateException" "java/lang/Throwable" "stackTrace" "[Ljava/lang/StackTraceElement;" ∈ G_ := G_of 363 (by decide +kernel) (by decide +kernel)
theorem qY_java_lang_IllegalStateException_suppressedExceptions : Cond.lays "java/lang/IllegalStateException" "java/lang/Throwable" "suppressedExceptions" "Ljava/util/List;" ∈ G_ := G_of 364 (by decide +kernel) (by decide +kernel)
theorem qY_java_lang_IllegalStateException_detailMessage : Cond.lays "java/lang/IllegalStateException" "java/lang/Throwable" "detailMessage" "Ljava/lang/String;" ∈ G_ := G_of 365 (by decide +kernel) (by decide +kernel)
theorem qY_java_lang_IllegalStateException_backtrace : Cond.lays "java/lang/IllegalStateException" "java/lang/Throwable" "backtrace" "Ljava/lang/Object;" ∈ G_ := G_of 366 (by decide +kernel) (by decide +kernel)
theorem qM_RX3_79 : Cond.methodLink RX3 79 ⟨"java/lang/IllegalStateException", "<init>", "(Ljava/lang/String;)V"⟩ ∈ G_ := G_of 368 (by decide +kernel) (by decide +kernel)
theorem qM_java_lang_IllegalStateException_7 : Cond.methodLink "java/lang/IllegalStateException" 7 ⟨"java/lang/RuntimeException", "<init>", "(Ljava/lang/String;)V"⟩ ∈ G_ := G_of 371 (by decide +kernel) (by decide +kernel)
theorem qY_java_lang_IllegalStateException_depth : Cond.lays "java/lang/IllegalStateException" "java/lang/Throwable" "depth" "I" ∈ G_ := G_of 372 (by decide +kernel) (by decide +kernel)
theorem qM_RX3_80 : Cond.methodLink RX3 80 yX0_add ∈ G_ := G_of 374 (by decide +kernel) (by decide +kernel)
theorem qI_yX0_add : Cond.instanceMethod yX0_add ∈ G_ := G_of 375 (by decide +kernel) (by decide +kernel)
theorem qV_yX0_add : Cond.selects RX0 yX0_add yX0_add ∈ G_ := G_of 376 (by decide +kernel) (by decide +kernel)
theorem qC_yX0_add : Cond.code yX0_add cX0_add 3 (some .int) ∈ G_ := G_of 377 (by decide +kernel) (by decide +kernel)
theorem qM_RL_103 : Cond.methodLink RL 103 yL_light ∈ G_ := G_of 378 (by decide +kernel) (by decide +kernel)
theorem qS_yL_light : Cond.static yL_light ∈ G_ := G_of 379 (by decide +kernel) (by decide +kernel)
theorem qC_yL_light : Cond.codeWith yL_light cL_light 5 (some .int) [(0, 10, 13, 13), (0, 10, 17, 15), (0, 10, 21, 27)] ∈ G_ := G_of 380 (by decide +kernel) (by decide +kernel)
theorem qM_RL_29 : Cond.methodLink RL 29 yX3_light ∈ G_ := G_of 381 (by decide +kernel) (by decide +kernel)
theorem qI_yX3_light : Cond.instanceMethod yX3_light ∈ G_ := G_of 382 (by decide +kernel) (by decide +kernel)
theorem qV_yX3_light : Cond.selects RX3 yX3_light yX3_light ∈ G_ := G_of 383 (by decide +kernel) (by decide +kernel)
theorem qC_yX3_light : Cond.code yX3_light cX3_light 4 (some .int) ∈ G_ := G_of 384 (by decide +kernel) (by decide +kernel)
theorem qM_RX3_84 : Cond.methodLink RX3 84 yX0_has ∈ G_ := G_of 385 (by decide +kernel) (by decide +kernel)
theorem qI_yX0_has : Cond.instanceMethod yX0_has ∈ G_ := G_of 386 (by decide +kernel) (by decide +kernel)
theorem qV_yX0_has : Cond.selects RX0 yX0_has yX0_has ∈ G_ := G_of 387 (by decide +kernel) (by decide +kernel)
theorem qC_yX0_has : Cond.code yX0_has cX0_has 2 (some .boolean) ∈ G_ := G_of 388 (by decide +kernel) (by decide +kernel)
theorem qM_RL_106 : Cond.methodLink RL 106 yL_dig ∈ G_ := G_of 392 (by decide +kernel) (by decide +kernel)
theorem qS_yL_dig : Cond.static yL_dig ∈ G_ := G_of 393 (by decide +kernel) (by decide +kernel)
theorem qC_yL_dig : Cond.codeWith yL_dig cL_dig 4 (some .int) [(0, 9, 12, 15), (0, 9, 15, 27)] ∈ G_ := G_of 394 (by decide +kernel) (by decide +kernel)
theorem qM_RL_32 : Cond.methodLink RL 32 yX3_dig ∈ G_ := G_of 395 (by decide +kernel) (by decide +kernel)
theorem qI_yX3_dig : Cond.instanceMethod yX3_dig ∈ G_ := G_of 396 (by decide +kernel) (by decide +kernel)
theorem qV_yX3_dig : Cond.selects RX3 yX3_dig yX3_dig ∈ G_ := G_of 397 (by decide +kernel) (by decide +kernel)
theorem qC_yX3_dig : Cond.code yX3_dig cX3_dig 2 (some .int) ∈ G_ := G_of 398 (by decide +kernel) (by decide +kernel)
theorem qM_RX3_109 : Cond.methodLink RX3 109 yX1_full ∈ G_ := G_of 400 (by decide +kernel) (by decide +kernel)
theorem qI_yX1_full : Cond.instanceMethod yX1_full ∈ G_ := G_of 401 (by decide +kernel) (by decide +kernel)
theorem qV_yX1_full : Cond.selects RX1 yX1_full yX1_full ∈ G_ := G_of 402 (by decide +kernel) (by decide +kernel)
theorem qC_yX1_full : Cond.code yX1_full cX1_full 1 (some .boolean) ∈ G_ := G_of 403 (by decide +kernel) (by decide +kernel)
theorem qM_RX3_114 : Cond.methodLink RX3 114 yX1_add ∈ G_ := G_of 405 (by decide +kernel) (by decide +kernel)
theorem qI_yX1_add : Cond.instanceMethod yX1_add ∈ G_ := G_of 406 (by decide +kernel) (by decide +kernel)
theorem qV_yX1_add : Cond.selects RX1 yX1_add yX1_add ∈ G_ := G_of 407 (by decide +kernel) (by decide +kernel)
theorem qC_yX1_add : Cond.code yX1_add cX1_add 3 (some .int) ∈ G_ := G_of 408 (by decide +kernel) (by decide +kernel)
theorem qM_RL_109 : Cond.methodLink RL 109 yL_steep ∈ G_ := G_of 409 (by decide +kernel) (by decide +kernel)
theorem qS_yL_steep : Cond.static yL_steep ∈ G_ := G_of 410 (by decide +kernel) (by decide +kernel)
theorem qC_yL_steep : Cond.codeWith yL_steep cL_steep 5 (some .int) [(0, 10, 13, 13), (0, 10, 17, 27)] ∈ G_ := G_of 411 (by decide +kernel) (by decide +kernel)
theorem qM_RL_35 : Cond.methodLink RL 35 yX3_steep ∈ G_ := G_of 412 (by decide +kernel) (by decide +kernel)
theorem qI_yX3_steep : Cond.instanceMethod yX3_steep ∈ G_ := G_of 413 (by decide +kernel) (by decide +kernel)
theorem qV_yX3_steep : Cond.selects RX3 yX3_steep yX3_steep ∈ G_ := G_of 414 (by decide +kernel) (by decide +kernel)
theorem qC_yX3_steep : Cond.code yX3_steep cX3_steep 5 (some .int) ∈ G_ := G_of 415 (by decide +kernel) (by decide +kernel)
theorem qM_RX3_115 : Cond.methodLink RX3 115 yX1_has ∈ G_ := G_of 416 (by decide +kernel) (by decide +kernel)
theorem qI_yX1_has : Cond.instanceMethod yX1_has ∈ G_ := G_of 417 (by decide +kernel) (by decide +kernel)
theorem qV_yX1_has : Cond.selects RX1 yX1_has yX1_has ∈ G_ := G_of 418 (by decide +kernel) (by decide +kernel)
theorem qC_yX1_has : Cond.code yX1_has cX1_has 2 (some .boolean) ∈ G_ := G_of 419 (by decide +kernel) (by decide +kernel)
theorem qM_RL_112 : Cond.methodLink RL 112 yL_pan ∈ G_ := G_of 422 (by decide +kernel) (by decide +kernel)
theorem qS_yL_pan : Cond.static yL_pan ∈ G_ := G_of 423 (by decide +kernel) (by decide +kernel)
theorem qC_yL_pan : Cond.codeWith yL_pan cL_pan 3 (some .int) [(0, 8, 11, 27)] ∈ G_ := G_of 424 (by decide +kernel) (by decide +kernel)
theorem qM_RL_38 : Cond.methodLink RL 38 yX3_pan ∈ G_ := G_of 425 (by decide +kernel) (by decide +kernel)
theorem qI_yX3_pan : Cond.instanceMethod yX3_pan ∈ G_ := G_of 426 (by decide +kernel) (by decide +kernel)
theorem qV_yX3_pan : Cond.selects RX3 yX3_pan yX3_pan ∈ G_ := G_of 427 (by decide +kernel) (by decide +kernel)
theorem qC_yX3_pan : Cond.code yX3_pan cX3_pan 1 (some .int) ∈ G_ := G_of 428 (by decide +kernel) (by decide +kernel)
theorem qM_RL_116 : Cond.methodLink RL 116 yL_draw ∈ G_ := G_of 430 (by decide +kernel) (by decide +kernel)
theorem qS_yL_draw : Cond.static yL_draw ∈ G_ := G_of 431 (by decide +kernel) (by decide +kernel)
theorem qC_yL_draw : Cond.codeWith yL_draw cL_draw 6 (some .int) [(0, 12, 15, 13), (0, 12, 19, 15), (0, 12, 23, 27)] ∈ G_ := G_of 432 (by decide +kernel) (by decide +kernel)
theorem qM_RL_42 : Cond.methodLink RL 42 yX3_draw ∈ G_ := G_of 433 (by decide +kernel) (by decide +kernel)
theorem qI_yX3_draw : Cond.instanceMethod yX3_draw ∈ G_ := G_of 434 (by decide +kernel) (by decide +kernel)
theorem qV_yX3_draw : Cond.selects RX3 yX3_draw yX3_draw ∈ G_ := G_of 435 (by decide +kernel) (by decide +kernel)
theorem qC_yX3_draw : Cond.code yX3_draw cX3_draw 8 (some .int) ∈ G_ := G_of 436 (by decide +kernel) (by decide +kernel)
theorem qM_RL_120 : Cond.methodLink RL 120 yL_boil ∈ G_ := G_of 440 (by decide +kernel) (by decide +kernel)
theorem qS_yL_boil : Cond.static yL_boil ∈ G_ := G_of 441 (by decide +kernel) (by decide +kernel)
theorem qC_yL_boil : Cond.codeWith yL_boil cL_boil 4 (some .int) [(0, 16, 19, 13)] ∈ G_ := G_of 442 (by decide +kernel) (by decide +kernel)
theorem qM_RL_46 : Cond.methodLink RL 46 yX3_boil ∈ G_ := G_of 443 (by decide +kernel) (by decide +kernel)
theorem qI_yX3_boil : Cond.instanceMethod yX3_boil ∈ G_ := G_of 444 (by decide +kernel) (by decide +kernel)
theorem qV_yX3_boil : Cond.selects RX3 yX3_boil yX3_boil ∈ G_ := G_of 445 (by decide +kernel) (by decide +kernel)
theorem qC_yX3_boil : Cond.code yX3_boil cX3_boil 2 (some .boolean) ∈ G_ := G_of 446 (by decide +kernel) (by decide +kernel)
theorem qM_RL_123 : Cond.methodLink RL 123 yL_pour ∈ G_ := G_of 448 (by decide +kernel) (by decide +kernel)
theorem qS_yL_pour : Cond.static yL_pour ∈ G_ := G_of 449 (by decide +kernel) (by decide +kernel)
theorem qC_yL_pour : Cond.codeWith yL_pour cL_pour 5 (some .int) [(0, 10, 13, 13), (0, 10, 17, 15), (0, 10, 21, 27)] ∈ G_ := G_of 450 (by decide +kernel) (by decide +kernel)
theorem qM_RL_50 : Cond.methodLink RL 50 yX3_pour ∈ G_ := G_of 451 (by decide +kernel) (by decide +kernel)
theorem qI_yX3_pour : Cond.instanceMethod yX3_pour ∈ G_ := G_of 452 (by decide +kernel) (by decide +kernel)
theorem qV_yX3_pour : Cond.selects RX3 yX3_pour yX3_pour ∈ G_ := G_of 453 (by decide +kernel) (by decide +kernel)
theorem qC_yX3_pour : Cond.code yX3_pour cX3_pour 4 (some .int) ∈ G_ := G_of 454 (by decide +kernel) (by decide +kernel)
theorem qM_RX3_149 : Cond.methodLink RX3 149 yX3_crystalsOf ∈ G_ := G_of 457 (by decide +kernel) (by decide +kernel)
theorem qI_yX3_crystalsOf : Cond.instanceMethod yX3_crystalsOf ∈ G_ := G_of 459 (by decide +kernel) (by decide +kernel)
theorem qC_yX3_crystalsOf : Cond.code yX3_crystalsOf cX3_crystalsOf 3 (some .int) ∈ G_ := G_of 460 (by decide +kernel) (by decide +kernel)
theorem qM_RX3_152 : Cond.methodLink RX3 152 yX1_egg ∈ G_ := G_of 461 (by decide +kernel) (by decide +kernel)
theorem qM_RX3_224 : Cond.methodLink RX3 224 yX3_crystalsByBarrel ∈ G_ := G_of 462 (by decide +kernel) (by decide +kernel)
theorem qS_yX3_crystalsByBarrel : Cond.static yX3_crystalsByBarrel ∈ G_ := G_of 463 (by decide +kernel) (by decide +kernel)
theorem qC_yX3_crystalsByBarrel : Cond.code yX3_crystalsByBarrel cX3_crystalsByBarrel 1 (some .int) ∈ G_ := G_of 464 (by decide +kernel) (by decide +kernel)
theorem qM_RX3_161 : Cond.methodLink RX3 161 yX1_empty ∈ G_ := G_of 465 (by decide +kernel) (by decide +kernel)
theorem qI_yX1_empty : Cond.instanceMethod yX1_empty ∈ G_ := G_of 466 (by decide +kernel) (by decide +kernel)
theorem qV_yX1_empty : Cond.selects RX1 yX1_empty yX1_empty ∈ G_ := G_of 467 (by decide +kernel) (by decide +kernel)
theorem qC_yX1_empty : Cond.code yX1_empty cX1_empty 2 none ∈ G_ := G_of 468 (by decide +kernel) (by decide +kernel)
theorem qM_RL_126 : Cond.methodLink RL 126 yL_clamp ∈ G_ := G_of 469 (by decide +kernel) (by decide +kernel)
theorem qS_yL_clamp : Cond.static yL_clamp ∈ G_ := G_of 470 (by decide +kernel) (by decide +kernel)
theorem qC_yL_clamp : Cond.codeWith yL_clamp cL_clamp 5 (some .int) [(0, 10, 13, 13)] ∈ G_ := G_of 471 (by decide +kernel) (by decide +kernel)
theorem qM_RL_53 : Cond.methodLink RL 53 yX3_clamp ∈ G_ := G_of 472 (by decide +kernel) (by decide +kernel)
theorem qI_yX3_clamp : Cond.instanceMethod yX3_clamp ∈ G_ := G_of 473 (by decide +kernel) (by decide +kernel)
theorem qV_yX3_clamp : Cond.selects RX3 yX3_clamp yX3_clamp ∈ G_ := G_of 474 (by decide +kernel) (by decide +kernel)
theorem qC_yX3_clamp : Cond.code yX3_clamp cX3_clamp 3 (some .int) ∈ G_ := G_of 475 (by decide +kernel) (by decide +kernel)
theorem qM_RL_129 : Cond.methodLink RL 129 yL_pit ∈ G_ := G_of 477 (by decide +kernel) (by decide +kernel)
theorem qS_yL_pit : Cond.static yL_pit ∈ G_ := G_of 478 (by decide +kernel) (by decide +kernel)
theorem qC_yL_pit : Cond.codeWith yL_pit cL_pit 5 (some .int) [(0, 10, 13, 13)] ∈ G_ := G_of 479 (by decide +kernel) (by decide +kernel)
theorem qM_RL_56 : Cond.methodLink RL 56 yX3_pit ∈ G_ := G_of 480 (by decide +kernel) (by decide +kernel)
theorem qI_yX3_pit : Cond.instanceMethod yX3_pit ∈ G_ := G_of 481 (by decide +kernel) (by decide +kernel)
theorem qV_yX3_pit : Cond.selects RX3 yX3_pit yX3_pit ∈ G_ := G_of 482 (by decide +kernel) (by decide +kernel)
theorem qC_yX3_pit : Cond.code yX3_pit cX3_pit 3 (some .int) ∈ G_ := G_of 483 (by decide +kernel) (by decide +kernel)
theorem qM_RL_132 : Cond.methodLink RL 132 yL_about ∈ G_ := G_of 485 (by decide +kernel) (by decide +kernel)
theorem qS_yL_about : Cond.static yL_about ∈ G_ := G_of 486 (by decide +kernel) (by decide +kernel)
theorem qC_yL_about : Cond.codeWith yL_about cL_about 5 (some .int) [(0, 10, 13, 13)] ∈ G_ := G_of 487 (by decide +kernel) (by decide +kernel)
theorem qM_RL_59 : Cond.methodLink RL 59 yX3_about ∈ G_ := G_of 488 (by decide +kernel) (by decide +kernel)
theorem qI_yX3_about : Cond.instanceMethod yX3_about ∈ G_ := G_of 489 (by decide +kernel) (by decide +kernel)
theorem qV_yX3_about : Cond.selects RX3 yX3_about yX3_about ∈ G_ := G_of 490 (by decide +kernel) (by decide +kernel)
theorem qC_yX3_about : Cond.code yX3_about cX3_about 3 (some .int) ∈ G_ := G_of 491 (by decide +kernel) (by decide +kernel)
theorem qM_RL_135 : Cond.methodLink RL 135 yL_count ∈ G_ := G_of 493 (by decide +kernel) (by decide +kernel)
theorem qS_yL_count : Cond.static yL_count ∈ G_ := G_of 494 (by decide +kernel) (by decide +kernel)
theorem qC_yL_count : Cond.codeWith yL_count cL_count 4 (some .int) [(0, 9, 12, 13)] ∈ G_ := G_of 495 (by decide +kernel) (by decide +kernel)
theorem qM_RL_62 : Cond.methodLink RL 62 yX3_count ∈ G_ := G_of 496 (by decide +kernel) (by decide +kernel)
theorem qI_yX3_count : Cond.instanceMethod yX3_count ∈ G_ := G_of 497 (by decide +kernel) (by decide +kernel)
theorem qV_yX3_count : Cond.selects RX3 yX3_count yX3_count ∈ G_ := G_of 498 (by decide +kernel) (by decide +kernel)
theorem qC_yX3_count : Cond.code yX3_count cX3_count 2 (some .int) ∈ G_ := G_of 499 (by decide +kernel) (by decide +kernel)
theorem qM_RL_138 : Cond.methodLink RL 138 yL_pass ∈ G_ := G_of 501 (by decide +kernel) (by decide +kernel)
theorem qS_yL_pass : Cond.static yL_pass ∈ G_ := G_of 502 (by decide +kernel) (by decide +kernel)
theorem qC_yL_pass : Cond.codeWith yL_pass cL_pass 4 (some .int) [(0, 9, 12, 15)] ∈ G_ := G_of 503 (by decide +kernel) (by decide +kernel)
theorem qM_RL_65 : Cond.methodLink RL 65 yX3_pass ∈ G_ := G_of 504 (by decide +kernel) (by decide +kernel)
theorem qI_yX3_pass : Cond.instanceMethod yX3_pass ∈ G_ := G_of 505 (by decide +kernel) (by decide +kernel)
theorem qV_yX3_pass : Cond.selects RX3 yX3_pass yX3_pass ∈ G_ := G_of 506 (by decide +kernel) (by decide +kernel)
theorem qC_yX3_pass : Cond.code yX3_pass cX3_pass 3 (some .int) ∈ G_ := G_of 507 (by decide +kernel) (by decide +kernel)
theorem qM_RX3_186 : Cond.methodLink RX3 186 yX3_goOn ∈ G_ := G_of 509 (by decide +kernel) (by decide +kernel)
theorem qI_yX3_goOn : Cond.instanceMethod yX3_goOn ∈ G_ := G_of 511 (by decide +kernel) (by decide +kernel)
theorem qC_yX3_goOn : Cond.code yX3_goOn cX3_goOn 4 none ∈ G_ := G_of 512 (by decide +kernel) (by decide +kernel)
theorem qM_RX3_236 : Cond.methodLink RX3 236 yX3_shipOf ∈ G_ := G_of 513 (by decide +kernel) (by decide +kernel)
theorem qI_yX3_shipOf : Cond.instanceMethod yX3_shipOf ∈ G_ := G_of 515 (by decide +kernel) (by decide +kernel)
theorem qC_yX3_shipOf : Cond.code yX3_shipOf cX3_shipOf 2 (some .int) ∈ G_ := G_of 516 (by decide +kernel) (by decide +kernel)
theorem qM_RX3_239 : Cond.methodLink RX3 239 yX2_letDayGo ∈ G_ := G_of 517 (by decide +kernel) (by decide +kernel)
theorem qI_yX2_letDayGo : Cond.instanceMethod yX2_letDayGo ∈ G_ := G_of 518 (by decide +kernel) (by decide +kernel)
theorem qV_yX2_letDayGo : Cond.selects RX2 yX2_letDayGo yX2_letDayGo ∈ G_ := G_of 519 (by decide +kernel) (by decide +kernel)
theorem qC_yX2_letDayGo : Cond.code yX2_letDayGo cX2_letDayGo 3 none ∈ G_ := G_of 520 (by decide +kernel) (by decide +kernel)
theorem qM_RX2_59 : Cond.methodLink RX2 59 yX0_burn ∈ G_ := G_of 521 (by decide +kernel) (by decide +kernel)
theorem qI_yX0_burn : Cond.instanceMethod yX0_burn ∈ G_ := G_of 522 (by decide +kernel) (by decide +kernel)
theorem qV_yX0_burn : Cond.selects RX0 yX0_burn yX0_burn ∈ G_ := G_of 523 (by decide +kernel) (by decide +kernel)
theorem qC_yX0_burn : Cond.code yX0_burn cX0_burn 4 none ∈ G_ := G_of 524 (by decide +kernel) (by decide +kernel)
theorem qM_RX0_29 : Cond.methodLink RX0 29 yX0_burnOne ∈ G_ := G_of 525 (by decide +kernel) (by decide +kernel)
theorem qI_yX0_burnOne : Cond.instanceMethod yX0_burnOne ∈ G_ := G_of 526 (by decide +kernel) (by decide +kernel)
theorem qV_yX0_burnOne : Cond.selects RX0 yX0_burnOne yX0_burnOne ∈ G_ := G_of 527 (by decide +kernel) (by decide +kernel)
theorem qC_yX0_burnOne : Cond.code yX0_burnOne cX0_burnOne 4 none ∈ G_ := G_of 528 (by decide +kernel) (by decide +kernel)
theorem qM_RX0_33 : Cond.methodLink RX0 33 yJ9_min_7cf53 ∈ G_ := G_of 529 (by decide +kernel) (by decide +kernel)
theorem qM_RX0_39 : Cond.methodLink RX0 39 yJ9_max_7cf53 ∈ G_ := G_of 530 (by decide +kernel) (by decide +kernel)
theorem qS_yJ9_max_7cf53 : Cond.static yJ9_max_7cf53 ∈ G_ := G_of 531 (by decide +kernel) (by decide +kernel)
theorem qC_yJ9_max_7cf53 : Cond.code yJ9_max_7cf53 cJ9_max_7cf53 2 (some .int) ∈ G_ := G_of 532 (by decide +kernel) (by decide +kernel)
theorem qM_RX2_62 : Cond.methodLink RX2 62 yX1_takeWeather ∈ G_ := G_of 533 (by decide +kernel) (by decide +kernel)
theorem qI_yX1_takeWeather : Cond.instanceMethod yX1_takeWeather ∈ G_ := G_of 534 (by decide +kernel) (by decide +kernel)
theorem qV_yX1_takeWeather : Cond.selects RX1 yX1_takeWeather yX1_takeWeather ∈ G_ := G_of 535 (by decide +kernel) (by decide +kernel)
theorem qC_yX1_takeWeather : Cond.code yX1_takeWeather cX1_takeWeather 4 none ∈ G_ := G_of 536 (by decide +kernel) (by decide +kernel)
theorem qM_RX1_48 : Cond.methodLink RX1 48 yJ9_max_7cf53 ∈ G_ := G_of 537 (by decide +kernel) (by decide +kernel)
theorem qM_RX2_65 : Cond.methodLink RX2 65 yX2_boilPans ∈ G_ := G_of 538 (by decide +kernel) (by decide +kernel)
theorem qI_yX2_boilPans : Cond.instanceMethod yX2_boilPans ∈ G_ := G_of 539 (by decide +kernel) (by decide +kernel)
theorem qV_yX2_boilPans : Cond.selects RX2 yX2_boilPans yX2_boilPans ∈ G_ := G_of 540 (by decide +kernel) (by decide +kernel)
theorem qC_yX2_boilPans : Cond.code yX2_boilPans cX2_boilPans 2 none ∈ G_ := G_of 541 (by decide +kernel) (by decide +kernel)
theorem qM_RX2_82 : Cond.methodLink RX2 82 yJ9_max_7cf53 ∈ G_ := G_of 542 (by decide +kernel) (by decide +kernel)
theorem qM_RX2_68 : Cond.methodLink RX2 68 yX2_loadShip ∈ G_ := G_of 543 (by decide +kernel) (by decide +kernel)
theorem qI_yX2_loadShip : Cond.instanceMethod yX2_loadShip ∈ G_ := G_of 544 (by decide +kernel) (by decide +kernel)
theorem qV_yX2_loadShip : Cond.selects RX2 yX2_loadShip yX2_loadShip ∈ G_ := G_of 545 (by decide +kernel) (by decide +kernel)
theorem qC_yX2_loadShip : Cond.code yX2_loadShip cX2_loadShip 4 none ∈ G_ := G_of 546 (by decide +kernel) (by decide +kernel)
theorem qM_RX2_88 : Cond.methodLink RX2 88 yJ9_min_7cf53 ∈ G_ := G_of 547 (by decide +kernel) (by decide +kernel)
theorem qM_RL_141 : Cond.methodLink RL 141 yL_right ∈ G_ := G_of 548 (by decide +kernel) (by decide +kernel)
theorem qS_yL_right : Cond.static yL_right ∈ G_ := G_of 549 (by decide +kernel) (by decide +kernel)
theorem qC_yL_right : Cond.codeWith yL_right cL_right 4 (some .int) [(0, 9, 12, 13)] ∈ G_ := G_of 550 (by decide +kernel) (by decide +kernel)
theorem qM_RL_68 : Cond.methodLink RL 68 yX3_right ∈ G_ := G_of 551 (by decide +kernel) (by decide +kernel)
theorem qI_yX3_right : Cond.instanceMethod yX3_right ∈ G_ := G_of 552 (by decide +kernel) (by decide +kernel)
theorem qV_yX3_right : Cond.selects RX3 yX3_right yX3_right ∈ G_ := G_of 553 (by decide +kernel) (by decide +kernel)
theorem qC_yX3_right : Cond.code yX3_right cX3_right 3 (some .int) ∈ G_ := G_of 554 (by decide +kernel) (by decide +kernel)
theorem qM_RX3_190 : Cond.methodLink RX3 190 yX2_copyOf ∈ G_ := G_of 555 (by decide +kernel) (by decide +kernel)
theorem qI_yX2_copyOf : Cond.instanceMethod yX2_copyOf ∈ G_ := G_of 556 (by decide +kernel) (by decide +kernel)
theorem qV_yX2_copyOf : Cond.selects RX2 yX2_copyOf yX2_copyOf ∈ G_ := G_of 557 (by decide +kernel) (by decide +kernel)
theorem qC_yX2_copyOf : Cond.code yX2_copyOf cX2_copyOf 2 none ∈ G_ := G_of 558 (by decide +kernel) (by decide +kernel)
theorem qM_RX2_52 : Cond.methodLink RX2 52 yX0_copyOf ∈ G_ := G_of 559 (by decide +kernel) (by decide +kernel)
theorem qI_yX0_copyOf : Cond.instanceMethod yX0_copyOf ∈ G_ := G_of 560 (by decide +kernel) (by decide +kernel)
theorem qV_yX0_copyOf : Cond.selects RX0 yX0_copyOf yX0_copyOf ∈ G_ := G_of 561 (by decide +kernel) (by decide +kernel)
theorem qC_yX0_copyOf : Cond.code yX0_copyOf cX0_copyOf 3 none ∈ G_ := G_of 562 (by decide +kernel) (by decide +kernel)
theorem qM_RX2_56 : Cond.methodLink RX2 56 yX1_copyOf ∈ G_ := G_of 563 (by decide +kernel) (by decide +kernel)
theorem qI_yX1_copyOf : Cond.instanceMethod yX1_copyOf ∈ G_ := G_of 564 (by decide +kernel) (by decide +kernel)
theorem qV_yX1_copyOf : Cond.selects RX1 yX1_copyOf yX1_copyOf ∈ G_ := G_of 565 (by decide +kernel) (by decide +kernel)
theorem qC_yX1_copyOf : Cond.code yX1_copyOf cX1_copyOf 3 none ∈ G_ := G_of 566 (by decide +kernel) (by decide +kernel)
theorem qM_RL_144 : Cond.methodLink RL 144 yL_foresee ∈ G_ := G_of 567 (by decide +kernel) (by decide +kernel)
theorem qS_yL_foresee : Cond.static yL_foresee ∈ G_ := G_of 568 (by decide +kernel) (by decide +kernel)
theorem qC_yL_foresee : Cond.codeWith yL_foresee cL_foresee 5 (some .int) [(0, 10, 13, 15), (0, 10, 17, 13)] ∈ G_ := G_of 569 (by decide +kernel) (by decide +kernel)
theorem qM_RL_71 : Cond.methodLink RL 71 yX3_foresee ∈ G_ := G_of 570 (by decide +kernel) (by decide +kernel)
theorem qI_yX3_foresee : Cond.instanceMethod yX3_foresee ∈ G_ := G_of 571 (by decide +kernel) (by decide +kernel)
theorem qV_yX3_foresee : Cond.selects RX3 yX3_foresee yX3_foresee ∈ G_ := G_of 572 (by decide +kernel) (by decide +kernel)
theorem qC_yX3_foresee : Cond.code yX3_foresee cX3_foresee 3 (some .int) ∈ G_ := G_of 573 (by decide +kernel) (by decide +kernel)
theorem qM_RL_147 : Cond.methodLink RL 147 yL_barrels ∈ G_ := G_of 575 (by decide +kernel) (by decide +kernel)
theorem qS_yL_barrels : Cond.static yL_barrels ∈ G_ := G_of 576 (by decide +kernel) (by decide +kernel)
theorem qC_yL_barrels : Cond.codeWith yL_barrels cL_barrels 4 (some .int) [(0, 9, 12, 13)] ∈ G_ := G_of 577 (by decide +kernel) (by decide +kernel)
theorem qM_RL_74 : Cond.methodLink RL 74 yX3_barrels ∈ G_ := G_of 578 (by decide +kernel) (by decide +kernel)
theorem qI_yX3_barrels : Cond.instanceMethod yX3_barrels ∈ G_ := G_of 579 (by decide +kernel) (by decide +kernel)
theorem qV_yX3_barrels : Cond.selects RX3 yX3_barrels yX3_barrels ∈ G_ := G_of 580 (by decide +kernel) (by decide +kernel)
theorem qC_yX3_barrels : Cond.code yX3_barrels cX3_barrels 4 (some .int) ∈ G_ := G_of 581 (by decide +kernel) (by decide +kernel)
theorem qM_RL_150 : Cond.methodLink RL 150 yL_dry ∈ G_ := G_of 582 (by decide +kernel) (by decide +kernel)
theorem qS_yL_dry : Cond.static yL_dry ∈ G_ := G_of 583 (by decide +kernel) (by decide +kernel)
theorem qC_yL_dry : Cond.codeWith yL_dry cL_dry 4 (some .int) [(0, 9, 12, 13)] ∈ G_ := G_of 584 (by decide +kernel) (by decide +kernel)
theorem qM_RL_77 : Cond.methodLink RL 77 yX3_dry ∈ G_ := G_of 585 (by decide +kernel) (by decide +kernel)
theorem qI_yX3_dry : Cond.instanceMethod yX3_dry ∈ G_ := G_of 586 (by decide +kernel) (by decide +kernel)
theorem qV_yX3_dry : Cond.selects RX3 yX3_dry yX3_dry ∈ G_ := G_of 587 (by decide +kernel) (by decide +kernel)
theorem qC_yX3_dry : Cond.code yX3_dry cX3_dry 5 (some .int) ∈ G_ := G_of 588 (by decide +kernel) (by decide +kernel)
theorem qM_RX3_198 : Cond.methodLink RX3 198 yX3_strengthOf ∈ G_ := G_of 590 (by decide +kernel) (by decide +kernel)
theorem qM_RX3_201 : Cond.methodLink RX3 201 yX3_eggBy ∈ G_ := G_of 591 (by decide +kernel) (by decide +kernel)
theorem qL_RL_81 : Cond.classLink RL 81 RX4 ∈ G_ := G_of 592 (by decide +kernel) (by decide +kernel)
theorem qA_RX4 : Cond.instantiable RX4 10 ∈ G_ := G_of 593 (by decide +kernel) (by decide +kernel)
theorem qM_RL_83 : Cond.methodLink RL 83 yX4_init ∈ G_ := G_of 594 (by decide +kernel) (by decide +kernel)
theorem qI_yX4_init : Cond.instanceMethod yX4_init ∈ G_ := G_of 595 (by decide +kernel) (by decide +kernel)
theorem qC_yX4_init : Cond.code yX4_init cX4_init 1 none ∈ G_ := G_of 596 (by decide +kernel) (by decide +kernel)
theorem qM_RX4_1 : Cond.methodLink RX4 1 objectInit ∈ G_ := G_of 597 (by decide +kernel) (by decide +kernel)
theorem qF_RX4_28 : Cond.fieldLink RX4 28 "AlumWorksModel" "thrown" "I" ∈ G_ := G_of 598 (by decide +kernel) (by decide +kernel)
theorem qF_RX4_32 : Cond.fieldLink RX4 32 "AlumWorksModel" "clamps" "I" ∈ G_ := G_of 599 (by decide +kernel) (by decide +kernel)
theorem qF_RX4_39 : Cond.fieldLink RX4 39 "AlumWorksModel" "pits" "I" ∈ G_ := G_of 600 (by decide +kernel) (by decide +kernel)
theorem qF_RX4_42 : Cond.fieldLink RX4 42 "AlumWorksModel" "pans" "I" ∈ G_ := G_of 601 (by decide +kernel) (by decide +kernel)
theorem qF_RX4_7 : Cond.fieldLink RX4 7 "AlumWorksModel" "stores" "[I" ∈ G_ := G_of 602 (by decide +kernel) (by decide +kernel)
theorem qF_RX4_13 : Cond.fieldLink RX4 13 "AlumWorksModel" "rains" "[I" ∈ G_ := G_of 603 (by decide +kernel) (by decide +kernel)
theorem qF_RX4_16 : Cond.fieldLink RX4 16 "AlumWorksModel" "ships" "[I" ∈ G_ := G_of 604 (by decide +kernel) (by decide +kernel)
theorem qF_RX4_19 : Cond.fieldLink RX4 19 "AlumWorksModel" "heaps" "[I" ∈ G_ := G_of 605 (by decide +kernel) (by decide +kernel)
theorem qF_RX4_22 : Cond.fieldLink RX4 22 "AlumWorksModel" "holes" "[I" ∈ G_ := G_of 606 (by decide +kernel) (by decide +kernel)
theorem qF_RX4_25 : Cond.fieldLink RX4 25 "AlumWorksModel" "kettles" "[I" ∈ G_ := G_of 607 (by decide +kernel) (by decide +kernel)
theorem qY_RX4_thrown : Cond.lays "AlumWorksModel" "AlumWorksModel" "thrown" "I" ∈ G_ := G_of 608 (by decide +kernel) (by decide +kernel)
theorem qY_RX4_clamps : Cond.lays "AlumWorksModel" "AlumWorksModel" "clamps" "I" ∈ G_ := G_of 610 (by decide +kernel) (by decide +kernel)
theorem qY_RX4_pits : Cond.lays "AlumWorksModel" "AlumWorksModel" "pits" "I" ∈ G_ := G_of 612 (by decide +kernel) (by decide +kernel)
theorem qY_RX4_pans : Cond.lays "AlumWorksModel" "AlumWorksModel" "pans" "I" ∈ G_ := G_of 614 (by decide +kernel) (by decide +kernel)
theorem qY_RX4_stores : Cond.laysFinal "AlumWorksModel" "AlumWorksModel" "stores" "[I" ∈ G_ := G_of 616 (by decide +kernel) (by decide +kernel)
theorem qY_RX4_rains : Cond.laysFinal "AlumWorksModel" "AlumWorksModel" "rains" "[I" ∈ G_ := G_of 618 (by decide +kernel) (by decide +kernel)
theorem qY_RX4_ships : Cond.laysFinal "AlumWorksModel" "AlumWorksModel" "ships" "[I" ∈ G_ := G_of 620 (by decide +kernel) (by decide +kernel)
theorem qY_RX4_heaps : Cond.laysFinal "AlumWorksModel" "AlumWorksModel" "heaps" "[I" ∈ G_ := G_of 622 (by decide +kernel) (by decide +kernel)
theorem qY_RX4_holes : Cond.laysFinal "AlumWorksModel" "AlumWorksModel" "holes" "[I" ∈ G_ := G_of 624 (by decide +kernel) (by decide +kernel)
theorem qY_RX4_kettles : Cond.laysFinal "AlumWorksModel" "AlumWorksModel" "kettles" "[I" ∈ G_ := G_of 626 (by decide +kernel) (by decide +kernel)
theorem qM_RL_90 : Cond.methodLink RL 90 yX4_thrown ∈ G_ := G_of 629 (by decide +kernel) (by decide +kernel)
theorem qI_yX4_thrown : Cond.instanceMethod yX4_thrown ∈ G_ := G_of 630 (by decide +kernel) (by decide +kernel)
theorem qV_yX4_thrown : Cond.selects RX4 yX4_thrown yX4_thrown ∈ G_ := G_of 631 (by decide +kernel) (by decide +kernel)
theorem qC_yX4_thrown : Cond.code yX4_thrown cX4_thrown 1 (some .int) ∈ G_ := G_of 632 (by decide +kernel) (by decide +kernel)
theorem qM_RL_89 : Cond.methodLink RL 89 yX4_bring ∈ G_ := G_of 633 (by decide +kernel) (by decide +kernel)
theorem qI_yX4_bring : Cond.instanceMethod yX4_bring ∈ G_ := G_of 634 (by decide +kernel) (by decide +kernel)
theorem qV_yX4_bring : Cond.selects RX4 yX4_bring yX4_bring ∈ G_ := G_of 635 (by decide +kernel) (by decide +kernel)
theorem qC_yX4_bring : Cond.code yX4_bring cX4_bring 3 (some .int) ∈ G_ := G_of 636 (by decide +kernel) (by decide +kernel)
theorem qM_RX4_35 : Cond.methodLink RX4 35 yX4_isIn ∈ G_ := G_of 637 (by decide +kernel) (by decide +kernel)
theorem qS_yX4_isIn : Cond.static yX4_isIn ∈ G_ := G_of 638 (by decide +kernel) (by decide +kernel)
theorem qC_yX4_isIn : Cond.code yX4_isIn cX4_isIn 3 (some .boolean) ∈ G_ := G_of 639 (by decide +kernel) (by decide +kernel)
theorem qM_RX4_45 : Cond.methodLink RX4 45 yX4_fail ∈ G_ := G_of 640 (by decide +kernel) (by decide +kernel)
theorem qI_yX4_fail : Cond.instanceMethod yX4_fail ∈ G_ := G_of 642 (by decide +kernel) (by decide +kernel)
theorem qC_yX4_fail : Cond.code yX4_fail cX4_fail 2 (some .int) ∈ G_ := G_of 643 (by decide +kernel) (by decide +kernel)
theorem qM_RX4_49 : Cond.methodLink RX4 49 yJ9_min_7cf53 ∈ G_ := G_of 644 (by decide +kernel) (by decide +kernel)
theorem qM_RL_95 : Cond.methodLink RL 95 yX4_setRain ∈ G_ := G_of 645 (by decide +kernel) (by decide +kernel)
theorem qI_yX4_setRain : Cond.instanceMethod yX4_setRain ∈ G_ := G_of 646 (by decide +kernel) (by decide +kernel)
theorem qV_yX4_setRain : Cond.selects RX4 yX4_setRain yX4_setRain ∈ G_ := G_of 647 (by decide +kernel) (by decide +kernel)
theorem qC_yX4_setRain : Cond.code yX4_setRain cX4_setRain 4 (some .int) ∈ G_ := G_of 648 (by decide +kernel) (by decide +kernel)
theorem qM_RL_98 : Cond.methodLink RL 98 yX4_setShip ∈ G_ := G_of 649 (by decide +kernel) (by decide +kernel)
theorem qI_yX4_setShip : Cond.instanceMethod yX4_setShip ∈ G_ := G_of 650 (by decide +kernel) (by decide +kernel)
theorem qV_yX4_setShip : Cond.selects RX4 yX4_setShip yX4_setShip ∈ G_ := G_of 651 (by decide +kernel) (by decide +kernel)
theorem qC_yX4_setShip : Cond.code yX4_setShip cX4_setShip 4 (some .int) ∈ G_ := G_of 652 (by decide +kernel) (by decide +kernel)
theorem qM_RL_102 : Cond.methodLink RL 102 yX4_pile ∈ G_ := G_of 653 (by decide +kernel) (by decide +kernel)
theorem qI_yX4_pile : Cond.instanceMethod yX4_pile ∈ G_ := G_of 654 (by decide +kernel) (by decide +kernel)
theorem qV_yX4_pile : Cond.selects RX4 yX4_pile yX4_pile ∈ G_ := G_of 655 (by decide +kernel) (by decide +kernel)
theorem qC_yX4_pile : Cond.code yX4_pile cX4_pile 2 (some .int) ∈ G_ := G_of 656 (by decide +kernel) (by decide +kernel)
theorem qM_RL_105 : Cond.methodLink RL 105 yX4_light ∈ G_ := G_of 657 (by decide +kernel) (by decide +kernel)
theorem qI_yX4_light : Cond.instanceMethod yX4_light ∈ G_ := G_of 658 (by decide +kernel) (by decide +kernel)
theorem qV_yX4_light : Cond.selects RX4 yX4_light yX4_light ∈ G_ := G_of 659 (by decide +kernel) (by decide +kernel)
theorem qC_yX4_light : Cond.code yX4_light cX4_light 4 (some .int) ∈ G_ := G_of 660 (by decide +kernel) (by decide +kernel)
theorem qM_RX4_55 : Cond.methodLink RX4 55 yX4_isClamp ∈ G_ := G_of 661 (by decide +kernel) (by decide +kernel)
theorem qI_yX4_isClamp : Cond.instanceMethod yX4_isClamp ∈ G_ := G_of 663 (by decide +kernel) (by decide +kernel)
theorem qC_yX4_isClamp : Cond.code yX4_isClamp cX4_isClamp 2 (some .boolean) ∈ G_ := G_of 664 (by decide +kernel) (by decide +kernel)
theorem qM_RL_108 : Cond.methodLink RL 108 yX4_dig ∈ G_ := G_of 665 (by decide +kernel) (by decide +kernel)
theorem qI_yX4_dig : Cond.instanceMethod yX4_dig ∈ G_ := G_of 666 (by decide +kernel) (by decide +kernel)
theorem qV_yX4_dig : Cond.selects RX4 yX4_dig yX4_dig ∈ G_ := G_of 667 (by decide +kernel) (by decide +kernel)
theorem qC_yX4_dig : Cond.code yX4_dig cX4_dig 2 (some .int) ∈ G_ := G_of 668 (by decide +kernel) (by decide +kernel)
theorem qM_RL_111 : Cond.methodLink RL 111 yX4_steep ∈ G_ := G_of 669 (by decide +kernel) (by decide +kernel)
theorem qI_yX4_steep : Cond.instanceMethod yX4_steep ∈ G_ := G_of 670 (by decide +kernel) (by decide +kernel)
theorem qV_yX4_steep : Cond.selects RX4 yX4_steep yX4_steep ∈ G_ := G_of 671 (by decide +kernel) (by decide +kernel)
theorem qC_yX4_steep : Cond.code yX4_steep cX4_steep 5 (some .int) ∈ G_ := G_of 672 (by decide +kernel) (by decide +kernel)
theorem qM_RX4_59 : Cond.methodLink RX4 59 yX4_isPit ∈ G_ := G_of 673 (by decide +kernel) (by decide +kernel)
theorem qI_yX4_isPit : Cond.instanceMethod yX4_isPit ∈ G_ := G_of 675 (by decide +kernel) (by decide +kernel)
theorem qC_yX4_isPit : Cond.code yX4_isPit cX4_isPit 2 (some .boolean) ∈ G_ := G_of 676 (by decide +kernel) (by decide +kernel)
theorem qM_RL_115 : Cond.methodLink RL 115 yX4_pan ∈ G_ := G_of 677 (by decide +kernel) (by decide +kernel)
theorem qI_yX4_pan : Cond.instanceMethod yX4_pan ∈ G_ := G_of 678 (by decide +kernel) (by decide +kernel)
theorem qV_yX4_pan : Cond.selects RX4 yX4_pan yX4_pan ∈ G_ := G_of 679 (by decide +kernel) (by decide +kernel)
theorem qC_yX4_pan : Cond.code yX4_pan cX4_pan 1 (some .int) ∈ G_ := G_of 680 (by decide +kernel) (by decide +kernel)
theorem qM_RL_119 : Cond.methodLink RL 119 yX4_draw ∈ G_ := G_of 681 (by decide +kernel) (by decide +kernel)
theorem qI_yX4_draw : Cond.instanceMethod yX4_draw ∈ G_ := G_of 682 (by decide +kernel) (by decide +kernel)
theorem qV_yX4_draw : Cond.selects RX4 yX4_draw yX4_draw ∈ G_ := G_of 683 (by decide +kernel) (by decide +kernel)
theorem qC_yX4_draw : Cond.code yX4_draw cX4_draw 7 (some .int) ∈ G_ := G_of 684 (by decide +kernel) (by decide +kernel)
theorem qM_RX4_62 : Cond.methodLink RX4 62 yX4_isPan ∈ G_ := G_of 685 (by decide +kernel) (by decide +kernel)
theorem qI_yX4_isPan : Cond.instanceMethod yX4_isPan ∈ G_ := G_of 687 (by decide +kernel) (by decide +kernel)
theorem qC_yX4_isPan : Cond.code yX4_isPan cX4_isPan 2 (some .boolean) ∈ G_ := G_of 688 (by decide +kernel) (by decide +kernel)
theorem qM_RL_122 : Cond.methodLink RL 122 yX4_boil ∈ G_ := G_of 689 (by decide +kernel) (by decide +kernel)
theorem qI_yX4_boil : Cond.instanceMethod yX4_boil ∈ G_ := G_of 690 (by decide +kernel) (by decide +kernel)
theorem qV_yX4_boil : Cond.selects RX4 yX4_boil yX4_boil ∈ G_ := G_of 691 (by decide +kernel) (by decide +kernel)
theorem qC_yX4_boil : Cond.code yX4_boil cX4_boil 2 (some .boolean) ∈ G_ := G_of 692 (by decide +kernel) (by decide +kernel)
theorem qM_RL_125 : Cond.methodLink RL 125 yX4_pour ∈ G_ := G_of 693 (by decide +kernel) (by decide +kernel)
theorem qI_yX4_pour : Cond.instanceMethod yX4_pour ∈ G_ := G_of 694 (by decide +kernel) (by decide +kernel)
theorem qV_yX4_pour : Cond.selects RX4 yX4_pour yX4_pour ∈ G_ := G_of 695 (by decide +kernel) (by decide +kernel)
theorem qC_yX4_pour : Cond.code yX4_pour cX4_pour 6 (some .int) ∈ G_ := G_of 696 (by decide +kernel) (by decide +kernel)
theorem qM_RX4_74 : Cond.methodLink RX4 74 yX4_comes ∈ G_ := G_of 697 (by decide +kernel) (by decide +kernel)
theorem qI_yX4_comes : Cond.instanceMethod yX4_comes ∈ G_ := G_of 699 (by decide +kernel) (by decide +kernel)
theorem qC_yX4_comes : Cond.code yX4_comes cX4_comes 4 (some .int) ∈ G_ := G_of 700 (by decide +kernel) (by decide +kernel)
theorem qM_RX4_71 : Cond.methodLink RX4 71 yX4_panEgg ∈ G_ := G_of 701 (by decide +kernel) (by decide +kernel)
theorem qI_yX4_panEgg : Cond.instanceMethod yX4_panEgg ∈ G_ := G_of 703 (by decide +kernel) (by decide +kernel)
theorem qC_yX4_panEgg : Cond.code yX4_panEgg cX4_panEgg 2 (some .int) ∈ G_ := G_of 704 (by decide +kernel) (by decide +kernel)
theorem qM_RX4_65 : Cond.methodLink RX4 65 yX4_strength ∈ G_ := G_of 705 (by decide +kernel) (by decide +kernel)
theorem qS_yX4_strength : Cond.static yX4_strength ∈ G_ := G_of 706 (by decide +kernel) (by decide +kernel)
theorem qC_yX4_strength : Cond.code yX4_strength cX4_strength 2 (some .int) ∈ G_ := G_of 707 (by decide +kernel) (by decide +kernel)
theorem qM_RX4_68 : Cond.methodLink RX4 68 yX4_egg ∈ G_ := G_of 708 (by decide +kernel) (by decide +kernel)
theorem qS_yX4_egg : Cond.static yX4_egg ∈ G_ := G_of 709 (by decide +kernel) (by decide +kernel)
theorem qC_yX4_egg : Cond.code yX4_egg cX4_egg 1 (some .int) ∈ G_ := G_of 710 (by decide +kernel) (by decide +kernel)
theorem qM_RL_128 : Cond.methodLink RL 128 yX4_clamp ∈ G_ := G_of 711 (by decide +kernel) (by decide +kernel)
theorem qI_yX4_clamp : Cond.instanceMethod yX4_clamp ∈ G_ := G_of 712 (by decide +kernel) (by decide +kernel)
theorem qV_yX4_clamp : Cond.selects RX4 yX4_clamp yX4_clamp ∈ G_ := G_of 713 (by decide +kernel) (by decide +kernel)
theorem qC_yX4_clamp : Cond.code yX4_clamp cX4_clamp 3 (some .int) ∈ G_ := G_of 714 (by decide +kernel) (by decide +kernel)
theorem qM_RL_131 : Cond.methodLink RL 131 yX4_pit ∈ G_ := G_of 715 (by decide +kernel) (by decide +kernel)
theorem qI_yX4_pit : Cond.instanceMethod yX4_pit ∈ G_ := G_of 716 (by decide +kernel) (by decide +kernel)
theorem qV_yX4_pit : Cond.selects RX4 yX4_pit yX4_pit ∈ G_ := G_of 717 (by decide +kernel) (by decide +kernel)
theorem qC_yX4_pit : Cond.code yX4_pit cX4_pit 3 (some .int) ∈ G_ := G_of 718 (by decide +kernel) (by decide +kernel)
theorem qM_RX4_81 : Cond.methodLink RX4 81 yX4_pitTold ∈ G_ := G_of 719 (by decide +kernel) (by decide +kernel)
theorem qI_yX4_pitTold : Cond.instanceMethod yX4_pitTold ∈ G_ := G_of 721 (by decide +kernel) (by decide +kernel)
theorem qC_yX4_pitTold : Cond.code yX4_pitTold cX4_pitTold 3 (some .int) ∈ G_ := G_of 722 (by decide +kernel) (by decide +kernel)
theorem qM_RX4_77 : Cond.methodLink RX4 77 yX4_told ∈ G_ := G_of 723 (by decide +kernel) (by decide +kernel)
theorem qS_yX4_told : Cond.static yX4_told ∈ G_ := G_of 724 (by decide +kernel) (by decide +kernel)
theorem qC_yX4_told : Cond.code yX4_told cX4_told 3 (some .int) ∈ G_ := G_of 725 (by decide +kernel) (by decide +kernel)
theorem qM_RL_134 : Cond.methodLink RL 134 yX4_about ∈ G_ := G_of 726 (by decide +kernel) (by decide +kernel)
theorem qI_yX4_about : Cond.instanceMethod yX4_about ∈ G_ := G_of 727 (by decide +kernel) (by decide +kernel)
theorem qV_yX4_about : Cond.selects RX4 yX4_about yX4_about ∈ G_ := G_of 728 (by decide +kernel) (by decide +kernel)
theorem qC_yX4_about : Cond.code yX4_about cX4_about 3 (some .int) ∈ G_ := G_of 729 (by decide +kernel) (by decide +kernel)
theorem qM_RX4_84 : Cond.methodLink RX4 84 yX4_panTold ∈ G_ := G_of 730 (by decide +kernel) (by decide +kernel)
theorem qI_yX4_panTold : Cond.instanceMethod yX4_panTold ∈ G_ := G_of 732 (by decide +kernel) (by decide +kernel)
theorem qC_yX4_panTold : Cond.code yX4_panTold cX4_panTold 3 (some .int) ∈ G_ := G_of 733 (by decide +kernel) (by decide +kernel)
theorem qM_RL_137 : Cond.methodLink RL 137 yX4_count ∈ G_ := G_of 734 (by decide +kernel) (by decide +kernel)
theorem qI_yX4_count : Cond.instanceMethod yX4_count ∈ G_ := G_of 735 (by decide +kernel) (by decide +kernel)
theorem qV_yX4_count : Cond.selects RX4 yX4_count yX4_count ∈ G_ := G_of 736 (by decide +kernel) (by decide +kernel)
theorem qC_yX4_count : Cond.code yX4_count cX4_count 2 (some .int) ∈ G_ := G_of 737 (by decide +kernel) (by decide +kernel)
theorem qM_RX4_91 : Cond.methodLink RX4 91 yX4_counted ∈ G_ := G_of 738 (by decide +kernel) (by decide +kernel)
theorem qI_yX4_counted : Cond.instanceMethod yX4_counted ∈ G_ := G_of 740 (by decide +kernel) (by decide +kernel)
theorem qC_yX4_counted : Cond.code yX4_counted cX4_counted 4 (some .int) ∈ G_ := G_of 741 (by decide +kernel) (by decide +kernel)
theorem qM_RX4_87 : Cond.methodLink RX4 87 yX4_rain ∈ G_ := G_of 742 (by decide +kernel) (by decide +kernel)
theorem qI_yX4_rain : Cond.instanceMethod yX4_rain ∈ G_ := G_of 744 (by decide +kernel) (by decide +kernel)
theorem qC_yX4_rain : Cond.code yX4_rain cX4_rain 1 (some .int) ∈ G_ := G_of 745 (by decide +kernel) (by decide +kernel)
theorem qM_RL_140 : Cond.methodLink RL 140 yX4_pass ∈ G_ := G_of 746 (by decide +kernel) (by decide +kernel)
theorem qI_yX4_pass : Cond.instanceMethod yX4_pass ∈ G_ := G_of 747 (by decide +kernel) (by decide +kernel)
theorem qV_yX4_pass : Cond.selects RX4 yX4_pass yX4_pass ∈ G_ := G_of 748 (by decide +kernel) (by decide +kernel)
theorem qC_yX4_pass : Cond.code yX4_pass cX4_pass 3 (some .int) ∈ G_ := G_of 749 (by decide +kernel) (by decide +kernel)
theorem qM_RX4_107 : Cond.methodLink RX4 107 yX4_daysOn ∈ G_ := G_of 750 (by decide +kernel) (by decide +kernel)
theorem qI_yX4_daysOn : Cond.instanceMethod yX4_daysOn ∈ G_ := G_of 752 (by decide +kernel) (by decide +kernel)
theorem qC_yX4_daysOn : Cond.code yX4_daysOn cX4_daysOn 3 none ∈ G_ := G_of 753 (by decide +kernel) (by decide +kernel)
theorem qM_RX4_104 : Cond.methodLink RX4 104 yX4_dayOn ∈ G_ := G_of 754 (by decide +kernel) (by decide +kernel)
theorem qI_yX4_dayOn : Cond.instanceMethod yX4_dayOn ∈ G_ := G_of 756 (by decide +kernel) (by decide +kernel)
theorem qC_yX4_dayOn : Cond.code yX4_dayOn cX4_dayOn 4 none ∈ G_ := G_of 757 (by decide +kernel) (by decide +kernel)
theorem qM_RX4_97 : Cond.methodLink RX4 97 yX4_burn ∈ G_ := G_of 758 (by decide +kernel) (by decide +kernel)
theorem qI_yX4_burn : Cond.instanceMethod yX4_burn ∈ G_ := G_of 760 (by decide +kernel) (by decide +kernel)
theorem qC_yX4_burn : Cond.code yX4_burn cX4_burn 3 none ∈ G_ := G_of 761 (by decide +kernel) (by decide +kernel)
theorem qM_RX4_94 : Cond.methodLink RX4 94 yJ9_max_7cf53 ∈ G_ := G_of 762 (by decide +kernel) (by decide +kernel)
theorem qM_RX4_101 : Cond.methodLink RX4 101 yX4_cook ∈ G_ := G_of 763 (by decide +kernel) (by decide +kernel)
theorem qI_yX4_cook : Cond.instanceMethod yX4_cook ∈ G_ := G_of 765 (by decide +kernel) (by decide +kernel)
theorem qC_yX4_cook : Cond.code yX4_cook cX4_cook 2 none ∈ G_ := G_of 766 (by decide +kernel) (by decide +kernel)
theorem qM_RL_143 : Cond.methodLink RL 143 yX4_right ∈ G_ := G_of 767 (by decide +kernel) (by decide +kernel)
theorem qI_yX4_right : Cond.instanceMethod yX4_right ∈ G_ := G_of 768 (by decide +kernel) (by decide +kernel)
theorem qV_yX4_right : Cond.selects RX4 yX4_right yX4_right ∈ G_ := G_of 769 (by decide +kernel) (by decide +kernel)
theorem qC_yX4_right : Cond.code yX4_right cX4_right 4 (some .int) ∈ G_ := G_of 770 (by decide +kernel) (by decide +kernel)
theorem qM_RX4_121 : Cond.methodLink RX4 121 yX4_kept ∈ G_ := G_of 771 (by decide +kernel) (by decide +kernel)
theorem qI_yX4_kept : Cond.instanceMethod yX4_kept ∈ G_ := G_of 773 (by decide +kernel) (by decide +kernel)
theorem qC_yX4_kept : Cond.code yX4_kept cX4_kept 1 (some (.array (.array .int))) ∈ G_ := G_of 774 (by decide +kernel) (by decide +kernel)
theorem qL_RX4_110 : Cond.classLink RX4 110 "[I" ∈ G_ := G_of 775 (by decide +kernel) (by decide +kernel)
theorem qM_RX4_111 : Cond.methodLink RX4 111 ⟨"[I", "clone", "()Ljava/lang/Object;"⟩ ∈ G_ := G_of 777 (by decide +kernel) (by decide +kernel)
theorem qE_clone : Cond.sameMethod "[I" "java/lang/Object" "clone" "()Ljava/lang/Object;" ∈ G_ := G_of 778 (by decide +kernel) (by decide +kernel)
theorem qT_clone : Cond.native ⟨"java/lang/Object", "clone", "()Ljava/lang/Object;"⟩ ∈ G_ := G_of 779 (by decide +kernel) (by decide +kernel)
theorem qI_clone : Cond.instanceMethod ⟨"java/lang/Object", "clone", "()Ljava/lang/Object;"⟩ ∈ G_ := G_of 780 (by decide +kernel) (by decide +kernel)
theorem qV_clone : Cond.selects "[I" ⟨"[I", "clone", "()Ljava/lang/Object;"⟩ ⟨"java/lang/Object", "clone", "()Ljava/lang/Object;"⟩ ∈ G_ := G_of 781 (by decide +kernel) (by decide +kernel)
theorem qM_RX4_125 : Cond.methodLink RX4 125 yX4_bringBack ∈ G_ := G_of 783 (by decide +kernel) (by decide +kernel)
theorem qI_yX4_bringBack : Cond.instanceMethod yX4_bringBack ∈ G_ := G_of 785 (by decide +kernel) (by decide +kernel)
theorem qC_yX4_bringBack : Cond.code yX4_bringBack cX4_bringBack 4 none ∈ G_ := G_of 786 (by decide +kernel) (by decide +kernel)
theorem qM_RX4_115 : Cond.methodLink RX4 115 ⟨"java/lang/System", "arraycopy", "(Ljava/lang/Object;ILjava/lang/Object;II)V"⟩ ∈ G_ := G_of 787 (by decide +kernel) (by decide +kernel)
theorem qS_arraycopy : Cond.static ⟨"java/lang/System", "arraycopy", "(Ljava/lang/Object;ILjava/lang/Object;II)V"⟩ ∈ G_ := G_of 788 (by decide +kernel) (by decide +kernel)
theorem qT_arraycopy : Cond.native ⟨"java/lang/System", "arraycopy", "(Ljava/lang/Object;ILjava/lang/Object;II)V"⟩ ∈ G_ := G_of 789 (by decide +kernel) (by decide +kernel)
theorem qM_RL_146 : Cond.methodLink RL 146 yX4_foresee ∈ G_ := G_of 790 (by decide +kernel) (by decide +kernel)
theorem qI_yX4_foresee : Cond.instanceMethod yX4_foresee ∈ G_ := G_of 791 (by decide +kernel) (by decide +kernel)
theorem qV_yX4_foresee : Cond.selects RX4 yX4_foresee yX4_foresee ∈ G_ := G_of 792 (by decide +kernel) (by decide +kernel)
theorem qC_yX4_foresee : Cond.code yX4_foresee cX4_foresee 5 (some .int) ∈ G_ := G_of 793 (by decide +kernel) (by decide +kernel)
theorem qM_RL_149 : Cond.methodLink RL 149 yX4_barrels ∈ G_ := G_of 794 (by decide +kernel) (by decide +kernel)
theorem qI_yX4_barrels : Cond.instanceMethod yX4_barrels ∈ G_ := G_of 795 (by decide +kernel) (by decide +kernel)
theorem qV_yX4_barrels : Cond.selects RX4 yX4_barrels yX4_barrels ∈ G_ := G_of 796 (by decide +kernel) (by decide +kernel)
theorem qC_yX4_barrels : Cond.code yX4_barrels cX4_barrels 4 (some .int) ∈ G_ := G_of 797 (by decide +kernel) (by decide +kernel)
theorem qM_RL_152 : Cond.methodLink RL 152 yX4_dry ∈ G_ := G_of 798 (by decide +kernel) (by decide +kernel)
theorem qI_yX4_dry : Cond.instanceMethod yX4_dry ∈ G_ := G_of 799 (by decide +kernel) (by decide +kernel)
theorem qV_yX4_dry : Cond.selects RX4 yX4_dry yX4_dry ∈ G_ := G_of 800 (by decide +kernel) (by decide +kernel)
theorem qC_yX4_dry : Cond.code yX4_dry cX4_dry 5 (some .int) ∈ G_ := G_of 801 (by decide +kernel) (by decide +kernel)
theorem qM_RL_157 : Cond.methodLink RL 157 yX4_mean ∈ G_ := G_of 802 (by decide +kernel) (by decide +kernel)
theorem qI_yX4_mean : Cond.instanceMethod yX4_mean ∈ G_ := G_of 803 (by decide +kernel) (by decide +kernel)
theorem qV_yX4_mean : Cond.selects RX4 yX4_mean yX4_mean ∈ G_ := G_of 804 (by decide +kernel) (by decide +kernel)
theorem qC_yX4_mean : Cond.code yX4_mean cX4_mean 4 (some .double) ∈ G_ := G_of 805 (by decide +kernel) (by decide +kernel)
theorem qM_RL_162 : Cond.methodLink RL 162 yX4_digest ∈ G_ := G_of 806 (by decide +kernel) (by decide +kernel)
theorem qI_yX4_digest : Cond.instanceMethod yX4_digest ∈ G_ := G_of 807 (by decide +kernel) (by decide +kernel)
theorem qV_yX4_digest : Cond.selects RX4 yX4_digest yX4_digest ∈ G_ := G_of 808 (by decide +kernel) (by decide +kernel)
theorem qC_yX4_digest : Cond.code yX4_digest cX4_digest 7 (some .long) ∈ G_ := G_of 809 (by decide +kernel) (by decide +kernel)
theorem qK_RX4_129 : Cond.constantLong RX4 129 (1231) ∈ G_ := G_of 810 (by decide +kernel) (by decide +kernel)
theorem qK_RX4_131 : Cond.constantLong RX4 131 (31) ∈ G_ := G_of 811 (by decide +kernel) (by decide +kernel)
theorem qR_long : Cond.arrayClass .long ∈ G_ := G_of 812 (by decide +kernel) (by decide +kernel)
theorem inG_X0 : ∀ w ∈ wsX00, w ∈ G_ := G_sub _ [66, 68, 70, 72, 74] (by decide +kernel) (by decide +kernel)
theorem inG_X1 : ∀ w ∈ wsX10, w ∈ G_ := G_sub _ [100, 102, 104, 106, 108] (by decide +kernel) (by decide +kernel)
theorem inG_X2 : ∀ w ∈ wsX20, w ∈ G_ := G_sub _ [131, 133, 135, 137, 139, 141, 143, 145, 147, 149] (by decide +kernel) (by decide +kernel)
theorem inG_X3 : ∀ w ∈ wsX30, w ∈ G_ := G_sub _ [156, 158, 160, 162] (by decide +kernel) (by decide +kernel)
theorem inG_X4 : ∀ w ∈ wsX40, w ∈ G_ := G_sub _ [608, 610, 612, 614, 616, 618, 620, 622, 624, 626] (by decide +kernel) (by decide +kernel)
theorem G_x0 : ∀ w ∈ (vx_atS RX3 34 "java/lang/IndexOutOfBoundsException" ["java/lang/RuntimeException", "java/lang/Exception"]).filter goodWord, w ∈ G_ := fun w h => List.mem_filter.mpr ⟨wsL_law_x0 w h, (List.mem_filter.mp h).2⟩
theorem G_x1 : ∀ w ∈ (vx_atS RX3 41 "java/lang/IllegalArgumentException" ["java/lang/RuntimeException", "java/lang/Exception"]).filter goodWord, w ∈ G_ := fun w h => List.mem_filter.mpr ⟨wsL_law_x1 w h, (List.mem_filter.mp h).2⟩
theorem G_x2 : ∀ w ∈ (vx_atS RX3 79 "java/lang/IllegalStateException" ["java/lang/RuntimeException", "java/lang/Exception"]).filter goodWord, w ∈ G_ := fun w h => List.mem_filter.mpr ⟨wsL_law_x2 w h, (List.mem_filter.mp h).2⟩
end
section
/-! the frame of all contracts: the tables' words that a step may warm, the strings, the statics of a throw; a start's picture; calls by sites -/
def iIO : String := "java/lang/IndexOutOfBoundsException"
def iIA : String := "java/lang/IllegalArgumentException"
def iIS : String := "java/lang/IllegalStateException"
def nW : List Cond := [.methodLinkNest RX3 18 yX2_init RX3, .methodLinkNest RX2 11 yX0_init RX3, .methodLinkNest RX1 35 yX3_strengthOf RX3, .methodLinkNest RX1 42 yX3_eggBy RX3, .castable iIO iIO, .castable iIA iIA, .castable iIS iIS, .castable "[I" "java/lang/Cloneable", .declares ⟨"java/lang/RuntimeException", "<init>", "(Ljava/lang/String;)V"⟩, .declares ⟨"java/lang/Exception", "<init>", "(Ljava/lang/String;)V"⟩, .declares ⟨"java/lang/Throwable", "<init>", "(Ljava/lang/String;)V"⟩]
def gN (U : State) : Prop := ∀ w ∈ nW, va_Nw w U
theorem nW_on : nW.all Cond.onTables = true := by decide +kernel
theorem gN.same {u U : State} (h : u.vm = U.vm) (g : gN u) : gN U := fun w hw => va_Nw.same (List.all_eq_true.mp nW_on w hw) h (g w hw)
theorem gN.warm {s U : State} (hW : s.WarmedH U.vm) (g : gN s) : gN U := by
  intro w hw
  have g1 := g w hw
  simp only [nW, List.mem_cons, List.not_mem_nil, or_false] at hw
  rcases hw with rfl | rfl | rfl | rfl | rfl | rfl | rfl | rfl | rfl | rfl | rfl
  · exact va_Nw.warmM hW g1
  · exact va_Nw.warmM hW g1
  · exact va_Nw.warmM hW g1
  · exact va_Nw.warmM hW g1
  · exact va_Nw.warmC hW g1
  · exact va_Nw.warmC hW g1
  · exact va_Nw.warmC hW g1
  · exact va_Nw.warmC hW g1
  · exact va_Nw.warmD hW g1
  · exact va_Nw.warmD hW g1
  · exact va_Nw.warmD hW g1
theorem nW_tbl : ∀ w ∈ nW, w ∈ lw_tbl := fun w hw => by
  have h : nW = [46, 52, 181, 227, 244, 312, 360, 782, 246, 248, 250].filterMap (fun i => lw_tbl[i]?) := by decide +kernel
  rw [h] at hw
  obtain ⟨i, -, hi⟩ := List.mem_filterMap.mp hw
  exact List.mem_of_getElem? hi
theorem gN.of {args : Array Value} {s : State} (hts : ∀ w ∈ lw_tbl, w.before args s = true) : gN s := fun w hw => va_Nw.of (List.all_eq_true.mp nW_on w hw) (hts w (nW_tbl w hw))
/-- a method's words: its code, then all good words of the tables -/
def ws_ (y : MethodName) (cc : ByteArray) (n : Nat) (ret : Option FieldType) : List Cond := Cond.code y cc n ret :: G_
def wsW_ (y : MethodName) (cc : ByteArray) (n : Nat) (ret : Option FieldType) (hh : List (Nat × Nat × Nat × Nat)) : List Cond := Cond.codeWith y cc n ret hh :: G_
theorem ws_in {y : MethodName} {cc : ByteArray} {n : Nat} {ret : Option FieldType} (h : Cond.code y cc n ret ∈ G_) : GoodIn G_ (ws_ y cc n ret) := fun w hw => (List.mem_cons.mp hw).elim (fun e => by rw [e]; exact G_GG _ h) (G_GG w)
theorem wsW_in {y : MethodName} {cc : ByteArray} {n : Nat} {ret : Option FieldType} {hh : List (Nat × Nat × Nat × Nat)} (h : Cond.codeWith y cc n ret hh ∈ G_) : GoodIn G_ (wsW_ y cc n ret hh) := fun w hw => (List.mem_cons.mp hw).elim (fun e => by rw [e]; exact G_GG _ h) (G_GG w)
def nMH (y : MethodName) (na : Nat) : Prop := y.cls ≠ "java/lang/invoke/MethodHandle" ∧ y.cls ≠ "java/lang/invoke/VarHandle" ∧ (parseMethodDescriptor y.desc).map (fun d => d.parameters.length) = some na
/-- the words of a virtual, a static, a constructor's call, and of those across the nest -/
def sV (own : String) (idx : Nat) (C : String) (y : MethodName) (cc : ByteArray) (n : Nat) (ret : Option FieldType) (na : Nat) : Prop := GoodIn G_ (wsV own idx C y (ws_ y cc n ret)) ∧ y.cls = C ∧ nMH y na
def sS (own : String) (idx : Nat) (y : MethodName) (cc : ByteArray) (n : Nat) (ret : Option FieldType) (na : Nat) : Prop := GoodIn G_ (va_wsS own idx y (ws_ y cc n ret)) ∧ nMH y na
def sI (own : String) (idx : Nat) (y : MethodName) (cc : ByteArray) (n : Nat) (na : Nat) : Prop := GoodIn G_ (ws_ y cc n none) ∧ Cond.initialized y.cls ∈ G_ ∧ Cond.methodLink own idx y ∈ G_ ∧ Cond.instanceMethod y ∈ G_ ∧ y.name = "<init>" ∧ nMH y na
def sSN (own : String) (idx : Nat) (y : MethodName) (cc : ByteArray) (n : Nat) (ret : Option FieldType) (na : Nat) : Prop := GoodIn G_ (ws_ y cc n ret) ∧ Cond.initialized y.cls ∈ G_ ∧ Cond.methodLinkNest own idx y RX3 ∈ nW ∧ Cond.static y ∈ G_ ∧ nMH y na
def sIN (own : String) (idx : Nat) (y : MethodName) (cc : ByteArray) (n : Nat) (na : Nat) : Prop := GoodIn G_ (ws_ y cc n none) ∧ Cond.initialized y.cls ∈ G_ ∧ Cond.methodLinkNest own idx y RX3 ∈ nW ∧ Cond.instanceMethod y ∈ G_ ∧ y.name = "<init>" ∧ nMH y na
def sW (own : String) (idx : Nat) (y : MethodName) (cc : ByteArray) (n : Nat) (ret : Option FieldType) (hh : List (Nat × Nat × Nat × Nat)) (na : Nat) : Prop := GoodIn G_ (va_wsS own idx y (wsW_ y cc n ret hh)) ∧ nMH y na
theorem sV.mk {own : String} {idx : Nat} {C : String} {y : MethodName} {cc : ByteArray} {n : Nat} {ret : Option FieldType} {na : Nat} (h1 : Cond.methodLink own idx y ∈ G_) (h2 : Cond.instanceMethod y ∈ G_) (h3 : Cond.selects C y y ∈ G_) (h4 : Cond.initialized C ∈ G_) (h5 : Cond.code y cc n ret ∈ G_) (h6 : y.cls = C ∧ nMH y na) : sV own idx C y cc n ret na := ⟨goodIn_app (fun w hw => by
  simp only [List.mem_cons, List.not_mem_nil, or_false] at hw
  rcases hw with rfl | rfl | rfl | rfl
  · exact G_GG _ h1
  · exact G_GG _ h2
  · exact G_GG _ h3
  · exact G_GG _ h4) (ws_in h5), h6⟩
theorem sS.mk {own : String} {idx : Nat} {y : MethodName} {cc : ByteArray} {n : Nat} {ret : Option FieldType} {na : Nat} (h1 : Cond.methodLink own idx y ∈ G_) (h2 : Cond.static y ∈ G_) (h4 : Cond.initialized y.cls ∈ G_) (h5 : Cond.code y cc n ret ∈ G_) (h6 : nMH y na) : sS own idx y cc n ret na := ⟨goodIn_app (fun w hw => by
  simp only [List.mem_cons, List.not_mem_nil, or_false] at hw
  rcases hw with rfl | rfl | rfl
  · exact G_GG _ h1
  · exact G_GG _ h2
  · exact G_GG _ h4) (ws_in h5), h6⟩
theorem sW.mk {own : String} {idx : Nat} {y : MethodName} {cc : ByteArray} {n : Nat} {ret : Option FieldType} {hh : List (Nat × Nat × Nat × Nat)} {na : Nat} (h1 : Cond.methodLink own idx y ∈ G_) (h2 : Cond.static y ∈ G_) (h4 : Cond.initialized y.cls ∈ G_) (h5 : Cond.codeWith y cc n ret hh ∈ G_) (h6 : nMH y na) : sW own idx y cc n ret hh na := ⟨goodIn_app (fun w hw => by
  simp only [List.mem_cons, List.not_mem_nil, or_false] at hw
  rcases hw with rfl | rfl | rfl
  · exact G_GG _ h1
  · exact G_GG _ h2
  · exact G_GG _ h4) (wsW_in h5), h6⟩
/-- what the start of a method holds: its picture, in a heap of that size -/
def PB (D : va_G) (ty : List (ClassId × FieldType)) (ws : va_W) (sz : Nat) (U : State) : Prop := U.heap.size = sz ∧ va_P D vwCl ws U.heap ∧ va_K D vwCl ty U ∧ va_D (fun _ => True) ws ∧ gN U
theorem PB.blind {av : List Value} {D : va_G} {ty : List (ClassId × FieldType)} {ws : va_W} {sz : Nat} : FrameBlind (va_Pc av (PB D ty ws sz)) := fun a U g mk q => by
  obtain ⟨q0, q1, qP, qK, qD, qN⟩ := q
  exact ⟨q0, q1, qP, va_K.moved (u := U) (U := U.calling g mk a) (Vm.Alike.refl U.vm) qK, qD, gN.same (u := U) rfl qN⟩
theorem PB.pre {s : State} {H : Heap} {av : List Value} {D : va_G} {ty : List (ClassId × FieldType)} {ws : va_W} (hP : va_P D vwCl ws H) (hK : va_K D vwCl ty s) (hD : va_D (fun _ => True) ws) (hG : gN s) : ∀ U : State, U.heap = H → s.WarmedH U.vm → va_Pc av (PB D ty ws H.size) av.toArray U := fun U hU hW => ⟨rfl, by rw [hU], by rw [hU]; exact hP, va_K.moved hW.alike hK, hD, gN.warm hW hG⟩
abbrev BP (D : va_G) {S : Type} (w1 : S → va_W) (A : Nat → Prop) : S → State → Prop := fun u t => va_P D vwCl (w1 u) t.heap ∧ va_D A (w1 u)
/-- contracts: an int, a long, a double, nothing comes back -/
abbrev Mi (l : Launch) (y : MethodName) (cc : ByteArray) (n : Nat) (ret : Option FieldType) (rm : Room) (D : va_G) (ty : List (ClassId × FieldType)) (av : List Value) (ws : va_W) {S : Type} (post : Int32 → S → Prop) (w1 : S → va_W) : Prop :=
  ∀ sz : Nat, Met l y (ws_ y cc n ret) rm (va_Pc av (PB D ty ws sz)) (va_Qi post (BP D w1 (va_A ws sz)) (va_A ws sz)) rm.cells rm.slots (va_A ws sz)
abbrev Ml (l : Launch) (y : MethodName) (cc : ByteArray) (n : Nat) (rm : Room) (D : va_G) (ty : List (ClassId × FieldType)) (av : List Value) (ws : va_W) {S : Type} (post : Int64 → S → Prop) (w1 : S → va_W) : Prop :=
  ∀ sz : Nat, Met l y (ws_ y cc n (some .long)) rm (va_Pc av (PB D ty ws sz)) (va_Ql post (BP D w1 (va_A ws sz)) (va_A ws sz)) rm.cells rm.slots (va_A ws sz)
abbrev Mv (l : Launch) (y : MethodName) (cc : ByteArray) (n : Nat) (rm : Room) (D : va_G) (ty : List (ClassId × FieldType)) (av : List Value) (ws : va_W) {S : Type} (post : S → Prop) (w1 : S → va_W) : Prop :=
  ∀ sz : Nat, Met l y (ws_ y cc n none) rm (va_Pc av (PB D ty ws sz)) (va_Qv post (BP D w1 (va_A ws sz)) (va_A ws sz)) rm.cells rm.slots (va_A ws sz)
abbrev Mr (l : Launch) (y : MethodName) (cc : ByteArray) (n : Nat) (rt : FieldType) (rm : Room) (D : va_G) (ty : List (ClassId × FieldType)) (av : List Value) (ws : va_W) {S : Type} (post : S → Prop) (w1 : S → Nat → va_W) : Prop :=
  ∀ sz : Nat, Met l y (ws_ y cc n (some rt)) rm (va_Pc av (PB D ty ws sz)) (va_Qr post (fun u a t => va_P D vwCl (w1 u a) t.heap ∧ va_D (va_A ws sz) (w1 u a)) (va_A ws sz)) rm.cells rm.slots (va_A ws sz)
/-- what a body stands on -/
abbrev BF (p : Program) (s : State) (m : MethodId) (args : Array Value) (meth : Method) (c : Code) (cc : ByteArray) (n : Nat) (own : String) (ret : Option FieldType) : Prop := CallFix p m c cc n s args G_ own ∧ meth.sig.returnType = ret ∧ meth.locks = false ∧ gN s
theorem Mi.of {l : Launch} {y : MethodName} {cc : ByteArray} {n : Nat} {ret : Option FieldType} {rm : Room} {D : va_G} {ty : List (ClassId × FieldType)} {av : List Value} {ws : va_W} {S : Type} {post : Int32 → S → Prop} {w1 : S → va_W} (hy : plainName y.cls = true) (hn : (lg_sl av).length ≤ n)
    (body : ∀ p e s m args below meth c A ls, BF p s m args meth c cc n y.cls ret → va_K D vwCl ty s → va_P D vwCl ws s.heap → va_D A ws → (∀ q : Nat, s.heap.size ≤ q → A q) → lv_has ls n (lv_args 0 av) → (y.name = meth.name) →
      W p l e rm s m args below meth c s.heap [] 0 0 (MQ below (va_Qi post (BP D w1 A) A) args s rm.cells rm.slots A) (F0 m 0 ls [])) : Mi l y cc n ret rm D ty av ws post w1 := by
  intro sz
  refine Met.ofW (cc := cc) (maxL := n) (ret := ret) hy rfl ?_
  intro p e s m args below meth c s₁ B hml hv
  obtain ⟨rfl, hsz, hP, hK, hD0, hG⟩ := hv
  have hts := atoms_spec (ws := ws_ y cc n ret) B.pre
  subst hsz
  have hl := lv_entry av (n := n) hn
  rw [lg_entry_eq]
  exact body p e s m _ below meth c (va_A ws s.heap.size) _ ⟨⟨B.exec, B.bytes, hml, findClass_of_methodNamed B.named, fun w h => hts w (List.mem_cons_of_mem _ h)⟩, B.returns, B.notSynchronized, hG⟩ hK hP hD0.self (fun q h => Or.inr h) hl (name_of_methodNamed B.named B.method).1.symm
theorem Ml.of {l : Launch} {y : MethodName} {cc : ByteArray} {n : Nat} {rm : Room} {D : va_G} {ty : List (ClassId × FieldType)} {av : List Value} {ws : va_W} {S : Type} {post : Int64 → S → Prop} {w1 : S → va_W} (hy : plainName y.cls = true) (hn : (lg_sl av).length ≤ n)
    (body : ∀ p e s m args below meth c A ls, BF p s m args meth c cc n y.cls (some .long) → va_K D vwCl ty s → va_P D vwCl ws s.heap → va_D A ws → (∀ q : Nat, s.heap.size ≤ q → A q) → lv_has ls n (lv_args 0 av) → (y.name = meth.name) →
      W p l e rm s m args below meth c s.heap [] 0 0 (MQ below (va_Ql post (BP D w1 A) A) args s rm.cells rm.slots A) (F0 m 0 ls [])) : Ml l y cc n rm D ty av ws post w1 := by
  intro sz
  refine Met.ofW (cc := cc) (maxL := n) (ret := some .long) hy rfl ?_
  intro p e s m args below meth c s₁ B hml hv
  obtain ⟨rfl, hsz, hP, hK, hD0, hG⟩ := hv
  have hts := atoms_spec (ws := ws_ y cc n (some .long)) B.pre
  subst hsz
  have hl := lv_entry av (n := n) hn
  rw [lg_entry_eq]
  exact body p e s m _ below meth c (va_A ws s.heap.size) _ ⟨⟨B.exec, B.bytes, hml, findClass_of_methodNamed B.named, fun w h => hts w (List.mem_cons_of_mem _ h)⟩, B.returns, B.notSynchronized, hG⟩ hK hP hD0.self (fun q h => Or.inr h) hl (name_of_methodNamed B.named B.method).1.symm
theorem Mv.of {l : Launch} {y : MethodName} {cc : ByteArray} {n : Nat} {rm : Room} {D : va_G} {ty : List (ClassId × FieldType)} {av : List Value} {ws : va_W} {S : Type} {post : S → Prop} {w1 : S → va_W} (hy : plainName y.cls = true) (hn : (lg_sl av).length ≤ n)
    (body : ∀ p e s m args below meth c A ls, BF p s m args meth c cc n y.cls none → va_K D vwCl ty s → va_P D vwCl ws s.heap → va_D A ws → (∀ q : Nat, s.heap.size ≤ q → A q) → lv_has ls n (lv_args 0 av) → (y.name = meth.name) →
      W p l e rm s m args below meth c s.heap [] 0 0 (MQ below (va_Qv post (BP D w1 A) A) args s rm.cells rm.slots A) (F0 m 0 ls [])) : Mv l y cc n rm D ty av ws post w1 := by
  intro sz
  refine Met.ofW (cc := cc) (maxL := n) (ret := none) hy rfl ?_
  intro p e s m args below meth c s₁ B hml hv
  obtain ⟨rfl, hsz, hP, hK, hD0, hG⟩ := hv
  have hts := atoms_spec (ws := ws_ y cc n none) B.pre
  subst hsz
  have hl := lv_entry av (n := n) hn
  rw [lg_entry_eq]
  exact body p e s m _ below meth c (va_A ws s.heap.size) _ ⟨⟨B.exec, B.bytes, hml, findClass_of_methodNamed B.named, fun w h => hts w (List.mem_cons_of_mem _ h)⟩, B.returns, B.notSynchronized, hG⟩ hK hP hD0.self (fun q h => Or.inr h) hl (name_of_methodNamed B.named B.method).1.symm
theorem Mr.of {l : Launch} {y : MethodName} {cc : ByteArray} {n : Nat} {rt : FieldType} {rm : Room} {D : va_G} {ty : List (ClassId × FieldType)} {av : List Value} {ws : va_W} {S : Type} {post : S → Prop} {w1 : S → Nat → va_W} (hy : plainName y.cls = true) (hn : (lg_sl av).length ≤ n)
    (body : ∀ p e s m args below meth c A ls, BF p s m args meth c cc n y.cls (some rt) → va_K D vwCl ty s → va_P D vwCl ws s.heap → va_D A ws → (∀ q : Nat, s.heap.size ≤ q → A q) → lv_has ls n (lv_args 0 av) → (y.name = meth.name) →
      W p l e rm s m args below meth c s.heap [] 0 0 (MQ below (va_Qr post (fun u a t => va_P D vwCl (w1 u a) t.heap ∧ va_D A (w1 u a)) A) args s rm.cells rm.slots A) (F0 m 0 ls [])) : Mr l y cc n rt rm D ty av ws post w1 := by
  intro sz
  refine Met.ofW (cc := cc) (maxL := n) (ret := some rt) hy rfl ?_
  intro p e s m args below meth c s₁ B hml hv
  obtain ⟨rfl, hsz, hP, hK, hD0, hG⟩ := hv
  have hts := atoms_spec (ws := ws_ y cc n (some rt)) B.pre
  subst hsz
  have hl := lv_entry av (n := n) hn
  rw [lg_entry_eq]
  exact body p e s m _ below meth c (va_A ws s.heap.size) _ ⟨⟨B.exec, B.bytes, hml, findClass_of_methodNamed B.named, fun w h => hts w (List.mem_cons_of_mem _ h)⟩, B.returns, B.notSynchronized, hG⟩ hK hP hD0.self (fun q h => Or.inr h) hl (name_of_methodNamed B.named B.method).1.symm
section
variable {p : Program} {l : Launch} {e : Env} {R : Room} {s : State} {m : MethodId} {args : Array Value} {below : List Frame} {meth : Method} {c : Code} {H : Heap} {locs : List Loc} {cells slots mc ms : Nat} {Q : State → Prop}
variable {cc cc' : ByteArray} {pc nL n' na idx : Nat} {own C : String} {y : MethodName} {ret : Option FieldType} {rm : Room} {D : va_G} {ty : List (ClassId × FieldType)} {b : Nat} {As st rest : List Value} {ws wc wr : va_W} {ls : Array Slot} {S : Type} {A A0 : Nat → Prop} {H0 : Heap} {a : Array Value} {Qc : Array Value → State → Outcome → State → Prop} {free : Addr → Prop}
/-- ends -/
theorem e_i {post : Int32 → S → Prop} {w1 : S → va_W} {v : Int32} {rt : FieldType} (hx : p.tables.exec = Jvm.exec) (hb : c.code = cc) (hr : meth.sig.returnType = some rt) (hlocks : meth.locks = false) (hS : va_S A s.heap H locs) (u : S) (hp : post v u) (hP : va_P D vwCl (w1 u) H) (hD : va_D A (w1 u)) (hn : narrow rt (.int v) = .int v) (hdg : decode cc pc = .ok (.ireturn, 1)) (hc : cells ≤ mc) (hs : slots ≤ ms) :
    W p l e R s m args below meth c H locs cells slots (MQ below (va_Qi post (BP D w1 A) A) args s mc ms A) (F0 m pc ls [.int v]) :=
  W.widen hc hs (W.zret hx hb hr hn (fun t ht _ => ⟨⟨v, u, rfl, hp, by rw [ht]; exact hP, hD⟩, hS.F ht⟩) hS.2.2 hdg hlocks)
theorem e_v {post : S → Prop} {w1 : S → va_W} (hx : p.tables.exec = Jvm.exec) (hb : c.code = cc) (hr : meth.sig.returnType = none) (hlocks : meth.locks = false) (hS : va_S A s.heap H locs) (u : S) (hp : post u) (hP : va_P D vwCl (w1 u) H) (hD : va_D A (w1 u)) (hdg : decode cc pc = .ok (.return_, 1)) (hc : cells ≤ mc) (hs : slots ≤ ms) :
    W p l e R s m args below meth c H locs cells slots (MQ below (va_Qv post (BP D w1 A) A) args s mc ms A) (F0 m pc ls []) :=
  W.widen hc hs (W.vret hx hb hr (fun t ht _ => ⟨⟨u, rfl, hp, by rw [ht]; exact hP, hD⟩, hS.F ht⟩) hS.2.2 hdg hlocks)
theorem e_l {post : Int64 → S → Prop} {w1 : S → va_W} {v : Int64} (hx : p.tables.exec = Jvm.exec) (hb : c.code = cc) (hr : meth.sig.returnType = some .long) (hlocks : meth.locks = false) (hS : va_S A s.heap H locs) (u : S) (hp : post v u) (hP : va_P D vwCl (w1 u) H) (hD : va_D A (w1 u)) (hdg : decode cc pc = .ok (.lreturn, 1)) (hc : cells ≤ mc) (hs : slots ≤ ms) :
    W p l e R s m args below meth c H locs cells slots (MQ below (va_Ql post (BP D w1 A) A) args s mc ms A) (F0 m pc ls [.long v]) :=
  W.widen hc hs (W.lret hx hb hr (fun t ht _ => ⟨⟨v, u, rfl, hp, by rw [ht]; exact hP, hD⟩, hS.F ht⟩) hS.2.2 hdg hlocks)
/-- runs of calls -/
theorem rV (F : CallFix p m c cc nL s args G_ own) (hG : gN s) (hK : va_K D vwCl ty s) (hP : va_P D vwCl wc H) (hD : va_D (fun _ => True) wc) (hs : sV own idx C y cc' n' ret na) (hM : Met l y (ws_ y cc' n' ret) rm (va_Pc (.ref b :: As) (PB D ty wc H.size)) Qc rm.cells rm.slots free)
    (ci q0 : Nat) {vc : vw_C} {fs : List Value} (hc : vwCl[ci]? = some vc) (he : wc[q0]? = some (b, .inr (ci, fs))) (hvc : vc.1 = C) (hn : As.length = na) (hl : ls.size = nL) (hst : st = As.reverse ++ .ref b :: rest) (hw : (rest.map fun v => v.category).sum ≤ 8) (hdg : decode cc pc = .ok (.invokevirtual idx, 3)) (hR : rm.frames + 1 ≤ R.frames ∧ 8 + (n' + 11) + rm.locals ≤ R.locals) (hf : cells + rm.cells ≤ R.cells ∧ slots + rm.slots ≤ R.slots) :
    va_Run p l e R s m args below meth c H locs cells slots rm.cells rm.slots (F0 m pc ls st) rest (Qc (Value.ref b :: As).toArray) free := by
  subst hst
  exact va_runV (As := As) (rest := rest) F hM (cwV na F.2.2.2.2 hs.1 rfl rfl rfl ⟨hs.2.1, hs.2.2⟩ hR) ⟨PB.blind, by
    have h := va_recv hK hP hc he
    rw [hvc] at h
    exact h, PB.pre hP hK hD hG⟩ rfl hn hl rfl (lv_room hw) hdg hf
theorem rS (F : CallFix p m c cc nL s args G_ own) (hG : gN s) (hK : va_K D vwCl ty s) (hP : va_P D vwCl wc H) (hD : va_D (fun _ => True) wc) (hs : sS own idx y cc' n' ret na) (hM : Met l y (ws_ y cc' n' ret) rm (va_Pc As (PB D ty wc H.size)) Qc rm.cells rm.slots free)
    (hn : As.length = na) (hl : ls.size = nL) (hst : st = As.reverse ++ rest) (hw : (rest.map fun v => v.category).sum ≤ 8) (hdg : decode cc pc = .ok (.invokestatic idx, 3)) (hR : rm.frames + 1 ≤ R.frames ∧ 8 + (n' + 11) + rm.locals ≤ R.locals) (hf : cells + rm.cells ≤ R.cells ∧ slots + rm.slots ≤ R.slots) :
    va_Run p l e R s m args below meth c H locs cells slots rm.cells rm.slots (F0 m pc ls st) rest (Qc As.toArray) free := by
  subst hst
  exact va_runS (As := As) (rest := rest) F hM (va_cwS na F.2.2.2.2 hs.1 rfl rfl rfl hs.2 hR) ⟨PB.blind, PB.pre hP hK hD hG⟩ rfl hn hl rfl (lv_room hw) hdg hf
theorem rI (F : CallFix p m c cc nL s args G_ own) (hG : gN s) (hK : va_K D vwCl ty s) (hP : va_P D vwCl wc H) (hD : va_D (fun _ => True) wc) (hs : sI own idx y cc' n' na) (hM : Met l y (ws_ y cc' n' none) rm (va_Pc (.ref b :: As) (PB D ty wc H.size)) Qc rm.cells rm.slots free)
    (hn : As.length = na) (hl : ls.size = nL) (hst : st = As.reverse ++ .ref b :: rest) (hw : (rest.map fun v => v.category).sum ≤ 8) (hdg : decode cc pc = .ok (.invokespecial idx, 3)) (hR : rm.frames + 1 ≤ R.frames ∧ 8 + (n' + 11) + rm.locals ≤ R.locals) (hf : cells + rm.cells ≤ R.cells ∧ slots + rm.slots ≤ R.slots) :
    va_Run p l e R s m args below meth c H locs cells slots rm.cells rm.slots (F0 m pc ls st) rest (Qc (Value.ref b :: As).toArray) free := by
  subst hst
  obtain ⟨h1, h2, h3, h4, h5, h6⟩ := hs
  exact va_runI (As := As) (rest := rest) F hM (cwI na F.2.2.2.2 h1 rfl rfl rfl (F.2.2.2.2 _ h2) (F.2.2.2.2 _ h3) (F.2.2.2.2 _ h4) h5 h6 hR) ⟨PB.blind, PB.pre hP hK hD hG⟩ rfl hn hl rfl (lv_room hw) hdg hf
theorem rSN (F : CallFix p m c cc nL s args G_ own) (hG : gN s) (hK : va_K D vwCl ty s) (hP : va_P D vwCl wc H) (hD : va_D (fun _ => True) wc) (hs : sSN own idx y cc' n' ret na) (hM : Met l y (ws_ y cc' n' ret) rm (va_Pc As (PB D ty wc H.size)) Qc rm.cells rm.slots free)
    (hn : As.length = na) (hl : ls.size = nL) (hst : st = As.reverse ++ rest) (hw : (rest.map fun v => v.category).sum ≤ 8) (hdg : decode cc pc = .ok (.invokestatic idx, 3)) (hR : rm.frames + 1 ≤ R.frames ∧ 8 + (n' + 11) + rm.locals ≤ R.locals) (hf : cells + rm.cells ≤ R.cells ∧ slots + rm.slots ≤ R.slots) :
    va_Run p l e R s m args below meth c H locs cells slots rm.cells rm.slots (F0 m pc ls st) rest (Qc As.toArray) free := by
  subst hst
  obtain ⟨h1, h2, h3, h4, h6⟩ := hs
  exact va_runSN (host := RX3) (As := As) (rest := rest) F hM ⟨va_cnB na F.2.2.2.2 h1 rfl rfl rfl (hG _ h3) (F.2.2.2.2 _ h2) h6 hR, F.2.2.2.2 _ h4, trivial⟩ ⟨PB.blind, PB.pre hP hK hD hG⟩ rfl hn hl rfl (lv_room hw) hdg hf
theorem rIN (F : CallFix p m c cc nL s args G_ own) (hG : gN s) (hK : va_K D vwCl ty s) (hP : va_P D vwCl wc H) (hD : va_D (fun _ => True) wc) (hs : sIN own idx y cc' n' na) (hM : Met l y (ws_ y cc' n' none) rm (va_Pc (.ref b :: As) (PB D ty wc H.size)) Qc rm.cells rm.slots free)
    (hn : As.length = na) (hl : ls.size = nL) (hst : st = As.reverse ++ .ref b :: rest) (hw : (rest.map fun v => v.category).sum ≤ 8) (hdg : decode cc pc = .ok (.invokespecial idx, 3)) (hR : rm.frames + 1 ≤ R.frames ∧ 8 + (n' + 11) + rm.locals ≤ R.locals) (hf : cells + rm.cells ≤ R.cells ∧ slots + rm.slots ≤ R.slots) :
    va_Run p l e R s m args below meth c H locs cells slots rm.cells rm.slots (F0 m pc ls st) rest (Qc (Value.ref b :: As).toArray) free := by
  subst hst
  obtain ⟨h1, h2, h3, h4, h5, h6⟩ := hs
  exact va_runIN (host := RX3) (As := As) (rest := rest) F hM ⟨va_cnB na F.2.2.2.2 h1 rfl rfl rfl (hG _ h3) (F.2.2.2.2 _ h2) h6 hR, h5, F.2.2.2.2 _ h4⟩ ⟨PB.blind, PB.pre hP hK hD hG⟩ rfl hn hl rfl (lv_room hw) hdg hf
/-- behind a call: the caller's other cells, then the callee's -/
theorem k_i {post : Int32 → S → Prop} {w1 : S → va_W} (hr : va_Run p l e R s m args below meth c H locs cells slots mc ms (F0 m pc ls st) rest (va_Qi post (BP D w1 (va_A wc H.size)) (va_A wc H.size) a) (va_A wc H.size)) (hP : va_P D vwCl ws H) (hD : va_D A0 ws) (hS : va_S A0 H0 H locs) (hA : ∀ q, H0.size ≤ q → A0 q)
    (isC isR : List Nat) (hC : isC.map (fun i => ws[i]?) = wc.map some) (hR : isR.map (fun i => ws[i]?) = wr.map some) (hnR : va_nd isR = true) (hdis : ∀ i ∈ isR, i ∉ isC)
    (kk : ∀ (r : Int32) (u : S) (H1 : Heap) (locs1 : List Loc), post r u → va_P D vwCl (wr ++ w1 u) H1 → va_D A0 (wr ++ w1 u) → va_S A0 H0 H1 locs1 → W p l e R s m args below meth c H1 locs1 (cells + mc) (slots + ms) Q (F0 m (pc + 3) ls (.int r :: rest))) : W p l e R s m args below meth c H locs cells slots Q (F0 m pc ls st) := by
  have hF := va_free hD hS hA isC hC
  refine va_calli hr hS (fun q _ h => hF q h) hF (fun r u t H1 locs1 ht _ hp hB _ hk hS1 => ?_)
  obtain ⟨hP1, hD1⟩ := hB
  rw [ht] at hP1
  obtain ⟨hP2, hD2⟩ := va_join hP hD isC isR hC hR hnR hdis hk hF hP1 hD1
  exact kk r u H1 locs1 hp hP2 hD2 hS1
theorem k_l {post : Int64 → S → Prop} {w1 : S → va_W} (hr : va_Run p l e R s m args below meth c H locs cells slots mc ms (F0 m pc ls st) rest (va_Ql post (BP D w1 (va_A wc H.size)) (va_A wc H.size) a) (va_A wc H.size)) (hP : va_P D vwCl ws H) (hD : va_D A0 ws) (hS : va_S A0 H0 H locs) (hA : ∀ q, H0.size ≤ q → A0 q)
    (isC isR : List Nat) (hC : isC.map (fun i => ws[i]?) = wc.map some) (hR : isR.map (fun i => ws[i]?) = wr.map some) (hnR : va_nd isR = true) (hdis : ∀ i ∈ isR, i ∉ isC)
    (kk : ∀ (r : Int64) (u : S) (H1 : Heap) (locs1 : List Loc), post r u → va_P D vwCl (wr ++ w1 u) H1 → va_D A0 (wr ++ w1 u) → va_S A0 H0 H1 locs1 → W p l e R s m args below meth c H1 locs1 (cells + mc) (slots + ms) Q (F0 m (pc + 3) ls (.long r :: rest))) : W p l e R s m args below meth c H locs cells slots Q (F0 m pc ls st) := by
  have hF := va_free hD hS hA isC hC
  refine va_calll hr hS (fun q _ h => hF q h) hF (fun r u t H1 locs1 ht _ hp hB _ hk hS1 => ?_)
  obtain ⟨hP1, hD1⟩ := hB
  rw [ht] at hP1
  obtain ⟨hP2, hD2⟩ := va_join hP hD isC isR hC hR hnR hdis hk hF hP1 hD1
  exact kk r u H1 locs1 hp hP2 hD2 hS1
theorem k_v {post : S → Prop} {w1 : S → va_W} (hr : va_Run p l e R s m args below meth c H locs cells slots mc ms (F0 m pc ls st) rest (va_Qv post (BP D w1 (va_A wc H.size)) (va_A wc H.size) a) (va_A wc H.size)) (hP : va_P D vwCl ws H) (hD : va_D A0 ws) (hS : va_S A0 H0 H locs) (hA : ∀ q, H0.size ≤ q → A0 q)
    (isC isR : List Nat) (hC : isC.map (fun i => ws[i]?) = wc.map some) (hR : isR.map (fun i => ws[i]?) = wr.map some) (hnR : va_nd isR = true) (hdis : ∀ i ∈ isR, i ∉ isC)
    (kk : ∀ (u : S) (H1 : Heap) (locs1 : List Loc), post u → va_P D vwCl (wr ++ w1 u) H1 → va_D A0 (wr ++ w1 u) → va_S A0 H0 H1 locs1 → W p l e R s m args below meth c H1 locs1 (cells + mc) (slots + ms) Q (F0 m (pc + 3) ls rest)) : W p l e R s m args below meth c H locs cells slots Q (F0 m pc ls st) := by
  have hF := va_free hD hS hA isC hC
  refine va_callv hr hS (fun q _ h => hF q h) hF (fun u t H1 locs1 ht _ hp hB _ hk hS1 => ?_)
  obtain ⟨hP1, hD1⟩ := hB
  rw [ht] at hP1
  obtain ⟨hP2, hD2⟩ := va_join hP hD isC isR hC hR hnR hdis hk hF hP1 hD1
  exact kk u H1 locs1 hp hP2 hD2 hS1
theorem k_r {post : S → Prop} {w1 : S → Nat → va_W} (hr : va_Run p l e R s m args below meth c H locs cells slots mc ms (F0 m pc ls st) rest (va_Qr post (fun u a t => va_P D vwCl (w1 u a) t.heap ∧ va_D (va_A wc H.size) (w1 u a)) (va_A wc H.size) a) (va_A wc H.size)) (hP : va_P D vwCl ws H) (hD : va_D A0 ws) (hS : va_S A0 H0 H locs) (hA : ∀ q, H0.size ≤ q → A0 q)
    (isC isR : List Nat) (hC : isC.map (fun i => ws[i]?) = wc.map some) (hR : isR.map (fun i => ws[i]?) = wr.map some) (hnR : va_nd isR = true) (hdis : ∀ i ∈ isR, i ∉ isC)
    (kk : ∀ (u : S) (ra : Nat) (H1 : Heap) (locs1 : List Loc), post u → va_P D vwCl (wr ++ w1 u ra) H1 → va_D A0 (wr ++ w1 u ra) → va_S A0 H0 H1 locs1 → W p l e R s m args below meth c H1 locs1 (cells + mc) (slots + ms) Q (F0 m (pc + 3) ls (.ref ra :: rest))) : W p l e R s m args below meth c H locs cells slots Q (F0 m pc ls st) := by
  have hF := va_free hD hS hA isC hC
  refine va_callr hr hS (fun q _ h => hF q h) hF (fun u ra t H1 locs1 ht _ hp hB _ hk hS1 => ?_)
  obtain ⟨hP1, hD1⟩ := hB
  rw [ht] at hP1
  obtain ⟨hP2, hD2⟩ := va_join hP hD isC isR hC hR hnR hdis hk hF hP1 hD1
  exact kk u ra H1 locs1 hp hP2 hD2 hS1
end
end
section
/-! bodies with their ends as rules; throws and their catching; arrays by places -/
def strL : List (Nat × String) := [(32, "what is not 0 or 1"), (39, "many is not 1 to 500"), (55, "day is not 0 to 5"), (57, "rain is not 0 to 9"), (59, "day is not 0 to 6"), (61, "takes is not 0 to 60"), (63, "shale is not 1 to 200"), (77, "there are 4 clamps"), (88, "there is no such clamp"), (90, "coal is not 1 to 60"), (95, "there is not so much coal, or the clamp has no shale"), (103, "water is not 0 to 400"), (112, "there are 4 pits"), (116, "there is no such clamp or pit"), (124, "nothing is burnt, the clamp burns, or the pit has no water"), (132, "there are 3 pans"), (134, "there is no such pit or pan"), (136, "water is not 1 to 150"), (138, "the pit has not so much water, or the pan no room for it"), (140, "there is no such pan"), (145, "barrels is not 1 to 20"), (147, "there are not so many barrels, or the pan has no alum"), (165, "there is no such clamp, or what is not 0 to 3"), (170, "there is no such pit, or what is not 0 to 3"), (173, "there is no such pan, or what is not 0 to 4"), (175, "what is not 0 to 9"), (181, "days is not 1 to 60"), (194, "what is not 2, 4, 5, 6 or 7"), (196, "there is no such pit")]
def gT (U : State) : Prop := (∀ q ∈ strL, ∃ a, vk_R RX3 q.1 q.2 a U) ∧ va_Nc iIA iIO U ∧ va_Nc iIS iIO U ∧ va_Nc iIS iIA U ∧ va_Nc iIO iIA U
theorem gT.warm {s U : State} (hW : s.WarmedH U.vm) (h : gT s) : gT U := ⟨fun q hq => (h.1 q hq).elim fun a ha => ⟨a, ha.warm hW⟩, h.2.1.moved hW.alike, h.2.2.1.moved hW.alike, h.2.2.2.1.moved hW.alike, h.2.2.2.2.moved hW.alike⟩
theorem gT.same {u U : State} (h : U.vm = u.vm) (g : gT u) : gT U := ⟨fun q hq => (g.1 q hq).elim fun a ha => ⟨a, ha.same h⟩, g.2.1.moved (h ▸ Vm.Alike.refl u.vm), g.2.2.1.moved (h ▸ Vm.Alike.refl u.vm), g.2.2.2.1.moved (h ▸ Vm.Alike.refl u.vm), g.2.2.2.2.moved (h ▸ Vm.Alike.refl u.vm)⟩
def gZ (A : Nat → Prop) (U : State) (H : Heap) : Prop := vx_Zq Bundle.tN "UNASSIGNED_STACK" Bundle.steD A U H ∧ vx_Zq Bundle.tN "SUPPRESSED_SENTINEL" Bundle.listD A U H
theorem gZ.moved {A : Nat → Prop} {u U : State} {H : Heap} (hvm : u.vm.Alike U.vm) (h : gZ A u H) : gZ A U H := ⟨h.1.moved hvm, h.2.moved hvm⟩
theorem gZ.kept {A : Nat → Prop} {U : State} {H H1 : Heap} (h : gZ A U H) (hq : ∀ a : Nat, a < H.size → ¬ A a → H1[a]? = H[a]?) : gZ A U H1 := ⟨h.1.kept hq, h.2.kept hq⟩
theorem gZ.narrow {A B : Nat → Prop} {U : State} {H : Heap} (h : gZ A U H) (hAB : ∀ q, B q → A q) : gZ B U H := ⟨h.1.narrow hAB, h.2.narrow hAB⟩
/-- the start of a method that may throw, or calls one that may -/
def PX (D : va_G) (ty : List (ClassId × FieldType)) (ws : va_W) (sz : Nat) (U : State) : Prop := PB D ty ws sz U ∧ gT U ∧ gZ (va_A ws sz) U U.heap
theorem PX.blind {av : List Value} {D : va_G} {ty : List (ClassId × FieldType)} {ws : va_W} {sz : Nat} : FrameBlind (va_Pc av (PX D ty ws sz)) := fun a U g mk q => by
  obtain ⟨q0, q1, qT, qZ⟩ := q
  exact ⟨q0, (PB.blind (av := av) (ty := ty) (ws := ws) a U g mk ⟨q0, q1⟩).2, gT.same (u := U) rfl qT, gZ.moved (u := U) (Vm.Alike.refl U.vm) qZ⟩
theorem PX.pre {s : State} {H : Heap} {av : List Value} {D : va_G} {ty : List (ClassId × FieldType)} {ws : va_W} (hP : va_P D vwCl ws H) (hK : va_K D vwCl ty s) (hD : va_D (fun _ => True) ws) (hG : gN s) (hT : gT s) (hZ : gZ (va_A ws H.size) s H) : ∀ U : State, U.heap = H → s.WarmedH U.vm → va_Pc av (PX D ty ws H.size) av.toArray U := fun U hU hW => ⟨rfl, (PB.pre (av := av) hP hK hD hG U hU hW).2, gT.warm hW hT, by rw [hU]; exact gZ.moved hW.alike hZ⟩
abbrev BX (D : va_G) (ws : va_W) (px : String → Prop) : String → Unit → State → Prop := fun E _ t => px E ∧ va_P D vwCl ws t.heap
/-- a contract that gives an int back or throws, nothing changed then -/
abbrev Xi (l : Launch) (y : MethodName) (cc : ByteArray) (n : Nat) (ret : Option FieldType) (rm : Room) (D : va_G) (ty : List (ClassId × FieldType)) (av : List Value) (ws : va_W) {S : Type} (post : Int32 → S → Prop) (w1 : S → va_W) (px : String → Prop) : Prop :=
  ∀ sz : Nat, vx_Met l y (ws_ y cc n ret) rm (va_Pc av (PX D ty ws sz)) (va_Qi post (BP D w1 (va_A ws sz)) (va_A ws sz)) (vx_X (fun _ : Unit => True) (BX D ws px) (va_A ws sz)) rm.cells rm.slots (va_A ws sz)
/-- a contract of a method with handlers that gives an int back -/
abbrev Mw (l : Launch) (y : MethodName) (cc : ByteArray) (n : Nat) (hh : List (Nat × Nat × Nat × Nat)) (rm : Room) (D : va_G) (ty : List (ClassId × FieldType)) (av : List Value) (ws : va_W) {S : Type} (post : Int32 → S → Prop) (w1 : S → va_W) : Prop :=
  ∀ sz : Nat, Met l y (wsW_ y cc n (some .int) hh) rm (va_Pc av (PX D ty ws sz)) (va_Qi post (BP D w1 (va_A ws sz)) (va_A ws sz)) rm.cells rm.slots (va_A ws sz)
/-- the three throws of the class -/
def nm2 : List String := ["java/lang/RuntimeException", "java/lang/Exception"]
def thrOK (cls : String) (ik ic : Nat) : Prop := Bundle.fit cls = true ∧ Cond.classLink RX3 ik cls ∈ G_ ∧ Cond.initialized cls ∈ G_ ∧ (∀ w ∈ (vx_atS RX3 ic cls nm2).filter goodWord, w ∈ G_) ∧ (∀ w ∈ (vx_atS RX3 ic cls nm2).filter (fun w => !goodWord w), w ∈ nW) ∧ (∀ w ∈ Cond.classLink RX3 ik cls :: Cond.initialized cls :: vx_atS RX3 ic cls nm2, vx_ot w = true)
theorem thr_IO : thrOK iIO 30 34 := ⟨by decide +kernel, qL_RX3_30, qN_java_lang_IndexOutOfBoundsException, G_x0, by decide +kernel, by decide +kernel⟩
theorem thr_IA : thrOK iIA 37 41 := ⟨by decide +kernel, qL_RX3_37, qN_java_lang_IllegalArgumentException, G_x1, by decide +kernel, by decide +kernel⟩
theorem thr_IS : thrOK iIS 75 79 := ⟨by decide +kernel, qL_RX3_75, qN_java_lang_IllegalStateException, G_x2, by decide +kernel, by decide +kernel⟩
theorem nm2_fit : ∀ n ∈ nm2, Bundle.fit n = true := by decide +kernel
theorem Xi.of {l : Launch} {y : MethodName} {cc : ByteArray} {n : Nat} {rt : FieldType} {rm : Room} {D : va_G} {ty : List (ClassId × FieldType)} {av : List Value} {ws : va_W} {S : Type} {post : Int32 → S → Prop} {w1 : S → va_W} {px : String → Prop} (hy : plainName y.cls = true) (hyc : y.cls = RX3) (hn : (lg_sl av).length ≤ n) (hst : l.stackTraces = false) (hrm : 5 < rm.frames ∧ 90 ≤ rm.locals ∧ 1 ≤ rm.cells ∧ 6 ≤ rm.slots)
    (body : ∀ p e s m args below meth c A ls (Q : State → Prop), BF p s m args meth c cc n y.cls (some rt) → va_K D vwCl ty s → va_P D vwCl ws s.heap → va_D A ws → (∀ q : Nat, s.heap.size ≤ q → A q) → lv_has ls n (lv_args 0 av) →
      (∀ (H : Heap) (locs : List Loc) (cells slots pc : Nat) (ls : Array Slot) (v : Int32) (u : S), decode cc pc = .ok (.ireturn, 1) → post v u → va_P D vwCl (w1 u) H → va_D A (w1 u) → va_S A s.heap H locs → narrow rt (.int v) = .int v → cells ≤ rm.cells → slots ≤ rm.slots → W p l e rm s m args below meth c H locs cells slots Q (F0 m pc ls [.int v])) →
      (∀ (H : Heap) (locs : List Loc) (pc ik ic i : Nat) (cls text : String) (ls : Array Slot), thrOK cls ik ic → (i, text) ∈ strL → decode cc pc = .ok (.new ik, 3) → decode cc (pc + 3) = .ok (.dup, 1) → decode cc (pc + 4) = .ok (.ldc i, 2) → decode cc (pc + 6) = .ok (.invokespecial ic, 3) → decode cc (pc + 9) = .ok (.athrow, 1) → px cls → va_P D vwCl ws H → va_S A s.heap H locs → ls.size = n → W p l e rm s m args below meth c H locs 0 0 Q (F0 m pc ls [])) →
      W p l e rm s m args below meth c s.heap [] 0 0 Q (F0 m 0 ls [])) : Xi l y cc n (some rt) rm D ty av ws post w1 px := by
  intro sz
  refine vx_ofW (cc := cc) (maxL := n) (ret := some rt) hy rfl ?_
  intro p e s m args below meth c s₁ B hml htab hv
  obtain ⟨rfl, ⟨hsz, hP, hK, hD0, hG⟩, hT, hZ⟩ := hv
  have hts := atoms_spec (ws := ws_ y cc n (some rt)) B.pre
  have ht : ∀ w ∈ G_, w.before _ s = true := fun w h => hts w (List.mem_cons_of_mem _ h)
  subst hsz
  have hl := lv_entry av (n := n) hn
  rw [lg_entry_eq]
  have hown := findClass_of_methodNamed B.named
  have hlocks := B.notSynchronized
  refine body p e s m _ below meth c (va_A ws s.heap.size) _ _ ⟨⟨B.exec, B.bytes, hml, hown, ht⟩, B.returns, hlocks, hG⟩ hK hP hD0.self (fun q h => Or.inr h) hl ?_ ?_
  · intro H locs cells slots pc ls v u hdg hp hP hD hS hn2 hc hs
    exact W.widen hc hs (vx_ret (W.zret B.exec B.bytes B.returns hn2 (fun t ht _ => ⟨⟨v, u, rfl, hp, by rw [ht]; exact hP, hD⟩, hS.F ht⟩) hS.2.2 hdg hlocks))
  · intro H locs pc ik ic i cls text ls hok hstr d0 d3 d4 d6 d9 hpx hP hS hsize
    obtain ⟨k1, k2, k3, k4, k5, k6⟩ := hok
    obtain ⟨sa, hsa⟩ := hT.1 _ hstr
    have hown3 : s.vm.findClass RX3 = some m.cls := by rw [← hyc]; exact hown
    exact vx_throwS (A := va_A ws s.heap.size) (names := nm2) B.exec B.bytes hst hown3 k1 nm2_fit (ht _ k2) (ht _ k3) hsa (vx_hat (fun w hw => ht w (k4 w hw)) k5 (fun w hw => va_Nw.use (List.all_eq_true.mp nW_on w hw) (hG w hw))) k6 hZ.1 hZ.2 hS (hsize.trans hml.symm) d0 d3 d4 d6 d9 (fun x hx => (htab x hx).elim) (Nat.lt_of_lt_of_le hrm.1 (Nat.le_refl _)) (Nat.le_trans (by decide) hrm.2.1) (by have := hrm.2.2.1; show 0 + 1 ≤ rm.cells; omega) (by have := hrm.2.2.2; show 0 + 6 ≤ rm.slots; omega) hlocks
      (fun t _ h1 h2 => ⟨(), trivial, ⟨hpx, hP.kept (fun k q hk => h2 q.1 (hP k q hk).lt)⟩, ⟨Nat.le_trans hS.1 h1, fun q hq hA => (h2 q (Nat.lt_of_lt_of_le hq hS.1)).trans (hS.2.1 q hq hA)⟩⟩)
      hS.2.2 (by have := hrm.2.2.1; show 0 + 1 ≤ rm.cells; omega) (by have := hrm.2.2.2; show 0 + 6 ≤ rm.slots; omega)
theorem Mi.ofQ {l : Launch} {y : MethodName} {cc : ByteArray} {n : Nat} {rt : FieldType} {rm : Room} {D : va_G} {ty : List (ClassId × FieldType)} {av : List Value} {ws : va_W} {S : Type} {post : Int32 → S → Prop} {w1 : S → va_W} (hy : plainName y.cls = true) (hn : (lg_sl av).length ≤ n)
    (body : ∀ p e s m args below meth c A ls (Q : State → Prop), BF p s m args meth c cc n y.cls (some rt) → va_K D vwCl ty s → va_P D vwCl ws s.heap → va_D A ws → (∀ q : Nat, s.heap.size ≤ q → A q) → lv_has ls n (lv_args 0 av) →
      (∀ (H : Heap) (locs : List Loc) (cells slots pc : Nat) (ls : Array Slot) (v : Int32) (u : S), decode cc pc = .ok (.ireturn, 1) → post v u → va_P D vwCl (w1 u) H → va_D A (w1 u) → va_S A s.heap H locs → narrow rt (.int v) = .int v → cells ≤ rm.cells → slots ≤ rm.slots → W p l e rm s m args below meth c H locs cells slots Q (F0 m pc ls [.int v])) →
      W p l e rm s m args below meth c s.heap [] 0 0 Q (F0 m 0 ls [])) : Mi l y cc n (some rt) rm D ty av ws post w1 :=
  Mi.of hy hn (fun p e s m args below meth c A ls hB hK hP hD hA hl _ => body p e s m args below meth c A ls _ hB hK hP hD hA hl (fun H locs cells slots pc ls v u hdg hp hP hD hS hn2 hc hs => e_i hB.1.1 hB.1.2.1 hB.2.1 hB.2.2.1 hS u hp hP hD hn2 hdg hc hs))
theorem Ml.ofQ {l : Launch} {y : MethodName} {cc : ByteArray} {n : Nat} {rm : Room} {D : va_G} {ty : List (ClassId × FieldType)} {av : List Value} {ws : va_W} {S : Type} {post : Int64 → S → Prop} {w1 : S → va_W} (hy : plainName y.cls = true) (hn : (lg_sl av).length ≤ n)
    (body : ∀ p e s m args below meth c A ls (Q : State → Prop), BF p s m args meth c cc n y.cls (some .long) → va_K D vwCl ty s → va_P D vwCl ws s.heap → va_D A ws → (∀ q : Nat, s.heap.size ≤ q → A q) → lv_has ls n (lv_args 0 av) →
      (∀ (H : Heap) (locs : List Loc) (cells slots pc : Nat) (ls : Array Slot) (v : Int64) (u : S), decode cc pc = .ok (.lreturn, 1) → post v u → va_P D vwCl (w1 u) H → va_D A (w1 u) → va_S A s.heap H locs → cells ≤ rm.cells → slots ≤ rm.slots → W p l e rm s m args below meth c H locs cells slots Q (F0 m pc ls [.long v])) →
      W p l e rm s m args below meth c s.heap [] 0 0 Q (F0 m 0 ls [])) : Ml l y cc n rm D ty av ws post w1 :=
  Ml.of hy hn (fun p e s m args below meth c A ls hB hK hP hD hA hl _ => body p e s m args below meth c A ls _ hB hK hP hD hA hl (fun H locs cells slots pc ls v u hdg hp hP hD hS hc hs => e_l hB.1.1 hB.1.2.1 hB.2.1 hB.2.2.1 hS u hp hP hD hdg hc hs))
theorem Mv.ofQ {l : Launch} {y : MethodName} {cc : ByteArray} {n : Nat} {rm : Room} {D : va_G} {ty : List (ClassId × FieldType)} {av : List Value} {ws : va_W} {S : Type} {post : S → Prop} {w1 : S → va_W} (hy : plainName y.cls = true) (hn : (lg_sl av).length ≤ n)
    (body : ∀ p e s m args below meth c A ls (Q : State → Prop), BF p s m args meth c cc n y.cls none → va_K D vwCl ty s → va_P D vwCl ws s.heap → va_D A ws → (∀ q : Nat, s.heap.size ≤ q → A q) → lv_has ls n (lv_args 0 av) →
      (∀ (H : Heap) (locs : List Loc) (cells slots pc : Nat) (ls : Array Slot) (u : S), decode cc pc = .ok (.return_, 1) → post u → va_P D vwCl (w1 u) H → va_D A (w1 u) → va_S A s.heap H locs → cells ≤ rm.cells → slots ≤ rm.slots → W p l e rm s m args below meth c H locs cells slots Q (F0 m pc ls [])) → (y.name = meth.name) →
      W p l e rm s m args below meth c s.heap [] 0 0 Q (F0 m 0 ls [])) : Mv l y cc n rm D ty av ws post w1 :=
  Mv.of hy hn (fun p e s m args below meth c A ls hB hK hP hD hA hl hin => body p e s m args below meth c A ls _ hB hK hP hD hA hl (fun H locs cells slots pc ls u hdg hp hP hD hS hc hs => e_v hB.1.1 hB.1.2.1 hB.2.1 hB.2.2.1 hS u hp hP hD hdg hc hs) hin)
theorem Mw.ofQ {l : Launch} {y : MethodName} {cc : ByteArray} {n : Nat} {hh : List (Nat × Nat × Nat × Nat)} {rm : Room} {D : va_G} {ty : List (ClassId × FieldType)} {av : List Value} {ws : va_W} {S : Type} {post : Int32 → S → Prop} {w1 : S → va_W} (hy : plainName y.cls = true) (hn : (lg_sl av).length ≤ n) (hwg : Cond.codeWith y cc n (some .int) hh ∈ G_)
    (body : ∀ p e s m args below meth c A ls (Q : State → Prop), BF p s m args meth c cc n y.cls (some .int) → va_K D vwCl ty s → va_P D vwCl ws s.heap → va_D A ws → (∀ q : Nat, s.heap.size ≤ q → A q) → lv_has ls n (lv_args 0 av) → gT s → gZ A s s.heap → c.exceptionTable.toList = tableOf hh →
      (∀ (H : Heap) (locs : List Loc) (cells slots pc : Nat) (ls : Array Slot) (v : Int32) (u : S), decode cc pc = .ok (.ireturn, 1) → post v u → va_P D vwCl (w1 u) H → va_D A (w1 u) → va_S A s.heap H locs → cells ≤ rm.cells → slots ≤ rm.slots → W p l e rm s m args below meth c H locs cells slots Q (F0 m pc ls [.int v])) →
      W p l e rm s m args below meth c s.heap [] 0 0 Q (F0 m 0 ls [])) : Mw l y cc n hh rm D ty av ws post w1 := by
  intro sz
  refine va_MetW (cc := cc) (maxL := n) (ret := some .int) (hh := hh) hy rfl ?_
  intro p e s m args below meth c s₁ B hml hv
  obtain ⟨rfl, ⟨hsz, hP, hK, hD0, hG⟩, hT, hZ⟩ := hv
  have hts := atoms_spec (ws := wsW_ y cc n (some .int) hh) B.pre
  have ht : ∀ w ∈ G_, w.before _ s = true := fun w h => hts w (List.mem_cons_of_mem _ h)
  subst hsz
  have hl := lv_entry av (n := n) hn
  rw [lg_entry_eq]
  have hlocks := B.notSynchronized
  exact body p e s m _ below meth c (va_A ws s.heap.size) _ _ ⟨⟨B.exec, B.bytes, hml, findClass_of_methodNamed B.named, ht⟩, B.returns, hlocks, hG⟩ hK hP hD0.self (fun q h => Or.inr h) hl hT hZ (vx_table (x := y) B (hts _ List.mem_cons_self)) (fun H locs cells slots pc ls v u hdg hp hP hD hS hc hs => W.widen hc hs (W.iret B.exec B.bytes B.returns (fun t ht _ => ⟨⟨v, u, rfl, hp, by rw [ht]; exact hP, hD⟩, hS.F ht⟩) hS.2.2 hdg hlocks))
section
variable {p : Program} {l : Launch} {e : Env} {R : Room} {s : State} {m : MethodId} {args : Array Value} {below : List Frame} {meth : Method} {c : Code} {H : Heap} {locs : List Loc} {cells slots mc ms : Nat} {Q : State → Prop}
variable {cc cc' : ByteArray} {pc nL n' na idx : Nat} {own C : String} {y : MethodName} {ret : Option FieldType} {rm : Room} {D : va_G} {ty : List (ClassId × FieldType)} {b : Nat} {As st rest : List Value} {ws wc wr : va_W} {ls : Array Slot} {S : Type} {A A0 : Nat → Prop} {H0 : Heap} {a : Array Value} {Qc : Array Value → State → Outcome → State → Prop} {free : Addr → Prop}
theorem rX {XC : String → State → State → Prop} (F : CallFix p m c cc nL s args G_ own) (hG : gN s) (hT : gT s) (hZ : gZ (va_A wc H.size) s H) (hK : va_K D vwCl ty s) (hP : va_P D vwCl wc H) (hD : va_D (fun _ => True) wc) (hs : sV own idx C y cc' n' ret na) (hM : vx_Met l y (ws_ y cc' n' ret) rm (va_Pc (.ref b :: As) (PX D ty wc H.size)) Qc XC rm.cells rm.slots free)
    (ci q0 : Nat) {vc : vw_C} {fs : List Value} (hc : vwCl[ci]? = some vc) (he : wc[q0]? = some (b, .inr (ci, fs))) (hvc : vc.1 = C) (hn : As.length = na) (hl : ls.size = nL) (hst : st = As.reverse ++ .ref b :: rest) (hw : (rest.map fun v => v.category).sum ≤ 8) (hdg : decode cc pc = .ok (.invokevirtual idx, 3)) (hR : rm.frames + 1 ≤ R.frames ∧ 8 + (n' + 11) + rm.locals ≤ R.locals) (hf : cells + rm.cells ≤ R.cells ∧ slots + rm.slots ≤ R.slots) :
    vx_Run p l e R s m args below meth c H locs cells slots rm.cells rm.slots (F0 m pc ls st) rest (Qc (Value.ref b :: As).toArray) XC free := by
  subst hst
  exact vx_runV (As := As) (rest := rest) F hM (cwV na F.2.2.2.2 hs.1 rfl rfl rfl ⟨hs.2.1, hs.2.2⟩ hR) ⟨PX.blind, by
    have h := va_recv hK hP hc he
    rw [hvc] at h
    exact h, PX.pre hP hK hD hG hT hZ⟩ rfl hn hl rfl (lv_room hw) hdg hf
theorem rW {hh : List (Nat × Nat × Nat × Nat)} (F : CallFix p m c cc nL s args G_ own) (hG : gN s) (hT : gT s) (hZ : gZ (va_A wc H.size) s H) (hK : va_K D vwCl ty s) (hP : va_P D vwCl wc H) (hD : va_D (fun _ => True) wc) (hs : sW own idx y cc' n' ret hh na) (hM : Met l y (wsW_ y cc' n' ret hh) rm (va_Pc As (PX D ty wc H.size)) Qc rm.cells rm.slots free)
    (hn : As.length = na) (hl : ls.size = nL) (hst : st = As.reverse ++ rest) (hw : (rest.map fun v => v.category).sum ≤ 8) (hdg : decode cc pc = .ok (.invokestatic idx, 3)) (hR : rm.frames + 1 ≤ R.frames ∧ 8 + (n' + 11) + rm.locals ≤ R.locals) (hf : cells + rm.cells ≤ R.cells ∧ slots + rm.slots ≤ R.slots) :
    va_Run p l e R s m args below meth c H locs cells slots rm.cells rm.slots (F0 m pc ls st) rest (Qc As.toArray) free := by
  subst hst
  exact vx_runSW (As := As) (rest := rest) F hM (vx_cwSW na F.2.2.2.2 hs.1 rfl rfl rfl hs.2 hR) ⟨PX.blind, PX.pre hP hK hD hG hT hZ⟩ rfl hn hl rfl (lv_room hw) hdg hf
/-- a callee's part of the statics of a throw -/
theorem gZ.at (hZ : gZ A0 s H0) (hS : va_S A0 H0 H locs) : gZ A0 s H := hZ.kept (fun q h1 h2 => hS.2.1 q h1 h2)
/-- behind a call that may have thrown -/
theorem k_x {post : Int32 → S → Prop} {w1 : S → va_W} {px : String → Prop} (hr : vx_Run p l e R s m args below meth c H locs cells slots mc ms (F0 m pc ls st) rest (va_Qi post (BP D w1 (va_A wc H.size)) (va_A wc H.size) a) (vx_X (fun _ : Unit => True) (BX D wc px) (va_A wc H.size)) (va_A wc H.size)) (hP : va_P D vwCl ws H) (hD : va_D A0 ws) (hS : va_S A0 H0 H locs) (hA : ∀ q, H0.size ≤ q → A0 q)
    (isC isR : List Nat) (hC : isC.map (fun i => ws[i]?) = wc.map some) (hR : isR.map (fun i => ws[i]?) = wr.map some) (hnR : va_nd isR = true) (hdis : ∀ i ∈ isR, i ∉ isC) (hDc : va_D (fun _ => True) wc)
    (kx : ∀ (E : String) (ce : Cell) (q9 : Addr) (H1 : Heap) (locs1 : List Loc), px E → va_P D vwCl (wr ++ wc) H1 → va_D A0 (wr ++ wc) → va_S A0 H0 H1 locs1 → H1[q9]? = some ce → ce.vm = .none → s.vm.findClass E = some ce.cls → vx_W p l e R s m args below meth c H1 locs1 (cells + mc) (slots + ms) Q (F0 m pc ls rest) q9)
    (kk : ∀ (r : Int32) (u : S) (H1 : Heap) (locs1 : List Loc), post r u → va_P D vwCl (wr ++ w1 u) H1 → va_D A0 (wr ++ w1 u) → va_S A0 H0 H1 locs1 → W p l e R s m args below meth c H1 locs1 (cells + mc) (slots + ms) Q (F0 m (pc + 3) ls (.int r :: rest))) : W p l e R s m args below meth c H locs cells slots Q (F0 m pc ls st) := by
  have hF := va_free hD hS hA isC hC
  refine vx_calli hr hS (fun q _ h => hF q h) hF (fun q _ h => hF q h) (fun E ce q9 u t H1 locs1 ht _ _ hB _ hk hS1 hce hcv hcl => ?_) (fun r u t H1 locs1 ht _ hp hB _ hk hS1 => ?_)
  · obtain ⟨hpx, hP1⟩ := hB
    rw [ht] at hP1
    obtain ⟨hP2, hD2⟩ := va_join hP hD isC isR hC hR hnR hdis hk hF hP1 (hDc.self (sz := H.size))
    exact kx E ce q9 H1 locs1 hpx hP2 hD2 hS1 hce hcv hcl
  · obtain ⟨hP1, hD1⟩ := hB
    rw [ht] at hP1
    obtain ⟨hP2, hD2⟩ := va_join hP hD isC isR hC hR hnR hdis hk hF hP1 hD1
    exact kk r u H1 locs1 hp hP2 hD2 hS1
/-- arrays by a known place -/
theorem aI (hx : p.tables.exec = Jvm.exec) (hb : c.code = cc) (hK : va_K D vwCl ty s) (hP : va_P D vwCl ws H) (q0 t0 : Nat) {q : Nat} {cA : ClassId} {n : Nat} {f : Nat → Int32} (ha : ws[q0]? = some (q, .inl (cA, n, .inl f))) (ht : ty[t0]? = some (cA, .int)) {x : Int32} (i : Nat) (hi : x = nI i) (hlt : i < n) (hn : n < 2147483648) {v : Int32} (hv : f i = v) (hdg : decode cc pc = .ok (.iaload, 1))
    (kk : W p l e R s m args below meth c H locs cells slots Q (F0 m (pc + 1) ls (.int v :: rest))) : W p l e R s m args below meth c H locs cells slots Q (F0 m pc ls (.int x :: .ref q :: rest)) := by
  subst hi hv
  refine va_iald hx hb hK hP q0 t0 ha ht (vp_in_nI hlt (by omega)) hdg ?_
  rw [nI_clamp (by omega)]
  exact kk
theorem aZ (hx : p.tables.exec = Jvm.exec) (hb : c.code = cc) (hK : va_K D vwCl ty s) (hP : va_P D vwCl ws H) (q0 t0 : Nat) {q : Nat} {cA : ClassId} {n : Nat} {f : Nat → Int32} (ha : ws[q0]? = some (q, .inl (cA, n, .inl f))) (ht : ty[t0]? = some (cA, .boolean)) {x : Int32} (i : Nat) (hi : x = nI i) (hlt : i < n) (hn : n < 2147483648) {v : Int32} (hv : f i = v) (hdg : decode cc pc = .ok (.baload, 1))
    (kk : W p l e R s m args below meth c H locs cells slots Q (F0 m (pc + 1) ls (.int v :: rest))) : W p l e R s m args below meth c H locs cells slots Q (F0 m pc ls (.int x :: .ref q :: rest)) := by
  subst hi hv
  refine va_zald hx hb hK hP q0 t0 ha ht (vp_in_nI hlt (by omega)) hdg ?_
  rw [nI_clamp (by omega)]
  exact kk
theorem sI_ (hx : p.tables.exec = Jvm.exec) (hb : c.code = cc) (hK : va_K D vwCl ty s) (hP : va_P D vwCl ws H) (hD : va_D A0 ws) (hS : va_S A0 H0 H locs) (q0 t0 : Nat) {q : Nat} {cA : ClassId} {n : Nat} {f : Nat → Int32} (ha : ws[q0]? = some (q, .inl (cA, n, .inl f))) (ht : ty[t0]? = some (cA, .int)) {x y : Int32} (i : Nat) (hi : x = nI i) (hlt : i < n) (hn : n < 2147483648) (g : Nat → Int32) (hg : upd f i y = g) (hdg : decode cc pc = .ok (.iastore, 1))
    (kk : ∀ (H1 : Heap) (locs1 : List Loc), va_P D vwCl (ws.set q0 (q, .inl (cA, n, .inl g))) H1 → va_D A0 (ws.set q0 (q, .inl (cA, n, .inl g))) → va_S A0 H0 H1 locs1 → W p l e R s m args below meth c H1 locs1 cells slots Q (F0 m (pc + 1) ls rest)) : W p l e R s m args below meth c H locs cells slots Q (F0 m pc ls (.int y :: .int x :: .ref q :: rest)) := by
  subst hi hg
  refine va_iast hx hb hK hP hD hS q0 t0 ha ht (vp_in_nI hlt (by omega)) hdg ?_
  rw [nI_clamp (by omega)]
  exact kk
theorem sZ_ (hx : p.tables.exec = Jvm.exec) (hb : c.code = cc) (hK : va_K D vwCl ty s) (hP : va_P D vwCl ws H) (hD : va_D A0 ws) (hS : va_S A0 H0 H locs) (q0 t0 : Nat) {q : Nat} {cA : ClassId} {n : Nat} {f : Nat → Int32} (ha : ws[q0]? = some (q, .inl (cA, n, .inl f))) (ht : ty[t0]? = some (cA, .boolean)) {x y : Int32} (i : Nat) (hi : x = nI i) (hlt : i < n) (hn : n < 2147483648) (hy : vp_nar .boolean y = y) (g : Nat → Int32) (hg : upd f i y = g) (hdg : decode cc pc = .ok (.bastore, 1))
    (kk : ∀ (H1 : Heap) (locs1 : List Loc), va_P D vwCl (ws.set q0 (q, .inl (cA, n, .inl g))) H1 → va_D A0 (ws.set q0 (q, .inl (cA, n, .inl g))) → va_S A0 H0 H1 locs1 → W p l e R s m args below meth c H1 locs1 cells slots Q (F0 m (pc + 1) ls rest)) : W p l e R s m args below meth c H locs cells slots Q (F0 m pc ls (.int y :: .int x :: .ref q :: rest)) := by
  subst hi hg
  refine va_zast hx hb hK hP hD hS q0 t0 ha ht (vp_in_nI hlt (by omega)) hdg ?_
  rw [nI_clamp (by omega), hy]
  exact kk
/-- the int on top, told otherwise -/
theorem t_i {x : Int32} (y : Int32) (h : x = y) (k : W p l e R s m args below meth c H locs cells slots Q (F0 m pc ls (.int y :: rest))) : W p l e R s m args below meth c H locs cells slots Q (F0 m pc ls (.int x :: rest)) := by
  subst h
  exact k
def mn (x y : Int32) : Int32 := if y < x then y else x
def mx (x y : Int32) : Int32 := if x < y then y else x
theorem k_min (F : CallFix p m c cc nL s args G_ own) (hlink : Cond.methodLink own idx Lib.Math.min.name ∈ G_) (hl : ls.size = nL) (hfr : 1 ≤ R.frames) (hlo : (rest.map fun v => v.category).sum + 13 ≤ R.locals) (hc : cells ≤ R.cells) (hs : slots ≤ R.slots) {x y : Int32} (hdg : decode cc pc = .ok (.invokestatic idx, 3))
    (kk : W p l e R s m args below meth c H locs cells slots Q (F0 m (pc + 3) ls (.int (mn x y) :: rest))) : W p l e R s m args below meth c H locs cells slots Q (F0 m pc ls (.int y :: .int x :: rest)) :=
  va_mmin F.1 F.2.1 (F.2.2.1.trans hl.symm) F.2.2.2.1 (F.2.2.2.2 _ hlink) (F.2.2.2.2 _ qS_yJ9_min_7cf53) (F.2.2.2.2 _ qN_RJ9) (F.2.2.2.2 _ qC_yJ9_min_7cf53) hfr hlo hc hs hdg kk
theorem k_max (F : CallFix p m c cc nL s args G_ own) (hlink : Cond.methodLink own idx Lib.Math.max.name ∈ G_) (hl : ls.size = nL) (hfr : 1 ≤ R.frames) (hlo : (rest.map fun v => v.category).sum + 13 ≤ R.locals) (hc : cells ≤ R.cells) (hs : slots ≤ R.slots) {x y : Int32} (hdg : decode cc pc = .ok (.invokestatic idx, 3))
    (kk : W p l e R s m args below meth c H locs cells slots Q (F0 m (pc + 3) ls (.int (mx x y) :: rest))) : W p l e R s m args below meth c H locs cells slots Q (F0 m pc ls (.int y :: .int x :: rest)) :=
  va_mmax F.1 F.2.1 (F.2.2.1.trans hl.symm) F.2.2.2.1 (F.2.2.2.2 _ hlink) (F.2.2.2.2 _ qS_yJ9_max_7cf53) (F.2.2.2.2 _ qN_RJ9) (F.2.2.2.2 _ qC_yJ9_max_7cf53) hfr hlo hc hs hdg kk
end
end
section
/-! the works as one value, and what happens to it: the words of all contracts -/
abbrev CT : Type := (Nat → Int32) × (Nat → Int32) × (Nat → Int32) × (Nat → Int32) × Nat
abbrev LT : Type := (Nat → Int32) × (Nat → Int32) × (Nat → Int32) × Nat
abbrev IT : Type := Nat × Int32 × Int32 × Int32 × Int32 × Int32 × Int32
abbrev VT : Type := CT × LT × LT × IT × (Nat → Int32) × (Nat → Int32)
def vsh (v : VT) : Nat → Int32 := v.1.1
def vco (v : VT) : Nat → Int32 := v.1.2.1
def vbu (v : VT) : Nat → Int32 := v.1.2.2.1
def vfl (v : VT) : Nat → Int32 := v.1.2.2.2.1
def vnC (v : VT) : Nat := v.1.2.2.2.2
def vpw (v : VT) : Nat → Int32 := v.2.1.1
def vpa (v : VT) : Nat → Int32 := v.2.1.2.1
def vpb (v : VT) : Nat → Int32 := v.2.1.2.2.1
def vnP (v : VT) : Nat := v.2.1.2.2.2
def vkw (v : VT) : Nat → Int32 := v.2.2.1.1
def vka (v : VT) : Nat → Int32 := v.2.2.1.2.1
def vkb (v : VT) : Nat → Int32 := v.2.2.1.2.2.1
def vnK (v : VT) : Nat := v.2.2.1.2.2.2
def vday (v : VT) : Nat := v.2.2.2.1.1
def vcoal (v : VT) : Int32 := v.2.2.2.1.2.1
def vbar (v : VT) : Int32 := v.2.2.2.1.2.2.1
def vfine (v : VT) : Int32 := v.2.2.2.1.2.2.2.1
def vcrs (v : VT) : Int32 := v.2.2.2.1.2.2.2.2.1
def vcoin (v : VT) : Int32 := v.2.2.2.1.2.2.2.2.2.1
def vship (v : VT) : Int32 := v.2.2.2.1.2.2.2.2.2.2
def vR (v : VT) : Nat → Int32 := v.2.2.2.2.1
def vS (v : VT) : Nat → Int32 := v.2.2.2.2.2
def mkV (sh co bu fl : Nat → Int32) (nC : Nat) (pw pa pb : Nat → Int32) (nP : Nat) (kw ka kb : Nat → Int32) (nK : Nat) (day : Nat) (coal bar fine crs coin ship : Int32) (R S : Nat → Int32) : VT := ((sh, co, bu, fl, nC), (pw, pa, pb, nP), (kw, ka, kb, nK), (day, coal, bar, fine, crs, coin, ship), R, S)
/-- numbers: what a liquor is, what the egg does, what comes of a pour -/
def strg (w a : Int32) : Int32 := if w + a ≤ 0 then 0 else 100 * a / (w + a)
def eggB (s : Int32) : Int32 := if s < 20 then 0 else if s < 35 then 1 else 2
def cby (e : Int32) : Int32 := if e = 0 then 2 else if e = 1 then 5 else 3
def crys (w a b : Int32) : Int32 := mn a (cby (eggB (strg w a)) * b)
def b01 (x : Int32) : Int32 := if x = 0 then 0 else 1
/-- rows below n told by g, the others by f -/
def rowF (n : Nat) (g f : Nat → Int32) : Nat → Int32 := fun j => if j < n then g j else f j
theorem rowF_0 (g f : Nat → Int32) : rowF 0 g f = f := funext fun j => by simp [rowF]
theorem rowF_at (n : Nat) (g f : Nat → Int32) {j : Nat} (h : n ≤ j) : rowF n g f j = f j := by simp [rowF, Nat.not_lt.mpr h]
theorem rowF_lt (n : Nat) (g f : Nat → Int32) {j : Nat} (h : j < n) : rowF n g f j = g j := by simp [rowF, h]
theorem rowF_upd (n : Nat) (g f : Nat → Int32) {x : Int32} (h : x = g n) : upd (rowF n g f) n x = rowF (n + 1) g f := by
  subst h
  funext j
  simp only [upd, rowF]
  by_cases h1 : j = n
  · subst h1; simp
  · have h2 : j < n + 1 ↔ j < n := by omega
    simp [h1, h2]
theorem rowF_same (n : Nat) (g f : Nat → Int32) (h : g n = f n) : rowF (n + 1) g f = rowF n g f := by
  rw [← rowF_upd n g f (x := g n) rfl, h]
  funext j
  simp only [upd]
  by_cases h1 : j = n
  · subst h1; simp [rowF]
  · simp [h1]
/-- a day -/
def bDaily (r : Int32) : Int32 := if r < 5 then 8 else 4
def bPart (r s : Int32) : Int32 := mn (bDaily r) s
def bFl (c s : Int32) : Int32 := if c ≤ 0 then 0 else if s ≤ 0 then 0 else 1
def fSh (r : Int32) (sh fl : Nat → Int32) : Nat → Int32 := fun j => if fl j = 0 then sh j else sh j - bPart r (sh j)
def fCo (co fl : Nat → Int32) : Nat → Int32 := fun j => if fl j = 0 then co j else mx 0 (co j - 2)
def fBu (r : Int32) (sh bu fl : Nat → Int32) : Nat → Int32 := fun j => if fl j = 0 then bu j else bu j + bPart r (sh j)
def fFl (r : Int32) (sh co fl : Nat → Int32) : Nat → Int32 := fun j => if fl j = 0 then fl j else bFl (mx 0 (co j - 2)) (sh j - bPart r (sh j))
def wth (r w : Int32) : Int32 := if w ≤ 0 then w else if r = 0 then mx 0 (mn 400 (w + r) - 3) else mn 400 (w + r)
def cN (kw kb : Nat → Int32) (coal : Int32) : Nat → Int32
  | 0 => coal
  | i + 1 => if kb i = 0 then cN kw kb coal i else if cN kw kb coal i < 4 then cN kw kb coal i else if kw i = 0 then cN kw kb coal i else cN kw kb coal i - 4
def fKb (kw kb c : Nat → Int32) : Nat → Int32 := fun j => if kb j = 0 then kb j else if c j < 4 then 0 else if kw j = 0 then 0 else kb j
def fKw (kw kb c : Nat → Int32) : Nat → Int32 := fun j => if kb j = 0 then kw j else if c j < 4 then kw j else if kw j = 0 then kw j else mx 0 (kw j - 12)
def dayV (v : VT) : VT :=
  let r := vR v (vday v % 6)
  let t := vS v (vday v % 7)
  let c := cN (vkw v) (vkb v) (vcoal v)
  let f1 := mn t (vfine v)
  let c1 := mn (t - f1) (vcrs v)
  mkV (rowF (vnC v) (fSh r (vsh v) (vfl v)) (vsh v)) (rowF (vnC v) (fCo (vco v) (vfl v)) (vco v)) (rowF (vnC v) (fBu r (vsh v) (vbu v) (vfl v)) (vbu v)) (rowF (vnC v) (fFl r (vsh v) (vco v) (vfl v)) (vfl v)) (vnC v)
    (rowF (vnP v) (fun j => wth r (vpw v j)) (vpw v)) (vpa v) (vpb v) (vnP v)
    (rowF (vnK v) (fKw (vkw v) (vkb v) c) (vkw v)) (vka v) (rowF (vnK v) (fKb (vkw v) (vkb v) c) (vkb v)) (vnK v)
    (vday v + 1) (c (vnK v)) (vbar v) (vfine v - f1) (vcrs v - c1) (vcoin v + (5 * f1 + 2 * c1)) (vship v + (f1 + c1)) (vR v) (vS v)
def dIt : Nat → VT → VT
  | 0, v => v
  | n + 1, v => dayV (dIt n v)
end
section
abbrev TY (cI cZ cJ : ClassId) : List (ClassId × FieldType) := [(cI, .int), (cZ, .boolean), (cJ, .long)]
theorem hasP {x : Int32} {n : Nat} (hn : n < 2147483648) (h0 : ¬ x < 0) (h1 : ¬ nI n ≤ x) : ∃ j : Nat, j < n ∧ x = nI j := by
  obtain ⟨j, hj, rfl⟩ := nI_of h0
  exact ⟨j, (nI_ltI (by omega) (by omega)).mp (Int32.not_le.mp h1), rfl⟩
theorem rowF_all {n : Nat} {g f : Nat → Int32} (h : ∀ j, n ≤ j → f j = g j) : rowF n g f = g := funext fun j => by
  by_cases hj : j < n
  · exact rowF_lt n g f hj
  · rw [rowF_at n g f (by omega)]; exact h j (by omega)
def sumF (f : Nat → Int32) : Nat → Int32
  | 0 => 0
  | i + 1 => sumF f i + f i
def ctell (sh co bu fl : Nat → Int32) (k : Nat) (w : Int32) : Int32 := if w = 0 then sh k else if w = 1 then co k else if w = 2 then bu k else b01 (fl k)
def ltell (wa al bo : Nat → Int32) (k : Nat) (w : Int32) : Int32 := if w = 0 then wa k else if w = 1 then al k else if w = 2 then strg (wa k) (al k) else if w = 3 then eggB (strg (wa k) (al k)) else b01 (bo k)
def fil (wa al : Nat → Int32) : Nat → Int32 := fun j => if wa j + al j ≤ 0 then 0 else 1
theorem floorMod_x {a b : Nat} (ha : a < 2147483648) (hb : b < 2147483648) : 0 ≤ nI a ^^^ nI b := by
  have h1 : nI a ^^^ nI b = nI (a ^^^ b) := by
    apply Int32.toBitVec_inj.mp
    show BitVec.ofNat 32 a ^^^ BitVec.ofNat 32 b = BitVec.ofNat 32 (a ^^^ b)
    apply BitVec.eq_of_toNat_eq
    simp [BitVec.toNat_xor, BitVec.toNat_ofNat, Nat.xor_mod_two_pow]
  rw [h1]
  exact nI_pos' (Nat.xor_lt_two_pow (n := 31) (by omega) (by omega))
end
section
theorem s_RX0_29 : sV RX0 29 RX0 yX0_burnOne cX0_burnOne 4 none 2 := sV.mk qM_RX0_29 qI_yX0_burnOne qV_yX0_burnOne qN_RX0 qC_yX0_burnOne ⟨rfl, by decide +kernel, by decide +kernel, by decide +kernel⟩
def rm_X3_within : Room := { frames := 0, cells := 0, slots := 0, locals := 0 }
set_option maxHeartbeats 4000000 in
set_option maxRecDepth 100000 in
theorem c_X3_within (l : Launch) (D : va_G) (cI cZ cJ : ClassId) (x y z : Int32)  : Mi l yX3_within cX3_within 3 (some .boolean) rm_X3_within D (TY cI cZ cJ) [.int x, .int y, .int z] [] (fun (r : Int32) (u : Unit) => (r = 1 ∧ y ≤ x ∧ x ≤ z) ∨ (r = 0 ∧ ¬ (y ≤ x ∧ x ≤ z))) (fun (u : Unit) => []) := by
  refine Mi.ofQ (by decide) (Nat.le_of_ble_eq_true rfl) ?_
  intro p e s m args below meth c A ls Q hF hK hP hD hA hl hend
  obtain ⟨F, hr, hlocks, hG⟩ := hF
  have hx := F.1
  have hb := F.2.1
  have hown := F.2.2.2.1
  have ht := F.2.2.2.2
  have hS : va_S A s.heap s.heap [] := va_S.rf
  have hl : lv_has ls 3 [(0, .int x), (1, .int y), (2, .int z)] := hl
  refine lv_iload_n hx hb dX3_within_0 rfl (lv_at hl 0 rfl) ?_
  refine lv_iload_n hx hb dX3_within_1 rfl (lv_at hl 1 rfl) ?_
  refine lv_icmp_lt (tgt := 14) hx hb dX3_within_2 (by decide) (fun c_1 => ?_) (fun c_1 => ?_)
  · skip
    have c_1n := Int32.not_le.mpr c_1
    refine lv_iconst (v := 0) hx hb dX3_within_14 (by decide) ?_
    exact hend _ _ _ _ _ _ 0 () dX3_within_15 (by simp [eq_true c_1, eq_false c_1n]) hP hD hS (by decide) (Nat.le_of_ble_eq_true rfl) (Nat.le_of_ble_eq_true rfl)
  · skip
    have c_1n := Int32.not_lt.mp c_1
    refine lv_iload_n hx hb dX3_within_5 rfl (lv_at hl 0 rfl) ?_
    refine lv_iload_n hx hb dX3_within_6 rfl (lv_at hl 2 rfl) ?_
    refine lv_icmp_gt (tgt := 14) hx hb dX3_within_7 (by decide) (fun c_2 => ?_) (fun c_2 => ?_)
    · skip
      have c_2n := Int32.not_le.mpr c_2
      refine lv_iconst (v := 0) hx hb dX3_within_14 (by decide) ?_
      exact hend _ _ _ _ _ _ 0 () dX3_within_15 (by simp [eq_false c_1, eq_true c_1n, eq_true c_2, eq_false c_2n]) hP hD hS (by decide) (Nat.le_of_ble_eq_true rfl) (Nat.le_of_ble_eq_true rfl)
    · skip
      have c_2n := Int32.not_lt.mp c_2
      refine lv_iconst (v := 1) hx hb dX3_within_10 (by decide) ?_
      refine lv_goto (tgt := 15) hx hb dX3_within_11 (by decide) ?_
      exact hend _ _ _ _ _ _ 1 () dX3_within_15 (by simp [eq_false c_1, eq_true c_1n, eq_false c_2, eq_true c_2n]) hP hD hS (by decide) (Nat.le_of_ble_eq_true rfl) (Nat.le_of_ble_eq_true rfl)

def rm_X3_strengthOf : Room := { frames := 0, cells := 0, slots := 0, locals := 0 }
set_option maxHeartbeats 4000000 in
set_option maxRecDepth 100000 in
theorem c_X3_strengthOf (l : Launch) (D : va_G) (cI cZ cJ : ClassId) (w a : Int32)  : Mi l yX3_strengthOf cX3_strengthOf 3 (some .int) rm_X3_strengthOf D (TY cI cZ cJ) [.int w, .int a] [] (fun (r : Int32) (u : Unit) => r = strg w a) (fun (u : Unit) => []) := by
  refine Mi.ofQ (by decide) (Nat.le_of_ble_eq_true rfl) ?_
  intro p e s m args below meth c A ls Q hF hK hP hD hA hl hend
  obtain ⟨F, hr, hlocks, hG⟩ := hF
  have hx := F.1
  have hb := F.2.1
  have hown := F.2.2.2.1
  have ht := F.2.2.2.2
  have hS : va_S A s.heap s.heap [] := va_S.rf
  have hl : lv_has ls 3 [(0, .int w), (1, .int a)] := hl
  refine lv_iload_n hx hb dX3_strengthOf_0 rfl (lv_at hl 0 rfl) ?_
  refine lv_iload_n hx hb dX3_strengthOf_1 rfl (lv_at hl 1 rfl) ?_
  refine lv_iadd hx hb dX3_strengthOf_2 ?_
  refine lv_istore_n (lv' := [(2, .int (w + a)), (0, .int w), (1, .int a)]) hx hb dX3_strengthOf_3 rfl hl (by decide) rfl (fun ls hl => ?_)
  refine lv_iload_n hx hb dX3_strengthOf_4 rfl (lv_at hl 0 rfl) ?_
  refine lv_if_gt (tgt := 12) hx hb dX3_strengthOf_5 (by decide) (fun c_1 => ?_) (fun c_1 => ?_)
  · skip
    have c_1n := Int32.not_le.mpr c_1
    refine lv_bipush (v := 100) hx hb dX3_strengthOf_12 (by decide) ?_
    refine lv_iload_n hx hb dX3_strengthOf_14 rfl (lv_at hl 2 rfl) ?_
    refine lv_imul hx hb dX3_strengthOf_15 ?_
    refine lv_iload_n hx hb dX3_strengthOf_16 rfl (lv_at hl 0 rfl) ?_
    refine lv_idiv hx hb dX3_strengthOf_17 (by intro q; rw [q] at c_1; exact absurd c_1 (by decide)) ?_
    exact hend _ _ _ _ _ _ ((100 * a) / (w + a)) () dX3_strengthOf_18 (by simp only [strg, eq_true c_1, eq_false c_1n, if_true, if_false]) hP hD hS rfl (Nat.le_of_ble_eq_true rfl) (Nat.le_of_ble_eq_true rfl)
  · skip
    have c_1n := Int32.not_lt.mp c_1
    refine lv_iconst (v := 0) hx hb dX3_strengthOf_8 (by decide) ?_
    refine lv_goto (tgt := 18) hx hb dX3_strengthOf_9 (by decide) ?_
    exact hend _ _ _ _ _ _ 0 () dX3_strengthOf_18 (by simp only [strg, eq_false c_1, eq_true c_1n, if_true, if_false]) hP hD hS rfl (Nat.le_of_ble_eq_true rfl) (Nat.le_of_ble_eq_true rfl)

def rm_X3_eggBy : Room := { frames := 0, cells := 0, slots := 0, locals := 0 }
set_option maxHeartbeats 4000000 in
set_option maxRecDepth 100000 in
theorem c_X3_eggBy (l : Launch) (D : va_G) (cI cZ cJ : ClassId) (x : Int32)  : Mi l yX3_eggBy cX3_eggBy 1 (some .int) rm_X3_eggBy D (TY cI cZ cJ) [.int x] [] (fun (r : Int32) (u : Unit) => r = eggB x) (fun (u : Unit) => []) := by
  refine Mi.ofQ (by decide) (Nat.le_of_ble_eq_true rfl) ?_
  intro p e s m args below meth c A ls Q hF hK hP hD hA hl hend
  obtain ⟨F, hr, hlocks, hG⟩ := hF
  have hx := F.1
  have hb := F.2.1
  have hown := F.2.2.2.1
  have ht := F.2.2.2.2
  have hS : va_S A s.heap s.heap [] := va_S.rf
  have hl : lv_has ls 1 [(0, .int x)] := hl
  refine lv_iload_n hx hb dX3_eggBy_0 rfl (lv_at hl 0 rfl) ?_
  refine lv_bipush (v := 20) hx hb dX3_eggBy_1 (by decide) ?_
  refine lv_icmp_ge (tgt := 8) hx hb dX3_eggBy_3 (by decide) (fun c_1 => ?_) (fun c_1 => ?_)
  · skip
    have c_1n := Int32.not_lt.mpr c_1
    refine lv_iload_n hx hb dX3_eggBy_8 rfl (lv_at hl 0 rfl) ?_
    refine lv_bipush (v := 35) hx hb dX3_eggBy_9 (by decide) ?_
    refine lv_icmp_ge (tgt := 18) hx hb dX3_eggBy_11 (by decide) (fun c_2 => ?_) (fun c_2 => ?_)
    · skip
      have c_2n := Int32.not_lt.mpr c_2
      refine lv_iconst (v := 2) hx hb dX3_eggBy_18 (by decide) ?_
      exact hend _ _ _ _ _ _ 2 () dX3_eggBy_19 (by simp only [eggB, eq_true c_1, eq_false c_1n, eq_true c_2, eq_false c_2n, if_true, if_false]) hP hD hS rfl (Nat.le_of_ble_eq_true rfl) (Nat.le_of_ble_eq_true rfl)
    · skip
      have c_2n := Int32.not_le.mp c_2
      refine lv_iconst (v := 1) hx hb dX3_eggBy_14 (by decide) ?_
      refine lv_goto (tgt := 19) hx hb dX3_eggBy_15 (by decide) ?_
      exact hend _ _ _ _ _ _ 1 () dX3_eggBy_19 (by simp only [eggB, eq_true c_1, eq_false c_1n, eq_false c_2, eq_true c_2n, if_true, if_false]) hP hD hS rfl (Nat.le_of_ble_eq_true rfl) (Nat.le_of_ble_eq_true rfl)
  · skip
    have c_1n := Int32.not_le.mp c_1
    refine lv_iconst (v := 0) hx hb dX3_eggBy_6 (by decide) ?_
    exact hend _ _ _ _ _ _ 0 () dX3_eggBy_7 (by simp only [eggB, eq_false c_1, eq_true c_1n, if_true, if_false]) hP hD hS rfl (Nat.le_of_ble_eq_true rfl) (Nat.le_of_ble_eq_true rfl)

def rm_X3_crystalsByBarrel : Room := { frames := 0, cells := 0, slots := 0, locals := 0 }
set_option maxHeartbeats 4000000 in
set_option maxRecDepth 100000 in
theorem c_X3_crystalsByBarrel (l : Launch) (D : va_G) (cI cZ cJ : ClassId) (x : Int32)  : Mi l yX3_crystalsByBarrel cX3_crystalsByBarrel 1 (some .int) rm_X3_crystalsByBarrel D (TY cI cZ cJ) [.int x] [] (fun (r : Int32) (u : Unit) => r = cby x) (fun (u : Unit) => []) := by
  refine Mi.ofQ (by decide) (Nat.le_of_ble_eq_true rfl) ?_
  intro p e s m args below meth c A ls Q hF hK hP hD hA hl hend
  obtain ⟨F, hr, hlocks, hG⟩ := hF
  have hx := F.1
  have hb := F.2.1
  have hown := F.2.2.2.1
  have ht := F.2.2.2.2
  have hS : va_S A s.heap s.heap [] := va_S.rf
  have hl : lv_has ls 1 [(0, .int x)] := hl
  refine lv_iload_n hx hb dX3_crystalsByBarrel_0 rfl (lv_at hl 0 rfl) ?_
  refine lv_if_ne (tgt := 6) hx hb dX3_crystalsByBarrel_1 (by decide) (fun c_1 => ?_) (fun c_1 => ?_)
  · skip
    refine lv_iload_n hx hb dX3_crystalsByBarrel_6 rfl (lv_at hl 0 rfl) ?_
    refine lv_iconst (v := 1) hx hb dX3_crystalsByBarrel_7 (by decide) ?_
    refine lv_icmp_ne (tgt := 15) hx hb dX3_crystalsByBarrel_8 (by decide) (fun c_2 => ?_) (fun c_2 => ?_)
    · skip
      refine lv_iconst (v := 3) hx hb dX3_crystalsByBarrel_15 (by decide) ?_
      exact hend _ _ _ _ _ _ 3 () dX3_crystalsByBarrel_16 (by simp only [cby, eq_false c_1, eq_false c_2, if_true, if_false]) hP hD hS rfl (Nat.le_of_ble_eq_true rfl) (Nat.le_of_ble_eq_true rfl)
    · skip
      refine lv_iconst (v := 5) hx hb dX3_crystalsByBarrel_11 (by decide) ?_
      refine lv_goto (tgt := 16) hx hb dX3_crystalsByBarrel_12 (by decide) ?_
      exact hend _ _ _ _ _ _ 5 () dX3_crystalsByBarrel_16 (by simp only [cby, eq_false c_1, eq_true c_2, if_true, if_false]) hP hD hS rfl (Nat.le_of_ble_eq_true rfl) (Nat.le_of_ble_eq_true rfl)
  · skip
    refine lv_iconst (v := 2) hx hb dX3_crystalsByBarrel_4 (by decide) ?_
    exact hend _ _ _ _ _ _ 2 () dX3_crystalsByBarrel_5 (by simp only [cby, eq_true c_1, if_true, if_false]) hP hD hS rfl (Nat.le_of_ble_eq_true rfl) (Nat.le_of_ble_eq_true rfl)

def rm_X0_has : Room := { frames := 0, cells := 0, slots := 0, locals := 0 }
set_option maxHeartbeats 4000000 in
set_option maxRecDepth 100000 in
theorem c_X0_has (l : Launch) (D : va_G) (cI cZ cJ : ClassId) (h0 a1 a2 a3 a4 : Nat) (n : Nat) (x : Int32) (hn : n ≤ 4) : Mi l yX0_has cX0_has 2 (some .boolean) rm_X0_has D (TY cI cZ cJ) [.ref h0, .int x] [(h0, .inr (0, [.ref a1, .ref a2, .ref a3, .ref a4, .int (nI n)]))] (fun (r : Int32) (u : Unit) => (r = 1 ∧ ∃ j : Nat, j < n ∧ x = nI j) ∨ (r = 0 ∧ ¬ (0 ≤ x ∧ x < nI n))) (fun (u : Unit) => [(h0, .inr (0, [.ref a1, .ref a2, .ref a3, .ref a4, .int (nI n)]))]) := by
  refine Mi.ofQ (by decide) (Nat.le_of_ble_eq_true rfl) ?_
  intro p e s m args below meth c A ls Q hF hK hP hD hA hl hend
  obtain ⟨F, hr, hlocks, hG⟩ := hF
  have hx := F.1
  have hb := F.2.1
  have hown := F.2.2.2.1
  have ht := F.2.2.2.2
  have hS : va_S A s.heap s.heap [] := va_S.rf
  have hl : lv_has ls 2 [(0, .ref h0), (1, .int x)] := hl
  refine lv_iload_n hx hb dX0_has_0 rfl (lv_at hl 1 rfl) ?_
  refine lv_if_lt (tgt := 16) hx hb dX0_has_1 (by decide) (fun c_1 => ?_) (fun c_1 => ?_)
  · skip
    have c_1n := Int32.not_le.mpr c_1
    refine lv_iconst (v := 0) hx hb dX0_has_16 (by decide) ?_
    exact hend _ _ _ _ _ _ 0 () dX0_has_17 (Or.inr ⟨rfl, by simp [eq_true c_1, eq_false c_1n]⟩) hP hD hS (by decide) (Nat.le_of_ble_eq_true rfl) (Nat.le_of_ble_eq_true rfl)
  · skip
    have c_1n := Int32.not_lt.mp c_1
    refine lv_iload_n hx hb dX0_has_4 rfl (lv_at hl 1 rfl) ?_
    refine lv_aload_n hx hb dX0_has_5 rfl (lv_at hl 0 rfl) ?_
    refine va_get (D := D) (ci := 0) (v := .int (nI n)) (C := RX0) (T := TX0) (N := 5) hx hb ht inG_X0 hown hK hP 0 rfl rfl 4 (by decide) (ht _ qF_RX0_25) (fun _ h9 => h9) rfl dX0_has_6 ?_
    refine lv_icmp_ge (tgt := 16) hx hb dX0_has_9 (by decide) (fun c_2 => ?_) (fun c_2 => ?_)
    · skip
      have c_2n := Int32.not_lt.mpr c_2
      refine lv_iconst (v := 0) hx hb dX0_has_16 (by decide) ?_
      exact hend _ _ _ _ _ _ 0 () dX0_has_17 (Or.inr ⟨rfl, by simp [eq_false c_1, eq_true c_1n, eq_true c_2, eq_false c_2n]⟩) hP hD hS (by decide) (Nat.le_of_ble_eq_true rfl) (Nat.le_of_ble_eq_true rfl)
    · skip
      have c_2n := Int32.not_le.mp c_2
      refine lv_iconst (v := 1) hx hb dX0_has_12 (by decide) ?_
      refine lv_goto (tgt := 17) hx hb dX0_has_13 (by decide) ?_
      exact hend _ _ _ _ _ _ 1 () dX0_has_17 (Or.inl ⟨rfl, hasP (by omega) c_1 c_2⟩) hP hD hS (by decide) (Nat.le_of_ble_eq_true rfl) (Nat.le_of_ble_eq_true rfl)

def rm_X0_full : Room := { frames := 0, cells := 0, slots := 0, locals := 0 }
set_option maxHeartbeats 4000000 in
set_option maxRecDepth 100000 in
theorem c_X0_full (l : Launch) (D : va_G) (cI cZ cJ : ClassId) (h0 a1 a2 a3 a4 : Nat) (n : Nat) (hn : n ≤ 4) : Mi l yX0_full cX0_full 1 (some .boolean) rm_X0_full D (TY cI cZ cJ) [.ref h0] [(h0, .inr (0, [.ref a1, .ref a2, .ref a3, .ref a4, .int (nI n)]))] (fun (r : Int32) (u : Unit) => (r = 1 ∧ 4 ≤ n) ∨ (r = 0 ∧ n < 4)) (fun (u : Unit) => [(h0, .inr (0, [.ref a1, .ref a2, .ref a3, .ref a4, .int (nI n)]))]) := by
  refine Mi.ofQ (by decide) (Nat.le_of_ble_eq_true rfl) ?_
  intro p e s m args below meth c A ls Q hF hK hP hD hA hl hend
  obtain ⟨F, hr, hlocks, hG⟩ := hF
  have hx := F.1
  have hb := F.2.1
  have hown := F.2.2.2.1
  have ht := F.2.2.2.2
  have hS : va_S A s.heap s.heap [] := va_S.rf
  have hl : lv_has ls 1 [(0, .ref h0)] := hl
  refine lv_aload_n hx hb dX0_full_0 rfl (lv_at hl 0 rfl) ?_
  refine va_get (D := D) (ci := 0) (v := .int (nI n)) (C := RX0) (T := TX0) (N := 5) hx hb ht inG_X0 hown hK hP 0 rfl rfl 4 (by decide) (ht _ qF_RX0_25) (fun _ h9 => h9) rfl dX0_full_1 ?_
  refine lv_iconst (v := 4) hx hb dX0_full_4 (by decide) ?_
  refine lv_icmp_lt (tgt := 12) hx hb dX0_full_5 (by decide) (fun c_1 => ?_) (fun c_1 => ?_)
  · skip
    have c_1n := Int32.not_le.mpr c_1
    have c_1m := (nI_ltI (a := n) (b := 4) (by omega) (by omega)).mp c_1
    refine lv_iconst (v := 0) hx hb dX0_full_12 (by decide) ?_
    exact hend _ _ _ _ _ _ 0 () dX0_full_13 (Or.inr ⟨rfl, c_1m⟩) hP hD hS (by decide) (Nat.le_of_ble_eq_true rfl) (Nat.le_of_ble_eq_true rfl)
  · skip
    have c_1n := Int32.not_lt.mp c_1
    have c_1m := (nI_leI (a := 4) (b := n) (by omega) (by omega)).mp c_1n
    refine lv_iconst (v := 1) hx hb dX0_full_8 (by decide) ?_
    refine lv_goto (tgt := 13) hx hb dX0_full_9 (by decide) ?_
    exact hend _ _ _ _ _ _ 1 () dX0_full_13 (Or.inl ⟨rfl, c_1m⟩) hP hD hS (by decide) (Nat.le_of_ble_eq_true rfl) (Nat.le_of_ble_eq_true rfl)

def rm_X0_add : Room := { frames := 0, cells := 0, slots := 0, locals := 0 }
set_option maxHeartbeats 4000000 in
set_option maxRecDepth 100000 in
theorem c_X0_add (l : Launch) (D : va_G) (cI cZ cJ : ClassId) (h0 a1 a2 a3 a4 : Nat) (sh : Nat → Int32) (n : Nat) (x : Int32) (hn : n < 4) : Mi l yX0_add cX0_add 3 (some .int) rm_X0_add D (TY cI cZ cJ) [.ref h0, .int x] [(h0, .inr (0, [.ref a1, .ref a2, .ref a3, .ref a4, .int (nI n)])), (a1, .inl (cI, 4, .inl sh))] (fun (r : Int32) (u : (Nat → Int32)) => r = nI n ∧ u = upd sh n x) (fun (u : (Nat → Int32)) => [(h0, .inr (0, [.ref a1, .ref a2, .ref a3, .ref a4, .int (nI (n + 1))])), (a1, .inl (cI, 4, .inl u))]) := by
  refine Mi.ofQ (by decide) (Nat.le_of_ble_eq_true rfl) ?_
  intro p e s m args below meth c A ls Q hF hK hP hD hA hl hend
  obtain ⟨F, hr, hlocks, hG⟩ := hF
  have hx := F.1
  have hb := F.2.1
  have hown := F.2.2.2.1
  have ht := F.2.2.2.2
  have hS : va_S A s.heap s.heap [] := va_S.rf
  have hl : lv_has ls 3 [(0, .ref h0), (1, .int x)] := hl
  refine lv_aload_n hx hb dX0_add_0 rfl (lv_at hl 0 rfl) ?_
  refine va_get (D := D) (ci := 0) (v := .int (nI n)) (C := RX0) (T := TX0) (N := 5) hx hb ht inG_X0 hown hK hP 0 rfl rfl 4 (by decide) (ht _ qF_RX0_25) (fun _ h9 => h9) rfl dX0_add_1 ?_
  refine lv_istore_n (lv' := [(2, .int (nI n)), (0, .ref h0), (1, .int x)]) hx hb dX0_add_4 rfl hl (by decide) rfl (fun ls hl => ?_)
  refine lv_aload_n hx hb dX0_add_5 rfl (lv_at hl 1 rfl) ?_
  refine va_get (D := D) (ci := 0) (v := .ref a1) (C := RX0) (T := TX0) (N := 5) hx hb ht inG_X0 hown hK hP 0 rfl rfl 0 (by decide) (ht _ qF_RX0_9) (fun _ h9 => h9) rfl dX0_add_6 ?_
  refine lv_iload_n hx hb dX0_add_9 rfl (lv_at hl 0 rfl) ?_
  refine lv_iload_n hx hb dX0_add_10 rfl (lv_at hl 2 rfl) ?_
  refine sI_ hx hb hK hP hD hS 1 0 rfl rfl n (rfl) (by omega) (by decide) (upd sh n x) (rfl) dX0_add_11 (fun H locs hP hD hS => ?_)
  have hP : va_P D vwCl [(h0, .inr (0, [.ref a1, .ref a2, .ref a3, .ref a4, .int (nI n)])), (a1, .inl (cI, 4, .inl (upd sh n x)))] _ := hP
  have hD : va_D A [(h0, .inr (0, [.ref a1, .ref a2, .ref a3, .ref a4, .int (nI n)])), (a1, .inl (cI, 4, .inl (upd sh n x)))] := hD
  refine lv_aload_n hx hb dX0_add_12 rfl (lv_at hl 1 rfl) ?_
  refine lv_dup hx hb dX0_add_13 rfl ?_
  refine va_get (D := D) (ci := 0) (v := .int (nI n)) (C := RX0) (T := TX0) (N := 5) hx hb ht inG_X0 hown hK hP 0 rfl rfl 4 (by decide) (ht _ qF_RX0_25) (fun _ h9 => h9) rfl dX0_add_14 ?_
  refine lv_iconst (v := 1) hx hb dX0_add_17 (by decide) ?_
  refine lv_iadd hx hb dX0_add_18 ?_
  refine t_i (nI (n + 1)) (nI_1 n) ?_
  refine va_put (D := D) (ci := 0) (v := .int (nI (n + 1))) (C := RX0) (T := TX0) (N := 5) hx hb ht inG_X0 tyX0 tyX0_ok nmX0 hown hK hP hD hS 0 rfl rfl 4 (by decide) (ht _ qF_RX0_25) (fun _ h9 => h9) rfl (tyX0_ok 4 (by decide)) rfl rfl (Nat.le_of_ble_eq_true rfl) dX0_add_19 (fun H locs hP hD hS => ?_)
  have hP : va_P D vwCl [(h0, .inr (0, [.ref a1, .ref a2, .ref a3, .ref a4, .int (nI (n + 1))])), (a1, .inl (cI, 4, .inl (upd sh n x)))] _ := hP
  have hD : va_D A [(h0, .inr (0, [.ref a1, .ref a2, .ref a3, .ref a4, .int (nI (n + 1))])), (a1, .inl (cI, 4, .inl (upd sh n x)))] := hD
  refine lv_iload_n hx hb dX0_add_22 rfl (lv_at hl 0 rfl) ?_
  exact hend _ _ _ _ _ _ (nI n) (upd sh n x) dX0_add_23 (⟨rfl, rfl⟩) hP hD hS rfl (Nat.le_of_ble_eq_true rfl) (Nat.le_of_ble_eq_true rfl)

def rm_X0_tell : Room := { frames := 0, cells := 0, slots := 0, locals := 0 }
set_option maxHeartbeats 4000000 in
set_option maxRecDepth 100000 in
theorem c_X0_tell (l : Launch) (D : va_G) (cI cZ cJ : ClassId) (h0 a1 a2 a3 a4 : Nat) (sh co bu fl : Nat → Int32) (n k : Nat) (x : Int32) (hk : k < 4) : Mi l yX0_tell cX0_tell 3 (some .int) rm_X0_tell D (TY cI cZ cJ) [.ref h0, .int (nI k), .int x] [(h0, .inr (0, [.ref a1, .ref a2, .ref a3, .ref a4, .int (nI n)])), (a1, .inl (cI, 4, .inl sh)), (a2, .inl (cI, 4, .inl co)), (a3, .inl (cI, 4, .inl bu)), (a4, .inl (cZ, 4, .inl fl))] (fun (r : Int32) (u : Unit) => r = ctell sh co bu fl k x) (fun (u : Unit) => [(h0, .inr (0, [.ref a1, .ref a2, .ref a3, .ref a4, .int (nI n)])), (a1, .inl (cI, 4, .inl sh)), (a2, .inl (cI, 4, .inl co)), (a3, .inl (cI, 4, .inl bu)), (a4, .inl (cZ, 4, .inl fl))]) := by
  refine Mi.ofQ (by decide) (Nat.le_of_ble_eq_true rfl) ?_
  intro p e s m args below meth c A ls Q hF hK hP hD hA hl hend
  obtain ⟨F, hr, hlocks, hG⟩ := hF
  have hx := F.1
  have hb := F.2.1
  have hown := F.2.2.2.1
  have ht := F.2.2.2.2
  have hS : va_S A s.heap s.heap [] := va_S.rf
  have hl : lv_has ls 3 [(0, .ref h0), (1, .int (nI k)), (2, .int x)] := hl
  refine lv_iload_n hx hb dX0_tell_0 rfl (lv_at hl 2 rfl) ?_
  have w_1 : Int32.toInt x = 0 ∨ Int32.toInt x = 1 ∨ Int32.toInt x = 2 ∨ (Int32.toInt x < 0 ∨ 2 < Int32.toInt x) := by omega
  rcases w_1 with w_1 | w_1 | w_1 | w_1
  · skip
    refine lv_tableIn (off := 27) (tgt := 28) hx hb dX0_tell_1 (by rw [w_1]; decide) (by rw [w_1]; decide) (by rw [w_1]; rfl) (by decide) ?_
    have w_1e : x = 0 := Int32.toInt_inj.mp w_1
    have w_1n1 : ¬ x = 1 := fun q => by rw [q] at w_1; revert w_1; decide
    have w_1n2 : ¬ x = 2 := fun q => by rw [q] at w_1; revert w_1; decide
    refine lv_aload_n hx hb dX0_tell_28 rfl (lv_at hl 0 rfl) ?_
    refine va_get (D := D) (ci := 0) (v := .ref a1) (C := RX0) (T := TX0) (N := 5) hx hb ht inG_X0 hown hK hP 0 rfl rfl 0 (by decide) (ht _ qF_RX0_9) (fun _ h9 => h9) rfl dX0_tell_29 ?_
    refine lv_iload_n hx hb dX0_tell_32 rfl (lv_at hl 1 rfl) ?_
    refine aI hx hb hK hP 1 0 rfl rfl k (rfl) (by omega) (by decide) (v := sh k) (rfl) dX0_tell_33 ?_
    exact hend _ _ _ _ _ _ (sh k) () dX0_tell_34 (by simp only [ctell, b01, eq_true w_1e, eq_false w_1n1, eq_false w_1n2, if_true, if_false]) hP hD hS rfl (Nat.le_of_ble_eq_true rfl) (Nat.le_of_ble_eq_true rfl)
  · skip
    refine lv_tableIn (off := 34) (tgt := 35) hx hb dX0_tell_1 (by rw [w_1]; decide) (by rw [w_1]; decide) (by rw [w_1]; rfl) (by decide) ?_
    have w_1e : x = 1 := Int32.toInt_inj.mp w_1
    have w_1n0 : ¬ x = 0 := fun q => by rw [q] at w_1; revert w_1; decide
    have w_1n2 : ¬ x = 2 := fun q => by rw [q] at w_1; revert w_1; decide
    refine lv_aload_n hx hb dX0_tell_35 rfl (lv_at hl 0 rfl) ?_
    refine va_get (D := D) (ci := 0) (v := .ref a2) (C := RX0) (T := TX0) (N := 5) hx hb ht inG_X0 hown hK hP 0 rfl rfl 1 (by decide) (ht _ qF_RX0_15) (fun _ h9 => h9) rfl dX0_tell_36 ?_
    refine lv_iload_n hx hb dX0_tell_39 rfl (lv_at hl 1 rfl) ?_
    refine aI hx hb hK hP 2 0 rfl rfl k (rfl) (by omega) (by decide) (v := co k) (rfl) dX0_tell_40 ?_
    exact hend _ _ _ _ _ _ (co k) () dX0_tell_41 (by simp only [ctell, b01, eq_true w_1e, eq_false w_1n0, eq_false w_1n2, if_true, if_false]) hP hD hS rfl (Nat.le_of_ble_eq_true rfl) (Nat.le_of_ble_eq_true rfl)
  · skip
    refine lv_tableIn (off := 41) (tgt := 42) hx hb dX0_tell_1 (by rw [w_1]; decide) (by rw [w_1]; decide) (by rw [w_1]; rfl) (by decide) ?_
    have w_1e : x = 2 := Int32.toInt_inj.mp w_1
    have w_1n0 : ¬ x = 0 := fun q => by rw [q] at w_1; revert w_1; decide
    have w_1n1 : ¬ x = 1 := fun q => by rw [q] at w_1; revert w_1; decide
    refine lv_aload_n hx hb dX0_tell_42 rfl (lv_at hl 0 rfl) ?_
    refine va_get (D := D) (ci := 0) (v := .ref a3) (C := RX0) (T := TX0) (N := 5) hx hb ht inG_X0 hown hK hP 0 rfl rfl 2 (by decide) (ht _ qF_RX0_18) (fun _ h9 => h9) rfl dX0_tell_43 ?_
    refine lv_iload_n hx hb dX0_tell_46 rfl (lv_at hl 1 rfl) ?_
    refine aI hx hb hK hP 3 0 rfl rfl k (rfl) (by omega) (by decide) (v := bu k) (rfl) dX0_tell_47 ?_
    exact hend _ _ _ _ _ _ (bu k) () dX0_tell_48 (by simp only [ctell, b01, eq_true w_1e, eq_false w_1n0, eq_false w_1n1, if_true, if_false]) hP hD hS rfl (Nat.le_of_ble_eq_true rfl) (Nat.le_of_ble_eq_true rfl)
  · skip
    refine lv_tableOut (tgt := 49) hx hb dX0_tell_1 w_1 (by decide) ?_
    have w_1n0 : ¬ x = 0 := fun q => by rw [q] at w_1; revert w_1; decide
    have w_1n1 : ¬ x = 1 := fun q => by rw [q] at w_1; revert w_1; decide
    have w_1n2 : ¬ x = 2 := fun q => by rw [q] at w_1; revert w_1; decide
    refine lv_aload_n hx hb dX0_tell_49 rfl (lv_at hl 0 rfl) ?_
    refine va_get (D := D) (ci := 0) (v := .ref a4) (C := RX0) (T := TX0) (N := 5) hx hb ht inG_X0 hown hK hP 0 rfl rfl 3 (by decide) (ht _ qF_RX0_21) (fun _ h9 => h9) rfl dX0_tell_50 ?_
    refine lv_iload_n hx hb dX0_tell_53 rfl (lv_at hl 1 rfl) ?_
    refine aZ hx hb hK hP 4 1 rfl rfl k (rfl) (by omega) (by decide) (v := fl k) (rfl) dX0_tell_54 ?_
    refine lv_if_eq (tgt := 62) hx hb dX0_tell_55 (by decide) (fun c_2 => ?_) (fun c_2 => ?_)
    · skip
      refine lv_iconst (v := 0) hx hb dX0_tell_62 (by decide) ?_
      exact hend _ _ _ _ _ _ 0 () dX0_tell_63 (by simp only [ctell, b01, eq_false w_1n0, eq_false w_1n1, eq_false w_1n2, eq_true c_2, if_true, if_false]) hP hD hS rfl (Nat.le_of_ble_eq_true rfl) (Nat.le_of_ble_eq_true rfl)
    · skip
      refine lv_iconst (v := 1) hx hb dX0_tell_58 (by decide) ?_
      refine lv_goto (tgt := 63) hx hb dX0_tell_59 (by decide) ?_
      exact hend _ _ _ _ _ _ 1 () dX0_tell_63 (by simp only [ctell, b01, eq_false w_1n0, eq_false w_1n1, eq_false w_1n2, eq_false c_2, if_true, if_false]) hP hD hS rfl (Nat.le_of_ble_eq_true rfl) (Nat.le_of_ble_eq_true rfl)

def rm_X0_burning : Room := { frames := 0, cells := 0, slots := 0, locals := 0 }
set_option maxHeartbeats 4000000 in
set_option maxRecDepth 100000 in
theorem c_X0_burning (l : Launch) (D : va_G) (cI cZ cJ : ClassId) (h0 a1 a2 a3 a4 : Nat) (fl : Nat → Int32) (n : Nat) (hn : n ≤ 4) : Mi l yX0_burning cX0_burning 3 (some .int) rm_X0_burning D (TY cI cZ cJ) [.ref h0] [(h0, .inr (0, [.ref a1, .ref a2, .ref a3, .ref a4, .int (nI n)])), (a4, .inl (cZ, 4, .inl fl))] (fun (r : Int32) (u : Unit) => r = sumF (fun j => b01 (fl j)) n) (fun (u : Unit) => [(h0, .inr (0, [.ref a1, .ref a2, .ref a3, .ref a4, .int (nI n)])), (a4, .inl (cZ, 4, .inl fl))]) := by
  refine Mi.ofQ (by decide) (Nat.le_of_ble_eq_true rfl) ?_
  intro p e s m args below meth c A ls Q hF hK hP hD hA hl hend
  obtain ⟨F, hr, hlocks, hG⟩ := hF
  have hx := F.1
  have hb := F.2.1
  have hown := F.2.2.2.1
  have ht := F.2.2.2.2
  have hS : va_S A s.heap s.heap [] := va_S.rf
  have hl : lv_has ls 3 [(0, .ref h0)] := hl
  refine lv_iconst (v := 0) hx hb dX0_burning_0 (by decide) ?_
  refine lv_istore_n (lv' := [(1, .int 0), (0, .ref h0)]) hx hb dX0_burning_1 rfl hl (by decide) rfl (fun ls hl => ?_)
  refine lv_iconst (v := 0) hx hb dX0_burning_2 (by decide) ?_
  refine lv_istore_n (lv' := [(2, .int 0), (1, .int 0), (0, .ref h0)]) hx hb dX0_burning_3 rfl hl (by decide) rfl (fun ls hl => ?_)
  have loop4 : ∀ (kf i : Nat), i ≤ n → n < i + kf → ∀ (sm : Int32), sm = sumF (fun j => b01 (fl j)) i → ∀ (H : Heap) (locs : List Loc), va_P D vwCl [(h0, .inr (0, [.ref a1, .ref a2, .ref a3, .ref a4, .int (nI n)])), (a4, .inl (cZ, 4, .inl fl))] H → va_D A [(h0, .inr (0, [.ref a1, .ref a2, .ref a3, .ref a4, .int (nI n)])), (a4, .inl (cZ, 4, .inl fl))] → va_S A s.heap H locs → ∀ (ls : Array Slot), lv_has ls 3 [(0, .ref h0), (1, .int sm), (2, .int (nI i))] → W p l e rm_X0_burning s m args below meth c H locs 0 0 Q (F0 m 4 ls []) := by
    intro kf
    induction kf with
    | zero =>
      intro i hle hlt
      exact absurd hlt (by omega)
    | succ kf ih =>
      intro i hle hlt sm e_sm H locs hP hD hS ls hl
      refine lv_iload_n hx hb dX0_burning_4 rfl (lv_at hl 2 rfl) ?_
      refine lv_aload_n hx hb dX0_burning_5 rfl (lv_at hl 0 rfl) ?_
      refine va_get (D := D) (ci := 0) (v := .int (nI n)) (C := RX0) (T := TX0) (N := 5) hx hb ht inG_X0 hown hK hP 0 rfl rfl 4 (by decide) (ht _ qF_RX0_25) (fun _ h9 => h9) rfl dX0_burning_6 ?_
      refine lv_icmp_ge (tgt := 30) hx hb dX0_burning_9 (by decide) (fun c_1 => ?_) (fun c_1 => ?_)
      · skip
        have c_1n := Int32.not_lt.mpr c_1
        have c_1m := (nI_leI (a := n) (b := i) (by omega) (by omega)).mp c_1
        refine lv_iload_n hx hb dX0_burning_30 rfl (lv_at hl 1 rfl) ?_
        exact hend _ _ _ _ _ _ sm () dX0_burning_31 (by rw [e_sm, show i = n by omega]) hP hD hS rfl (Nat.le_of_ble_eq_true rfl) (Nat.le_of_ble_eq_true rfl)
      · skip
        have c_1n := Int32.not_le.mp c_1
        have c_1m := (nI_ltI (a := i) (b := n) (by omega) (by omega)).mp c_1n
        refine lv_aload_n hx hb dX0_burning_12 rfl (lv_at hl 0 rfl) ?_
        refine va_get (D := D) (ci := 0) (v := .ref a4) (C := RX0) (T := TX0) (N := 5) hx hb ht inG_X0 hown hK hP 0 rfl rfl 3 (by decide) (ht _ qF_RX0_21) (fun _ h9 => h9) rfl dX0_burning_13 ?_
        refine lv_iload_n hx hb dX0_burning_16 rfl (lv_at hl 2 rfl) ?_
        refine aZ hx hb hK hP 1 1 rfl rfl i (rfl) (by omega) (by decide) (v := fl i) (rfl) dX0_burning_17 ?_
        refine lv_if_eq (tgt := 24) hx hb dX0_burning_18 (by decide) (fun c_2 => ?_) (fun c_2 => ?_)
        · skip
          refine lv_iinc (v := nI (i + 1)) (lv' := [(2, .int (nI (i + 1))), (0, .ref h0), (1, .int sm)]) hx hb dX0_burning_24 hl (k := 2) rfl (nI_1 i) (by decide) rfl (fun ls hl => ?_)
          refine lv_goto (tgt := 4) hx hb dX0_burning_27 (by decide) ?_
          exact ih (i + 1) (by omega) (by omega) sm (by rw [e_sm]; simp only [sumF, b01, eq_false c_1, eq_true c_1n, eq_true c_2, if_true, if_false, Int32.add_zero]) _ _ (hP.sub [0, 1] rfl) (hD.sub [0, 1] (by decide) rfl) hS _ (lv_sub hl [1, 2, 0] rfl)
        · skip
          refine lv_iinc (v := sm + 1) (lv' := [(1, .int (sm + 1)), (0, .ref h0), (2, .int (nI i))]) hx hb dX0_burning_21 hl (k := 1) rfl (rfl) (by decide) rfl (fun ls hl => ?_)
          refine lv_iinc (v := nI (i + 1)) (lv' := [(2, .int (nI (i + 1))), (1, .int (sm + 1)), (0, .ref h0)]) hx hb dX0_burning_24 hl (k := 2) rfl (nI_1 i) (by decide) rfl (fun ls hl => ?_)
          refine lv_goto (tgt := 4) hx hb dX0_burning_27 (by decide) ?_
          exact ih (i + 1) (by omega) (by omega) (sm + 1) (by rw [e_sm]; simp only [sumF, b01, eq_false c_1, eq_true c_1n, eq_false c_2, if_true, if_false, Int32.add_zero]) _ _ (hP.sub [0, 1] rfl) (hD.sub [0, 1] (by decide) rfl) hS _ (lv_sub hl [2, 1, 0] rfl)
  exact loop4 (n + 1) 0 (Nat.zero_le _) (by omega) 0 rfl _ _ (hP.sub [0, 1] rfl) (hD.sub [0, 1] (by decide) rfl) hS _ (lv_sub hl [2, 1, 0] rfl)

def rm_X0_burnOne : Room := { frames := 1, cells := 0, slots := 0, locals := 21 }
set_option maxHeartbeats 4000000 in
set_option maxRecDepth 100000 in
theorem c_X0_burnOne (l : Launch) (D : va_G) (cI cZ cJ : ClassId) (h0 a1 a2 a3 a4 : Nat) (sh co bu fl : Nat → Int32) (n k : Nat) (x : Int32) (hk : k < 4) : Mv l yX0_burnOne cX0_burnOne 4 rm_X0_burnOne D (TY cI cZ cJ) [.ref h0, .int (nI k), .int x] [(h0, .inr (0, [.ref a1, .ref a2, .ref a3, .ref a4, .int (nI n)])), (a1, .inl (cI, 4, .inl sh)), (a2, .inl (cI, 4, .inl co)), (a3, .inl (cI, 4, .inl bu)), (a4, .inl (cZ, 4, .inl fl))] (fun (u : (Nat → Int32) × (Nat → Int32) × (Nat → Int32) × (Nat → Int32)) => u.1 = upd sh k (sh k - mn x (sh k)) ∧ u.2.1 = upd co k (mx 0 (co k - 2)) ∧ u.2.2.1 = upd bu k (bu k + mn x (sh k)) ∧ u.2.2.2 = upd fl k (bFl (mx 0 (co k - 2)) (sh k - mn x (sh k)))) (fun (u : (Nat → Int32) × (Nat → Int32) × (Nat → Int32) × (Nat → Int32)) => [(h0, .inr (0, [.ref a1, .ref a2, .ref a3, .ref a4, .int (nI n)])), (a1, .inl (cI, 4, .inl u.1)), (a2, .inl (cI, 4, .inl u.2.1)), (a3, .inl (cI, 4, .inl u.2.2.1)), (a4, .inl (cZ, 4, .inl u.2.2.2))]) := by
  refine Mv.ofQ (by decide) (Nat.le_of_ble_eq_true rfl) ?_
  intro p e s m args below meth c A ls Q hF hK hP hD hA hl hend hin
  obtain ⟨F, hr, hlocks, hG⟩ := hF
  have hx := F.1
  have hb := F.2.1
  have hown := F.2.2.2.1
  have ht := F.2.2.2.2
  have hS : va_S A s.heap s.heap [] := va_S.rf
  have hl : lv_has ls 4 [(0, .ref h0), (1, .int (nI k)), (2, .int x)] := hl
  refine lv_iload_n hx hb dX0_burnOne_0 rfl (lv_at hl 2 rfl) ?_
  refine lv_aload_n hx hb dX0_burnOne_1 rfl (lv_at hl 0 rfl) ?_
  refine va_get (D := D) (ci := 0) (v := .ref a1) (C := RX0) (T := TX0) (N := 5) hx hb ht inG_X0 hown hK hP 0 rfl rfl 0 (by decide) (ht _ qF_RX0_9) (fun _ h9 => h9) rfl dX0_burnOne_2 ?_
  refine lv_iload_n hx hb dX0_burnOne_5 rfl (lv_at hl 1 rfl) ?_
  refine aI hx hb hK hP 1 0 rfl rfl k (rfl) (by omega) (by decide) (v := sh k) (rfl) dX0_burnOne_6 ?_
  refine k_min F qM_RX0_33 hl.1 (Nat.le_of_ble_eq_true rfl) (Nat.le_of_ble_eq_true rfl) (Nat.le_of_ble_eq_true rfl) (Nat.le_of_ble_eq_true rfl) dX0_burnOne_7 ?_
  refine lv_istore_n (lv' := [(3, .int (mn x (sh k))), (0, .ref h0), (1, .int (nI k)), (2, .int x)]) hx hb dX0_burnOne_10 rfl hl (by decide) rfl (fun ls hl => ?_)
  refine lv_aload_n hx hb dX0_burnOne_11 rfl (lv_at hl 1 rfl) ?_
  refine va_get (D := D) (ci := 0) (v := .ref a2) (C := RX0) (T := TX0) (N := 5) hx hb ht inG_X0 hown hK hP 0 rfl rfl 1 (by decide) (ht _ qF_RX0_15) (fun _ h9 => h9) rfl dX0_burnOne_12 ?_
  refine lv_iload_n hx hb dX0_burnOne_15 rfl (lv_at hl 2 rfl) ?_
  refine lv_iconst (v := 0) hx hb dX0_burnOne_16 (by decide) ?_
  refine lv_aload_n hx hb dX0_burnOne_17 rfl (lv_at hl 1 rfl) ?_
  refine va_get (D := D) (ci := 0) (v := .ref a2) (C := RX0) (T := TX0) (N := 5) hx hb ht inG_X0 hown hK hP 0 rfl rfl 1 (by decide) (ht _ qF_RX0_15) (fun _ h9 => h9) rfl dX0_burnOne_18 ?_
  refine lv_iload_n hx hb dX0_burnOne_21 rfl (lv_at hl 2 rfl) ?_
  refine aI hx hb hK hP 2 0 rfl rfl k (rfl) (by omega) (by decide) (v := co k) (rfl) dX0_burnOne_22 ?_
  refine lv_iconst (v := 2) hx hb dX0_burnOne_23 (by decide) ?_
  refine lv_isub hx hb dX0_burnOne_24 ?_
  refine k_max F qM_RX0_39 hl.1 (Nat.le_of_ble_eq_true rfl) (Nat.le_of_ble_eq_true rfl) (Nat.le_of_ble_eq_true rfl) (Nat.le_of_ble_eq_true rfl) dX0_burnOne_25 ?_
  refine sI_ hx hb hK hP hD hS 2 0 rfl rfl k (rfl) (by omega) (by decide) (upd co k (mx 0 ((co k) - 2))) (rfl) dX0_burnOne_28 (fun H locs hP hD hS => ?_)
  have hP : va_P D vwCl [(h0, .inr (0, [.ref a1, .ref a2, .ref a3, .ref a4, .int (nI n)])), (a1, .inl (cI, 4, .inl sh)), (a2, .inl (cI, 4, .inl (upd co k (mx 0 ((co k) - 2))))), (a3, .inl (cI, 4, .inl bu)), (a4, .inl (cZ, 4, .inl fl))] _ := hP
  have hD : va_D A [(h0, .inr (0, [.ref a1, .ref a2, .ref a3, .ref a4, .int (nI n)])), (a1, .inl (cI, 4, .inl sh)), (a2, .inl (cI, 4, .inl (upd co k (mx 0 ((co k) - 2))))), (a3, .inl (cI, 4, .inl bu)), (a4, .inl (cZ, 4, .inl fl))] := hD
  refine lv_aload_n hx hb dX0_burnOne_29 rfl (lv_at hl 1 rfl) ?_
  refine va_get (D := D) (ci := 0) (v := .ref a1) (C := RX0) (T := TX0) (N := 5) hx hb ht inG_X0 hown hK hP 0 rfl rfl 0 (by decide) (ht _ qF_RX0_9) (fun _ h9 => h9) rfl dX0_burnOne_30 ?_
  refine lv_iload_n hx hb dX0_burnOne_33 rfl (lv_at hl 2 rfl) ?_
  refine lv_dup2_11 hx hb dX0_burnOne_34 rfl rfl ?_
  refine aI hx hb hK hP 1 0 rfl rfl k (rfl) (by omega) (by decide) (v := sh k) (rfl) dX0_burnOne_35 ?_
  refine lv_iload_n hx hb dX0_burnOne_36 rfl (lv_at hl 0 rfl) ?_
  refine lv_isub hx hb dX0_burnOne_37 ?_
  refine sI_ hx hb hK hP hD hS 1 0 rfl rfl k (rfl) (by omega) (by decide) (upd sh k ((sh k) - (mn x (sh k)))) (rfl) dX0_burnOne_38 (fun H locs hP hD hS => ?_)
  have hP : va_P D vwCl [(h0, .inr (0, [.ref a1, .ref a2, .ref a3, .ref a4, .int (nI n)])), (a1, .inl (cI, 4, .inl (upd sh k ((sh k) - (mn x (sh k)))))), (a2, .inl (cI, 4, .inl (upd co k (mx 0 ((co k) - 2))))), (a3, .inl (cI, 4, .inl bu)), (a4, .inl (cZ, 4, .inl fl))] _ := hP
  have hD : va_D A [(h0, .inr (0, [.ref a1, .ref a2, .ref a3, .ref a4, .int (nI n)])), (a1, .inl (cI, 4, .inl (upd sh k ((sh k) - (mn x (sh k)))))), (a2, .inl (cI, 4, .inl (upd co k (mx 0 ((co k) - 2))))), (a3, .inl (cI, 4, .inl bu)), (a4, .inl (cZ, 4, .inl fl))] := hD
  refine lv_aload_n hx hb dX0_burnOne_39 rfl (lv_at hl 1 rfl) ?_
  refine va_get (D := D) (ci := 0) (v := .ref a3) (C := RX0) (T := TX0) (N := 5) hx hb ht inG_X0 hown hK hP 0 rfl rfl 2 (by decide) (ht _ qF_RX0_18) (fun _ h9 => h9) rfl dX0_burnOne_40 ?_
  refine lv_iload_n hx hb dX0_burnOne_43 rfl (lv_at hl 2 rfl) ?_
  refine lv_dup2_11 hx hb dX0_burnOne_44 rfl rfl ?_
  refine aI hx hb hK hP 3 0 rfl rfl k (rfl) (by omega) (by decide) (v := bu k) (rfl) dX0_burnOne_45 ?_
  refine lv_iload_n hx hb dX0_burnOne_46 rfl (lv_at hl 0 rfl) ?_
  refine lv_iadd hx hb dX0_burnOne_47 ?_
  refine sI_ hx hb hK hP hD hS 3 0 rfl rfl k (rfl) (by omega) (by decide) (upd bu k ((bu k) + (mn x (sh k)))) (rfl) dX0_burnOne_48 (fun H locs hP hD hS => ?_)
  have hP : va_P D vwCl [(h0, .inr (0, [.ref a1, .ref a2, .ref a3, .ref a4, .int (nI n)])), (a1, .inl (cI, 4, .inl (upd sh k ((sh k) - (mn x (sh k)))))), (a2, .inl (cI, 4, .inl (upd co k (mx 0 ((co k) - 2))))), (a3, .inl (cI, 4, .inl (upd bu k ((bu k) + (mn x (sh k)))))), (a4, .inl (cZ, 4, .inl fl))] _ := hP
  have hD : va_D A [(h0, .inr (0, [.ref a1, .ref a2, .ref a3, .ref a4, .int (nI n)])), (a1, .inl (cI, 4, .inl (upd sh k ((sh k) - (mn x (sh k)))))), (a2, .inl (cI, 4, .inl (upd co k (mx 0 ((co k) - 2))))), (a3, .inl (cI, 4, .inl (upd bu k ((bu k) + (mn x (sh k)))))), (a4, .inl (cZ, 4, .inl fl))] := hD
  refine lv_aload_n hx hb dX0_burnOne_49 rfl (lv_at hl 1 rfl) ?_
  refine va_get (D := D) (ci := 0) (v := .ref a4) (C := RX0) (T := TX0) (N := 5) hx hb ht inG_X0 hown hK hP 0 rfl rfl 3 (by decide) (ht _ qF_RX0_21) (fun _ h9 => h9) rfl dX0_burnOne_50 ?_
  refine lv_iload_n hx hb dX0_burnOne_53 rfl (lv_at hl 2 rfl) ?_
  refine lv_aload_n hx hb dX0_burnOne_54 rfl (lv_at hl 1 rfl) ?_
  refine va_get (D := D) (ci := 0) (v := .ref a2) (C := RX0) (T := TX0) (N := 5) hx hb ht inG_X0 hown hK hP 0 rfl rfl 1 (by decide) (ht _ qF_RX0_15) (fun _ h9 => h9) rfl dX0_burnOne_55 ?_
  refine lv_iload_n hx hb dX0_burnOne_58 rfl (lv_at hl 2 rfl) ?_
  refine aI hx hb hK hP 2 0 rfl rfl k (rfl) (by omega) (by decide) (v := mx 0 ((co k) - 2)) (pk_us) dX0_burnOne_59 ?_
  refine lv_if_le (tgt := 76) hx hb dX0_burnOne_60 (by decide) (fun c_1 => ?_) (fun c_1 => ?_)
  · skip
    have c_1n := Int32.not_lt.mpr c_1
    refine lv_iconst (v := 0) hx hb dX0_burnOne_76 (by decide) ?_
    refine sZ_ hx hb hK hP hD hS 4 1 rfl rfl k (rfl) (by omega) (by decide) (by decide) (upd fl k 0) (rfl) dX0_burnOne_77 (fun H locs hP hD hS => ?_)
    have hP : va_P D vwCl [(h0, .inr (0, [.ref a1, .ref a2, .ref a3, .ref a4, .int (nI n)])), (a1, .inl (cI, 4, .inl (upd sh k ((sh k) - (mn x (sh k)))))), (a2, .inl (cI, 4, .inl (upd co k (mx 0 ((co k) - 2))))), (a3, .inl (cI, 4, .inl (upd bu k ((bu k) + (mn x (sh k)))))), (a4, .inl (cZ, 4, .inl (upd fl k 0)))] _ := hP
    have hD : va_D A [(h0, .inr (0, [.ref a1, .ref a2, .ref a3, .ref a4, .int (nI n)])), (a1, .inl (cI, 4, .inl (upd sh k ((sh k) - (mn x (sh k)))))), (a2, .inl (cI, 4, .inl (upd co k (mx 0 ((co k) - 2))))), (a3, .inl (cI, 4, .inl (upd bu k ((bu k) + (mn x (sh k)))))), (a4, .inl (cZ, 4, .inl (upd fl k 0)))] := hD
    exact hend _ _ _ _ _ _ (upd sh k ((sh k) - (mn x (sh k))), upd co k (mx 0 ((co k) - 2)), upd bu k ((bu k) + (mn x (sh k))), upd fl k 0) dX0_burnOne_78 (⟨rfl, rfl, rfl, by simp only [bFl, eq_true c_1, eq_false c_1n, if_true, if_false]⟩) hP hD hS (Nat.le_of_ble_eq_true rfl) (Nat.le_of_ble_eq_true rfl)
  · skip
    have c_1n := Int32.not_le.mp c_1
    refine lv_aload_n hx hb dX0_burnOne_63 rfl (lv_at hl 1 rfl) ?_
    refine va_get (D := D) (ci := 0) (v := .ref a1) (C := RX0) (T := TX0) (N := 5) hx hb ht inG_X0 hown hK hP 0 rfl rfl 0 (by decide) (ht _ qF_RX0_9) (fun _ h9 => h9) rfl dX0_burnOne_64 ?_
    refine lv_iload_n hx hb dX0_burnOne_67 rfl (lv_at hl 2 rfl) ?_
    refine aI hx hb hK hP 1 0 rfl rfl k (rfl) (by omega) (by decide) (v := (sh k) - (mn x (sh k))) (pk_us) dX0_burnOne_68 ?_
    refine lv_if_le (tgt := 76) hx hb dX0_burnOne_69 (by decide) (fun c_2 => ?_) (fun c_2 => ?_)
    · skip
      have c_2n := Int32.not_lt.mpr c_2
      refine lv_iconst (v := 0) hx hb dX0_burnOne_76 (by decide) ?_
      refine sZ_ hx hb hK hP hD hS 4 1 rfl rfl k (rfl) (by omega) (by decide) (by decide) (upd fl k 0) (rfl) dX0_burnOne_77 (fun H locs hP hD hS => ?_)
      have hP : va_P D vwCl [(h0, .inr (0, [.ref a1, .ref a2, .ref a3, .ref a4, .int (nI n)])), (a1, .inl (cI, 4, .inl (upd sh k ((sh k) - (mn x (sh k)))))), (a2, .inl (cI, 4, .inl (upd co k (mx 0 ((co k) - 2))))), (a3, .inl (cI, 4, .inl (upd bu k ((bu k) + (mn x (sh k)))))), (a4, .inl (cZ, 4, .inl (upd fl k 0)))] _ := hP
      have hD : va_D A [(h0, .inr (0, [.ref a1, .ref a2, .ref a3, .ref a4, .int (nI n)])), (a1, .inl (cI, 4, .inl (upd sh k ((sh k) - (mn x (sh k)))))), (a2, .inl (cI, 4, .inl (upd co k (mx 0 ((co k) - 2))))), (a3, .inl (cI, 4, .inl (upd bu k ((bu k) + (mn x (sh k)))))), (a4, .inl (cZ, 4, .inl (upd fl k 0)))] := hD
      exact hend _ _ _ _ _ _ (upd sh k ((sh k) - (mn x (sh k))), upd co k (mx 0 ((co k) - 2)), upd bu k ((bu k) + (mn x (sh k))), upd fl k 0) dX0_burnOne_78 (⟨rfl, rfl, rfl, by simp only [bFl, eq_false c_1, eq_true c_1n, eq_true c_2, eq_false c_2n, if_true, if_false]⟩) hP hD hS (Nat.le_of_ble_eq_true rfl) (Nat.le_of_ble_eq_true rfl)
    · skip
      have c_2n := Int32.not_le.mp c_2
      refine lv_iconst (v := 1) hx hb dX0_burnOne_72 (by decide) ?_
      refine lv_goto (tgt := 77) hx hb dX0_burnOne_73 (by decide) ?_
      refine sZ_ hx hb hK hP hD hS 4 1 rfl rfl k (rfl) (by omega) (by decide) (by decide) (upd fl k 1) (rfl) dX0_burnOne_77 (fun H locs hP hD hS => ?_)
      have hP : va_P D vwCl [(h0, .inr (0, [.ref a1, .ref a2, .ref a3, .ref a4, .int (nI n)])), (a1, .inl (cI, 4, .inl (upd sh k ((sh k) - (mn x (sh k)))))), (a2, .inl (cI, 4, .inl (upd co k (mx 0 ((co k) - 2))))), (a3, .inl (cI, 4, .inl (upd bu k ((bu k) + (mn x (sh k)))))), (a4, .inl (cZ, 4, .inl (upd fl k 1)))] _ := hP
      have hD : va_D A [(h0, .inr (0, [.ref a1, .ref a2, .ref a3, .ref a4, .int (nI n)])), (a1, .inl (cI, 4, .inl (upd sh k ((sh k) - (mn x (sh k)))))), (a2, .inl (cI, 4, .inl (upd co k (mx 0 ((co k) - 2))))), (a3, .inl (cI, 4, .inl (upd bu k ((bu k) + (mn x (sh k)))))), (a4, .inl (cZ, 4, .inl (upd fl k 1)))] := hD
      exact hend _ _ _ _ _ _ (upd sh k ((sh k) - (mn x (sh k))), upd co k (mx 0 ((co k) - 2)), upd bu k ((bu k) + (mn x (sh k))), upd fl k 1) dX0_burnOne_78 (⟨rfl, rfl, rfl, by simp only [bFl, eq_false c_1, eq_true c_1n, eq_false c_2, eq_true c_2n, if_true, if_false]⟩) hP hD hS (Nat.le_of_ble_eq_true rfl) (Nat.le_of_ble_eq_true rfl)

def rm_X0_burn : Room := { frames := 2, cells := 0, slots := 0, locals := 44 }
set_option maxHeartbeats 4000000 in
set_option maxRecDepth 100000 in
theorem c_X0_burn (l : Launch) (D : va_G) (cI cZ cJ : ClassId) (h0 a1 a2 a3 a4 : Nat) (sh co bu fl : Nat → Int32) (n : Nat) (r : Int32) (hn : n ≤ 4) : Mv l yX0_burn cX0_burn 4 rm_X0_burn D (TY cI cZ cJ) [.ref h0, .int r] [(h0, .inr (0, [.ref a1, .ref a2, .ref a3, .ref a4, .int (nI n)])), (a1, .inl (cI, 4, .inl sh)), (a2, .inl (cI, 4, .inl co)), (a3, .inl (cI, 4, .inl bu)), (a4, .inl (cZ, 4, .inl fl))] (fun (u : (Nat → Int32) × (Nat → Int32) × (Nat → Int32) × (Nat → Int32)) => u.1 = rowF n (fSh r sh fl) sh ∧ u.2.1 = rowF n (fCo co fl) co ∧ u.2.2.1 = rowF n (fBu r sh bu fl) bu ∧ u.2.2.2 = rowF n (fFl r sh co fl) fl) (fun (u : (Nat → Int32) × (Nat → Int32) × (Nat → Int32) × (Nat → Int32)) => [(h0, .inr (0, [.ref a1, .ref a2, .ref a3, .ref a4, .int (nI n)])), (a1, .inl (cI, 4, .inl u.1)), (a2, .inl (cI, 4, .inl u.2.1)), (a3, .inl (cI, 4, .inl u.2.2.1)), (a4, .inl (cZ, 4, .inl u.2.2.2))]) := by
  refine Mv.ofQ (by decide) (Nat.le_of_ble_eq_true rfl) ?_
  intro p e s m args below meth c A ls Q hF hK hP hD hA hl hend hin
  obtain ⟨F, hr, hlocks, hG⟩ := hF
  have hx := F.1
  have hb := F.2.1
  have hown := F.2.2.2.1
  have ht := F.2.2.2.2
  have hS : va_S A s.heap s.heap [] := va_S.rf
  have hl : lv_has ls 4 [(0, .ref h0), (1, .int r)] := hl
  refine lv_iload_n hx hb dX0_burn_0 rfl (lv_at hl 1 rfl) ?_
  refine lv_iconst (v := 5) hx hb dX0_burn_1 (by decide) ?_
  refine lv_icmp_lt (tgt := 9) hx hb dX0_burn_2 (by decide) (fun c_1 => ?_) (fun c_1 => ?_)
  · skip
    have c_1n := Int32.not_le.mpr c_1
    refine lv_bipush (v := 8) hx hb dX0_burn_9 (by decide) ?_
    refine t_i (bDaily r) (by simp only [bDaily, eq_true c_1, eq_false c_1n, if_true, if_false]) ?_
    refine lv_istore_n (lv' := [(2, .int (bDaily r)), (0, .ref h0), (1, .int r)]) hx hb dX0_burn_11 rfl hl (by decide) rfl (fun ls hl => ?_)
    refine lv_iconst (v := 0) hx hb dX0_burn_12 (by decide) ?_
    refine lv_istore_n (lv' := [(3, .int 0), (2, .int (bDaily r)), (0, .ref h0), (1, .int r)]) hx hb dX0_burn_13 rfl hl (by decide) rfl (fun ls hl => ?_)
    have loop14 : ∀ (kf i : Nat), i ≤ n → n < i + kf → ∀ (sh1 : Nat → Int32) (co1 : Nat → Int32) (bu1 : Nat → Int32) (fl1 : Nat → Int32), sh1 = rowF i (fSh r sh fl) sh → co1 = rowF i (fCo co fl) co → bu1 = rowF i (fBu r sh bu fl) bu → fl1 = rowF i (fFl r sh co fl) fl → ∀ (H : Heap) (locs : List Loc), va_P D vwCl [(h0, .inr (0, [.ref a1, .ref a2, .ref a3, .ref a4, .int (nI n)])), (a1, .inl (cI, 4, .inl sh1)), (a2, .inl (cI, 4, .inl co1)), (a3, .inl (cI, 4, .inl bu1)), (a4, .inl (cZ, 4, .inl fl1))] H → va_D A [(h0, .inr (0, [.ref a1, .ref a2, .ref a3, .ref a4, .int (nI n)])), (a1, .inl (cI, 4, .inl sh1)), (a2, .inl (cI, 4, .inl co1)), (a3, .inl (cI, 4, .inl bu1)), (a4, .inl (cZ, 4, .inl fl1))] → va_S A s.heap H locs → ∀ (ls : Array Slot), lv_has ls 4 [(0, .ref h0), (1, .int r), (2, .int (bDaily r)), (3, .int (nI i))] → W p l e rm_X0_burn s m args below meth c H locs 0 0 Q (F0 m 14 ls []) := by
      intro kf
      induction kf with
      | zero =>
        intro i hle hlt
        exact absurd hlt (by omega)
      | succ kf ih =>
        intro i hle hlt sh1 co1 bu1 fl1 e_sh1 e_co1 e_bu1 e_fl1 H locs hP hD hS ls hl
        refine lv_iload_n hx hb dX0_burn_14 rfl (lv_at hl 3 rfl) ?_
        refine lv_aload_n hx hb dX0_burn_15 rfl (lv_at hl 0 rfl) ?_
        refine va_get (D := D) (ci := 0) (v := .int (nI n)) (C := RX0) (T := TX0) (N := 5) hx hb ht inG_X0 hown hK hP 0 rfl rfl 4 (by decide) (ht _ qF_RX0_25) (fun _ h9 => h9) rfl dX0_burn_16 ?_
        refine lv_icmp_ge (tgt := 43) hx hb dX0_burn_19 (by decide) (fun c_2 => ?_) (fun c_2 => ?_)
        · skip
          have c_2n := Int32.not_lt.mpr c_2
          have c_2m := (nI_leI (a := n) (b := i) (by omega) (by omega)).mp c_2
          exact hend _ _ _ _ _ _ (sh1, co1, bu1, fl1) dX0_burn_43 (by rw [e_sh1, e_co1, e_bu1, e_fl1, show i = n by omega]; exact ⟨rfl, rfl, rfl, rfl⟩) hP hD hS (Nat.le_of_ble_eq_true rfl) (Nat.le_of_ble_eq_true rfl)
        · skip
          have c_2n := Int32.not_le.mp c_2
          have c_2m := (nI_ltI (a := i) (b := n) (by omega) (by omega)).mp c_2n
          refine lv_aload_n hx hb dX0_burn_22 rfl (lv_at hl 0 rfl) ?_
          refine va_get (D := D) (ci := 0) (v := .ref a4) (C := RX0) (T := TX0) (N := 5) hx hb ht inG_X0 hown hK hP 0 rfl rfl 3 (by decide) (ht _ qF_RX0_21) (fun _ h9 => h9) rfl dX0_burn_23 ?_
          refine lv_iload_n hx hb dX0_burn_26 rfl (lv_at hl 3 rfl) ?_
          refine aZ hx hb hK hP 4 1 rfl rfl i (rfl) (by omega) (by decide) (v := fl i) (by rw [e_fl1]; exact rowF_at _ _ _ (Nat.le_refl _)) dX0_burn_27 ?_
          refine lv_if_eq (tgt := 37) hx hb dX0_burn_28 (by decide) (fun c_3 => ?_) (fun c_3 => ?_)
          · skip
            refine lv_iinc (v := nI (i + 1)) (lv' := [(3, .int (nI (i + 1))), (0, .ref h0), (1, .int r), (2, .int (bDaily r))]) hx hb dX0_burn_37 hl (k := 3) rfl (nI_1 i) (by decide) rfl (fun ls hl => ?_)
            refine lv_goto (tgt := 14) hx hb dX0_burn_40 (by decide) ?_
            exact ih (i + 1) (by omega) (by omega) sh1 co1 bu1 fl1 (by subst e_sh1 e_co1 e_bu1 e_fl1; exact (rowF_same _ _ _ (by simp only [fSh, fCo, fBu, fFl, eq_true c_1, eq_false c_1n, eq_false c_2, eq_true c_2n, eq_true c_3, if_true])).symm) (by subst e_sh1 e_co1 e_bu1 e_fl1; exact (rowF_same _ _ _ (by simp only [fSh, fCo, fBu, fFl, eq_true c_1, eq_false c_1n, eq_false c_2, eq_true c_2n, eq_true c_3, if_true])).symm) (by subst e_sh1 e_co1 e_bu1 e_fl1; exact (rowF_same _ _ _ (by simp only [fSh, fCo, fBu, fFl, eq_true c_1, eq_false c_1n, eq_false c_2, eq_true c_2n, eq_true c_3, if_true])).symm) (by subst e_sh1 e_co1 e_bu1 e_fl1; exact (rowF_same _ _ _ (by simp only [fSh, fCo, fBu, fFl, eq_true c_1, eq_false c_1n, eq_false c_2, eq_true c_2n, eq_true c_3, if_true])).symm) _ _ (hP.sub [0, 1, 2, 3, 4] rfl) (hD.sub [0, 1, 2, 3, 4] (by decide) rfl) hS _ (lv_sub hl [1, 2, 3, 0] rfl)
          · skip
            refine lv_aload_n hx hb dX0_burn_31 rfl (lv_at hl 0 rfl) ?_
            refine lv_iload_n hx hb dX0_burn_32 rfl (lv_at hl 3 rfl) ?_
            refine lv_iload_n hx hb dX0_burn_33 rfl (lv_at hl 2 rfl) ?_
            refine k_v (wr := []) (rV (As := [.int (nI i), .int (bDaily r)]) (rest := []) F hG hK (hP.sub (ws' := [(h0, .inr (0, [.ref a1, .ref a2, .ref a3, .ref a4, .int (nI n)])), (a1, .inl (cI, 4, .inl sh1)), (a2, .inl (cI, 4, .inl co1)), (a3, .inl (cI, 4, .inl bu1)), (a4, .inl (cZ, 4, .inl fl1))]) [0, 1, 2, 3, 4] rfl) ((hD.sub (ws' := [(h0, .inr (0, [.ref a1, .ref a2, .ref a3, .ref a4, .int (nI n)])), (a1, .inl (cI, 4, .inl sh1)), (a2, .inl (cI, 4, .inl co1)), (a3, .inl (cI, 4, .inl bu1)), (a4, .inl (cZ, 4, .inl fl1))]) [0, 1, 2, 3, 4] (by decide) rfl).weaken (fun _ _ _ _ => trivial)) s_RX0_29 (c_X0_burnOne l D cI cZ cJ h0 a1 a2 a3 a4 sh1 co1 bu1 fl1 n i (bDaily r) (by first | assumption | omega) _) 0 0 rfl rfl rfl rfl hl.1 rfl (Nat.le_of_ble_eq_true rfl) dX0_burn_34 ⟨(Nat.le_of_ble_eq_true rfl), (Nat.le_of_ble_eq_true rfl)⟩ ⟨(Nat.le_of_ble_eq_true rfl), (Nat.le_of_ble_eq_true rfl)⟩) hP hD hS hA [0, 1, 2, 3, 4] [] rfl rfl (by decide) (by decide) (fun u H locs hw hP hD hS => ?_)
            obtain ⟨sh1_34, co1_34, bu1_34, fl1_34⟩ := u
            try dsimp only at hw
            obtain ⟨rfl, rfl, rfl, rfl⟩ := hw
            have hP : va_P D vwCl [(h0, .inr (0, [.ref a1, .ref a2, .ref a3, .ref a4, .int (nI n)])), (a1, .inl (cI, 4, .inl (upd sh1 i (sh1 i - mn (bDaily r) (sh1 i))))), (a2, .inl (cI, 4, .inl (upd co1 i (mx 0 (co1 i - 2))))), (a3, .inl (cI, 4, .inl (upd bu1 i (bu1 i + mn (bDaily r) (sh1 i))))), (a4, .inl (cZ, 4, .inl (upd fl1 i (bFl (mx 0 (co1 i - 2)) (sh1 i - mn (bDaily r) (sh1 i))))))] _ := hP
            have hD : va_D A [(h0, .inr (0, [.ref a1, .ref a2, .ref a3, .ref a4, .int (nI n)])), (a1, .inl (cI, 4, .inl (upd sh1 i (sh1 i - mn (bDaily r) (sh1 i))))), (a2, .inl (cI, 4, .inl (upd co1 i (mx 0 (co1 i - 2))))), (a3, .inl (cI, 4, .inl (upd bu1 i (bu1 i + mn (bDaily r) (sh1 i))))), (a4, .inl (cZ, 4, .inl (upd fl1 i (bFl (mx 0 (co1 i - 2)) (sh1 i - mn (bDaily r) (sh1 i))))))] := hD
            refine lv_iinc (v := nI (i + 1)) (lv' := [(3, .int (nI (i + 1))), (0, .ref h0), (1, .int r), (2, .int (bDaily r))]) hx hb dX0_burn_37 hl (k := 3) rfl (nI_1 i) (by decide) rfl (fun ls hl => ?_)
            refine lv_goto (tgt := 14) hx hb dX0_burn_40 (by decide) ?_
            exact ih (i + 1) (by omega) (by omega) (upd sh1 i (sh1 i - mn (bDaily r) (sh1 i))) (upd co1 i (mx 0 (co1 i - 2))) (upd bu1 i (bu1 i + mn (bDaily r) (sh1 i))) (upd fl1 i (bFl (mx 0 (co1 i - 2)) (sh1 i - mn (bDaily r) (sh1 i)))) (by subst e_sh1 e_co1 e_bu1 e_fl1; exact rowF_upd _ _ _ (by simp only [fSh, fCo, fBu, fFl, bPart, eq_true c_1, eq_false c_1n, eq_false c_2, eq_true c_2n, eq_false c_3, if_false, rowF_at _ _ _ (Nat.le_refl _)])) (by subst e_sh1 e_co1 e_bu1 e_fl1; exact rowF_upd _ _ _ (by simp only [fSh, fCo, fBu, fFl, bPart, eq_true c_1, eq_false c_1n, eq_false c_2, eq_true c_2n, eq_false c_3, if_false, rowF_at _ _ _ (Nat.le_refl _)])) (by subst e_sh1 e_co1 e_bu1 e_fl1; exact rowF_upd _ _ _ (by simp only [fSh, fCo, fBu, fFl, bPart, eq_true c_1, eq_false c_1n, eq_false c_2, eq_true c_2n, eq_false c_3, if_false, rowF_at _ _ _ (Nat.le_refl _)])) (by subst e_sh1 e_co1 e_bu1 e_fl1; exact rowF_upd _ _ _ (by simp only [fSh, fCo, fBu, fFl, bPart, eq_true c_1, eq_false c_1n, eq_false c_2, eq_true c_2n, eq_false c_3, if_false, rowF_at _ _ _ (Nat.le_refl _)])) _ _ (hP.sub [0, 1, 2, 3, 4] rfl) (hD.sub [0, 1, 2, 3, 4] (by decide) rfl) hS _ (lv_sub hl [1, 2, 3, 0] rfl)
    exact loop14 (n + 1) 0 (Nat.zero_le _) (by omega) sh co bu fl ((rowF_0 _ _).symm) ((rowF_0 _ _).symm) ((rowF_0 _ _).symm) ((rowF_0 _ _).symm) _ _ (hP.sub [0, 1, 2, 3, 4] rfl) (hD.sub [0, 1, 2, 3, 4] (by decide) rfl) hS _ (lv_sub hl [2, 3, 1, 0] rfl)
  · skip
    have c_1n := Int32.not_lt.mp c_1
    refine lv_iconst (v := 4) hx hb dX0_burn_5 (by decide) ?_
    refine lv_goto (tgt := 11) hx hb dX0_burn_6 (by decide) ?_
    refine t_i (bDaily r) (by simp only [bDaily, eq_false c_1, eq_true c_1n, if_true, if_false]) ?_
    refine lv_istore_n (lv' := [(2, .int (bDaily r)), (0, .ref h0), (1, .int r)]) hx hb dX0_burn_11 rfl hl (by decide) rfl (fun ls hl => ?_)
    refine lv_iconst (v := 0) hx hb dX0_burn_12 (by decide) ?_
    refine lv_istore_n (lv' := [(3, .int 0), (2, .int (bDaily r)), (0, .ref h0), (1, .int r)]) hx hb dX0_burn_13 rfl hl (by decide) rfl (fun ls hl => ?_)
    have loop14 : ∀ (kf i : Nat), i ≤ n → n < i + kf → ∀ (sh1 : Nat → Int32) (co1 : Nat → Int32) (bu1 : Nat → Int32) (fl1 : Nat → Int32), sh1 = rowF i (fSh r sh fl) sh → co1 = rowF i (fCo co fl) co → bu1 = rowF i (fBu r sh bu fl) bu → fl1 = rowF i (fFl r sh co fl) fl → ∀ (H : Heap) (locs : List Loc), va_P D vwCl [(h0, .inr (0, [.ref a1, .ref a2, .ref a3, .ref a4, .int (nI n)])), (a1, .inl (cI, 4, .inl sh1)), (a2, .inl (cI, 4, .inl co1)), (a3, .inl (cI, 4, .inl bu1)), (a4, .inl (cZ, 4, .inl fl1))] H → va_D A [(h0, .inr (0, [.ref a1, .ref a2, .ref a3, .ref a4, .int (nI n)])), (a1, .inl (cI, 4, .inl sh1)), (a2, .inl (cI, 4, .inl co1)), (a3, .inl (cI, 4, .inl bu1)), (a4, .inl (cZ, 4, .inl fl1))] → va_S A s.heap H locs → ∀ (ls : Array Slot), lv_has ls 4 [(0, .ref h0), (1, .int r), (2, .int (bDaily r)), (3, .int (nI i))] → W p l e rm_X0_burn s m args below meth c H locs 0 0 Q (F0 m 14 ls []) := by
      intro kf
      induction kf with
      | zero =>
        intro i hle hlt
        exact absurd hlt (by omega)
      | succ kf ih =>
        intro i hle hlt sh1 co1 bu1 fl1 e_sh1 e_co1 e_bu1 e_fl1 H locs hP hD hS ls hl
        refine lv_iload_n hx hb dX0_burn_14 rfl (lv_at hl 3 rfl) ?_
        refine lv_aload_n hx hb dX0_burn_15 rfl (lv_at hl 0 rfl) ?_
        refine va_get (D := D) (ci := 0) (v := .int (nI n)) (C := RX0) (T := TX0) (N := 5) hx hb ht inG_X0 hown hK hP 0 rfl rfl 4 (by decide) (ht _ qF_RX0_25) (fun _ h9 => h9) rfl dX0_burn_16 ?_
        refine lv_icmp_ge (tgt := 43) hx hb dX0_burn_19 (by decide) (fun c_4 => ?_) (fun c_4 => ?_)
        · skip
          have c_4n := Int32.not_lt.mpr c_4
          have c_4m := (nI_leI (a := n) (b := i) (by omega) (by omega)).mp c_4
          exact hend _ _ _ _ _ _ (sh1, co1, bu1, fl1) dX0_burn_43 (by rw [e_sh1, e_co1, e_bu1, e_fl1, show i = n by omega]; exact ⟨rfl, rfl, rfl, rfl⟩) hP hD hS (Nat.le_of_ble_eq_true rfl) (Nat.le_of_ble_eq_true rfl)
        · skip
          have c_4n := Int32.not_le.mp c_4
          have c_4m := (nI_ltI (a := i) (b := n) (by omega) (by omega)).mp c_4n
          refine lv_aload_n hx hb dX0_burn_22 rfl (lv_at hl 0 rfl) ?_
          refine va_get (D := D) (ci := 0) (v := .ref a4) (C := RX0) (T := TX0) (N := 5) hx hb ht inG_X0 hown hK hP 0 rfl rfl 3 (by decide) (ht _ qF_RX0_21) (fun _ h9 => h9) rfl dX0_burn_23 ?_
          refine lv_iload_n hx hb dX0_burn_26 rfl (lv_at hl 3 rfl) ?_
          refine aZ hx hb hK hP 4 1 rfl rfl i (rfl) (by omega) (by decide) (v := fl i) (by rw [e_fl1]; exact rowF_at _ _ _ (Nat.le_refl _)) dX0_burn_27 ?_
          refine lv_if_eq (tgt := 37) hx hb dX0_burn_28 (by decide) (fun c_5 => ?_) (fun c_5 => ?_)
          · skip
            refine lv_iinc (v := nI (i + 1)) (lv' := [(3, .int (nI (i + 1))), (0, .ref h0), (1, .int r), (2, .int (bDaily r))]) hx hb dX0_burn_37 hl (k := 3) rfl (nI_1 i) (by decide) rfl (fun ls hl => ?_)
            refine lv_goto (tgt := 14) hx hb dX0_burn_40 (by decide) ?_
            exact ih (i + 1) (by omega) (by omega) sh1 co1 bu1 fl1 (by subst e_sh1 e_co1 e_bu1 e_fl1; exact (rowF_same _ _ _ (by simp only [fSh, fCo, fBu, fFl, eq_false c_1, eq_true c_1n, eq_false c_4, eq_true c_4n, eq_true c_5, if_true])).symm) (by subst e_sh1 e_co1 e_bu1 e_fl1; exact (rowF_same _ _ _ (by simp only [fSh, fCo, fBu, fFl, eq_false c_1, eq_true c_1n, eq_false c_4, eq_true c_4n, eq_true c_5, if_true])).symm) (by subst e_sh1 e_co1 e_bu1 e_fl1; exact (rowF_same _ _ _ (by simp only [fSh, fCo, fBu, fFl, eq_false c_1, eq_true c_1n, eq_false c_4, eq_true c_4n, eq_true c_5, if_true])).symm) (by subst e_sh1 e_co1 e_bu1 e_fl1; exact (rowF_same _ _ _ (by simp only [fSh, fCo, fBu, fFl, eq_false c_1, eq_true c_1n, eq_false c_4, eq_true c_4n, eq_true c_5, if_true])).symm) _ _ (hP.sub [0, 1, 2, 3, 4] rfl) (hD.sub [0, 1, 2, 3, 4] (by decide) rfl) hS _ (lv_sub hl [1, 2, 3, 0] rfl)
          · skip
            refine lv_aload_n hx hb dX0_burn_31 rfl (lv_at hl 0 rfl) ?_
            refine lv_iload_n hx hb dX0_burn_32 rfl (lv_at hl 3 rfl) ?_
            refine lv_iload_n hx hb dX0_burn_33 rfl (lv_at hl 2 rfl) ?_
            refine k_v (wr := []) (rV (As := [.int (nI i), .int (bDaily r)]) (rest := []) F hG hK (hP.sub (ws' := [(h0, .inr (0, [.ref a1, .ref a2, .ref a3, .ref a4, .int (nI n)])), (a1, .inl (cI, 4, .inl sh1)), (a2, .inl (cI, 4, .inl co1)), (a3, .inl (cI, 4, .inl bu1)), (a4, .inl (cZ, 4, .inl fl1))]) [0, 1, 2, 3, 4] rfl) ((hD.sub (ws' := [(h0, .inr (0, [.ref a1, .ref a2, .ref a3, .ref a4, .int (nI n)])), (a1, .inl (cI, 4, .inl sh1)), (a2, .inl (cI, 4, .inl co1)), (a3, .inl (cI, 4, .inl bu1)), (a4, .inl (cZ, 4, .inl fl1))]) [0, 1, 2, 3, 4] (by decide) rfl).weaken (fun _ _ _ _ => trivial)) s_RX0_29 (c_X0_burnOne l D cI cZ cJ h0 a1 a2 a3 a4 sh1 co1 bu1 fl1 n i (bDaily r) (by first | assumption | omega) _) 0 0 rfl rfl rfl rfl hl.1 rfl (Nat.le_of_ble_eq_true rfl) dX0_burn_34 ⟨(Nat.le_of_ble_eq_true rfl), (Nat.le_of_ble_eq_true rfl)⟩ ⟨(Nat.le_of_ble_eq_true rfl), (Nat.le_of_ble_eq_true rfl)⟩) hP hD hS hA [0, 1, 2, 3, 4] [] rfl rfl (by decide) (by decide) (fun u H locs hw hP hD hS => ?_)
            obtain ⟨sh1_34, co1_34, bu1_34, fl1_34⟩ := u
            try dsimp only at hw
            obtain ⟨rfl, rfl, rfl, rfl⟩ := hw
            have hP : va_P D vwCl [(h0, .inr (0, [.ref a1, .ref a2, .ref a3, .ref a4, .int (nI n)])), (a1, .inl (cI, 4, .inl (upd sh1 i (sh1 i - mn (bDaily r) (sh1 i))))), (a2, .inl (cI, 4, .inl (upd co1 i (mx 0 (co1 i - 2))))), (a3, .inl (cI, 4, .inl (upd bu1 i (bu1 i + mn (bDaily r) (sh1 i))))), (a4, .inl (cZ, 4, .inl (upd fl1 i (bFl (mx 0 (co1 i - 2)) (sh1 i - mn (bDaily r) (sh1 i))))))] _ := hP
            have hD : va_D A [(h0, .inr (0, [.ref a1, .ref a2, .ref a3, .ref a4, .int (nI n)])), (a1, .inl (cI, 4, .inl (upd sh1 i (sh1 i - mn (bDaily r) (sh1 i))))), (a2, .inl (cI, 4, .inl (upd co1 i (mx 0 (co1 i - 2))))), (a3, .inl (cI, 4, .inl (upd bu1 i (bu1 i + mn (bDaily r) (sh1 i))))), (a4, .inl (cZ, 4, .inl (upd fl1 i (bFl (mx 0 (co1 i - 2)) (sh1 i - mn (bDaily r) (sh1 i))))))] := hD
            refine lv_iinc (v := nI (i + 1)) (lv' := [(3, .int (nI (i + 1))), (0, .ref h0), (1, .int r), (2, .int (bDaily r))]) hx hb dX0_burn_37 hl (k := 3) rfl (nI_1 i) (by decide) rfl (fun ls hl => ?_)
            refine lv_goto (tgt := 14) hx hb dX0_burn_40 (by decide) ?_
            exact ih (i + 1) (by omega) (by omega) (upd sh1 i (sh1 i - mn (bDaily r) (sh1 i))) (upd co1 i (mx 0 (co1 i - 2))) (upd bu1 i (bu1 i + mn (bDaily r) (sh1 i))) (upd fl1 i (bFl (mx 0 (co1 i - 2)) (sh1 i - mn (bDaily r) (sh1 i)))) (by subst e_sh1 e_co1 e_bu1 e_fl1; exact rowF_upd _ _ _ (by simp only [fSh, fCo, fBu, fFl, bPart, eq_false c_1, eq_true c_1n, eq_false c_4, eq_true c_4n, eq_false c_5, if_false, rowF_at _ _ _ (Nat.le_refl _)])) (by subst e_sh1 e_co1 e_bu1 e_fl1; exact rowF_upd _ _ _ (by simp only [fSh, fCo, fBu, fFl, bPart, eq_false c_1, eq_true c_1n, eq_false c_4, eq_true c_4n, eq_false c_5, if_false, rowF_at _ _ _ (Nat.le_refl _)])) (by subst e_sh1 e_co1 e_bu1 e_fl1; exact rowF_upd _ _ _ (by simp only [fSh, fCo, fBu, fFl, bPart, eq_false c_1, eq_true c_1n, eq_false c_4, eq_true c_4n, eq_false c_5, if_false, rowF_at _ _ _ (Nat.le_refl _)])) (by subst e_sh1 e_co1 e_bu1 e_fl1; exact rowF_upd _ _ _ (by simp only [fSh, fCo, fBu, fFl, bPart, eq_false c_1, eq_true c_1n, eq_false c_4, eq_true c_4n, eq_false c_5, if_false, rowF_at _ _ _ (Nat.le_refl _)])) _ _ (hP.sub [0, 1, 2, 3, 4] rfl) (hD.sub [0, 1, 2, 3, 4] (by decide) rfl) hS _ (lv_sub hl [1, 2, 3, 0] rfl)
    exact loop14 (n + 1) 0 (Nat.zero_le _) (by omega) sh co bu fl ((rowF_0 _ _).symm) ((rowF_0 _ _).symm) ((rowF_0 _ _).symm) ((rowF_0 _ _).symm) _ _ (hP.sub [0, 1, 2, 3, 4] rfl) (hD.sub [0, 1, 2, 3, 4] (by decide) rfl) hS _ (lv_sub hl [2, 3, 1, 0] rfl)
end
section
theorem s_RX1_35 : sSN RX1 35 yX3_strengthOf cX3_strengthOf 3 (some .int) 2 := ⟨ws_in qC_yX3_strengthOf, qN_RX3, by decide +kernel, qS_yX3_strengthOf, by decide +kernel, by decide +kernel, by decide +kernel⟩
theorem s_RX1_38 : sV RX1 38 RX1 yX1_strength cX1_strength 2 (some .int) 1 := sV.mk qM_RX1_38 qI_yX1_strength qV_yX1_strength qN_RX1 qC_yX1_strength ⟨rfl, by decide +kernel, by decide +kernel, by decide +kernel⟩
theorem s_RX1_42 : sSN RX1 42 yX3_eggBy cX3_eggBy 1 (some .int) 1 := ⟨ws_in qC_yX3_eggBy, qN_RX3, by decide +kernel, qS_yX3_eggBy, by decide +kernel, by decide +kernel, by decide +kernel⟩
theorem s_RX1_45 : sV RX1 45 RX1 yX1_egg cX1_egg 2 (some .int) 1 := sV.mk qM_RX1_45 qI_yX1_egg qV_yX1_egg qN_RX1 qC_yX1_egg ⟨rfl, by decide +kernel, by decide +kernel, by decide +kernel⟩
theorem s_RX2_59 : sV RX2 59 RX0 yX0_burn cX0_burn 4 none 1 := sV.mk qM_RX2_59 qI_yX0_burn qV_yX0_burn qN_RX0 qC_yX0_burn ⟨rfl, by decide +kernel, by decide +kernel, by decide +kernel⟩
theorem s_RX2_62 : sV RX2 62 RX1 yX1_takeWeather cX1_takeWeather 4 none 1 := sV.mk qM_RX2_62 qI_yX1_takeWeather qV_yX1_takeWeather qN_RX1 qC_yX1_takeWeather ⟨rfl, by decide +kernel, by decide +kernel, by decide +kernel⟩
theorem s_RX2_65 : sV RX2 65 RX2 yX2_boilPans cX2_boilPans 2 none 0 := sV.mk qM_RX2_65 qI_yX2_boilPans qV_yX2_boilPans qN_RX2 qC_yX2_boilPans ⟨rfl, by decide +kernel, by decide +kernel, by decide +kernel⟩
theorem s_RX2_68 : sV RX2 68 RX2 yX2_loadShip cX2_loadShip 4 none 1 := sV.mk qM_RX2_68 qI_yX2_loadShip qV_yX2_loadShip qN_RX2 qC_yX2_loadShip ⟨rfl, by decide +kernel, by decide +kernel, by decide +kernel⟩
theorem s_RX2_52 : sV RX2 52 RX0 yX0_copyOf cX0_copyOf 3 none 1 := sV.mk qM_RX2_52 qI_yX0_copyOf qV_yX0_copyOf qN_RX0 qC_yX0_copyOf ⟨rfl, by decide +kernel, by decide +kernel, by decide +kernel⟩
theorem s_RX2_56 : sV RX2 56 RX1 yX1_copyOf cX1_copyOf 3 none 1 := sV.mk qM_RX2_56 qI_yX1_copyOf qV_yX1_copyOf qN_RX1 qC_yX1_copyOf ⟨rfl, by decide +kernel, by decide +kernel, by decide +kernel⟩
def rm_X0_copyOf : Room := { frames := 0, cells := 0, slots := 0, locals := 0 }
set_option maxHeartbeats 4000000 in
set_option maxRecDepth 100000 in
theorem c_X0_copyOf (l : Launch) (D : va_G) (cI cZ cJ : ClassId) (h0 a1 a2 a3 a4 g0 b1 b2 b3 b4 : Nat) (t1 t2 t3 t4 o1 o2 o3 o4 : Nat → Int32) (n1 n : Nat) (hn : n ≤ 4) (hz1 : ∀ j, n ≤ j → t1 j = o1 j) (hz2 : ∀ j, n ≤ j → t2 j = o2 j) (hz3 : ∀ j, n ≤ j → t3 j = o3 j) (hz4 : ∀ j, n ≤ j → t4 j = o4 j) (hb4 : ∀ j, vp_nar .boolean (o4 j) = o4 j) : Mv l yX0_copyOf cX0_copyOf 3 rm_X0_copyOf D (TY cI cZ cJ) [.ref h0, .ref g0] [(h0, .inr (0, [.ref a1, .ref a2, .ref a3, .ref a4, .int (nI n1)])), (a1, .inl (cI, 4, .inl t1)), (a2, .inl (cI, 4, .inl t2)), (a3, .inl (cI, 4, .inl t3)), (a4, .inl (cZ, 4, .inl t4)), (g0, .inr (0, [.ref b1, .ref b2, .ref b3, .ref b4, .int (nI n)])), (b1, .inl (cI, 4, .inl o1)), (b2, .inl (cI, 4, .inl o2)), (b3, .inl (cI, 4, .inl o3)), (b4, .inl (cZ, 4, .inl o4))] (fun (u : (Nat → Int32) × (Nat → Int32) × (Nat → Int32) × (Nat → Int32)) => u.1 = o1 ∧ u.2.1 = o2 ∧ u.2.2.1 = o3 ∧ u.2.2.2 = o4) (fun (u : (Nat → Int32) × (Nat → Int32) × (Nat → Int32) × (Nat → Int32)) => [(h0, .inr (0, [.ref a1, .ref a2, .ref a3, .ref a4, .int (nI n)])), (a1, .inl (cI, 4, .inl u.1)), (a2, .inl (cI, 4, .inl u.2.1)), (a3, .inl (cI, 4, .inl u.2.2.1)), (a4, .inl (cZ, 4, .inl u.2.2.2)), (g0, .inr (0, [.ref b1, .ref b2, .ref b3, .ref b4, .int (nI n)])), (b1, .inl (cI, 4, .inl o1)), (b2, .inl (cI, 4, .inl o2)), (b3, .inl (cI, 4, .inl o3)), (b4, .inl (cZ, 4, .inl o4))]) := by
  refine Mv.ofQ (by decide) (Nat.le_of_ble_eq_true rfl) ?_
  intro p e s m args below meth c A ls Q hF hK hP hD hA hl hend hin
  obtain ⟨F, hr, hlocks, hG⟩ := hF
  have hx := F.1
  have hb := F.2.1
  have hown := F.2.2.2.1
  have ht := F.2.2.2.2
  have hS : va_S A s.heap s.heap [] := va_S.rf
  have hl : lv_has ls 3 [(0, .ref h0), (1, .ref g0)] := hl
  refine lv_aload_n hx hb dX0_copyOf_0 rfl (lv_at hl 0 rfl) ?_
  refine lv_aload_n hx hb dX0_copyOf_1 rfl (lv_at hl 1 rfl) ?_
  refine va_get (D := D) (ci := 0) (v := .int (nI n)) (C := RX0) (T := TX0) (N := 5) hx hb ht inG_X0 hown hK hP 5 rfl rfl 4 (by decide) (ht _ qF_RX0_25) (fun _ h9 => h9) rfl dX0_copyOf_2 ?_
  refine va_put (D := D) (ci := 0) (v := .int (nI n)) (C := RX0) (T := TX0) (N := 5) hx hb ht inG_X0 tyX0 tyX0_ok nmX0 hown hK hP hD hS 0 rfl rfl 4 (by decide) (ht _ qF_RX0_25) (fun _ h9 => h9) rfl (tyX0_ok 4 (by decide)) rfl rfl (Nat.le_of_ble_eq_true rfl) dX0_copyOf_5 (fun H locs hP hD hS => ?_)
  have hP : va_P D vwCl [(h0, .inr (0, [.ref a1, .ref a2, .ref a3, .ref a4, .int (nI n)])), (a1, .inl (cI, 4, .inl t1)), (a2, .inl (cI, 4, .inl t2)), (a3, .inl (cI, 4, .inl t3)), (a4, .inl (cZ, 4, .inl t4)), (g0, .inr (0, [.ref b1, .ref b2, .ref b3, .ref b4, .int (nI n)])), (b1, .inl (cI, 4, .inl o1)), (b2, .inl (cI, 4, .inl o2)), (b3, .inl (cI, 4, .inl o3)), (b4, .inl (cZ, 4, .inl o4))] _ := hP
  have hD : va_D A [(h0, .inr (0, [.ref a1, .ref a2, .ref a3, .ref a4, .int (nI n)])), (a1, .inl (cI, 4, .inl t1)), (a2, .inl (cI, 4, .inl t2)), (a3, .inl (cI, 4, .inl t3)), (a4, .inl (cZ, 4, .inl t4)), (g0, .inr (0, [.ref b1, .ref b2, .ref b3, .ref b4, .int (nI n)])), (b1, .inl (cI, 4, .inl o1)), (b2, .inl (cI, 4, .inl o2)), (b3, .inl (cI, 4, .inl o3)), (b4, .inl (cZ, 4, .inl o4))] := hD
  refine lv_iconst (v := 0) hx hb dX0_copyOf_8 (by decide) ?_
  refine lv_istore_n (lv' := [(2, .int 0), (0, .ref h0), (1, .ref g0)]) hx hb dX0_copyOf_9 rfl hl (by decide) rfl (fun ls hl => ?_)
  have loop10 : ∀ (kf i : Nat), i ≤ n → n < i + kf → ∀ (x1 : Nat → Int32) (x2 : Nat → Int32) (x3 : Nat → Int32) (x4 : Nat → Int32), x1 = rowF i o1 t1 → x2 = rowF i o2 t2 → x3 = rowF i o3 t3 → x4 = rowF i o4 t4 → ∀ (H : Heap) (locs : List Loc), va_P D vwCl [(h0, .inr (0, [.ref a1, .ref a2, .ref a3, .ref a4, .int (nI n)])), (a1, .inl (cI, 4, .inl x1)), (a2, .inl (cI, 4, .inl x2)), (a3, .inl (cI, 4, .inl x3)), (a4, .inl (cZ, 4, .inl x4)), (g0, .inr (0, [.ref b1, .ref b2, .ref b3, .ref b4, .int (nI n)])), (b1, .inl (cI, 4, .inl o1)), (b2, .inl (cI, 4, .inl o2)), (b3, .inl (cI, 4, .inl o3)), (b4, .inl (cZ, 4, .inl o4))] H → va_D A [(h0, .inr (0, [.ref a1, .ref a2, .ref a3, .ref a4, .int (nI n)])), (a1, .inl (cI, 4, .inl x1)), (a2, .inl (cI, 4, .inl x2)), (a3, .inl (cI, 4, .inl x3)), (a4, .inl (cZ, 4, .inl x4)), (g0, .inr (0, [.ref b1, .ref b2, .ref b3, .ref b4, .int (nI n)])), (b1, .inl (cI, 4, .inl o1)), (b2, .inl (cI, 4, .inl o2)), (b3, .inl (cI, 4, .inl o3)), (b4, .inl (cZ, 4, .inl o4))] → va_S A s.heap H locs → ∀ (ls : Array Slot), lv_has ls 3 [(0, .ref h0), (1, .ref g0), (2, .int (nI i))] → W p l e rm_X0_copyOf s m args below meth c H locs 0 0 Q (F0 m 10 ls []) := by
    intro kf
    induction kf with
    | zero =>
      intro i hle hlt
      exact absurd hlt (by omega)
    | succ kf ih =>
      intro i hle hlt x1 x2 x3 x4 e_x1 e_x2 e_x3 e_x4 H locs hP hD hS ls hl
      refine lv_iload_n hx hb dX0_copyOf_10 rfl (lv_at hl 2 rfl) ?_
      refine lv_aload_n hx hb dX0_copyOf_11 rfl (lv_at hl 0 rfl) ?_
      refine va_get (D := D) (ci := 0) (v := .int (nI n)) (C := RX0) (T := TX0) (N := 5) hx hb ht inG_X0 hown hK hP 0 rfl rfl 4 (by decide) (ht _ qF_RX0_25) (fun _ h9 => h9) rfl dX0_copyOf_12 ?_
      refine lv_icmp_ge (tgt := 72) hx hb dX0_copyOf_15 (by decide) (fun c_1 => ?_) (fun c_1 => ?_)
      · skip
        have c_1n := Int32.not_lt.mpr c_1
        have c_1m := (nI_leI (a := n) (b := i) (by omega) (by omega)).mp c_1
        exact hend _ _ _ _ _ _ (x1, x2, x3, x4) dX0_copyOf_72 (by rw [e_x1, e_x2, e_x3, e_x4, show i = n by omega]; exact ⟨rowF_all hz1, rowF_all hz2, rowF_all hz3, rowF_all hz4⟩) hP hD hS (Nat.le_of_ble_eq_true rfl) (Nat.le_of_ble_eq_true rfl)
      · skip
        have c_1n := Int32.not_le.mp c_1
        have c_1m := (nI_ltI (a := i) (b := n) (by omega) (by omega)).mp c_1n
        refine lv_aload_n hx hb dX0_copyOf_18 rfl (lv_at hl 0 rfl) ?_
        refine va_get (D := D) (ci := 0) (v := .ref a1) (C := RX0) (T := TX0) (N := 5) hx hb ht inG_X0 hown hK hP 0 rfl rfl 0 (by decide) (ht _ qF_RX0_9) (fun _ h9 => h9) rfl dX0_copyOf_19 ?_
        refine lv_iload_n hx hb dX0_copyOf_22 rfl (lv_at hl 2 rfl) ?_
        refine lv_aload_n hx hb dX0_copyOf_23 rfl (lv_at hl 1 rfl) ?_
        refine va_get (D := D) (ci := 0) (v := .ref b1) (C := RX0) (T := TX0) (N := 5) hx hb ht inG_X0 hown hK hP 5 rfl rfl 0 (by decide) (ht _ qF_RX0_9) (fun _ h9 => h9) rfl dX0_copyOf_24 ?_
        refine lv_iload_n hx hb dX0_copyOf_27 rfl (lv_at hl 2 rfl) ?_
        refine aI hx hb hK hP 6 0 rfl rfl i (rfl) (by omega) (by decide) (v := o1 i) (rfl) dX0_copyOf_28 ?_
        refine sI_ hx hb hK hP hD hS 1 0 rfl rfl i (rfl) (by omega) (by decide) (upd x1 i (o1 i)) (rfl) dX0_copyOf_29 (fun H locs hP hD hS => ?_)
        have hP : va_P D vwCl [(h0, .inr (0, [.ref a1, .ref a2, .ref a3, .ref a4, .int (nI n)])), (a1, .inl (cI, 4, .inl (upd x1 i (o1 i)))), (a2, .inl (cI, 4, .inl x2)), (a3, .inl (cI, 4, .inl x3)), (a4, .inl (cZ, 4, .inl x4)), (g0, .inr (0, [.ref b1, .ref b2, .ref b3, .ref b4, .int (nI n)])), (b1, .inl (cI, 4, .inl o1)), (b2, .inl (cI, 4, .inl o2)), (b3, .inl (cI, 4, .inl o3)), (b4, .inl (cZ, 4, .inl o4))] _ := hP
        have hD : va_D A [(h0, .inr (0, [.ref a1, .ref a2, .ref a3, .ref a4, .int (nI n)])), (a1, .inl (cI, 4, .inl (upd x1 i (o1 i)))), (a2, .inl (cI, 4, .inl x2)), (a3, .inl (cI, 4, .inl x3)), (a4, .inl (cZ, 4, .inl x4)), (g0, .inr (0, [.ref b1, .ref b2, .ref b3, .ref b4, .int (nI n)])), (b1, .inl (cI, 4, .inl o1)), (b2, .inl (cI, 4, .inl o2)), (b3, .inl (cI, 4, .inl o3)), (b4, .inl (cZ, 4, .inl o4))] := hD
        refine lv_aload_n hx hb dX0_copyOf_30 rfl (lv_at hl 0 rfl) ?_
        refine va_get (D := D) (ci := 0) (v := .ref a2) (C := RX0) (T := TX0) (N := 5) hx hb ht inG_X0 hown hK hP 0 rfl rfl 1 (by decide) (ht _ qF_RX0_15) (fun _ h9 => h9) rfl dX0_copyOf_31 ?_
        refine lv_iload_n hx hb dX0_copyOf_34 rfl (lv_at hl 2 rfl) ?_
        refine lv_aload_n hx hb dX0_copyOf_35 rfl (lv_at hl 1 rfl) ?_
        refine va_get (D := D) (ci := 0) (v := .ref b2) (C := RX0) (T := TX0) (N := 5) hx hb ht inG_X0 hown hK hP 5 rfl rfl 1 (by decide) (ht _ qF_RX0_15) (fun _ h9 => h9) rfl dX0_copyOf_36 ?_
        refine lv_iload_n hx hb dX0_copyOf_39 rfl (lv_at hl 2 rfl) ?_
        refine aI hx hb hK hP 7 0 rfl rfl i (rfl) (by omega) (by decide) (v := o2 i) (rfl) dX0_copyOf_40 ?_
        refine sI_ hx hb hK hP hD hS 2 0 rfl rfl i (rfl) (by omega) (by decide) (upd x2 i (o2 i)) (rfl) dX0_copyOf_41 (fun H locs hP hD hS => ?_)
        have hP : va_P D vwCl [(h0, .inr (0, [.ref a1, .ref a2, .ref a3, .ref a4, .int (nI n)])), (a1, .inl (cI, 4, .inl (upd x1 i (o1 i)))), (a2, .inl (cI, 4, .inl (upd x2 i (o2 i)))), (a3, .inl (cI, 4, .inl x3)), (a4, .inl (cZ, 4, .inl x4)), (g0, .inr (0, [.ref b1, .ref b2, .ref b3, .ref b4, .int (nI n)])), (b1, .inl (cI, 4, .inl o1)), (b2, .inl (cI, 4, .inl o2)), (b3, .inl (cI, 4, .inl o3)), (b4, .inl (cZ, 4, .inl o4))] _ := hP
        have hD : va_D A [(h0, .inr (0, [.ref a1, .ref a2, .ref a3, .ref a4, .int (nI n)])), (a1, .inl (cI, 4, .inl (upd x1 i (o1 i)))), (a2, .inl (cI, 4, .inl (upd x2 i (o2 i)))), (a3, .inl (cI, 4, .inl x3)), (a4, .inl (cZ, 4, .inl x4)), (g0, .inr (0, [.ref b1, .ref b2, .ref b3, .ref b4, .int (nI n)])), (b1, .inl (cI, 4, .inl o1)), (b2, .inl (cI, 4, .inl o2)), (b3, .inl (cI, 4, .inl o3)), (b4, .inl (cZ, 4, .inl o4))] := hD
        refine lv_aload_n hx hb dX0_copyOf_42 rfl (lv_at hl 0 rfl) ?_
        refine va_get (D := D) (ci := 0) (v := .ref a3) (C := RX0) (T := TX0) (N := 5) hx hb ht inG_X0 hown hK hP 0 rfl rfl 2 (by decide) (ht _ qF_RX0_18) (fun _ h9 => h9) rfl dX0_copyOf_43 ?_
        refine lv_iload_n hx hb dX0_copyOf_46 rfl (lv_at hl 2 rfl) ?_
        refine lv_aload_n hx hb dX0_copyOf_47 rfl (lv_at hl 1 rfl) ?_
        refine va_get (D := D) (ci := 0) (v := .ref b3) (C := RX0) (T := TX0) (N := 5) hx hb ht inG_X0 hown hK hP 5 rfl rfl 2 (by decide) (ht _ qF_RX0_18) (fun _ h9 => h9) rfl dX0_copyOf_48 ?_
        refine lv_iload_n hx hb dX0_copyOf_51 rfl (lv_at hl 2 rfl) ?_
        refine aI hx hb hK hP 8 0 rfl rfl i (rfl) (by omega) (by decide) (v := o3 i) (rfl) dX0_copyOf_52 ?_
        refine sI_ hx hb hK hP hD hS 3 0 rfl rfl i (rfl) (by omega) (by decide) (upd x3 i (o3 i)) (rfl) dX0_copyOf_53 (fun H locs hP hD hS => ?_)
        have hP : va_P D vwCl [(h0, .inr (0, [.ref a1, .ref a2, .ref a3, .ref a4, .int (nI n)])), (a1, .inl (cI, 4, .inl (upd x1 i (o1 i)))), (a2, .inl (cI, 4, .inl (upd x2 i (o2 i)))), (a3, .inl (cI, 4, .inl (upd x3 i (o3 i)))), (a4, .inl (cZ, 4, .inl x4)), (g0, .inr (0, [.ref b1, .ref b2, .ref b3, .ref b4, .int (nI n)])), (b1, .inl (cI, 4, .inl o1)), (b2, .inl (cI, 4, .inl o2)), (b3, .inl (cI, 4, .inl o3)), (b4, .inl (cZ, 4, .inl o4))] _ := hP
        have hD : va_D A [(h0, .inr (0, [.ref a1, .ref a2, .ref a3, .ref a4, .int (nI n)])), (a1, .inl (cI, 4, .inl (upd x1 i (o1 i)))), (a2, .inl (cI, 4, .inl (upd x2 i (o2 i)))), (a3, .inl (cI, 4, .inl (upd x3 i (o3 i)))), (a4, .inl (cZ, 4, .inl x4)), (g0, .inr (0, [.ref b1, .ref b2, .ref b3, .ref b4, .int (nI n)])), (b1, .inl (cI, 4, .inl o1)), (b2, .inl (cI, 4, .inl o2)), (b3, .inl (cI, 4, .inl o3)), (b4, .inl (cZ, 4, .inl o4))] := hD
        refine lv_aload_n hx hb dX0_copyOf_54 rfl (lv_at hl 0 rfl) ?_
        refine va_get (D := D) (ci := 0) (v := .ref a4) (C := RX0) (T := TX0) (N := 5) hx hb ht inG_X0 hown hK hP 0 rfl rfl 3 (by decide) (ht _ qF_RX0_21) (fun _ h9 => h9) rfl dX0_copyOf_55 ?_
        refine lv_iload_n hx hb dX0_copyOf_58 rfl (lv_at hl 2 rfl) ?_
        refine lv_aload_n hx hb dX0_copyOf_59 rfl (lv_at hl 1 rfl) ?_
        refine va_get (D := D) (ci := 0) (v := .ref b4) (C := RX0) (T := TX0) (N := 5) hx hb ht inG_X0 hown hK hP 5 rfl rfl 3 (by decide) (ht _ qF_RX0_21) (fun _ h9 => h9) rfl dX0_copyOf_60 ?_
        refine lv_iload_n hx hb dX0_copyOf_63 rfl (lv_at hl 2 rfl) ?_
        refine aZ hx hb hK hP 9 1 rfl rfl i (rfl) (by omega) (by decide) (v := o4 i) (rfl) dX0_copyOf_64 ?_
        refine sZ_ hx hb hK hP hD hS 4 1 rfl rfl i (rfl) (by omega) (by decide) (hb4 i) (upd x4 i (o4 i)) (rfl) dX0_copyOf_65 (fun H locs hP hD hS => ?_)
        have hP : va_P D vwCl [(h0, .inr (0, [.ref a1, .ref a2, .ref a3, .ref a4, .int (nI n)])), (a1, .inl (cI, 4, .inl (upd x1 i (o1 i)))), (a2, .inl (cI, 4, .inl (upd x2 i (o2 i)))), (a3, .inl (cI, 4, .inl (upd x3 i (o3 i)))), (a4, .inl (cZ, 4, .inl (upd x4 i (o4 i)))), (g0, .inr (0, [.ref b1, .ref b2, .ref b3, .ref b4, .int (nI n)])), (b1, .inl (cI, 4, .inl o1)), (b2, .inl (cI, 4, .inl o2)), (b3, .inl (cI, 4, .inl o3)), (b4, .inl (cZ, 4, .inl o4))] _ := hP
        have hD : va_D A [(h0, .inr (0, [.ref a1, .ref a2, .ref a3, .ref a4, .int (nI n)])), (a1, .inl (cI, 4, .inl (upd x1 i (o1 i)))), (a2, .inl (cI, 4, .inl (upd x2 i (o2 i)))), (a3, .inl (cI, 4, .inl (upd x3 i (o3 i)))), (a4, .inl (cZ, 4, .inl (upd x4 i (o4 i)))), (g0, .inr (0, [.ref b1, .ref b2, .ref b3, .ref b4, .int (nI n)])), (b1, .inl (cI, 4, .inl o1)), (b2, .inl (cI, 4, .inl o2)), (b3, .inl (cI, 4, .inl o3)), (b4, .inl (cZ, 4, .inl o4))] := hD
        refine lv_iinc (v := nI (i + 1)) (lv' := [(2, .int (nI (i + 1))), (0, .ref h0), (1, .ref g0)]) hx hb dX0_copyOf_66 hl (k := 2) rfl (nI_1 i) (by decide) rfl (fun ls hl => ?_)
        refine lv_goto (tgt := 10) hx hb dX0_copyOf_69 (by decide) ?_
        exact ih (i + 1) (by omega) (by omega) (upd x1 i (o1 i)) (upd x2 i (o2 i)) (upd x3 i (o3 i)) (upd x4 i (o4 i)) (by subst e_x1; exact rowF_upd _ _ _ rfl) (by subst e_x2; exact rowF_upd _ _ _ rfl) (by subst e_x3; exact rowF_upd _ _ _ rfl) (by subst e_x4; exact rowF_upd _ _ _ rfl) _ _ (hP.sub [0, 1, 2, 3, 4, 5, 6, 7, 8, 9] rfl) (hD.sub [0, 1, 2, 3, 4, 5, 6, 7, 8, 9] (by decide) rfl) hS _ (lv_sub hl [1, 2, 0] rfl)
  exact loop10 (n + 1) 0 (Nat.zero_le _) (by omega) t1 t2 t3 t4 ((rowF_0 _ _).symm) ((rowF_0 _ _).symm) ((rowF_0 _ _).symm) ((rowF_0 _ _).symm) _ _ (hP.sub [0, 1, 2, 3, 4, 5, 6, 7, 8, 9] rfl) (hD.sub [0, 1, 2, 3, 4, 5, 6, 7, 8, 9] (by decide) rfl) hS _ (lv_sub hl [1, 2, 0] rfl)

def rm_X1_has : Room := { frames := 0, cells := 0, slots := 0, locals := 0 }
set_option maxHeartbeats 4000000 in
set_option maxRecDepth 100000 in
theorem c_X1_has (l : Launch) (D : va_G) (cI cZ cJ : ClassId) (h0 a1 a2 a3 mo : Nat) (n : Nat) (x : Int32) (hn : n ≤ 4) : Mi l yX1_has cX1_has 2 (some .boolean) rm_X1_has D (TY cI cZ cJ) [.ref h0, .int x] [(h0, .inr (1, [.ref a1, .ref a2, .ref a3, .int (nI mo), .int (nI n)]))] (fun (r : Int32) (u : Unit) => (r = 1 ∧ ∃ j : Nat, j < n ∧ x = nI j) ∨ (r = 0 ∧ ¬ (0 ≤ x ∧ x < nI n))) (fun (u : Unit) => [(h0, .inr (1, [.ref a1, .ref a2, .ref a3, .int (nI mo), .int (nI n)]))]) := by
  refine Mi.ofQ (by decide) (Nat.le_of_ble_eq_true rfl) ?_
  intro p e s m args below meth c A ls Q hF hK hP hD hA hl hend
  obtain ⟨F, hr, hlocks, hG⟩ := hF
  have hx := F.1
  have hb := F.2.1
  have hown := F.2.2.2.1
  have ht := F.2.2.2.2
  have hS : va_S A s.heap s.heap [] := va_S.rf
  have hl : lv_has ls 2 [(0, .ref h0), (1, .int x)] := hl
  refine lv_iload_n hx hb dX1_has_0 rfl (lv_at hl 1 rfl) ?_
  refine lv_if_lt (tgt := 16) hx hb dX1_has_1 (by decide) (fun c_1 => ?_) (fun c_1 => ?_)
  · skip
    have c_1n := Int32.not_le.mpr c_1
    refine lv_iconst (v := 0) hx hb dX1_has_16 (by decide) ?_
    exact hend _ _ _ _ _ _ 0 () dX1_has_17 (Or.inr ⟨rfl, by simp [eq_true c_1, eq_false c_1n]⟩) hP hD hS (by decide) (Nat.le_of_ble_eq_true rfl) (Nat.le_of_ble_eq_true rfl)
  · skip
    have c_1n := Int32.not_lt.mp c_1
    refine lv_iload_n hx hb dX1_has_4 rfl (lv_at hl 1 rfl) ?_
    refine lv_aload_n hx hb dX1_has_5 rfl (lv_at hl 0 rfl) ?_
    refine va_get (D := D) (ci := 1) (v := .int (nI n)) (C := RX1) (T := TX1) (N := 5) hx hb ht inG_X1 hown hK hP 0 rfl rfl 4 (by decide) (ht _ qF_RX1_22) (fun _ h9 => h9) rfl dX1_has_6 ?_
    refine lv_icmp_ge (tgt := 16) hx hb dX1_has_9 (by decide) (fun c_2 => ?_) (fun c_2 => ?_)
    · skip
      have c_2n := Int32.not_lt.mpr c_2
      refine lv_iconst (v := 0) hx hb dX1_has_16 (by decide) ?_
      exact hend _ _ _ _ _ _ 0 () dX1_has_17 (Or.inr ⟨rfl, by simp [eq_false c_1, eq_true c_1n, eq_true c_2, eq_false c_2n]⟩) hP hD hS (by decide) (Nat.le_of_ble_eq_true rfl) (Nat.le_of_ble_eq_true rfl)
    · skip
      have c_2n := Int32.not_le.mp c_2
      refine lv_iconst (v := 1) hx hb dX1_has_12 (by decide) ?_
      refine lv_goto (tgt := 17) hx hb dX1_has_13 (by decide) ?_
      exact hend _ _ _ _ _ _ 1 () dX1_has_17 (Or.inl ⟨rfl, hasP (by omega) c_1 c_2⟩) hP hD hS (by decide) (Nat.le_of_ble_eq_true rfl) (Nat.le_of_ble_eq_true rfl)

def rm_X1_full : Room := { frames := 0, cells := 0, slots := 0, locals := 0 }
set_option maxHeartbeats 4000000 in
set_option maxRecDepth 100000 in
theorem c_X1_full (l : Launch) (D : va_G) (cI cZ cJ : ClassId) (h0 a1 a2 a3 mo : Nat) (n : Nat) (hn : n ≤ 4) (hmo : mo ≤ 4) : Mi l yX1_full cX1_full 1 (some .boolean) rm_X1_full D (TY cI cZ cJ) [.ref h0] [(h0, .inr (1, [.ref a1, .ref a2, .ref a3, .int (nI mo), .int (nI n)]))] (fun (r : Int32) (u : Unit) => (r = 1 ∧ mo ≤ n) ∨ (r = 0 ∧ n < mo)) (fun (u : Unit) => [(h0, .inr (1, [.ref a1, .ref a2, .ref a3, .int (nI mo), .int (nI n)]))]) := by
  refine Mi.ofQ (by decide) (Nat.le_of_ble_eq_true rfl) ?_
  intro p e s m args below meth c A ls Q hF hK hP hD hA hl hend
  obtain ⟨F, hr, hlocks, hG⟩ := hF
  have hx := F.1
  have hb := F.2.1
  have hown := F.2.2.2.1
  have ht := F.2.2.2.2
  have hS : va_S A s.heap s.heap [] := va_S.rf
  have hl : lv_has ls 1 [(0, .ref h0)] := hl
  refine lv_aload_n hx hb dX1_full_0 rfl (lv_at hl 0 rfl) ?_
  refine va_get (D := D) (ci := 1) (v := .int (nI n)) (C := RX1) (T := TX1) (N := 5) hx hb ht inG_X1 hown hK hP 0 rfl rfl 4 (by decide) (ht _ qF_RX1_22) (fun _ h9 => h9) rfl dX1_full_1 ?_
  refine lv_aload_n hx hb dX1_full_4 rfl (lv_at hl 0 rfl) ?_
  refine va_get (D := D) (ci := 1) (v := .int (nI mo)) (C := RX1) (T := TX1) (N := 5) hx hb ht inG_X1 hown hK hP 0 rfl rfl 3 (by decide) (ht _ qF_RX1_32) (fun _ h9 => h9) rfl dX1_full_5 ?_
  refine lv_icmp_lt (tgt := 15) hx hb dX1_full_8 (by decide) (fun c_1 => ?_) (fun c_1 => ?_)
  · skip
    have c_1n := Int32.not_le.mpr c_1
    have c_1m := (nI_ltI (a := n) (b := mo) (by omega) (by omega)).mp c_1
    refine lv_iconst (v := 0) hx hb dX1_full_15 (by decide) ?_
    exact hend _ _ _ _ _ _ 0 () dX1_full_16 (Or.inr ⟨rfl, c_1m⟩) hP hD hS (by decide) (Nat.le_of_ble_eq_true rfl) (Nat.le_of_ble_eq_true rfl)
  · skip
    have c_1n := Int32.not_lt.mp c_1
    have c_1m := (nI_leI (a := mo) (b := n) (by omega) (by omega)).mp c_1n
    refine lv_iconst (v := 1) hx hb dX1_full_11 (by decide) ?_
    refine lv_goto (tgt := 16) hx hb dX1_full_12 (by decide) ?_
    exact hend _ _ _ _ _ _ 1 () dX1_full_16 (Or.inl ⟨rfl, c_1m⟩) hP hD hS (by decide) (Nat.le_of_ble_eq_true rfl) (Nat.le_of_ble_eq_true rfl)

def rm_X1_add : Room := { frames := 0, cells := 0, slots := 0, locals := 0 }
set_option maxHeartbeats 4000000 in
set_option maxRecDepth 100000 in
theorem c_X1_add (l : Launch) (D : va_G) (cI cZ cJ : ClassId) (h0 a1 a2 a3 mo : Nat) (wa : Nat → Int32) (n : Nat) (x : Int32) (hn : n < 4) : Mi l yX1_add cX1_add 3 (some .int) rm_X1_add D (TY cI cZ cJ) [.ref h0, .int x] [(h0, .inr (1, [.ref a1, .ref a2, .ref a3, .int (nI mo), .int (nI n)])), (a1, .inl (cI, 4, .inl wa))] (fun (r : Int32) (u : (Nat → Int32)) => r = nI n ∧ u = upd wa n x) (fun (u : (Nat → Int32)) => [(h0, .inr (1, [.ref a1, .ref a2, .ref a3, .int (nI mo), .int (nI (n + 1))])), (a1, .inl (cI, 4, .inl u))]) := by
  refine Mi.ofQ (by decide) (Nat.le_of_ble_eq_true rfl) ?_
  intro p e s m args below meth c A ls Q hF hK hP hD hA hl hend
  obtain ⟨F, hr, hlocks, hG⟩ := hF
  have hx := F.1
  have hb := F.2.1
  have hown := F.2.2.2.1
  have ht := F.2.2.2.2
  have hS : va_S A s.heap s.heap [] := va_S.rf
  have hl : lv_has ls 3 [(0, .ref h0), (1, .int x)] := hl
  refine lv_aload_n hx hb dX1_add_0 rfl (lv_at hl 0 rfl) ?_
  refine va_get (D := D) (ci := 1) (v := .int (nI n)) (C := RX1) (T := TX1) (N := 5) hx hb ht inG_X1 hown hK hP 0 rfl rfl 4 (by decide) (ht _ qF_RX1_22) (fun _ h9 => h9) rfl dX1_add_1 ?_
  refine lv_istore_n (lv' := [(2, .int (nI n)), (0, .ref h0), (1, .int x)]) hx hb dX1_add_4 rfl hl (by decide) rfl (fun ls hl => ?_)
  refine lv_aload_n hx hb dX1_add_5 rfl (lv_at hl 1 rfl) ?_
  refine va_get (D := D) (ci := 1) (v := .ref a1) (C := RX1) (T := TX1) (N := 5) hx hb ht inG_X1 hown hK hP 0 rfl rfl 0 (by decide) (ht _ qF_RX1_9) (fun _ h9 => h9) rfl dX1_add_6 ?_
  refine lv_iload_n hx hb dX1_add_9 rfl (lv_at hl 0 rfl) ?_
  refine lv_iload_n hx hb dX1_add_10 rfl (lv_at hl 2 rfl) ?_
  refine sI_ hx hb hK hP hD hS 1 0 rfl rfl n (rfl) (by omega) (by decide) (upd wa n x) (rfl) dX1_add_11 (fun H locs hP hD hS => ?_)
  have hP : va_P D vwCl [(h0, .inr (1, [.ref a1, .ref a2, .ref a3, .int (nI mo), .int (nI n)])), (a1, .inl (cI, 4, .inl (upd wa n x)))] _ := hP
  have hD : va_D A [(h0, .inr (1, [.ref a1, .ref a2, .ref a3, .int (nI mo), .int (nI n)])), (a1, .inl (cI, 4, .inl (upd wa n x)))] := hD
  refine lv_aload_n hx hb dX1_add_12 rfl (lv_at hl 1 rfl) ?_
  refine lv_dup hx hb dX1_add_13 rfl ?_
  refine va_get (D := D) (ci := 1) (v := .int (nI n)) (C := RX1) (T := TX1) (N := 5) hx hb ht inG_X1 hown hK hP 0 rfl rfl 4 (by decide) (ht _ qF_RX1_22) (fun _ h9 => h9) rfl dX1_add_14 ?_
  refine lv_iconst (v := 1) hx hb dX1_add_17 (by decide) ?_
  refine lv_iadd hx hb dX1_add_18 ?_
  refine t_i (nI (n + 1)) (nI_1 n) ?_
  refine va_put (D := D) (ci := 1) (v := .int (nI (n + 1))) (C := RX1) (T := TX1) (N := 5) hx hb ht inG_X1 tyX1 tyX1_ok nmX1 hown hK hP hD hS 0 rfl rfl 4 (by decide) (ht _ qF_RX1_22) (fun _ h9 => h9) rfl (tyX1_ok 4 (by decide)) rfl rfl (Nat.le_of_ble_eq_true rfl) dX1_add_19 (fun H locs hP hD hS => ?_)
  have hP : va_P D vwCl [(h0, .inr (1, [.ref a1, .ref a2, .ref a3, .int (nI mo), .int (nI (n + 1))])), (a1, .inl (cI, 4, .inl (upd wa n x)))] _ := hP
  have hD : va_D A [(h0, .inr (1, [.ref a1, .ref a2, .ref a3, .int (nI mo), .int (nI (n + 1))])), (a1, .inl (cI, 4, .inl (upd wa n x)))] := hD
  refine lv_iload_n hx hb dX1_add_22 rfl (lv_at hl 0 rfl) ?_
  exact hend _ _ _ _ _ _ (nI n) (upd wa n x) dX1_add_23 (⟨rfl, rfl⟩) hP hD hS rfl (Nat.le_of_ble_eq_true rfl) (Nat.le_of_ble_eq_true rfl)

def rm_X1_empty : Room := { frames := 0, cells := 0, slots := 0, locals := 0 }
set_option maxHeartbeats 4000000 in
set_option maxRecDepth 100000 in
theorem c_X1_empty (l : Launch) (D : va_G) (cI cZ cJ : ClassId) (h0 a1 a2 a3 mo : Nat) (wa al bo : Nat → Int32) (n k : Nat) (hk : k < 4) : Mv l yX1_empty cX1_empty 2 rm_X1_empty D (TY cI cZ cJ) [.ref h0, .int (nI k)] [(h0, .inr (1, [.ref a1, .ref a2, .ref a3, .int (nI mo), .int (nI n)])), (a1, .inl (cI, 4, .inl wa)), (a2, .inl (cI, 4, .inl al)), (a3, .inl (cZ, 4, .inl bo))] (fun (u : (Nat → Int32) × (Nat → Int32) × (Nat → Int32)) => u.1 = upd wa k 0 ∧ u.2.1 = upd al k 0 ∧ u.2.2 = upd bo k 0) (fun (u : (Nat → Int32) × (Nat → Int32) × (Nat → Int32)) => [(h0, .inr (1, [.ref a1, .ref a2, .ref a3, .int (nI mo), .int (nI n)])), (a1, .inl (cI, 4, .inl u.1)), (a2, .inl (cI, 4, .inl u.2.1)), (a3, .inl (cZ, 4, .inl u.2.2))]) := by
  refine Mv.ofQ (by decide) (Nat.le_of_ble_eq_true rfl) ?_
  intro p e s m args below meth c A ls Q hF hK hP hD hA hl hend hin
  obtain ⟨F, hr, hlocks, hG⟩ := hF
  have hx := F.1
  have hb := F.2.1
  have hown := F.2.2.2.1
  have ht := F.2.2.2.2
  have hS : va_S A s.heap s.heap [] := va_S.rf
  have hl : lv_has ls 2 [(0, .ref h0), (1, .int (nI k))] := hl
  refine lv_aload_n hx hb dX1_empty_0 rfl (lv_at hl 0 rfl) ?_
  refine va_get (D := D) (ci := 1) (v := .ref a1) (C := RX1) (T := TX1) (N := 5) hx hb ht inG_X1 hown hK hP 0 rfl rfl 0 (by decide) (ht _ qF_RX1_9) (fun _ h9 => h9) rfl dX1_empty_1 ?_
  refine lv_iload_n hx hb dX1_empty_4 rfl (lv_at hl 1 rfl) ?_
  refine lv_iconst (v := 0) hx hb dX1_empty_5 (by decide) ?_
  refine sI_ hx hb hK hP hD hS 1 0 rfl rfl k (rfl) (by omega) (by decide) (upd wa k 0) (rfl) dX1_empty_6 (fun H locs hP hD hS => ?_)
  have hP : va_P D vwCl [(h0, .inr (1, [.ref a1, .ref a2, .ref a3, .int (nI mo), .int (nI n)])), (a1, .inl (cI, 4, .inl (upd wa k 0))), (a2, .inl (cI, 4, .inl al)), (a3, .inl (cZ, 4, .inl bo))] _ := hP
  have hD : va_D A [(h0, .inr (1, [.ref a1, .ref a2, .ref a3, .int (nI mo), .int (nI n)])), (a1, .inl (cI, 4, .inl (upd wa k 0))), (a2, .inl (cI, 4, .inl al)), (a3, .inl (cZ, 4, .inl bo))] := hD
  refine lv_aload_n hx hb dX1_empty_7 rfl (lv_at hl 0 rfl) ?_
  refine va_get (D := D) (ci := 1) (v := .ref a2) (C := RX1) (T := TX1) (N := 5) hx hb ht inG_X1 hown hK hP 0 rfl rfl 1 (by decide) (ht _ qF_RX1_15) (fun _ h9 => h9) rfl dX1_empty_8 ?_
  refine lv_iload_n hx hb dX1_empty_11 rfl (lv_at hl 1 rfl) ?_
  refine lv_iconst (v := 0) hx hb dX1_empty_12 (by decide) ?_
  refine sI_ hx hb hK hP hD hS 2 0 rfl rfl k (rfl) (by omega) (by decide) (upd al k 0) (rfl) dX1_empty_13 (fun H locs hP hD hS => ?_)
  have hP : va_P D vwCl [(h0, .inr (1, [.ref a1, .ref a2, .ref a3, .int (nI mo), .int (nI n)])), (a1, .inl (cI, 4, .inl (upd wa k 0))), (a2, .inl (cI, 4, .inl (upd al k 0))), (a3, .inl (cZ, 4, .inl bo))] _ := hP
  have hD : va_D A [(h0, .inr (1, [.ref a1, .ref a2, .ref a3, .int (nI mo), .int (nI n)])), (a1, .inl (cI, 4, .inl (upd wa k 0))), (a2, .inl (cI, 4, .inl (upd al k 0))), (a3, .inl (cZ, 4, .inl bo))] := hD
  refine lv_aload_n hx hb dX1_empty_14 rfl (lv_at hl 0 rfl) ?_
  refine va_get (D := D) (ci := 1) (v := .ref a3) (C := RX1) (T := TX1) (N := 5) hx hb ht inG_X1 hown hK hP 0 rfl rfl 2 (by decide) (ht _ qF_RX1_18) (fun _ h9 => h9) rfl dX1_empty_15 ?_
  refine lv_iload_n hx hb dX1_empty_18 rfl (lv_at hl 1 rfl) ?_
  refine lv_iconst (v := 0) hx hb dX1_empty_19 (by decide) ?_
  refine sZ_ hx hb hK hP hD hS 3 1 rfl rfl k (rfl) (by omega) (by decide) (by decide) (upd bo k 0) (rfl) dX1_empty_20 (fun H locs hP hD hS => ?_)
  have hP : va_P D vwCl [(h0, .inr (1, [.ref a1, .ref a2, .ref a3, .int (nI mo), .int (nI n)])), (a1, .inl (cI, 4, .inl (upd wa k 0))), (a2, .inl (cI, 4, .inl (upd al k 0))), (a3, .inl (cZ, 4, .inl (upd bo k 0)))] _ := hP
  have hD : va_D A [(h0, .inr (1, [.ref a1, .ref a2, .ref a3, .int (nI mo), .int (nI n)])), (a1, .inl (cI, 4, .inl (upd wa k 0))), (a2, .inl (cI, 4, .inl (upd al k 0))), (a3, .inl (cZ, 4, .inl (upd bo k 0)))] := hD
  exact hend _ _ _ _ _ _ (upd wa k 0, upd al k 0, upd bo k 0) dX1_empty_21 (⟨rfl, rfl, rfl⟩) hP hD hS (Nat.le_of_ble_eq_true rfl) (Nat.le_of_ble_eq_true rfl)

def rm_X1_strength : Room := { frames := 1, cells := 0, slots := 0, locals := 22 }
set_option maxHeartbeats 4000000 in
set_option maxRecDepth 100000 in
theorem c_X1_strength (l : Launch) (D : va_G) (cI cZ cJ : ClassId) (h0 a1 a2 a3 mo : Nat) (wa al : Nat → Int32) (n k : Nat) (hk : k < 4) : Mi l yX1_strength cX1_strength 2 (some .int) rm_X1_strength D (TY cI cZ cJ) [.ref h0, .int (nI k)] [(h0, .inr (1, [.ref a1, .ref a2, .ref a3, .int (nI mo), .int (nI n)])), (a1, .inl (cI, 4, .inl wa)), (a2, .inl (cI, 4, .inl al))] (fun (r : Int32) (u : Unit) => r = strg (wa k) (al k)) (fun (u : Unit) => [(h0, .inr (1, [.ref a1, .ref a2, .ref a3, .int (nI mo), .int (nI n)])), (a1, .inl (cI, 4, .inl wa)), (a2, .inl (cI, 4, .inl al))]) := by
  refine Mi.ofQ (by decide) (Nat.le_of_ble_eq_true rfl) ?_
  intro p e s m args below meth c A ls Q hF hK hP hD hA hl hend
  obtain ⟨F, hr, hlocks, hG⟩ := hF
  have hx := F.1
  have hb := F.2.1
  have hown := F.2.2.2.1
  have ht := F.2.2.2.2
  have hS : va_S A s.heap s.heap [] := va_S.rf
  have hl : lv_has ls 2 [(0, .ref h0), (1, .int (nI k))] := hl
  refine lv_aload_n hx hb dX1_strength_0 rfl (lv_at hl 0 rfl) ?_
  refine va_get (D := D) (ci := 1) (v := .ref a1) (C := RX1) (T := TX1) (N := 5) hx hb ht inG_X1 hown hK hP 0 rfl rfl 0 (by decide) (ht _ qF_RX1_9) (fun _ h9 => h9) rfl dX1_strength_1 ?_
  refine lv_iload_n hx hb dX1_strength_4 rfl (lv_at hl 1 rfl) ?_
  refine aI hx hb hK hP 1 0 rfl rfl k (rfl) (by omega) (by decide) (v := wa k) (rfl) dX1_strength_5 ?_
  refine lv_aload_n hx hb dX1_strength_6 rfl (lv_at hl 0 rfl) ?_
  refine va_get (D := D) (ci := 1) (v := .ref a2) (C := RX1) (T := TX1) (N := 5) hx hb ht inG_X1 hown hK hP 0 rfl rfl 1 (by decide) (ht _ qF_RX1_15) (fun _ h9 => h9) rfl dX1_strength_7 ?_
  refine lv_iload_n hx hb dX1_strength_10 rfl (lv_at hl 1 rfl) ?_
  refine aI hx hb hK hP 2 0 rfl rfl k (rfl) (by omega) (by decide) (v := al k) (rfl) dX1_strength_11 ?_
  refine k_i (wr := [(h0, .inr (1, [.ref a1, .ref a2, .ref a3, .int (nI mo), .int (nI n)])), (a1, .inl (cI, 4, .inl wa)), (a2, .inl (cI, 4, .inl al))]) (rSN (As := [.int (wa k), .int (al k)]) (rest := []) F hG hK (hP.sub (ws' := []) [] rfl) ((hD.sub (ws' := []) [] (by decide) rfl).weaken (fun _ _ _ _ => trivial)) s_RX1_35 (c_X3_strengthOf l D cI cZ cJ (wa k) (al k) _) rfl hl.1 rfl (Nat.le_of_ble_eq_true rfl) dX1_strength_12 ⟨(Nat.le_of_ble_eq_true rfl), (Nat.le_of_ble_eq_true rfl)⟩ ⟨(Nat.le_of_ble_eq_true rfl), (Nat.le_of_ble_eq_true rfl)⟩) hP hD hS hA [] [0, 1, 2] rfl rfl (by decide) (by decide) (fun r_12 u H locs hw hP hD hS => ?_)
  try dsimp only at hw
  subst hw
  have hP : va_P D vwCl [(h0, .inr (1, [.ref a1, .ref a2, .ref a3, .int (nI mo), .int (nI n)])), (a1, .inl (cI, 4, .inl wa)), (a2, .inl (cI, 4, .inl al))] _ := hP
  have hD : va_D A [(h0, .inr (1, [.ref a1, .ref a2, .ref a3, .int (nI mo), .int (nI n)])), (a1, .inl (cI, 4, .inl wa)), (a2, .inl (cI, 4, .inl al))] := hD
  exact hend _ _ _ _ _ _ (strg (wa k) (al k)) () dX1_strength_15 (rfl) hP hD hS rfl (Nat.le_of_ble_eq_true rfl) (Nat.le_of_ble_eq_true rfl)

def rm_X1_egg : Room := { frames := 2, cells := 0, slots := 0, locals := 43 }
set_option maxHeartbeats 4000000 in
set_option maxRecDepth 100000 in
theorem c_X1_egg (l : Launch) (D : va_G) (cI cZ cJ : ClassId) (h0 a1 a2 a3 mo : Nat) (wa al : Nat → Int32) (n k : Nat) (hk : k < 4) : Mi l yX1_egg cX1_egg 2 (some .int) rm_X1_egg D (TY cI cZ cJ) [.ref h0, .int (nI k)] [(h0, .inr (1, [.ref a1, .ref a2, .ref a3, .int (nI mo), .int (nI n)])), (a1, .inl (cI, 4, .inl wa)), (a2, .inl (cI, 4, .inl al))] (fun (r : Int32) (u : Unit) => r = eggB (strg (wa k) (al k))) (fun (u : Unit) => [(h0, .inr (1, [.ref a1, .ref a2, .ref a3, .int (nI mo), .int (nI n)])), (a1, .inl (cI, 4, .inl wa)), (a2, .inl (cI, 4, .inl al))]) := by
  refine Mi.ofQ (by decide) (Nat.le_of_ble_eq_true rfl) ?_
  intro p e s m args below meth c A ls Q hF hK hP hD hA hl hend
  obtain ⟨F, hr, hlocks, hG⟩ := hF
  have hx := F.1
  have hb := F.2.1
  have hown := F.2.2.2.1
  have ht := F.2.2.2.2
  have hS : va_S A s.heap s.heap [] := va_S.rf
  have hl : lv_has ls 2 [(0, .ref h0), (1, .int (nI k))] := hl
  refine lv_aload_n hx hb dX1_egg_0 rfl (lv_at hl 0 rfl) ?_
  refine lv_iload_n hx hb dX1_egg_1 rfl (lv_at hl 1 rfl) ?_
  refine k_i (wr := []) (rV (As := [.int (nI k)]) (rest := []) F hG hK (hP.sub (ws' := [(h0, .inr (1, [.ref a1, .ref a2, .ref a3, .int (nI mo), .int (nI n)])), (a1, .inl (cI, 4, .inl wa)), (a2, .inl (cI, 4, .inl al))]) [0, 1, 2] rfl) ((hD.sub (ws' := [(h0, .inr (1, [.ref a1, .ref a2, .ref a3, .int (nI mo), .int (nI n)])), (a1, .inl (cI, 4, .inl wa)), (a2, .inl (cI, 4, .inl al))]) [0, 1, 2] (by decide) rfl).weaken (fun _ _ _ _ => trivial)) s_RX1_38 (c_X1_strength l D cI cZ cJ h0 a1 a2 a3 mo wa al n k (by first | assumption | omega) _) 1 0 rfl rfl rfl rfl hl.1 rfl (Nat.le_of_ble_eq_true rfl) dX1_egg_2 ⟨(Nat.le_of_ble_eq_true rfl), (Nat.le_of_ble_eq_true rfl)⟩ ⟨(Nat.le_of_ble_eq_true rfl), (Nat.le_of_ble_eq_true rfl)⟩) hP hD hS hA [0, 1, 2] [] rfl rfl (by decide) (by decide) (fun r_2 u H locs hw hP hD hS => ?_)
  try dsimp only at hw
  subst hw
  have hP : va_P D vwCl [(h0, .inr (1, [.ref a1, .ref a2, .ref a3, .int (nI mo), .int (nI n)])), (a1, .inl (cI, 4, .inl wa)), (a2, .inl (cI, 4, .inl al))] _ := hP
  have hD : va_D A [(h0, .inr (1, [.ref a1, .ref a2, .ref a3, .int (nI mo), .int (nI n)])), (a1, .inl (cI, 4, .inl wa)), (a2, .inl (cI, 4, .inl al))] := hD
  refine k_i (wr := [(h0, .inr (1, [.ref a1, .ref a2, .ref a3, .int (nI mo), .int (nI n)])), (a1, .inl (cI, 4, .inl wa)), (a2, .inl (cI, 4, .inl al))]) (rSN (As := [.int (strg (wa k) (al k))]) (rest := []) F hG hK (hP.sub (ws' := []) [] rfl) ((hD.sub (ws' := []) [] (by decide) rfl).weaken (fun _ _ _ _ => trivial)) s_RX1_42 (c_X3_eggBy l D cI cZ cJ (strg (wa k) (al k)) _) rfl hl.1 rfl (Nat.le_of_ble_eq_true rfl) dX1_egg_5 ⟨(Nat.le_of_ble_eq_true rfl), (Nat.le_of_ble_eq_true rfl)⟩ ⟨(Nat.le_of_ble_eq_true rfl), (Nat.le_of_ble_eq_true rfl)⟩) hP hD hS hA [] [0, 1, 2] rfl rfl (by decide) (by decide) (fun r_5 u H locs hw hP hD hS => ?_)
  try dsimp only at hw
  subst hw
  have hP : va_P D vwCl [(h0, .inr (1, [.ref a1, .ref a2, .ref a3, .int (nI mo), .int (nI n)])), (a1, .inl (cI, 4, .inl wa)), (a2, .inl (cI, 4, .inl al))] _ := hP
  have hD : va_D A [(h0, .inr (1, [.ref a1, .ref a2, .ref a3, .int (nI mo), .int (nI n)])), (a1, .inl (cI, 4, .inl wa)), (a2, .inl (cI, 4, .inl al))] := hD
  exact hend _ _ _ _ _ _ (eggB (strg (wa k) (al k))) () dX1_egg_8 (rfl) hP hD hS rfl (Nat.le_of_ble_eq_true rfl) (Nat.le_of_ble_eq_true rfl)

def rm_X1_tell : Room := { frames := 3, cells := 0, slots := 0, locals := 64 }
set_option maxHeartbeats 4000000 in
set_option maxRecDepth 100000 in
theorem c_X1_tell (l : Launch) (D : va_G) (cI cZ cJ : ClassId) (h0 a1 a2 a3 mo : Nat) (wa al bo : Nat → Int32) (n k : Nat) (x : Int32) (hk : k < 4) : Mi l yX1_tell cX1_tell 3 (some .int) rm_X1_tell D (TY cI cZ cJ) [.ref h0, .int (nI k), .int x] [(h0, .inr (1, [.ref a1, .ref a2, .ref a3, .int (nI mo), .int (nI n)])), (a1, .inl (cI, 4, .inl wa)), (a2, .inl (cI, 4, .inl al)), (a3, .inl (cZ, 4, .inl bo))] (fun (r : Int32) (u : Unit) => r = ltell wa al bo k x) (fun (u : Unit) => [(h0, .inr (1, [.ref a1, .ref a2, .ref a3, .int (nI mo), .int (nI n)])), (a1, .inl (cI, 4, .inl wa)), (a2, .inl (cI, 4, .inl al)), (a3, .inl (cZ, 4, .inl bo))]) := by
  refine Mi.ofQ (by decide) (Nat.le_of_ble_eq_true rfl) ?_
  intro p e s m args below meth c A ls Q hF hK hP hD hA hl hend
  obtain ⟨F, hr, hlocks, hG⟩ := hF
  have hx := F.1
  have hb := F.2.1
  have hown := F.2.2.2.1
  have ht := F.2.2.2.2
  have hS : va_S A s.heap s.heap [] := va_S.rf
  have hl : lv_has ls 3 [(0, .ref h0), (1, .int (nI k)), (2, .int x)] := hl
  refine lv_iload_n hx hb dX1_tell_0 rfl (lv_at hl 2 rfl) ?_
  have w_1 : Int32.toInt x = 0 ∨ Int32.toInt x = 1 ∨ Int32.toInt x = 2 ∨ Int32.toInt x = 3 ∨ (Int32.toInt x < 0 ∨ 3 < Int32.toInt x) := by omega
  rcases w_1 with w_1 | w_1 | w_1 | w_1 | w_1
  · skip
    refine lv_tableIn (off := 31) (tgt := 32) hx hb dX1_tell_1 (by rw [w_1]; decide) (by rw [w_1]; decide) (by rw [w_1]; rfl) (by decide) ?_
    have w_1e : x = 0 := Int32.toInt_inj.mp w_1
    have w_1n1 : ¬ x = 1 := fun q => by rw [q] at w_1; revert w_1; decide
    have w_1n2 : ¬ x = 2 := fun q => by rw [q] at w_1; revert w_1; decide
    have w_1n3 : ¬ x = 3 := fun q => by rw [q] at w_1; revert w_1; decide
    refine lv_aload_n hx hb dX1_tell_32 rfl (lv_at hl 0 rfl) ?_
    refine va_get (D := D) (ci := 1) (v := .ref a1) (C := RX1) (T := TX1) (N := 5) hx hb ht inG_X1 hown hK hP 0 rfl rfl 0 (by decide) (ht _ qF_RX1_9) (fun _ h9 => h9) rfl dX1_tell_33 ?_
    refine lv_iload_n hx hb dX1_tell_36 rfl (lv_at hl 1 rfl) ?_
    refine aI hx hb hK hP 1 0 rfl rfl k (rfl) (by omega) (by decide) (v := wa k) (rfl) dX1_tell_37 ?_
    exact hend _ _ _ _ _ _ (wa k) () dX1_tell_38 (by simp only [ltell, b01, eq_true w_1e, eq_false w_1n1, eq_false w_1n2, eq_false w_1n3, if_true, if_false]) hP hD hS rfl (Nat.le_of_ble_eq_true rfl) (Nat.le_of_ble_eq_true rfl)
  · skip
    refine lv_tableIn (off := 38) (tgt := 39) hx hb dX1_tell_1 (by rw [w_1]; decide) (by rw [w_1]; decide) (by rw [w_1]; rfl) (by decide) ?_
    have w_1e : x = 1 := Int32.toInt_inj.mp w_1
    have w_1n0 : ¬ x = 0 := fun q => by rw [q] at w_1; revert w_1; decide
    have w_1n2 : ¬ x = 2 := fun q => by rw [q] at w_1; revert w_1; decide
    have w_1n3 : ¬ x = 3 := fun q => by rw [q] at w_1; revert w_1; decide
    refine lv_aload_n hx hb dX1_tell_39 rfl (lv_at hl 0 rfl) ?_
    refine va_get (D := D) (ci := 1) (v := .ref a2) (C := RX1) (T := TX1) (N := 5) hx hb ht inG_X1 hown hK hP 0 rfl rfl 1 (by decide) (ht _ qF_RX1_15) (fun _ h9 => h9) rfl dX1_tell_40 ?_
    refine lv_iload_n hx hb dX1_tell_43 rfl (lv_at hl 1 rfl) ?_
    refine aI hx hb hK hP 2 0 rfl rfl k (rfl) (by omega) (by decide) (v := al k) (rfl) dX1_tell_44 ?_
    exact hend _ _ _ _ _ _ (al k) () dX1_tell_45 (by simp only [ltell, b01, eq_true w_1e, eq_false w_1n0, eq_false w_1n2, eq_false w_1n3, if_true, if_false]) hP hD hS rfl (Nat.le_of_ble_eq_true rfl) (Nat.le_of_ble_eq_true rfl)
  · skip
    refine lv_tableIn (off := 45) (tgt := 46) hx hb dX1_tell_1 (by rw [w_1]; decide) (by rw [w_1]; decide) (by rw [w_1]; rfl) (by decide) ?_
    have w_1e : x = 2 := Int32.toInt_inj.mp w_1
    have w_1n0 : ¬ x = 0 := fun q => by rw [q] at w_1; revert w_1; decide
    have w_1n1 : ¬ x = 1 := fun q => by rw [q] at w_1; revert w_1; decide
    have w_1n3 : ¬ x = 3 := fun q => by rw [q] at w_1; revert w_1; decide
    refine lv_aload_n hx hb dX1_tell_46 rfl (lv_at hl 0 rfl) ?_
    refine lv_iload_n hx hb dX1_tell_47 rfl (lv_at hl 1 rfl) ?_
    refine k_i (wr := [(a3, .inl (cZ, 4, .inl bo))]) (rV (As := [.int (nI k)]) (rest := []) F hG hK (hP.sub (ws' := [(h0, .inr (1, [.ref a1, .ref a2, .ref a3, .int (nI mo), .int (nI n)])), (a1, .inl (cI, 4, .inl wa)), (a2, .inl (cI, 4, .inl al))]) [0, 1, 2] rfl) ((hD.sub (ws' := [(h0, .inr (1, [.ref a1, .ref a2, .ref a3, .int (nI mo), .int (nI n)])), (a1, .inl (cI, 4, .inl wa)), (a2, .inl (cI, 4, .inl al))]) [0, 1, 2] (by decide) rfl).weaken (fun _ _ _ _ => trivial)) s_RX1_38 (c_X1_strength l D cI cZ cJ h0 a1 a2 a3 mo wa al n k (by first | assumption | omega) _) 1 0 rfl rfl rfl rfl hl.1 rfl (Nat.le_of_ble_eq_true rfl) dX1_tell_48 ⟨(Nat.le_of_ble_eq_true rfl), (Nat.le_of_ble_eq_true rfl)⟩ ⟨(Nat.le_of_ble_eq_true rfl), (Nat.le_of_ble_eq_true rfl)⟩) hP hD hS hA [0, 1, 2] [3] rfl rfl (by decide) (by decide) (fun r_48 u H locs hw hP hD hS => ?_)
    try dsimp only at hw
    subst hw
    have hP : va_P D vwCl [(a3, .inl (cZ, 4, .inl bo)), (h0, .inr (1, [.ref a1, .ref a2, .ref a3, .int (nI mo), .int (nI n)])), (a1, .inl (cI, 4, .inl wa)), (a2, .inl (cI, 4, .inl al))] _ := hP
    have hD : va_D A [(a3, .inl (cZ, 4, .inl bo)), (h0, .inr (1, [.ref a1, .ref a2, .ref a3, .int (nI mo), .int (nI n)])), (a1, .inl (cI, 4, .inl wa)), (a2, .inl (cI, 4, .inl al))] := hD
    exact hend _ _ _ _ _ _ (strg (wa k) (al k)) () dX1_tell_51 (by simp only [ltell, b01, eq_true w_1e, eq_false w_1n0, eq_false w_1n1, eq_false w_1n3, if_true, if_false]) (hP.sub [1, 2, 3, 0] rfl) (hD.sub [1, 2, 3, 0] (by decide) rfl) hS rfl (Nat.le_of_ble_eq_true rfl) (Nat.le_of_ble_eq_true rfl)
  · skip
    refine lv_tableIn (off := 51) (tgt := 52) hx hb dX1_tell_1 (by rw [w_1]; decide) (by rw [w_1]; decide) (by rw [w_1]; rfl) (by decide) ?_
    have w_1e : x = 3 := Int32.toInt_inj.mp w_1
    have w_1n0 : ¬ x = 0 := fun q => by rw [q] at w_1; revert w_1; decide
    have w_1n1 : ¬ x = 1 := fun q => by rw [q] at w_1; revert w_1; decide
    have w_1n2 : ¬ x = 2 := fun q => by rw [q] at w_1; revert w_1; decide
    refine lv_aload_n hx hb dX1_tell_52 rfl (lv_at hl 0 rfl) ?_
    refine lv_iload_n hx hb dX1_tell_53 rfl (lv_at hl 1 rfl) ?_
    refine k_i (wr := [(a3, .inl (cZ, 4, .inl bo))]) (rV (As := [.int (nI k)]) (rest := []) F hG hK (hP.sub (ws' := [(h0, .inr (1, [.ref a1, .ref a2, .ref a3, .int (nI mo), .int (nI n)])), (a1, .inl (cI, 4, .inl wa)), (a2, .inl (cI, 4, .inl al))]) [0, 1, 2] rfl) ((hD.sub (ws' := [(h0, .inr (1, [.ref a1, .ref a2, .ref a3, .int (nI mo), .int (nI n)])), (a1, .inl (cI, 4, .inl wa)), (a2, .inl (cI, 4, .inl al))]) [0, 1, 2] (by decide) rfl).weaken (fun _ _ _ _ => trivial)) s_RX1_45 (c_X1_egg l D cI cZ cJ h0 a1 a2 a3 mo wa al n k (by first | assumption | omega) _) 1 0 rfl rfl rfl rfl hl.1 rfl (Nat.le_of_ble_eq_true rfl) dX1_tell_54 ⟨(Nat.le_of_ble_eq_true rfl), (Nat.le_of_ble_eq_true rfl)⟩ ⟨(Nat.le_of_ble_eq_true rfl), (Nat.le_of_ble_eq_true rfl)⟩) hP hD hS hA [0, 1, 2] [3] rfl rfl (by decide) (by decide) (fun r_54 u H locs hw hP hD hS => ?_)
    try dsimp only at hw
    subst hw
    have hP : va_P D vwCl [(a3, .inl (cZ, 4, .inl bo)), (h0, .inr (1, [.ref a1, .ref a2, .ref a3, .int (nI mo), .int (nI n)])), (a1, .inl (cI, 4, .inl wa)), (a2, .inl (cI, 4, .inl al))] _ := hP
    have hD : va_D A [(a3, .inl (cZ, 4, .inl bo)), (h0, .inr (1, [.ref a1, .ref a2, .ref a3, .int (nI mo), .int (nI n)])), (a1, .inl (cI, 4, .inl wa)), (a2, .inl (cI, 4, .inl al))] := hD
    exact hend _ _ _ _ _ _ (eggB (strg (wa k) (al k))) () dX1_tell_57 (by simp only [ltell, b01, eq_true w_1e, eq_false w_1n0, eq_false w_1n1, eq_false w_1n2, if_true, if_false]) (hP.sub [1, 2, 3, 0] rfl) (hD.sub [1, 2, 3, 0] (by decide) rfl) hS rfl (Nat.le_of_ble_eq_true rfl) (Nat.le_of_ble_eq_true rfl)
  · skip
    refine lv_tableOut (tgt := 58) hx hb dX1_tell_1 w_1 (by decide) ?_
    have w_1n0 : ¬ x = 0 := fun q => by rw [q] at w_1; revert w_1; decide
    have w_1n1 : ¬ x = 1 := fun q => by rw [q] at w_1; revert w_1; decide
    have w_1n2 : ¬ x = 2 := fun q => by rw [q] at w_1; revert w_1; decide
    have w_1n3 : ¬ x = 3 := fun q => by rw [q] at w_1; revert w_1; decide
    refine lv_aload_n hx hb dX1_tell_58 rfl (lv_at hl 0 rfl) ?_
    refine va_get (D := D) (ci := 1) (v := .ref a3) (C := RX1) (T := TX1) (N := 5) hx hb ht inG_X1 hown hK hP 0 rfl rfl 2 (by decide) (ht _ qF_RX1_18) (fun _ h9 => h9) rfl dX1_tell_59 ?_
    refine lv_iload_n hx hb dX1_tell_62 rfl (lv_at hl 1 rfl) ?_
    refine aZ hx hb hK hP 3 1 rfl rfl k (rfl) (by omega) (by decide) (v := bo k) (rfl) dX1_tell_63 ?_
    refine lv_if_eq (tgt := 71) hx hb dX1_tell_64 (by decide) (fun c_2 => ?_) (fun c_2 => ?_)
    · skip
      refine lv_iconst (v := 0) hx hb dX1_tell_71 (by decide) ?_
      exact hend _ _ _ _ _ _ 0 () dX1_tell_72 (by simp only [ltell, b01, eq_false w_1n0, eq_false w_1n1, eq_false w_1n2, eq_false w_1n3, eq_true c_2, if_true, if_false]) hP hD hS rfl (Nat.le_of_ble_eq_true rfl) (Nat.le_of_ble_eq_true rfl)
    · skip
      refine lv_iconst (v := 1) hx hb dX1_tell_67 (by decide) ?_
      refine lv_goto (tgt := 72) hx hb dX1_tell_68 (by decide) ?_
      exact hend _ _ _ _ _ _ 1 () dX1_tell_72 (by simp only [ltell, b01, eq_false w_1n0, eq_false w_1n1, eq_false w_1n2, eq_false w_1n3, eq_false c_2, if_true, if_false]) hP hD hS rfl (Nat.le_of_ble_eq_true rfl) (Nat.le_of_ble_eq_true rfl)

def rm_X1_allAlum : Room := { frames := 0, cells := 0, slots := 0, locals := 0 }
set_option maxHeartbeats 4000000 in
set_option maxRecDepth 100000 in
theorem c_X1_allAlum (l : Launch) (D : va_G) (cI cZ cJ : ClassId) (h0 a1 a2 a3 mo : Nat) (al : Nat → Int32) (n : Nat) (hn : n ≤ 4) : Mi l yX1_allAlum cX1_allAlum 3 (some .int) rm_X1_allAlum D (TY cI cZ cJ) [.ref h0] [(h0, .inr (1, [.ref a1, .ref a2, .ref a3, .int (nI mo), .int (nI n)])), (a2, .inl (cI, 4, .inl al))] (fun (r : Int32) (u : Unit) => r = sumF (al) n) (fun (u : Unit) => [(h0, .inr (1, [.ref a1, .ref a2, .ref a3, .int (nI mo), .int (nI n)])), (a2, .inl (cI, 4, .inl al))]) := by
  refine Mi.ofQ (by decide) (Nat.le_of_ble_eq_true rfl) ?_
  intro p e s m args below meth c A ls Q hF hK hP hD hA hl hend
  obtain ⟨F, hr, hlocks, hG⟩ := hF
  have hx := F.1
  have hb := F.2.1
  have hown := F.2.2.2.1
  have ht := F.2.2.2.2
  have hS : va_S A s.heap s.heap [] := va_S.rf
  have hl : lv_has ls 3 [(0, .ref h0)] := hl
  refine lv_iconst (v := 0) hx hb dX1_allAlum_0 (by decide) ?_
  refine lv_istore_n (lv' := [(1, .int 0), (0, .ref h0)]) hx hb dX1_allAlum_1 rfl hl (by decide) rfl (fun ls hl => ?_)
  refine lv_iconst (v := 0) hx hb dX1_allAlum_2 (by decide) ?_
  refine lv_istore_n (lv' := [(2, .int 0), (1, .int 0), (0, .ref h0)]) hx hb dX1_allAlum_3 rfl hl (by decide) rfl (fun ls hl => ?_)
  have loop4 : ∀ (kf i : Nat), i ≤ n → n < i + kf → ∀ (sm : Int32), sm = sumF (al) i → ∀ (H : Heap) (locs : List Loc), va_P D vwCl [(h0, .inr (1, [.ref a1, .ref a2, .ref a3, .int (nI mo), .int (nI n)])), (a2, .inl (cI, 4, .inl al))] H → va_D A [(h0, .inr (1, [.ref a1, .ref a2, .ref a3, .int (nI mo), .int (nI n)])), (a2, .inl (cI, 4, .inl al))] → va_S A s.heap H locs → ∀ (ls : Array Slot), lv_has ls 3 [(0, .ref h0), (1, .int sm), (2, .int (nI i))] → W p l e rm_X1_allAlum s m args below meth c H locs 0 0 Q (F0 m 4 ls []) := by
    intro kf
    induction kf with
    | zero =>
      intro i hle hlt
      exact absurd hlt (by omega)
    | succ kf ih =>
      intro i hle hlt sm e_sm H locs hP hD hS ls hl
      refine lv_iload_n hx hb dX1_allAlum_4 rfl (lv_at hl 2 rfl) ?_
      refine lv_aload_n hx hb dX1_allAlum_5 rfl (lv_at hl 0 rfl) ?_
      refine va_get (D := D) (ci := 1) (v := .int (nI n)) (C := RX1) (T := TX1) (N := 5) hx hb ht inG_X1 hown hK hP 0 rfl rfl 4 (by decide) (ht _ qF_RX1_22) (fun _ h9 => h9) rfl dX1_allAlum_6 ?_
      refine lv_icmp_ge (tgt := 27) hx hb dX1_allAlum_9 (by decide) (fun c_1 => ?_) (fun c_1 => ?_)
      · skip
        have c_1n := Int32.not_lt.mpr c_1
        have c_1m := (nI_leI (a := n) (b := i) (by omega) (by omega)).mp c_1
        refine lv_iload_n hx hb dX1_allAlum_27 rfl (lv_at hl 1 rfl) ?_
        exact hend _ _ _ _ _ _ sm () dX1_allAlum_28 (by rw [e_sm, show i = n by omega]) hP hD hS rfl (Nat.le_of_ble_eq_true rfl) (Nat.le_of_ble_eq_true rfl)
      · skip
        have c_1n := Int32.not_le.mp c_1
        have c_1m := (nI_ltI (a := i) (b := n) (by omega) (by omega)).mp c_1n
        refine lv_iload_n hx hb dX1_allAlum_12 rfl (lv_at hl 1 rfl) ?_
        refine lv_aload_n hx hb dX1_allAlum_13 rfl (lv_at hl 0 rfl) ?_
        refine va_get (D := D) (ci := 1) (v := .ref a2) (C := RX1) (T := TX1) (N := 5) hx hb ht inG_X1 hown hK hP 0 rfl rfl 1 (by decide) (ht _ qF_RX1_15) (fun _ h9 => h9) rfl dX1_allAlum_14 ?_
        refine lv_iload_n hx hb dX1_allAlum_17 rfl (lv_at hl 2 rfl) ?_
        refine aI hx hb hK hP 1 0 rfl rfl i (rfl) (by omega) (by decide) (v := al i) (rfl) dX1_allAlum_18 ?_
        refine lv_iadd hx hb dX1_allAlum_19 ?_
        refine lv_istore_n (lv' := [(1, .int (sm + (al i))), (0, .ref h0), (2, .int (nI i))]) hx hb dX1_allAlum_20 rfl hl (by decide) rfl (fun ls hl => ?_)
        refine lv_iinc (v := nI (i + 1)) (lv' := [(2, .int (nI (i + 1))), (1, .int (sm + (al i))), (0, .ref h0)]) hx hb dX1_allAlum_21 hl (k := 2) rfl (nI_1 i) (by decide) rfl (fun ls hl => ?_)
        refine lv_goto (tgt := 4) hx hb dX1_allAlum_24 (by decide) ?_
        exact ih (i + 1) (by omega) (by omega) (sm + (al i)) (by rw [e_sm]; simp only [sumF, eq_false c_1, eq_true c_1n, if_true, if_false, Int32.add_zero]) _ _ (hP.sub [0, 1] rfl) (hD.sub [0, 1] (by decide) rfl) hS _ (lv_sub hl [2, 1, 0] rfl)
  exact loop4 (n + 1) 0 (Nat.zero_le _) (by omega) 0 rfl _ _ (hP.sub [0, 1] rfl) (hD.sub [0, 1] (by decide) rfl) hS _ (lv_sub hl [2, 1, 0] rfl)

def rm_X1_filled : Room := { frames := 0, cells := 0, slots := 0, locals := 0 }
set_option maxHeartbeats 4000000 in
set_option maxRecDepth 100000 in
theorem c_X1_filled (l : Launch) (D : va_G) (cI cZ cJ : ClassId) (h0 a1 a2 a3 mo : Nat) (wa al : Nat → Int32) (n : Nat) (hn : n ≤ 4) : Mi l yX1_filled cX1_filled 3 (some .int) rm_X1_filled D (TY cI cZ cJ) [.ref h0] [(h0, .inr (1, [.ref a1, .ref a2, .ref a3, .int (nI mo), .int (nI n)])), (a1, .inl (cI, 4, .inl wa)), (a2, .inl (cI, 4, .inl al))] (fun (r : Int32) (u : Unit) => r = sumF (fil wa al) n) (fun (u : Unit) => [(h0, .inr (1, [.ref a1, .ref a2, .ref a3, .int (nI mo), .int (nI n)])), (a1, .inl (cI, 4, .inl wa)), (a2, .inl (cI, 4, .inl al))]) := by
  refine Mi.ofQ (by decide) (Nat.le_of_ble_eq_true rfl) ?_
  intro p e s m args below meth c A ls Q hF hK hP hD hA hl hend
  obtain ⟨F, hr, hlocks, hG⟩ := hF
  have hx := F.1
  have hb := F.2.1
  have hown := F.2.2.2.1
  have ht := F.2.2.2.2
  have hS : va_S A s.heap s.heap [] := va_S.rf
  have hl : lv_has ls 3 [(0, .ref h0)] := hl
  refine lv_iconst (v := 0) hx hb dX1_filled_0 (by decide) ?_
  refine lv_istore_n (lv' := [(1, .int 0), (0, .ref h0)]) hx hb dX1_filled_1 rfl hl (by decide) rfl (fun ls hl => ?_)
  refine lv_iconst (v := 0) hx hb dX1_filled_2 (by decide) ?_
  refine lv_istore_n (lv' := [(2, .int 0), (1, .int 0), (0, .ref h0)]) hx hb dX1_filled_3 rfl hl (by decide) rfl (fun ls hl => ?_)
  have loop4 : ∀ (kf i : Nat), i ≤ n → n < i + kf → ∀ (sm : Int32), sm = sumF (fil wa al) i → ∀ (H : Heap) (locs : List Loc), va_P D vwCl [(h0, .inr (1, [.ref a1, .ref a2, .ref a3, .int (nI mo), .int (nI n)])), (a1, .inl (cI, 4, .inl wa)), (a2, .inl (cI, 4, .inl al))] H → va_D A [(h0, .inr (1, [.ref a1, .ref a2, .ref a3, .int (nI mo), .int (nI n)])), (a1, .inl (cI, 4, .inl wa)), (a2, .inl (cI, 4, .inl al))] → va_S A s.heap H locs → ∀ (ls : Array Slot), lv_has ls 3 [(0, .ref h0), (1, .int sm), (2, .int (nI i))] → W p l e rm_X1_filled s m args below meth c H locs 0 0 Q (F0 m 4 ls []) := by
    intro kf
    induction kf with
    | zero =>
      intro i hle hlt
      exact absurd hlt (by omega)
    | succ kf ih =>
      intro i hle hlt sm e_sm H locs hP hD hS ls hl
      refine lv_iload_n hx hb dX1_filled_4 rfl (lv_at hl 2 rfl) ?_
      refine lv_aload_n hx hb dX1_filled_5 rfl (lv_at hl 0 rfl) ?_
      refine va_get (D := D) (ci := 1) (v := .int (nI n)) (C := RX1) (T := TX1) (N := 5) hx hb ht inG_X1 hown hK hP 0 rfl rfl 4 (by decide) (ht _ qF_RX1_22) (fun _ h9 => h9) rfl dX1_filled_6 ?_
      refine lv_icmp_ge (tgt := 37) hx hb dX1_filled_9 (by decide) (fun c_1 => ?_) (fun c_1 => ?_)
      · skip
        have c_1n := Int32.not_lt.mpr c_1
        have c_1m := (nI_leI (a := n) (b := i) (by omega) (by omega)).mp c_1
        refine lv_iload_n hx hb dX1_filled_37 rfl (lv_at hl 1 rfl) ?_
        exact hend _ _ _ _ _ _ sm () dX1_filled_38 (by rw [e_sm, show i = n by omega]) hP hD hS rfl (Nat.le_of_ble_eq_true rfl) (Nat.le_of_ble_eq_true rfl)
      · skip
        have c_1n := Int32.not_le.mp c_1
        have c_1m := (nI_ltI (a := i) (b := n) (by omega) (by omega)).mp c_1n
        refine lv_aload_n hx hb dX1_filled_12 rfl (lv_at hl 0 rfl) ?_
        refine va_get (D := D) (ci := 1) (v := .ref a1) (C := RX1) (T := TX1) (N := 5) hx hb ht inG_X1 hown hK hP 0 rfl rfl 0 (by decide) (ht _ qF_RX1_9) (fun _ h9 => h9) rfl dX1_filled_13 ?_
        refine lv_iload_n hx hb dX1_filled_16 rfl (lv_at hl 2 rfl) ?_
        refine aI hx hb hK hP 1 0 rfl rfl i (rfl) (by omega) (by decide) (v := wa i) (rfl) dX1_filled_17 ?_
        refine lv_aload_n hx hb dX1_filled_18 rfl (lv_at hl 0 rfl) ?_
        refine va_get (D := D) (ci := 1) (v := .ref a2) (C := RX1) (T := TX1) (N := 5) hx hb ht inG_X1 hown hK hP 0 rfl rfl 1 (by decide) (ht _ qF_RX1_15) (fun _ h9 => h9) rfl dX1_filled_19 ?_
        refine lv_iload_n hx hb dX1_filled_22 rfl (lv_at hl 2 rfl) ?_
        refine aI hx hb hK hP 2 0 rfl rfl i (rfl) (by omega) (by decide) (v := al i) (rfl) dX1_filled_23 ?_
        refine lv_iadd hx hb dX1_filled_24 ?_
        refine lv_if_le (tgt := 31) hx hb dX1_filled_25 (by decide) (fun c_2 => ?_) (fun c_2 => ?_)
        · skip
          have c_2n := Int32.not_lt.mpr c_2
          refine lv_iinc (v := nI (i + 1)) (lv' := [(2, .int (nI (i + 1))), (0, .ref h0), (1, .int sm)]) hx hb dX1_filled_31 hl (k := 2) rfl (nI_1 i) (by decide) rfl (fun ls hl => ?_)
          refine lv_goto (tgt := 4) hx hb dX1_filled_34 (by decide) ?_
          exact ih (i + 1) (by omega) (by omega) sm (by rw [e_sm]; simp only [sumF, fil, eq_false c_1, eq_true c_1n, eq_true c_2, eq_false c_2n, if_true, if_false, Int32.add_zero]) _ _ (hP.sub [0, 1, 2] rfl) (hD.sub [0, 1, 2] (by decide) rfl) hS _ (lv_sub hl [1, 2, 0] rfl)
        · skip
          have c_2n := Int32.not_le.mp c_2
          refine lv_iinc (v := sm + 1) (lv' := [(1, .int (sm + 1)), (0, .ref h0), (2, .int (nI i))]) hx hb dX1_filled_28 hl (k := 1) rfl (rfl) (by decide) rfl (fun ls hl => ?_)
          refine lv_iinc (v := nI (i + 1)) (lv' := [(2, .int (nI (i + 1))), (1, .int (sm + 1)), (0, .ref h0)]) hx hb dX1_filled_31 hl (k := 2) rfl (nI_1 i) (by decide) rfl (fun ls hl => ?_)
          refine lv_goto (tgt := 4) hx hb dX1_filled_34 (by decide) ?_
          exact ih (i + 1) (by omega) (by omega) (sm + 1) (by rw [e_sm]; simp only [sumF, fil, eq_false c_1, eq_true c_1n, eq_false c_2, eq_true c_2n, if_true, if_false, Int32.add_zero]) _ _ (hP.sub [0, 1, 2] rfl) (hD.sub [0, 1, 2] (by decide) rfl) hS _ (lv_sub hl [2, 1, 0] rfl)
  exact loop4 (n + 1) 0 (Nat.zero_le _) (by omega) 0 rfl _ _ (hP.sub [0, 1, 2] rfl) (hD.sub [0, 1, 2] (by decide) rfl) hS _ (lv_sub hl [2, 1, 0] rfl)

def rm_X1_strengths : Room := { frames := 2, cells := 0, slots := 0, locals := 43 }
set_option maxHeartbeats 4000000 in
set_option maxRecDepth 100000 in
theorem c_X1_strengths (l : Launch) (D : va_G) (cI cZ cJ : ClassId) (h0 a1 a2 a3 mo : Nat) (wa al : Nat → Int32) (n : Nat) (hn : n ≤ 4) : Mi l yX1_strengths cX1_strengths 3 (some .int) rm_X1_strengths D (TY cI cZ cJ) [.ref h0] [(h0, .inr (1, [.ref a1, .ref a2, .ref a3, .int (nI mo), .int (nI n)])), (a1, .inl (cI, 4, .inl wa)), (a2, .inl (cI, 4, .inl al))] (fun (r : Int32) (u : Unit) => r = sumF (fun j => strg (wa j) (al j)) n) (fun (u : Unit) => [(h0, .inr (1, [.ref a1, .ref a2, .ref a3, .int (nI mo), .int (nI n)])), (a1, .inl (cI, 4, .inl wa)), (a2, .inl (cI, 4, .inl al))]) := by
  refine Mi.ofQ (by decide) (Nat.le_of_ble_eq_true rfl) ?_
  intro p e s m args below meth c A ls Q hF hK hP hD hA hl hend
  obtain ⟨F, hr, hlocks, hG⟩ := hF
  have hx := F.1
  have hb := F.2.1
  have hown := F.2.2.2.1
  have ht := F.2.2.2.2
  have hS : va_S A s.heap s.heap [] := va_S.rf
  have hl : lv_has ls 3 [(0, .ref h0)] := hl
  refine lv_iconst (v := 0) hx hb dX1_strengths_0 (by decide) ?_
  refine lv_istore_n (lv' := [(1, .int 0), (0, .ref h0)]) hx hb dX1_strengths_1 rfl hl (by decide) rfl (fun ls hl => ?_)
  refine lv_iconst (v := 0) hx hb dX1_strengths_2 (by decide) ?_
  refine lv_istore_n (lv' := [(2, .int 0), (1, .int 0), (0, .ref h0)]) hx hb dX1_strengths_3 rfl hl (by decide) rfl (fun ls hl => ?_)
  have loop4 : ∀ (kf i : Nat), i ≤ n → n < i + kf → ∀ (sm : Int32), sm = sumF (fun j => strg (wa j) (al j)) i → ∀ (H : Heap) (locs : List Loc), va_P D vwCl [(h0, .inr (1, [.ref a1, .ref a2, .ref a3, .int (nI mo), .int (nI n)])), (a1, .inl (cI, 4, .inl wa)), (a2, .inl (cI, 4, .inl al))] H → va_D A [(h0, .inr (1, [.ref a1, .ref a2, .ref a3, .int (nI mo), .int (nI n)])), (a1, .inl (cI, 4, .inl wa)), (a2, .inl (cI, 4, .inl al))] → va_S A s.heap H locs → ∀ (ls : Array Slot), lv_has ls 3 [(0, .ref h0), (1, .int sm), (2, .int (nI i))] → W p l e rm_X1_strengths s m args below meth c H locs 0 0 Q (F0 m 4 ls []) := by
    intro kf
    induction kf with
    | zero =>
      intro i hle hlt
      exact absurd hlt (by omega)
    | succ kf ih =>
      intro i hle hlt sm e_sm H locs hP hD hS ls hl
      refine lv_iload_n hx hb dX1_strengths_4 rfl (lv_at hl 2 rfl) ?_
      refine lv_aload_n hx hb dX1_strengths_5 rfl (lv_at hl 0 rfl) ?_
      refine va_get (D := D) (ci := 1) (v := .int (nI n)) (C := RX1) (T := TX1) (N := 5) hx hb ht inG_X1 hown hK hP 0 rfl rfl 4 (by decide) (ht _ qF_RX1_22) (fun _ h9 => h9) rfl dX1_strengths_6 ?_
      refine lv_icmp_ge (tgt := 26) hx hb dX1_strengths_9 (by decide) (fun c_1 => ?_) (fun c_1 => ?_)
      · skip
        have c_1n := Int32.not_lt.mpr c_1
        have c_1m := (nI_leI (a := n) (b := i) (by omega) (by omega)).mp c_1
        refine lv_iload_n hx hb dX1_strengths_26 rfl (lv_at hl 1 rfl) ?_
        exact hend _ _ _ _ _ _ sm () dX1_strengths_27 (by rw [e_sm, show i = n by omega]) hP hD hS rfl (Nat.le_of_ble_eq_true rfl) (Nat.le_of_ble_eq_true rfl)
      · skip
        have c_1n := Int32.not_le.mp c_1
        have c_1m := (nI_ltI (a := i) (b := n) (by omega) (by omega)).mp c_1n
        refine lv_iload_n hx hb dX1_strengths_12 rfl (lv_at hl 1 rfl) ?_
        refine lv_aload_n hx hb dX1_strengths_13 rfl (lv_at hl 0 rfl) ?_
        refine lv_iload_n hx hb dX1_strengths_14 rfl (lv_at hl 2 rfl) ?_
        refine k_i (wr := []) (rV (As := [.int (nI i)]) (rest := [.int sm]) F hG hK (hP.sub (ws' := [(h0, .inr (1, [.ref a1, .ref a2, .ref a3, .int (nI mo), .int (nI n)])), (a1, .inl (cI, 4, .inl wa)), (a2, .inl (cI, 4, .inl al))]) [0, 1, 2] rfl) ((hD.sub (ws' := [(h0, .inr (1, [.ref a1, .ref a2, .ref a3, .int (nI mo), .int (nI n)])), (a1, .inl (cI, 4, .inl wa)), (a2, .inl (cI, 4, .inl al))]) [0, 1, 2] (by decide) rfl).weaken (fun _ _ _ _ => trivial)) s_RX1_38 (c_X1_strength l D cI cZ cJ h0 a1 a2 a3 mo wa al n i (by first | assumption | omega) _) 1 0 rfl rfl rfl rfl hl.1 rfl (Nat.le_of_ble_eq_true rfl) dX1_strengths_15 ⟨(Nat.le_of_ble_eq_true rfl), (Nat.le_of_ble_eq_true rfl)⟩ ⟨(Nat.le_of_ble_eq_true rfl), (Nat.le_of_ble_eq_true rfl)⟩) hP hD hS hA [0, 1, 2] [] rfl rfl (by decide) (by decide) (fun r_15 u H locs hw hP hD hS => ?_)
        try dsimp only at hw
        subst hw
        have hP : va_P D vwCl [(h0, .inr (1, [.ref a1, .ref a2, .ref a3, .int (nI mo), .int (nI n)])), (a1, .inl (cI, 4, .inl wa)), (a2, .inl (cI, 4, .inl al))] _ := hP
        have hD : va_D A [(h0, .inr (1, [.ref a1, .ref a2, .ref a3, .int (nI mo), .int (nI n)])), (a1, .inl (cI, 4, .inl wa)), (a2, .inl (cI, 4, .inl al))] := hD
        refine lv_iadd hx hb dX1_strengths_18 ?_
        refine lv_istore_n (lv' := [(1, .int (sm + (strg (wa i) (al i)))), (0, .ref h0), (2, .int (nI i))]) hx hb dX1_strengths_19 rfl hl (by decide) rfl (fun ls hl => ?_)
        refine lv_iinc (v := nI (i + 1)) (lv' := [(2, .int (nI (i + 1))), (1, .int (sm + (strg (wa i) (al i)))), (0, .ref h0)]) hx hb dX1_strengths_20 hl (k := 2) rfl (nI_1 i) (by decide) rfl (fun ls hl => ?_)
        refine lv_goto (tgt := 4) hx hb dX1_strengths_23 (by decide) ?_
        exact ih (i + 1) (by omega) (by omega) (sm + (strg (wa i) (al i))) (by rw [e_sm]; simp only [sumF, eq_false c_1, eq_true c_1n, if_true, if_false, Int32.add_zero]) _ _ (hP.sub [0, 1, 2] rfl) (hD.sub [0, 1, 2] (by decide) rfl) hS _ (lv_sub hl [2, 1, 0] rfl)
  exact loop4 (n + 1) 0 (Nat.zero_le _) (by omega) 0 rfl _ _ (hP.sub [0, 1, 2] rfl) (hD.sub [0, 1, 2] (by decide) rfl) hS _ (lv_sub hl [2, 1, 0] rfl)

def rm_X1_takeWeather : Room := { frames := 1, cells := 0, slots := 0, locals := 21 }
set_option maxHeartbeats 4000000 in
set_option maxRecDepth 100000 in
theorem c_X1_takeWeather (l : Launch) (D : va_G) (cI cZ cJ : ClassId) (h0 a1 a2 a3 mo : Nat) (wa : Nat → Int32) (n : Nat) (r : Int32) (hn : n ≤ 4) : Mv l yX1_takeWeather cX1_takeWeather 4 rm_X1_takeWeather D (TY cI cZ cJ) [.ref h0, .int r] [(h0, .inr (1, [.ref a1, .ref a2, .ref a3, .int (nI mo), .int (nI n)])), (a1, .inl (cI, 4, .inl wa))] (fun (u : (Nat → Int32)) => u = rowF n (fun j => wth r (wa j)) wa) (fun (u : (Nat → Int32)) => [(h0, .inr (1, [.ref a1, .ref a2, .ref a3, .int (nI mo), .int (nI n)])), (a1, .inl (cI, 4, .inl u))]) := by
  refine Mv.ofQ (by decide) (Nat.le_of_ble_eq_true rfl) ?_
  intro p e s m args below meth c A ls Q hF hK hP hD hA hl hend hin
  obtain ⟨F, hr, hlocks, hG⟩ := hF
  have hx := F.1
  have hb := F.2.1
  have hown := F.2.2.2.1
  have ht := F.2.2.2.2
  have hS : va_S A s.heap s.heap [] := va_S.rf
  have hl : lv_has ls 4 [(0, .ref h0), (1, .int r)] := hl
  refine lv_iconst (v := 0) hx hb dX1_takeWeather_0 (by decide) ?_
  refine lv_istore_n (lv' := [(2, .int 0), (0, .ref h0), (1, .int r)]) hx hb dX1_takeWeather_1 rfl hl (by decide) rfl (fun ls hl => ?_)
  have loop2 : ∀ (kf i : Nat), i ≤ n → n < i + kf → ∀ (w1 : Nat → Int32), w1 = rowF i (fun j => wth r (wa j)) wa → ∀ (H : Heap) (locs : List Loc), va_P D vwCl [(h0, .inr (1, [.ref a1, .ref a2, .ref a3, .int (nI mo), .int (nI n)])), (a1, .inl (cI, 4, .inl w1))] H → va_D A [(h0, .inr (1, [.ref a1, .ref a2, .ref a3, .int (nI mo), .int (nI n)])), (a1, .inl (cI, 4, .inl w1))] → va_S A s.heap H locs → ∀ (ls : Array Slot), lv_has ls 4 [(0, .ref h0), (1, .int r), (2, .int (nI i))] → W p l e rm_X1_takeWeather s m args below meth c H locs 0 0 Q (F0 m 2 ls []) := by
    intro kf
    induction kf with
    | zero =>
      intro i hle hlt
      exact absurd hlt (by omega)
    | succ kf ih =>
      intro i hle hlt w1 e_w1 H locs hP hD hS ls hl
      refine lv_iload_n hx hb dX1_takeWeather_2 rfl (lv_at hl 2 rfl) ?_
      refine lv_aload_n hx hb dX1_takeWeather_3 rfl (lv_at hl 0 rfl) ?_
      refine va_get (D := D) (ci := 1) (v := .int (nI n)) (C := RX1) (T := TX1) (N := 5) hx hb ht inG_X1 hown hK hP 0 rfl rfl 4 (by decide) (ht _ qF_RX1_22) (fun _ h9 => h9) rfl dX1_takeWeather_4 ?_
      refine lv_icmp_ge (tgt := 61) hx hb dX1_takeWeather_7 (by decide) (fun c_1 => ?_) (fun c_1 => ?_)
      · skip
        have c_1n := Int32.not_lt.mpr c_1
        have c_1m := (nI_leI (a := n) (b := i) (by omega) (by omega)).mp c_1
        exact hend _ _ _ _ _ _ w1 dX1_takeWeather_61 (by rw [e_w1, show i = n by omega]) hP hD hS (Nat.le_of_ble_eq_true rfl) (Nat.le_of_ble_eq_true rfl)
      · skip
        have c_1n := Int32.not_le.mp c_1
        have c_1m := (nI_ltI (a := i) (b := n) (by omega) (by omega)).mp c_1n
        refine lv_aload_n hx hb dX1_takeWeather_10 rfl (lv_at hl 0 rfl) ?_
        refine va_get (D := D) (ci := 1) (v := .ref a1) (C := RX1) (T := TX1) (N := 5) hx hb ht inG_X1 hown hK hP 0 rfl rfl 0 (by decide) (ht _ qF_RX1_9) (fun _ h9 => h9) rfl dX1_takeWeather_11 ?_
        refine lv_iload_n hx hb dX1_takeWeather_14 rfl (lv_at hl 2 rfl) ?_
        refine aI hx hb hK hP 1 0 rfl rfl i (rfl) (by omega) (by decide) (v := wa i) (by rw [e_w1]; exact rowF_at _ _ _ (Nat.le_refl _)) dX1_takeWeather_15 ?_
        refine lv_if_le (tgt := 55) hx hb dX1_takeWeather_16 (by decide) (fun c_2 => ?_) (fun c_2 => ?_)
        · skip
          have c_2n := Int32.not_lt.mpr c_2
          refine lv_iinc (v := nI (i + 1)) (lv' := [(2, .int (nI (i + 1))), (0, .ref h0), (1, .int r)]) hx hb dX1_takeWeather_55 hl (k := 2) rfl (nI_1 i) (by decide) rfl (fun ls hl => ?_)
          refine lv_goto (tgt := 2) hx hb dX1_takeWeather_58 (by decide) ?_
          exact ih (i + 1) (by omega) (by omega) w1 (by subst e_w1; exact (rowF_same _ _ _ (by simp only [wth, eq_false c_1, eq_true c_1n, eq_true c_2, eq_false c_2n, if_true])).symm) _ _ (hP.sub [0, 1] rfl) (hD.sub [0, 1] (by decide) rfl) hS _ (lv_sub hl [1, 2, 0] rfl)
        · skip
          have c_2n := Int32.not_le.mp c_2
          refine lv_sipush (v := 400) hx hb dX1_takeWeather_19 (by decide) ?_
          refine lv_aload_n hx hb dX1_takeWeather_22 rfl (lv_at hl 0 rfl) ?_
          refine va_get (D := D) (ci := 1) (v := .ref a1) (C := RX1) (T := TX1) (N := 5) hx hb ht inG_X1 hown hK hP 0 rfl rfl 0 (by decide) (ht _ qF_RX1_9) (fun _ h9 => h9) rfl dX1_takeWeather_23 ?_
          refine lv_iload_n hx hb dX1_takeWeather_26 rfl (lv_at hl 2 rfl) ?_
          refine aI hx hb hK hP 1 0 rfl rfl i (rfl) (by omega) (by decide) (v := wa i) (by rw [e_w1]; exact rowF_at _ _ _ (Nat.le_refl _)) dX1_takeWeather_27 ?_
          refine lv_iload_n hx hb dX1_takeWeather_28 rfl (lv_at hl 1 rfl) ?_
          refine lv_iadd hx hb dX1_takeWeather_29 ?_
          refine k_min F qM_RX1_26 hl.1 (Nat.le_of_ble_eq_true rfl) (Nat.le_of_ble_eq_true rfl) (Nat.le_of_ble_eq_true rfl) (Nat.le_of_ble_eq_true rfl) dX1_takeWeather_30 ?_
          refine lv_istore_n (lv' := [(3, .int (mn 400 ((wa i) + r))), (0, .ref h0), (1, .int r), (2, .int (nI i))]) hx hb dX1_takeWeather_33 rfl hl (by decide) rfl (fun ls hl => ?_)
          refine lv_aload_n hx hb dX1_takeWeather_34 rfl (lv_at hl 1 rfl) ?_
          refine va_get (D := D) (ci := 1) (v := .ref a1) (C := RX1) (T := TX1) (N := 5) hx hb ht inG_X1 hown hK hP 0 rfl rfl 0 (by decide) (ht _ qF_RX1_9) (fun _ h9 => h9) rfl dX1_takeWeather_35 ?_
          refine lv_iload_n hx hb dX1_takeWeather_38 rfl (lv_at hl 3 rfl) ?_
          refine lv_iload_n hx hb dX1_takeWeather_39 rfl (lv_at hl 2 rfl) ?_
          refine lv_if_ne (tgt := 53) hx hb dX1_takeWeather_40 (by decide) (fun c_3 => ?_) (fun c_3 => ?_)
          · skip
            refine lv_iload_n hx hb dX1_takeWeather_53 rfl (lv_at hl 0 rfl) ?_
            refine sI_ hx hb hK hP hD hS 1 0 rfl rfl i (rfl) (by omega) (by decide) (upd w1 i (mn 400 ((wa i) + r))) (rfl) dX1_takeWeather_54 (fun H locs hP hD hS => ?_)
            have hP : va_P D vwCl [(h0, .inr (1, [.ref a1, .ref a2, .ref a3, .int (nI mo), .int (nI n)])), (a1, .inl (cI, 4, .inl (upd w1 i (mn 400 ((wa i) + r)))))] _ := hP
            have hD : va_D A [(h0, .inr (1, [.ref a1, .ref a2, .ref a3, .int (nI mo), .int (nI n)])), (a1, .inl (cI, 4, .inl (upd w1 i (mn 400 ((wa i) + r)))))] := hD
            refine lv_iinc (v := nI (i + 1)) (lv' := [(2, .int (nI (i + 1))), (3, .int (mn 400 ((wa i) + r))), (0, .ref h0), (1, .int r)]) hx hb dX1_takeWeather_55 hl (k := 3) rfl (nI_1 i) (by decide) rfl (fun ls hl => ?_)
            refine lv_goto (tgt := 2) hx hb dX1_takeWeather_58 (by decide) ?_
            exact ih (i + 1) (by omega) (by omega) (upd w1 i (mn 400 ((wa i) + r))) (by subst e_w1; exact rowF_upd _ _ _ (by simp only [wth, eq_false c_1, eq_true c_1n, eq_false c_2, eq_true c_2n, eq_false c_3, if_true, if_false])) _ _ (hP.sub [0, 1] rfl) (hD.sub [0, 1] (by decide) rfl) hS _ (lv_sub hl [2, 3, 0] rfl)
          · skip
            refine lv_iconst (v := 0) hx hb dX1_takeWeather_43 (by decide) ?_
            refine lv_iload_n hx hb dX1_takeWeather_44 rfl (lv_at hl 0 rfl) ?_
            refine lv_iconst (v := 3) hx hb dX1_takeWeather_45 (by decide) ?_
            refine lv_isub hx hb dX1_takeWeather_46 ?_
            refine k_max F qM_RX1_48 hl.1 (Nat.le_of_ble_eq_true rfl) (Nat.le_of_ble_eq_true rfl) (Nat.le_of_ble_eq_true rfl) (Nat.le_of_ble_eq_true rfl) dX1_takeWeather_47 ?_
            refine lv_goto (tgt := 54) hx hb dX1_takeWeather_50 (by decide) ?_
            refine sI_ hx hb hK hP hD hS 1 0 rfl rfl i (rfl) (by omega) (by decide) (upd w1 i (mx 0 ((mn 400 ((wa i) + r)) - 3))) (rfl) dX1_takeWeather_54 (fun H locs hP hD hS => ?_)
            have hP : va_P D vwCl [(h0, .inr (1, [.ref a1, .ref a2, .ref a3, .int (nI mo), .int (nI n)])), (a1, .inl (cI, 4, .inl (upd w1 i (mx 0 ((mn 400 ((wa i) + r)) - 3)))))] _ := hP
            have hD : va_D A [(h0, .inr (1, [.ref a1, .ref a2, .ref a3, .int (nI mo), .int (nI n)])), (a1, .inl (cI, 4, .inl (upd w1 i (mx 0 ((mn 400 ((wa i) + r)) - 3)))))] := hD
            refine lv_iinc (v := nI (i + 1)) (lv' := [(2, .int (nI (i + 1))), (3, .int (mn 400 ((wa i) + r))), (0, .ref h0), (1, .int r)]) hx hb dX1_takeWeather_55 hl (k := 3) rfl (nI_1 i) (by decide) rfl (fun ls hl => ?_)
            refine lv_goto (tgt := 2) hx hb dX1_takeWeather_58 (by decide) ?_
            exact ih (i + 1) (by omega) (by omega) (upd w1 i (mx 0 ((mn 400 ((wa i) + r)) - 3))) (by subst e_w1; exact rowF_upd _ _ _ (by simp only [wth, eq_false c_1, eq_true c_1n, eq_false c_2, eq_true c_2n, eq_true c_3, if_true, if_false])) _ _ (hP.sub [0, 1] rfl) (hD.sub [0, 1] (by decide) rfl) hS _ (lv_sub hl [2, 3, 0] rfl)
  exact loop2 (n + 1) 0 (Nat.zero_le _) (by omega) wa ((rowF_0 _ _).symm) _ _ (hP.sub [0, 1] rfl) (hD.sub [0, 1] (by decide) rfl) hS _ (lv_sub hl [1, 2, 0] rfl)

def rm_X1_copyOf : Room := { frames := 0, cells := 0, slots := 0, locals := 0 }
set_option maxHeartbeats 4000000 in
set_option maxRecDepth 100000 in
theorem c_X1_copyOf (l : Launch) (D : va_G) (cI cZ cJ : ClassId) (h0 a1 a2 a3 mo g0 b1 b2 b3 mo2 : Nat) (t1 t2 t3 o1 o2 o3 : Nat → Int32) (n1 n : Nat) (hn : n ≤ 4) (hz1 : ∀ j, n ≤ j → t1 j = o1 j) (hz2 : ∀ j, n ≤ j → t2 j = o2 j) (hz3 : ∀ j, n ≤ j → t3 j = o3 j) (hb3 : ∀ j, vp_nar .boolean (o3 j) = o3 j) : Mv l yX1_copyOf cX1_copyOf 3 rm_X1_copyOf D (TY cI cZ cJ) [.ref h0, .ref g0] [(h0, .inr (1, [.ref a1, .ref a2, .ref a3, .int (nI mo), .int (nI n1)])), (a1, .inl (cI, 4, .inl t1)), (a2, .inl (cI, 4, .inl t2)), (a3, .inl (cZ, 4, .inl t3)), (g0, .inr (1, [.ref b1, .ref b2, .ref b3, .int (nI mo2), .int (nI n)])), (b1, .inl (cI, 4, .inl o1)), (b2, .inl (cI, 4, .inl o2)), (b3, .inl (cZ, 4, .inl o3))] (fun (u : (Nat → Int32) × (Nat → Int32) × (Nat → Int32)) => u.1 = o1 ∧ u.2.1 = o2 ∧ u.2.2 = o3) (fun (u : (Nat → Int32) × (Nat → Int32) × (Nat → Int32)) => [(h0, .inr (1, [.ref a1, .ref a2, .ref a3, .int (nI mo), .int (nI n)])), (a1, .inl (cI, 4, .inl u.1)), (a2, .inl (cI, 4, .inl u.2.1)), (a3, .inl (cZ, 4, .inl u.2.2)), (g0, .inr (1, [.ref b1, .ref b2, .ref b3, .int (nI mo2), .int (nI n)])), (b1, .inl (cI, 4, .inl o1)), (b2, .inl (cI, 4, .inl o2)), (b3, .inl (cZ, 4, .inl o3))]) := by
  refine Mv.ofQ (by decide) (Nat.le_of_ble_eq_true rfl) ?_
  intro p e s m args below meth c A ls Q hF hK hP hD hA hl hend hin
  obtain ⟨F, hr, hlocks, hG⟩ := hF
  have hx := F.1
  have hb := F.2.1
  have hown := F.2.2.2.1
  have ht := F.2.2.2.2
  have hS : va_S A s.heap s.heap [] := va_S.rf
  have hl : lv_has ls 3 [(0, .ref h0), (1, .ref g0)] := hl
  refine lv_aload_n hx hb dX1_copyOf_0 rfl (lv_at hl 0 rfl) ?_
  refine lv_aload_n hx hb dX1_copyOf_1 rfl (lv_at hl 1 rfl) ?_
  refine va_get (D := D) (ci := 1) (v := .int (nI n)) (C := RX1) (T := TX1) (N := 5) hx hb ht inG_X1 hown hK hP 4 rfl rfl 4 (by decide) (ht _ qF_RX1_22) (fun _ h9 => h9) rfl dX1_copyOf_2 ?_
  refine va_put (D := D) (ci := 1) (v := .int (nI n)) (C := RX1) (T := TX1) (N := 5) hx hb ht inG_X1 tyX1 tyX1_ok nmX1 hown hK hP hD hS 0 rfl rfl 4 (by decide) (ht _ qF_RX1_22) (fun _ h9 => h9) rfl (tyX1_ok 4 (by decide)) rfl rfl (Nat.le_of_ble_eq_true rfl) dX1_copyOf_5 (fun H locs hP hD hS => ?_)
  have hP : va_P D vwCl [(h0, .inr (1, [.ref a1, .ref a2, .ref a3, .int (nI mo), .int (nI n)])), (a1, .inl (cI, 4, .inl t1)), (a2, .inl (cI, 4, .inl t2)), (a3, .inl (cZ, 4, .inl t3)), (g0, .inr (1, [.ref b1, .ref b2, .ref b3, .int (nI mo2), .int (nI n)])), (b1, .inl (cI, 4, .inl o1)), (b2, .inl (cI, 4, .inl o2)), (b3, .inl (cZ, 4, .inl o3))] _ := hP
  have hD : va_D A [(h0, .inr (1, [.ref a1, .ref a2, .ref a3, .int (nI mo), .int (nI n)])), (a1, .inl (cI, 4, .inl t1)), (a2, .inl (cI, 4, .inl t2)), (a3, .inl (cZ, 4, .inl t3)), (g0, .inr (1, [.ref b1, .ref b2, .ref b3, .int (nI mo2), .int (nI n)])), (b1, .inl (cI, 4, .inl o1)), (b2, .inl (cI, 4, .inl o2)), (b3, .inl (cZ, 4, .inl o3))] := hD
  refine lv_iconst (v := 0) hx hb dX1_copyOf_8 (by decide) ?_
  refine lv_istore_n (lv' := [(2, .int 0), (0, .ref h0), (1, .ref g0)]) hx hb dX1_copyOf_9 rfl hl (by decide) rfl (fun ls hl => ?_)
  have loop10 : ∀ (kf i : Nat), i ≤ n → n < i + kf → ∀ (x1 : Nat → Int32) (x2 : Nat → Int32) (x3 : Nat → Int32), x1 = rowF i o1 t1 → x2 = rowF i o2 t2 → x3 = rowF i o3 t3 → ∀ (H : Heap) (locs : List Loc), va_P D vwCl [(h0, .inr (1, [.ref a1, .ref a2, .ref a3, .int (nI mo), .int (nI n)])), (a1, .inl (cI, 4, .inl x1)), (a2, .inl (cI, 4, .inl x2)), (a3, .inl (cZ, 4, .inl x3)), (g0, .inr (1, [.ref b1, .ref b2, .ref b3, .int (nI mo2), .int (nI n)])), (b1, .inl (cI, 4, .inl o1)), (b2, .inl (cI, 4, .inl o2)), (b3, .inl (cZ, 4, .inl o3))] H → va_D A [(h0, .inr (1, [.ref a1, .ref a2, .ref a3, .int (nI mo), .int (nI n)])), (a1, .inl (cI, 4, .inl x1)), (a2, .inl (cI, 4, .inl x2)), (a3, .inl (cZ, 4, .inl x3)), (g0, .inr (1, [.ref b1, .ref b2, .ref b3, .int (nI mo2), .int (nI n)])), (b1, .inl (cI, 4, .inl o1)), (b2, .inl (cI, 4, .inl o2)), (b3, .inl (cZ, 4, .inl o3))] → va_S A s.heap H locs → ∀ (ls : Array Slot), lv_has ls 3 [(0, .ref h0), (1, .ref g0), (2, .int (nI i))] → W p l e rm_X1_copyOf s m args below meth c H locs 0 0 Q (F0 m 10 ls []) := by
    intro kf
    induction kf with
    | zero =>
      intro i hle hlt
      exact absurd hlt (by omega)
    | succ kf ih =>
      intro i hle hlt x1 x2 x3 e_x1 e_x2 e_x3 H locs hP hD hS ls hl
      refine lv_iload_n hx hb dX1_copyOf_10 rfl (lv_at hl 2 rfl) ?_
      refine lv_aload_n hx hb dX1_copyOf_11 rfl (lv_at hl 0 rfl) ?_
      refine va_get (D := D) (ci := 1) (v := .int (nI n)) (C := RX1) (T := TX1) (N := 5) hx hb ht inG_X1 hown hK hP 0 rfl rfl 4 (by decide) (ht _ qF_RX1_22) (fun _ h9 => h9) rfl dX1_copyOf_12 ?_
      refine lv_icmp_ge (tgt := 60) hx hb dX1_copyOf_15 (by decide) (fun c_1 => ?_) (fun c_1 => ?_)
      · skip
        have c_1n := Int32.not_lt.mpr c_1
        have c_1m := (nI_leI (a := n) (b := i) (by omega) (by omega)).mp c_1
        exact hend _ _ _ _ _ _ (x1, x2, x3) dX1_copyOf_60 (by rw [e_x1, e_x2, e_x3, show i = n by omega]; exact ⟨rowF_all hz1, rowF_all hz2, rowF_all hz3⟩) hP hD hS (Nat.le_of_ble_eq_true rfl) (Nat.le_of_ble_eq_true rfl)
      · skip
        have c_1n := Int32.not_le.mp c_1
        have c_1m := (nI_ltI (a := i) (b := n) (by omega) (by omega)).mp c_1n
        refine lv_aload_n hx hb dX1_copyOf_18 rfl (lv_at hl 0 rfl) ?_
        refine va_get (D := D) (ci := 1) (v := .ref a1) (C := RX1) (T := TX1) (N := 5) hx hb ht inG_X1 hown hK hP 0 rfl rfl 0 (by decide) (ht _ qF_RX1_9) (fun _ h9 => h9) rfl dX1_copyOf_19 ?_
        refine lv_iload_n hx hb dX1_copyOf_22 rfl (lv_at hl 2 rfl) ?_
        refine lv_aload_n hx hb dX1_copyOf_23 rfl (lv_at hl 1 rfl) ?_
        refine va_get (D := D) (ci := 1) (v := .ref b1) (C := RX1) (T := TX1) (N := 5) hx hb ht inG_X1 hown hK hP 4 rfl rfl 0 (by decide) (ht _ qF_RX1_9) (fun _ h9 => h9) rfl dX1_copyOf_24 ?_
        refine lv_iload_n hx hb dX1_copyOf_27 rfl (lv_at hl 2 rfl) ?_
        refine aI hx hb hK hP 5 0 rfl rfl i (rfl) (by omega) (by decide) (v := o1 i) (rfl) dX1_copyOf_28 ?_
        refine sI_ hx hb hK hP hD hS 1 0 rfl rfl i (rfl) (by omega) (by decide) (upd x1 i (o1 i)) (rfl) dX1_copyOf_29 (fun H locs hP hD hS => ?_)
        have hP : va_P D vwCl [(h0, .inr (1, [.ref a1, .ref a2, .ref a3, .int (nI mo), .int (nI n)])), (a1, .inl (cI, 4, .inl (upd x1 i (o1 i)))), (a2, .inl (cI, 4, .inl x2)), (a3, .inl (cZ, 4, .inl x3)), (g0, .inr (1, [.ref b1, .ref b2, .ref b3, .int (nI mo2), .int (nI n)])), (b1, .inl (cI, 4, .inl o1)), (b2, .inl (cI, 4, .inl o2)), (b3, .inl (cZ, 4, .inl o3))] _ := hP
        have hD : va_D A [(h0, .inr (1, [.ref a1, .ref a2, .ref a3, .int (nI mo), .int (nI n)])), (a1, .inl (cI, 4, .inl (upd x1 i (o1 i)))), (a2, .inl (cI, 4, .inl x2)), (a3, .inl (cZ, 4, .inl x3)), (g0, .inr (1, [.ref b1, .ref b2, .ref b3, .int (nI mo2), .int (nI n)])), (b1, .inl (cI, 4, .inl o1)), (b2, .inl (cI, 4, .inl o2)), (b3, .inl (cZ, 4, .inl o3))] := hD
        refine lv_aload_n hx hb dX1_copyOf_30 rfl (lv_at hl 0 rfl) ?_
        refine va_get (D := D) (ci := 1) (v := .ref a2) (C := RX1) (T := TX1) (N := 5) hx hb ht inG_X1 hown hK hP 0 rfl rfl 1 (by decide) (ht _ qF_RX1_15) (fun _ h9 => h9) rfl dX1_copyOf_31 ?_
        refine lv_iload_n hx hb dX1_copyOf_34 rfl (lv_at hl 2 rfl) ?_
        refine lv_aload_n hx hb dX1_copyOf_35 rfl (lv_at hl 1 rfl) ?_
        refine va_get (D := D) (ci := 1) (v := .ref b2) (C := RX1) (T := TX1) (N := 5) hx hb ht inG_X1 hown hK hP 4 rfl rfl 1 (by decide) (ht _ qF_RX1_15) (fun _ h9 => h9) rfl dX1_copyOf_36 ?_
        refine lv_iload_n hx hb dX1_copyOf_39 rfl (lv_at hl 2 rfl) ?_
        refine aI hx hb hK hP 6 0 rfl rfl i (rfl) (by omega) (by decide) (v := o2 i) (rfl) dX1_copyOf_40 ?_
        refine sI_ hx hb hK hP hD hS 2 0 rfl rfl i (rfl) (by omega) (by decide) (upd x2 i (o2 i)) (rfl) dX1_copyOf_41 (fun H locs hP hD hS => ?_)
        have hP : va_P D vwCl [(h0, .inr (1, [.ref a1, .ref a2, .ref a3, .int (nI mo), .int (nI n)])), (a1, .inl (cI, 4, .inl (upd x1 i (o1 i)))), (a2, .inl (cI, 4, .inl (upd x2 i (o2 i)))), (a3, .inl (cZ, 4, .inl x3)), (g0, .inr (1, [.ref b1, .ref b2, .ref b3, .int (nI mo2), .int (nI n)])), (b1, .inl (cI, 4, .inl o1)), (b2, .inl (cI, 4, .inl o2)), (b3, .inl (cZ, 4, .inl o3))] _ := hP
        have hD : va_D A [(h0, .inr (1, [.ref a1, .ref a2, .ref a3, .int (nI mo), .int (nI n)])), (a1, .inl (cI, 4, .inl (upd x1 i (o1 i)))), (a2, .inl (cI, 4, .inl (upd x2 i (o2 i)))), (a3, .inl (cZ, 4, .inl x3)), (g0, .inr (1, [.ref b1, .ref b2, .ref b3, .int (nI mo2), .int (nI n)])), (b1, .inl (cI, 4, .inl o1)), (b2, .inl (cI, 4, .inl o2)), (b3, .inl (cZ, 4, .inl o3))] := hD
        refine lv_aload_n hx hb dX1_copyOf_42 rfl (lv_at hl 0 rfl) ?_
        refine va_get (D := D) (ci := 1) (v := .ref a3) (C := RX1) (T := TX1) (N := 5) hx hb ht inG_X1 hown hK hP 0 rfl rfl 2 (by decide) (ht _ qF_RX1_18) (fun _ h9 => h9) rfl dX1_copyOf_43 ?_
        refine lv_iload_n hx hb dX1_copyOf_46 rfl (lv_at hl 2 rfl) ?_
        refine lv_aload_n hx hb dX1_copyOf_47 rfl (lv_at hl 1 rfl) ?_
        refine va_get (D := D) (ci := 1) (v := .ref b3) (C := RX1) (T := TX1) (N := 5) hx hb ht inG_X1 hown hK hP 4 rfl rfl 2 (by decide) (ht _ qF_RX1_18) (fun _ h9 => h9) rfl dX1_copyOf_48 ?_
        refine lv_iload_n hx hb dX1_copyOf_51 rfl (lv_at hl 2 rfl) ?_
        refine aZ hx hb hK hP 7 1 rfl rfl i (rfl) (by omega) (by decide) (v := o3 i) (rfl) dX1_copyOf_52 ?_
        refine sZ_ hx hb hK hP hD hS 3 1 rfl rfl i (rfl) (by omega) (by decide) (hb3 i) (upd x3 i (o3 i)) (rfl) dX1_copyOf_53 (fun H locs hP hD hS => ?_)
        have hP : va_P D vwCl [(h0, .inr (1, [.ref a1, .ref a2, .ref a3, .int (nI mo), .int (nI n)])), (a1, .inl (cI, 4, .inl (upd x1 i (o1 i)))), (a2, .inl (cI, 4, .inl (upd x2 i (o2 i)))), (a3, .inl (cZ, 4, .inl (upd x3 i (o3 i)))), (g0, .inr (1, [.ref b1, .ref b2, .ref b3, .int (nI mo2), .int (nI n)])), (b1, .inl (cI, 4, .inl o1)), (b2, .inl (cI, 4, .inl o2)), (b3, .inl (cZ, 4, .inl o3))] _ := hP
        have hD : va_D A [(h0, .inr (1, [.ref a1, .ref a2, .ref a3, .int (nI mo), .int (nI n)])), (a1, .inl (cI, 4, .inl (upd x1 i (o1 i)))), (a2, .inl (cI, 4, .inl (upd x2 i (o2 i)))), (a3, .inl (cZ, 4, .inl (upd x3 i (o3 i)))), (g0, .inr (1, [.ref b1, .ref b2, .ref b3, .int (nI mo2), .int (nI n)])), (b1, .inl (cI, 4, .inl o1)), (b2, .inl (cI, 4, .inl o2)), (b3, .inl (cZ, 4, .inl o3))] := hD
        refine lv_iinc (v := nI (i + 1)) (lv' := [(2, .int (nI (i + 1))), (0, .ref h0), (1, .ref g0)]) hx hb dX1_copyOf_54 hl (k := 2) rfl (nI_1 i) (by decide) rfl (fun ls hl => ?_)
        refine lv_goto (tgt := 10) hx hb dX1_copyOf_57 (by decide) ?_
        exact ih (i + 1) (by omega) (by omega) (upd x1 i (o1 i)) (upd x2 i (o2 i)) (upd x3 i (o3 i)) (by subst e_x1; exact rowF_upd _ _ _ rfl) (by subst e_x2; exact rowF_upd _ _ _ rfl) (by subst e_x3; exact rowF_upd _ _ _ rfl) _ _ (hP.sub [0, 1, 2, 3, 4, 5, 6, 7] rfl) (hD.sub [0, 1, 2, 3, 4, 5, 6, 7] (by decide) rfl) hS _ (lv_sub hl [1, 2, 0] rfl)
  exact loop10 (n + 1) 0 (Nat.zero_le _) (by omega) t1 t2 t3 ((rowF_0 _ _).symm) ((rowF_0 _ _).symm) ((rowF_0 _ _).symm) _ _ (hP.sub [0, 1, 2, 3, 4, 5, 6, 7] rfl) (hD.sub [0, 1, 2, 3, 4, 5, 6, 7] (by decide) rfl) hS _ (lv_sub hl [1, 2, 0] rfl)

def rm_X2_boilPans : Room := { frames := 1, cells := 0, slots := 0, locals := 21 }
set_option maxHeartbeats 4000000 in
set_option maxRecDepth 100000 in
theorem c_X2_boilPans (l : Launch) (D : va_G) (cI cZ cJ : ClassId) (h0 hc hp hk : Nat) (k1 k2 k3 mo n : Nat) (day : Nat) (coal bar fine crs coin ship : Int32) (kw kb : Nat → Int32) (hn : n ≤ 4) : Mv l yX2_boilPans cX2_boilPans 2 rm_X2_boilPans D (TY cI cZ cJ) [.ref h0] [(h0, .inr (2, [.ref hc, .ref hp, .ref hk, .int (nI day), .int coal, .int bar, .int fine, .int crs, .int coin, .int ship])), (hk, .inr (1, [.ref k1, .ref k2, .ref k3, .int (nI mo), .int (nI n)])), (k1, .inl (cI, 4, .inl kw)), (k3, .inl (cZ, 4, .inl kb))] (fun (u : Int32 × (Nat → Int32) × (Nat → Int32)) => u.1 = cN kw kb coal n ∧ u.2.1 = rowF n (fKw kw kb (cN kw kb coal)) kw ∧ u.2.2 = rowF n (fKb kw kb (cN kw kb coal)) kb) (fun (u : Int32 × (Nat → Int32) × (Nat → Int32)) => [(h0, .inr (2, [.ref hc, .ref hp, .ref hk, .int (nI day), .int u.1, .int bar, .int fine, .int crs, .int coin, .int ship])), (hk, .inr (1, [.ref k1, .ref k2, .ref k3, .int (nI mo), .int (nI n)])), (k1, .inl (cI, 4, .inl u.2.1)), (k3, .inl (cZ, 4, .inl u.2.2))]) := by
  refine Mv.ofQ (by decide) (Nat.le_of_ble_eq_true rfl) ?_
  intro p e s m args below meth c A ls Q hF hK hP hD hA hl hend hin
  obtain ⟨F, hr, hlocks, hG⟩ := hF
  have hx := F.1
  have hb := F.2.1
  have hown := F.2.2.2.1
  have ht := F.2.2.2.2
  have hS : va_S A s.heap s.heap [] := va_S.rf
  have hl : lv_has ls 2 [(0, .ref h0)] := hl
  refine lv_iconst (v := 0) hx hb dX2_boilPans_0 (by decide) ?_
  refine lv_istore_n (lv' := [(1, .int 0), (0, .ref h0)]) hx hb dX2_boilPans_1 rfl hl (by decide) rfl (fun ls hl => ?_)
  have loop2 : ∀ (kf i : Nat), i ≤ n → n < i + kf → ∀ (coal1 : Int32) (w1 : Nat → Int32) (b1 : Nat → Int32), coal1 = cN kw kb coal i → w1 = rowF i (fKw kw kb (cN kw kb coal)) kw → b1 = rowF i (fKb kw kb (cN kw kb coal)) kb → ∀ (H : Heap) (locs : List Loc), va_P D vwCl [(h0, .inr (2, [.ref hc, .ref hp, .ref hk, .int (nI day), .int coal1, .int bar, .int fine, .int crs, .int coin, .int ship])), (hk, .inr (1, [.ref k1, .ref k2, .ref k3, .int (nI mo), .int (nI n)])), (k1, .inl (cI, 4, .inl w1)), (k3, .inl (cZ, 4, .inl b1))] H → va_D A [(h0, .inr (2, [.ref hc, .ref hp, .ref hk, .int (nI day), .int coal1, .int bar, .int fine, .int crs, .int coin, .int ship])), (hk, .inr (1, [.ref k1, .ref k2, .ref k3, .int (nI mo), .int (nI n)])), (k1, .inl (cI, 4, .inl w1)), (k3, .inl (cZ, 4, .inl b1))] → va_S A s.heap H locs → ∀ (ls : Array Slot), lv_has ls 2 [(0, .ref h0), (1, .int (nI i))] → W p l e rm_X2_boilPans s m args below meth c H locs 0 0 Q (F0 m 2 ls []) := by
    intro kf
    induction kf with
    | zero =>
      intro i hle hlt
      exact absurd hlt (by omega)
    | succ kf ih =>
      intro i hle hlt coal1 w1 b1 e_coal1 e_w1 e_b1 H locs hP hD hS ls hl
      refine lv_iload_n hx hb dX2_boilPans_2 rfl (lv_at hl 1 rfl) ?_
      refine lv_aload_n hx hb dX2_boilPans_3 rfl (lv_at hl 0 rfl) ?_
      refine va_get (D := D) (ci := 2) (v := .ref hk) (C := RX2) (T := TX2) (N := 10) hx hb ht inG_X2 hown hK hP 0 rfl rfl 2 (by decide) (ht _ qF_RX2_27) (fun _ h9 => h9) rfl dX2_boilPans_4 ?_
      refine va_get (D := D) (ci := 1) (v := .int (nI n)) (C := RX1) (T := TX1) (N := 5) hx hb ht inG_X1 hown hK hP 1 rfl rfl 4 (by decide) (ht _ qF_RX2_71) (fun _ h9 => h9) rfl dX2_boilPans_7 ?_
      refine lv_icmp_ge (tgt := 102) hx hb dX2_boilPans_10 (by decide) (fun c_1 => ?_) (fun c_1 => ?_)
      · skip
        have c_1n := Int32.not_lt.mpr c_1
        have c_1m := (nI_leI (a := n) (b := i) (by omega) (by omega)).mp c_1
        exact hend _ _ _ _ _ _ (coal1, w1, b1) dX2_boilPans_102 (by rw [e_coal1, e_w1, e_b1, show i = n by omega]; exact ⟨rfl, rfl, rfl⟩) hP hD hS (Nat.le_of_ble_eq_true rfl) (Nat.le_of_ble_eq_true rfl)
      · skip
        have c_1n := Int32.not_le.mp c_1
        have c_1m := (nI_ltI (a := i) (b := n) (by omega) (by omega)).mp c_1n
        refine lv_aload_n hx hb dX2_boilPans_13 rfl (lv_at hl 0 rfl) ?_
        refine va_get (D := D) (ci := 2) (v := .ref hk) (C := RX2) (T := TX2) (N := 10) hx hb ht inG_X2 hown hK hP 0 rfl rfl 2 (by decide) (ht _ qF_RX2_27) (fun _ h9 => h9) rfl dX2_boilPans_14 ?_
        refine va_get (D := D) (ci := 1) (v := .ref k3) (C := RX1) (T := TX1) (N := 5) hx hb ht inG_X1 hown hK hP 1 rfl rfl 2 (by decide) (ht _ qF_RX2_74) (fun _ h9 => h9) rfl dX2_boilPans_17 ?_
        refine lv_iload_n hx hb dX2_boilPans_20 rfl (lv_at hl 1 rfl) ?_
        refine aZ hx hb hK hP 3 1 rfl rfl i (rfl) (by omega) (by decide) (v := kb i) (by rw [e_b1]; exact rowF_at _ _ _ (Nat.le_refl _)) dX2_boilPans_21 ?_
        refine lv_if_ne (tgt := 28) hx hb dX2_boilPans_22 (by decide) (fun c_2 => ?_) (fun c_2 => ?_)
        · skip
          refine lv_aload_n hx hb dX2_boilPans_28 rfl (lv_at hl 0 rfl) ?_
          refine va_get (D := D) (ci := 2) (v := .int coal1) (C := RX2) (T := TX2) (N := 10) hx hb ht inG_X2 hown hK hP 0 rfl rfl 4 (by decide) (ht _ qF_RX2_34) (fun _ h9 => h9) rfl dX2_boilPans_29 ?_
          refine lv_iconst (v := 4) hx hb dX2_boilPans_32 (by decide) ?_
          refine lv_icmp_lt (tgt := 48) hx hb dX2_boilPans_33 (by decide) (fun c_3 => ?_) (fun c_3 => ?_)
          · skip
            have c_3n := Int32.not_le.mpr c_3
            refine lv_aload_n hx hb dX2_boilPans_48 rfl (lv_at hl 0 rfl) ?_
            refine va_get (D := D) (ci := 2) (v := .ref hk) (C := RX2) (T := TX2) (N := 10) hx hb ht inG_X2 hown hK hP 0 rfl rfl 2 (by decide) (ht _ qF_RX2_27) (fun _ h9 => h9) rfl dX2_boilPans_49 ?_
            refine va_get (D := D) (ci := 1) (v := .ref k3) (C := RX1) (T := TX1) (N := 5) hx hb ht inG_X1 hown hK hP 1 rfl rfl 2 (by decide) (ht _ qF_RX2_74) (fun _ h9 => h9) rfl dX2_boilPans_52 ?_
            refine lv_iload_n hx hb dX2_boilPans_55 rfl (lv_at hl 1 rfl) ?_
            refine lv_iconst (v := 0) hx hb dX2_boilPans_56 (by decide) ?_
            refine sZ_ hx hb hK hP hD hS 3 1 rfl rfl i (rfl) (by omega) (by decide) (by decide) (upd b1 i 0) (rfl) dX2_boilPans_57 (fun H locs hP hD hS => ?_)
            have hP : va_P D vwCl [(h0, .inr (2, [.ref hc, .ref hp, .ref hk, .int (nI day), .int coal1, .int bar, .int fine, .int crs, .int coin, .int ship])), (hk, .inr (1, [.ref k1, .ref k2, .ref k3, .int (nI mo), .int (nI n)])), (k1, .inl (cI, 4, .inl w1)), (k3, .inl (cZ, 4, .inl (upd b1 i 0)))] _ := hP
            have hD : va_D A [(h0, .inr (2, [.ref hc, .ref hp, .ref hk, .int (nI day), .int coal1, .int bar, .int fine, .int crs, .int coin, .int ship])), (hk, .inr (1, [.ref k1, .ref k2, .ref k3, .int (nI mo), .int (nI n)])), (k1, .inl (cI, 4, .inl w1)), (k3, .inl (cZ, 4, .inl (upd b1 i 0)))] := hD
            refine lv_goto (tgt := 96) hx hb dX2_boilPans_58 (by decide) ?_
            refine lv_iinc (v := nI (i + 1)) (lv' := [(1, .int (nI (i + 1))), (0, .ref h0)]) hx hb dX2_boilPans_96 hl (k := 1) rfl (nI_1 i) (by decide) rfl (fun ls hl => ?_)
            refine lv_goto (tgt := 2) hx hb dX2_boilPans_99 (by decide) ?_
            exact ih (i + 1) (by omega) (by omega) coal1 w1 (upd b1 i 0) (by subst e_coal1; simp only [cN, eq_false c_1, eq_true c_1n, eq_false c_2, eq_true c_3, eq_false c_3n, if_true, if_false]) (by subst e_coal1 e_w1; exact (rowF_same _ _ _ (by simp only [fKw, eq_false c_1, eq_true c_1n, eq_false c_2, eq_true c_3, eq_false c_3n, if_true, if_false])).symm) (by subst e_coal1 e_b1; exact rowF_upd _ _ _ (by simp only [fKb, eq_false c_1, eq_true c_1n, eq_false c_2, eq_true c_3, eq_false c_3n, if_true, if_false])) _ _ (hP.sub [0, 1, 2, 3] rfl) (hD.sub [0, 1, 2, 3] (by decide) rfl) hS _ (lv_sub hl [1, 0] rfl)
          · skip
            have c_3n := Int32.not_lt.mp c_3
            refine lv_aload_n hx hb dX2_boilPans_36 rfl (lv_at hl 0 rfl) ?_
            refine va_get (D := D) (ci := 2) (v := .ref hk) (C := RX2) (T := TX2) (N := 10) hx hb ht inG_X2 hown hK hP 0 rfl rfl 2 (by decide) (ht _ qF_RX2_27) (fun _ h9 => h9) rfl dX2_boilPans_37 ?_
            refine va_get (D := D) (ci := 1) (v := .ref k1) (C := RX1) (T := TX1) (N := 5) hx hb ht inG_X1 hown hK hP 1 rfl rfl 0 (by decide) (ht _ qF_RX2_78) (fun _ h9 => h9) rfl dX2_boilPans_40 ?_
            refine lv_iload_n hx hb dX2_boilPans_43 rfl (lv_at hl 1 rfl) ?_
            refine aI hx hb hK hP 2 0 rfl rfl i (rfl) (by omega) (by decide) (v := kw i) (by rw [e_w1]; exact rowF_at _ _ _ (Nat.le_refl _)) dX2_boilPans_44 ?_
            refine lv_if_ne (tgt := 61) hx hb dX2_boilPans_45 (by decide) (fun c_4 => ?_) (fun c_4 => ?_)
            · skip
              refine lv_aload_n hx hb dX2_boilPans_61 rfl (lv_at hl 0 rfl) ?_
              refine lv_dup hx hb dX2_boilPans_62 rfl ?_
              refine va_get (D := D) (ci := 2) (v := .int coal1) (C := RX2) (T := TX2) (N := 10) hx hb ht inG_X2 hown hK hP 0 rfl rfl 4 (by decide) (ht _ qF_RX2_34) (fun _ h9 => h9) rfl dX2_boilPans_63 ?_
              refine lv_iconst (v := 4) hx hb dX2_boilPans_66 (by decide) ?_
              refine lv_isub hx hb dX2_boilPans_67 ?_
              refine va_put (D := D) (ci := 2) (v := .int (coal1 - 4)) (C := RX2) (T := TX2) (N := 10) hx hb ht inG_X2 tyX2 tyX2_ok nmX2 hown hK hP hD hS 0 rfl rfl 4 (by decide) (ht _ qF_RX2_34) (fun _ h9 => h9) rfl (tyX2_ok 4 (by decide)) rfl rfl (Nat.le_of_ble_eq_true rfl) dX2_boilPans_68 (fun H locs hP hD hS => ?_)
              have hP : va_P D vwCl [(h0, .inr (2, [.ref hc, .ref hp, .ref hk, .int (nI day), .int (coal1 - 4), .int bar, .int fine, .int crs, .int coin, .int ship])), (hk, .inr (1, [.ref k1, .ref k2, .ref k3, .int (nI mo), .int (nI n)])), (k1, .inl (cI, 4, .inl w1)), (k3, .inl (cZ, 4, .inl b1))] _ := hP
              have hD : va_D A [(h0, .inr (2, [.ref hc, .ref hp, .ref hk, .int (nI day), .int (coal1 - 4), .int bar, .int fine, .int crs, .int coin, .int ship])), (hk, .inr (1, [.ref k1, .ref k2, .ref k3, .int (nI mo), .int (nI n)])), (k1, .inl (cI, 4, .inl w1)), (k3, .inl (cZ, 4, .inl b1))] := hD
              refine lv_aload_n hx hb dX2_boilPans_71 rfl (lv_at hl 0 rfl) ?_
              refine va_get (D := D) (ci := 2) (v := .ref hk) (C := RX2) (T := TX2) (N := 10) hx hb ht inG_X2 hown hK hP 0 rfl rfl 2 (by decide) (ht _ qF_RX2_27) (fun _ h9 => h9) rfl dX2_boilPans_72 ?_
              refine va_get (D := D) (ci := 1) (v := .ref k1) (C := RX1) (T := TX1) (N := 5) hx hb ht inG_X1 hown hK hP 1 rfl rfl 0 (by decide) (ht _ qF_RX2_78) (fun _ h9 => h9) rfl dX2_boilPans_75 ?_
              refine lv_iload_n hx hb dX2_boilPans_78 rfl (lv_at hl 1 rfl) ?_
              refine lv_iconst (v := 0) hx hb dX2_boilPans_79 (by decide) ?_
              refine lv_aload_n hx hb dX2_boilPans_80 rfl (lv_at hl 0 rfl) ?_
              refine va_get (D := D) (ci := 2) (v := .ref hk) (C := RX2) (T := TX2) (N := 10) hx hb ht inG_X2 hown hK hP 0 rfl rfl 2 (by decide) (ht _ qF_RX2_27) (fun _ h9 => h9) rfl dX2_boilPans_81 ?_
              refine va_get (D := D) (ci := 1) (v := .ref k1) (C := RX1) (T := TX1) (N := 5) hx hb ht inG_X1 hown hK hP 1 rfl rfl 0 (by decide) (ht _ qF_RX2_78) (fun _ h9 => h9) rfl dX2_boilPans_84 ?_
              refine lv_iload_n hx hb dX2_boilPans_87 rfl (lv_at hl 1 rfl) ?_
              refine aI hx hb hK hP 2 0 rfl rfl i (rfl) (by omega) (by decide) (v := kw i) (by rw [e_w1]; exact rowF_at _ _ _ (Nat.le_refl _)) dX2_boilPans_88 ?_
              refine lv_bipush (v := 12) hx hb dX2_boilPans_89 (by decide) ?_
              refine lv_isub hx hb dX2_boilPans_91 ?_
              refine k_max F qM_RX2_82 hl.1 (Nat.le_of_ble_eq_true rfl) (Nat.le_of_ble_eq_true rfl) (Nat.le_of_ble_eq_true rfl) (Nat.le_of_ble_eq_true rfl) dX2_boilPans_92 ?_
              refine sI_ hx hb hK hP hD hS 2 0 rfl rfl i (rfl) (by omega) (by decide) (upd w1 i (mx 0 ((kw i) - 12))) (rfl) dX2_boilPans_95 (fun H locs hP hD hS => ?_)
              have hP : va_P D vwCl [(h0, .inr (2, [.ref hc, .ref hp, .ref hk, .int (nI day), .int (coal1 - 4), .int bar, .int fine, .int crs, .int coin, .int ship])), (hk, .inr (1, [.ref k1, .ref k2, .ref k3, .int (nI mo), .int (nI n)])), (k1, .inl (cI, 4, .inl (upd w1 i (mx 0 ((kw i) - 12))))), (k3, .inl (cZ, 4, .inl b1))] _ := hP
              have hD : va_D A [(h0, .inr (2, [.ref hc, .ref hp, .ref hk, .int (nI day), .int (coal1 - 4), .int bar, .int fine, .int crs, .int coin, .int ship])), (hk, .inr (1, [.ref k1, .ref k2, .ref k3, .int (nI mo), .int (nI n)])), (k1, .inl (cI, 4, .inl (upd w1 i (mx 0 ((kw i) - 12))))), (k3, .inl (cZ, 4, .inl b1))] := hD
              refine lv_iinc (v := nI (i + 1)) (lv' := [(1, .int (nI (i + 1))), (0, .ref h0)]) hx hb dX2_boilPans_96 hl (k := 1) rfl (nI_1 i) (by decide) rfl (fun ls hl => ?_)
              refine lv_goto (tgt := 2) hx hb dX2_boilPans_99 (by decide) ?_
              exact ih (i + 1) (by omega) (by omega) (coal1 - 4) (upd w1 i (mx 0 ((kw i) - 12))) b1 (by subst e_coal1; simp only [cN, eq_false c_1, eq_true c_1n, eq_false c_2, eq_false c_3, eq_true c_3n, eq_false c_4, if_true, if_false]) (by subst e_coal1 e_w1; exact rowF_upd _ _ _ (by simp only [fKw, eq_false c_1, eq_true c_1n, eq_false c_2, eq_false c_3, eq_true c_3n, eq_false c_4, if_true, if_false])) (by subst e_coal1 e_b1; exact (rowF_same _ _ _ (by simp only [fKb, eq_false c_1, eq_true c_1n, eq_false c_2, eq_false c_3, eq_true c_3n, eq_false c_4, if_true, if_false])).symm) _ _ (hP.sub [0, 1, 2, 3] rfl) (hD.sub [0, 1, 2, 3] (by decide) rfl) hS _ (lv_sub hl [1, 0] rfl)
            · skip
              refine lv_aload_n hx hb dX2_boilPans_48 rfl (lv_at hl 0 rfl) ?_
              refine va_get (D := D) (ci := 2) (v := .ref hk) (C := RX2) (T := TX2) (N := 10) hx hb ht inG_X2 hown hK hP 0 rfl rfl 2 (by decide) (ht _ qF_RX2_27) (fun _ h9 => h9) rfl dX2_boilPans_49 ?_
              refine va_get (D := D) (ci := 1) (v := .ref k3) (C := RX1) (T := TX1) (N := 5) hx hb ht inG_X1 hown hK hP 1 rfl rfl 2 (by decide) (ht _ qF_RX2_74) (fun _ h9 => h9) rfl dX2_boilPans_52 ?_
              refine lv_iload_n hx hb dX2_boilPans_55 rfl (lv_at hl 1 rfl) ?_
              refine lv_iconst (v := 0) hx hb dX2_boilPans_56 (by decide) ?_
              refine sZ_ hx hb hK hP hD hS 3 1 rfl rfl i (rfl) (by omega) (by decide) (by decide) (upd b1 i 0) (rfl) dX2_boilPans_57 (fun H locs hP hD hS => ?_)
              have hP : va_P D vwCl [(h0, .inr (2, [.ref hc, .ref hp, .ref hk, .int (nI day), .int coal1, .int bar, .int fine, .int crs, .int coin, .int ship])), (hk, .inr (1, [.ref k1, .ref k2, .ref k3, .int (nI mo), .int (nI n)])), (k1, .inl (cI, 4, .inl w1)), (k3, .inl (cZ, 4, .inl (upd b1 i 0)))] _ := hP
              have hD : va_D A [(h0, .inr (2, [.ref hc, .ref hp, .ref hk, .int (nI day), .int coal1, .int bar, .int fine, .int crs, .int coin, .int ship])), (hk, .inr (1, [.ref k1, .ref k2, .ref k3, .int (nI mo), .int (nI n)])), (k1, .inl (cI, 4, .inl w1)), (k3, .inl (cZ, 4, .inl (upd b1 i 0)))] := hD
              refine lv_goto (tgt := 96) hx hb dX2_boilPans_58 (by decide) ?_
              refine lv_iinc (v := nI (i + 1)) (lv' := [(1, .int (nI (i + 1))), (0, .ref h0)]) hx hb dX2_boilPans_96 hl (k := 1) rfl (nI_1 i) (by decide) rfl (fun ls hl => ?_)
              refine lv_goto (tgt := 2) hx hb dX2_boilPans_99 (by decide) ?_
              exact ih (i + 1) (by omega) (by omega) coal1 w1 (upd b1 i 0) (by subst e_coal1; simp only [cN, eq_false c_1, eq_true c_1n, eq_false c_2, eq_false c_3, eq_true c_3n, eq_true c_4, if_true, if_false]) (by subst e_coal1 e_w1; exact (rowF_same _ _ _ (by simp only [fKw, eq_false c_1, eq_true c_1n, eq_false c_2, eq_false c_3, eq_true c_3n, eq_true c_4, if_true, if_false])).symm) (by subst e_coal1 e_b1; exact rowF_upd _ _ _ (by simp only [fKb, eq_false c_1, eq_true c_1n, eq_false c_2, eq_false c_3, eq_true c_3n, eq_true c_4, if_true, if_false])) _ _ (hP.sub [0, 1, 2, 3] rfl) (hD.sub [0, 1, 2, 3] (by decide) rfl) hS _ (lv_sub hl [1, 0] rfl)
        · skip
          refine lv_goto (tgt := 96) hx hb dX2_boilPans_25 (by decide) ?_
          refine lv_iinc (v := nI (i + 1)) (lv' := [(1, .int (nI (i + 1))), (0, .ref h0)]) hx hb dX2_boilPans_96 hl (k := 1) rfl (nI_1 i) (by decide) rfl (fun ls hl => ?_)
          refine lv_goto (tgt := 2) hx hb dX2_boilPans_99 (by decide) ?_
          exact ih (i + 1) (by omega) (by omega) coal1 w1 b1 (by subst e_coal1; simp only [cN, eq_false c_1, eq_true c_1n, eq_true c_2, if_true, if_false]) (by subst e_coal1 e_w1; exact (rowF_same _ _ _ (by simp only [fKw, eq_false c_1, eq_true c_1n, eq_true c_2, if_true, if_false])).symm) (by subst e_coal1 e_b1; exact (rowF_same _ _ _ (by simp only [fKb, eq_false c_1, eq_true c_1n, eq_true c_2, if_true, if_false])).symm) _ _ (hP.sub [0, 1, 2, 3] rfl) (hD.sub [0, 1, 2, 3] (by decide) rfl) hS _ (lv_sub hl [1, 0] rfl)
  exact loop2 (n + 1) 0 (Nat.zero_le _) (by omega) coal kw kb rfl ((rowF_0 _ _).symm) ((rowF_0 _ _).symm) _ _ (hP.sub [0, 1, 2, 3] rfl) (hD.sub [0, 1, 2, 3] (by decide) rfl) hS _ (lv_sub hl [1, 0] rfl)

def rm_X2_loadShip : Room := { frames := 1, cells := 0, slots := 0, locals := 21 }
set_option maxHeartbeats 4000000 in
set_option maxRecDepth 100000 in
theorem c_X2_loadShip (l : Launch) (D : va_G) (cI cZ cJ : ClassId) (h0 hc hp hk : Nat) (day : Nat) (coal bar fine crs coin ship : Int32) (t : Int32)  : Mv l yX2_loadShip cX2_loadShip 4 rm_X2_loadShip D (TY cI cZ cJ) [.ref h0, .int t] [(h0, .inr (2, [.ref hc, .ref hp, .ref hk, .int (nI day), .int coal, .int bar, .int fine, .int crs, .int coin, .int ship]))] (fun (u : Unit) => True) (fun (u : Unit) => [(h0, .inr (2, [.ref hc, .ref hp, .ref hk, .int (nI day), .int coal, .int bar, .int (fine - mn t fine), .int (crs - mn (t - mn t fine) crs), .int (coin + (5 * mn t fine + 2 * mn (t - mn t fine) crs)), .int (ship + (mn t fine + mn (t - mn t fine) crs))]))]) := by
  refine Mv.ofQ (by decide) (Nat.le_of_ble_eq_true rfl) ?_
  intro p e s m args below meth c A ls Q hF hK hP hD hA hl hend hin
  obtain ⟨F, hr, hlocks, hG⟩ := hF
  have hx := F.1
  have hb := F.2.1
  have hown := F.2.2.2.1
  have ht := F.2.2.2.2
  have hS : va_S A s.heap s.heap [] := va_S.rf
  have hl : lv_has ls 4 [(0, .ref h0), (1, .int t)] := hl
  refine lv_iload_n hx hb dX2_loadShip_0 rfl (lv_at hl 1 rfl) ?_
  refine lv_aload_n hx hb dX2_loadShip_1 rfl (lv_at hl 0 rfl) ?_
  refine va_get (D := D) (ci := 2) (v := .int fine) (C := RX2) (T := TX2) (N := 10) hx hb ht inG_X2 hown hK hP 0 rfl rfl 6 (by decide) (ht _ qF_RX2_40) (fun _ h9 => h9) rfl dX2_loadShip_2 ?_
  refine k_min F qM_RX2_88 hl.1 (Nat.le_of_ble_eq_true rfl) (Nat.le_of_ble_eq_true rfl) (Nat.le_of_ble_eq_true rfl) (Nat.le_of_ble_eq_true rfl) dX2_loadShip_5 ?_
  refine lv_istore_n (lv' := [(2, .int (mn t fine)), (0, .ref h0), (1, .int t)]) hx hb dX2_loadShip_8 rfl hl (by decide) rfl (fun ls hl => ?_)
  refine lv_iload_n hx hb dX2_loadShip_9 rfl (lv_at hl 2 rfl) ?_
  refine lv_iload_n hx hb dX2_loadShip_10 rfl (lv_at hl 0 rfl) ?_
  refine lv_isub hx hb dX2_loadShip_11 ?_
  refine lv_aload_n hx hb dX2_loadShip_12 rfl (lv_at hl 1 rfl) ?_
  refine va_get (D := D) (ci := 2) (v := .int crs) (C := RX2) (T := TX2) (N := 10) hx hb ht inG_X2 hown hK hP 0 rfl rfl 7 (by decide) (ht _ qF_RX2_43) (fun _ h9 => h9) rfl dX2_loadShip_13 ?_
  refine k_min F qM_RX2_88 hl.1 (Nat.le_of_ble_eq_true rfl) (Nat.le_of_ble_eq_true rfl) (Nat.le_of_ble_eq_true rfl) (Nat.le_of_ble_eq_true rfl) dX2_loadShip_16 ?_
  refine lv_istore_n (lv' := [(3, .int (mn (t - (mn t fine)) crs)), (2, .int (mn t fine)), (0, .ref h0), (1, .int t)]) hx hb dX2_loadShip_19 rfl hl (by decide) rfl (fun ls hl => ?_)
  refine lv_aload_n hx hb dX2_loadShip_20 rfl (lv_at hl 2 rfl) ?_
  refine lv_dup hx hb dX2_loadShip_21 rfl ?_
  refine va_get (D := D) (ci := 2) (v := .int fine) (C := RX2) (T := TX2) (N := 10) hx hb ht inG_X2 hown hK hP 0 rfl rfl 6 (by decide) (ht _ qF_RX2_40) (fun _ h9 => h9) rfl dX2_loadShip_22 ?_
  refine lv_iload_n hx hb dX2_loadShip_25 rfl (lv_at hl 1 rfl) ?_
  refine lv_isub hx hb dX2_loadShip_26 ?_
  refine va_put (D := D) (ci := 2) (v := .int (fine - (mn t fine))) (C := RX2) (T := TX2) (N := 10) hx hb ht inG_X2 tyX2 tyX2_ok nmX2 hown hK hP hD hS 0 rfl rfl 6 (by decide) (ht _ qF_RX2_40) (fun _ h9 => h9) rfl (tyX2_ok 6 (by decide)) rfl rfl (Nat.le_of_ble_eq_true rfl) dX2_loadShip_27 (fun H locs hP hD hS => ?_)
  have hP : va_P D vwCl [(h0, .inr (2, [.ref hc, .ref hp, .ref hk, .int (nI day), .int coal, .int bar, .int (fine - (mn t fine)), .int crs, .int coin, .int ship]))] _ := hP
  have hD : va_D A [(h0, .inr (2, [.ref hc, .ref hp, .ref hk, .int (nI day), .int coal, .int bar, .int (fine - (mn t fine)), .int crs, .int coin, .int ship]))] := hD
  refine lv_aload_n hx hb dX2_loadShip_30 rfl (lv_at hl 2 rfl) ?_
  refine lv_dup hx hb dX2_loadShip_31 rfl ?_
  refine va_get (D := D) (ci := 2) (v := .int crs) (C := RX2) (T := TX2) (N := 10) hx hb ht inG_X2 hown hK hP 0 rfl rfl 7 (by decide) (ht _ qF_RX2_43) (fun _ h9 => h9) rfl dX2_loadShip_32 ?_
  refine lv_iload_n hx hb dX2_loadShip_35 rfl (lv_at hl 0 rfl) ?_
  refine lv_isub hx hb dX2_loadShip_36 ?_
  refine va_put (D := D) (ci := 2) (v := .int (crs - (mn (t - (mn t fine)) crs))) (C := RX2) (T := TX2) (N := 10) hx hb ht inG_X2 tyX2 tyX2_ok nmX2 hown hK hP hD hS 0 rfl rfl 7 (by decide) (ht _ qF_RX2_43) (fun _ h9 => h9) rfl (tyX2_ok 7 (by decide)) rfl rfl (Nat.le_of_ble_eq_true rfl) dX2_loadShip_37 (fun H locs hP hD hS => ?_)
  have hP : va_P D vwCl [(h0, .inr (2, [.ref hc, .ref hp, .ref hk, .int (nI day), .int coal, .int bar, .int (fine - (mn t fine)), .int (crs - (mn (t - (mn t fine)) crs)), .int coin, .int ship]))] _ := hP
  have hD : va_D A [(h0, .inr (2, [.ref hc, .ref hp, .ref hk, .int (nI day), .int coal, .int bar, .int (fine - (mn t fine)), .int (crs - (mn (t - (mn t fine)) crs)), .int coin, .int ship]))] := hD
  refine lv_aload_n hx hb dX2_loadShip_40 rfl (lv_at hl 2 rfl) ?_
  refine lv_dup hx hb dX2_loadShip_41 rfl ?_
  refine va_get (D := D) (ci := 2) (v := .int coin) (C := RX2) (T := TX2) (N := 10) hx hb ht inG_X2 hown hK hP 0 rfl rfl 8 (by decide) (ht _ qF_RX2_46) (fun _ h9 => h9) rfl dX2_loadShip_42 ?_
  refine lv_iconst (v := 5) hx hb dX2_loadShip_45 (by decide) ?_
  refine lv_iload_n hx hb dX2_loadShip_46 rfl (lv_at hl 1 rfl) ?_
  refine lv_imul hx hb dX2_loadShip_47 ?_
  refine lv_iconst (v := 2) hx hb dX2_loadShip_48 (by decide) ?_
  refine lv_iload_n hx hb dX2_loadShip_49 rfl (lv_at hl 0 rfl) ?_
  refine lv_imul hx hb dX2_loadShip_50 ?_
  refine lv_iadd hx hb dX2_loadShip_51 ?_
  refine lv_iadd hx hb dX2_loadShip_52 ?_
  refine va_put (D := D) (ci := 2) (v := .int (coin + ((5 * (mn t fine)) + (2 * (mn (t - (mn t fine)) crs))))) (C := RX2) (T := TX2) (N := 10) hx hb ht inG_X2 tyX2 tyX2_ok nmX2 hown hK hP hD hS 0 rfl rfl 8 (by decide) (ht _ qF_RX2_46) (fun _ h9 => h9) rfl (tyX2_ok 8 (by decide)) rfl rfl (Nat.le_of_ble_eq_true rfl) dX2_loadShip_53 (fun H locs hP hD hS => ?_)
  have hP : va_P D vwCl [(h0, .inr (2, [.ref hc, .ref hp, .ref hk, .int (nI day), .int coal, .int bar, .int (fine - (mn t fine)), .int (crs - (mn (t - (mn t fine)) crs)), .int (coin + ((5 * (mn t fine)) + (2 * (mn (t - (mn t fine)) crs)))), .int ship]))] _ := hP
  have hD : va_D A [(h0, .inr (2, [.ref hc, .ref hp, .ref hk, .int (nI day), .int coal, .int bar, .int (fine - (mn t fine)), .int (crs - (mn (t - (mn t fine)) crs)), .int (coin + ((5 * (mn t fine)) + (2 * (mn (t - (mn t fine)) crs)))), .int ship]))] := hD
  refine lv_aload_n hx hb dX2_loadShip_56 rfl (lv_at hl 2 rfl) ?_
  refine lv_dup hx hb dX2_loadShip_57 rfl ?_
  refine va_get (D := D) (ci := 2) (v := .int ship) (C := RX2) (T := TX2) (N := 10) hx hb ht inG_X2 hown hK hP 0 rfl rfl 9 (by decide) (ht _ qF_RX2_49) (fun _ h9 => h9) rfl dX2_loadShip_58 ?_
  refine lv_iload_n hx hb dX2_loadShip_61 rfl (lv_at hl 1 rfl) ?_
  refine lv_iload_n hx hb dX2_loadShip_62 rfl (lv_at hl 0 rfl) ?_
  refine lv_iadd hx hb dX2_loadShip_63 ?_
  refine lv_iadd hx hb dX2_loadShip_64 ?_
  refine va_put (D := D) (ci := 2) (v := .int (ship + ((mn t fine) + (mn (t - (mn t fine)) crs)))) (C := RX2) (T := TX2) (N := 10) hx hb ht inG_X2 tyX2 tyX2_ok nmX2 hown hK hP hD hS 0 rfl rfl 9 (by decide) (ht _ qF_RX2_49) (fun _ h9 => h9) rfl (tyX2_ok 9 (by decide)) rfl rfl (Nat.le_of_ble_eq_true rfl) dX2_loadShip_65 (fun H locs hP hD hS => ?_)
  have hP : va_P D vwCl [(h0, .inr (2, [.ref hc, .ref hp, .ref hk, .int (nI day), .int coal, .int bar, .int (fine - (mn t fine)), .int (crs - (mn (t - (mn t fine)) crs)), .int (coin + ((5 * (mn t fine)) + (2 * (mn (t - (mn t fine)) crs)))), .int (ship + ((mn t fine) + (mn (t - (mn t fine)) crs)))]))] _ := hP
  have hD : va_D A [(h0, .inr (2, [.ref hc, .ref hp, .ref hk, .int (nI day), .int coal, .int bar, .int (fine - (mn t fine)), .int (crs - (mn (t - (mn t fine)) crs)), .int (coin + ((5 * (mn t fine)) + (2 * (mn (t - (mn t fine)) crs)))), .int (ship + ((mn t fine) + (mn (t - (mn t fine)) crs)))]))] := hD
  exact hend _ _ _ _ _ _ () dX2_loadShip_68 (trivial) hP hD hS (Nat.le_of_ble_eq_true rfl) (Nat.le_of_ble_eq_true rfl)

def rm_X2_letDayGo : Room := { frames := 3, cells := 0, slots := 0, locals := 67 }
set_option maxHeartbeats 4000000 in
set_option maxRecDepth 100000 in
theorem c_X2_letDayGo (l : Launch) (D : va_G) (cI cZ cJ : ClassId) (h0 hc hp hk c1 c2 c3 c4 p1 p2 p3 mp k1 k2 k3 mk : Nat) (day : Nat) (coal bar fine crs coin ship : Int32) (sh co bu fl pw kw kb : Nat → Int32) (nC nP nK : Nat) (r t : Int32) (hC : nC ≤ 4) (hPp : nP ≤ 4) (hKk : nK ≤ 4) : Mv l yX2_letDayGo cX2_letDayGo 3 rm_X2_letDayGo D (TY cI cZ cJ) [.ref h0, .int r, .int t] [(h0, .inr (2, [.ref hc, .ref hp, .ref hk, .int (nI day), .int coal, .int bar, .int fine, .int crs, .int coin, .int ship])), (hc, .inr (0, [.ref c1, .ref c2, .ref c3, .ref c4, .int (nI nC)])), (c1, .inl (cI, 4, .inl sh)), (c2, .inl (cI, 4, .inl co)), (c3, .inl (cI, 4, .inl bu)), (c4, .inl (cZ, 4, .inl fl)), (hp, .inr (1, [.ref p1, .ref p2, .ref p3, .int (nI mp), .int (nI nP)])), (p1, .inl (cI, 4, .inl pw)), (hk, .inr (1, [.ref k1, .ref k2, .ref k3, .int (nI mk), .int (nI nK)])), (k1, .inl (cI, 4, .inl kw)), (k3, .inl (cZ, 4, .inl kb))] (fun (u : Unit) => True) (fun (u : Unit) => [(h0, .inr (2, [.ref hc, .ref hp, .ref hk, .int (nI (day + 1)), .int (cN kw kb coal nK), .int bar, .int (fine - mn t fine), .int (crs - mn (t - mn t fine) crs), .int (coin + (5 * mn t fine + 2 * mn (t - mn t fine) crs)), .int (ship + (mn t fine + mn (t - mn t fine) crs))])), (hc, .inr (0, [.ref c1, .ref c2, .ref c3, .ref c4, .int (nI nC)])), (c1, .inl (cI, 4, .inl (rowF nC (fSh r sh fl) sh))), (c2, .inl (cI, 4, .inl (rowF nC (fCo co fl) co))), (c3, .inl (cI, 4, .inl (rowF nC (fBu r sh bu fl) bu))), (c4, .inl (cZ, 4, .inl (rowF nC (fFl r sh co fl) fl))), (hp, .inr (1, [.ref p1, .ref p2, .ref p3, .int (nI mp), .int (nI nP)])), (p1, .inl (cI, 4, .inl (rowF nP (fun j => wth r (pw j)) pw))), (hk, .inr (1, [.ref k1, .ref k2, .ref k3, .int (nI mk), .int (nI nK)])), (k1, .inl (cI, 4, .inl (rowF nK (fKw kw kb (cN kw kb coal)) kw))), (k3, .inl (cZ, 4, .inl (rowF nK (fKb kw kb (cN kw kb coal)) kb)))]) := by
  refine Mv.ofQ (by decide) (Nat.le_of_ble_eq_true rfl) ?_
  intro p e s m args below meth c A ls Q hF hK hP hD hA hl hend hin
  obtain ⟨F, hr, hlocks, hG⟩ := hF
  have hx := F.1
  have hb := F.2.1
  have hown := F.2.2.2.1
  have ht := F.2.2.2.2
  have hS : va_S A s.heap s.heap [] := va_S.rf
  have hl : lv_has ls 3 [(0, .ref h0), (1, .int r), (2, .int t)] := hl
  refine lv_aload_n hx hb dX2_letDayGo_0 rfl (lv_at hl 0 rfl) ?_
  refine va_get (D := D) (ci := 2) (v := .ref hc) (C := RX2) (T := TX2) (N := 10) hx hb ht inG_X2 hown hK hP 0 rfl rfl 0 (by decide) (ht _ qF_RX2_12) (fun _ h9 => h9) rfl dX2_letDayGo_1 ?_
  refine lv_iload_n hx hb dX2_letDayGo_4 rfl (lv_at hl 1 rfl) ?_
  refine k_v (wr := [(h0, .inr (2, [.ref hc, .ref hp, .ref hk, .int (nI day), .int coal, .int bar, .int fine, .int crs, .int coin, .int ship])), (hp, .inr (1, [.ref p1, .ref p2, .ref p3, .int (nI mp), .int (nI nP)])), (p1, .inl (cI, 4, .inl pw)), (hk, .inr (1, [.ref k1, .ref k2, .ref k3, .int (nI mk), .int (nI nK)])), (k1, .inl (cI, 4, .inl kw)), (k3, .inl (cZ, 4, .inl kb))]) (rV (As := [.int r]) (rest := []) F hG hK (hP.sub (ws' := [(hc, .inr (0, [.ref c1, .ref c2, .ref c3, .ref c4, .int (nI nC)])), (c1, .inl (cI, 4, .inl sh)), (c2, .inl (cI, 4, .inl co)), (c3, .inl (cI, 4, .inl bu)), (c4, .inl (cZ, 4, .inl fl))]) [1, 2, 3, 4, 5] rfl) ((hD.sub (ws' := [(hc, .inr (0, [.ref c1, .ref c2, .ref c3, .ref c4, .int (nI nC)])), (c1, .inl (cI, 4, .inl sh)), (c2, .inl (cI, 4, .inl co)), (c3, .inl (cI, 4, .inl bu)), (c4, .inl (cZ, 4, .inl fl))]) [1, 2, 3, 4, 5] (by decide) rfl).weaken (fun _ _ _ _ => trivial)) s_RX2_59 (c_X0_burn l D cI cZ cJ hc c1 c2 c3 c4 sh co bu fl nC r (by first | assumption | omega) _) 0 0 rfl rfl rfl rfl hl.1 rfl (Nat.le_of_ble_eq_true rfl) dX2_letDayGo_5 ⟨(Nat.le_of_ble_eq_true rfl), (Nat.le_of_ble_eq_true rfl)⟩ ⟨(Nat.le_of_ble_eq_true rfl), (Nat.le_of_ble_eq_true rfl)⟩) hP hD hS hA [1, 2, 3, 4, 5] [0, 6, 7, 8, 9, 10] rfl rfl (by decide) (by decide) (fun u H locs hw hP hD hS => ?_)
  obtain ⟨sh1_5, co1_5, bu1_5, fl1_5⟩ := u
  try dsimp only at hw
  obtain ⟨rfl, rfl, rfl, rfl⟩ := hw
  have hP : va_P D vwCl [(h0, .inr (2, [.ref hc, .ref hp, .ref hk, .int (nI day), .int coal, .int bar, .int fine, .int crs, .int coin, .int ship])), (hp, .inr (1, [.ref p1, .ref p2, .ref p3, .int (nI mp), .int (nI nP)])), (p1, .inl (cI, 4, .inl pw)), (hk, .inr (1, [.ref k1, .ref k2, .ref k3, .int (nI mk), .int (nI nK)])), (k1, .inl (cI, 4, .inl kw)), (k3, .inl (cZ, 4, .inl kb)), (hc, .inr (0, [.ref c1, .ref c2, .ref c3, .ref c4, .int (nI nC)])), (c1, .inl (cI, 4, .inl (rowF nC (fSh r sh fl) sh))), (c2, .inl (cI, 4, .inl (rowF nC (fCo co fl) co))), (c3, .inl (cI, 4, .inl (rowF nC (fBu r sh bu fl) bu))), (c4, .inl (cZ, 4, .inl (rowF nC (fFl r sh co fl) fl)))] _ := hP
  have hD : va_D A [(h0, .inr (2, [.ref hc, .ref hp, .ref hk, .int (nI day), .int coal, .int bar, .int fine, .int crs, .int coin, .int ship])), (hp, .inr (1, [.ref p1, .ref p2, .ref p3, .int (nI mp), .int (nI nP)])), (p1, .inl (cI, 4, .inl pw)), (hk, .inr (1, [.ref k1, .ref k2, .ref k3, .int (nI mk), .int (nI nK)])), (k1, .inl (cI, 4, .inl kw)), (k3, .inl (cZ, 4, .inl kb)), (hc, .inr (0, [.ref c1, .ref c2, .ref c3, .ref c4, .int (nI nC)])), (c1, .inl (cI, 4, .inl (rowF nC (fSh r sh fl) sh))), (c2, .inl (cI, 4, .inl (rowF nC (fCo co fl) co))), (c3, .inl (cI, 4, .inl (rowF nC (fBu r sh bu fl) bu))), (c4, .inl (cZ, 4, .inl (rowF nC (fFl r sh co fl) fl)))] := hD
  refine lv_aload_n hx hb dX2_letDayGo_8 rfl (lv_at hl 0 rfl) ?_
  refine va_get (D := D) (ci := 2) (v := .ref hp) (C := RX2) (T := TX2) (N := 10) hx hb ht inG_X2 hown hK hP 0 rfl rfl 1 (by decide) (ht _ qF_RX2_23) (fun _ h9 => h9) rfl dX2_letDayGo_9 ?_
  refine lv_iload_n hx hb dX2_letDayGo_12 rfl (lv_at hl 1 rfl) ?_
  refine k_v (wr := [(h0, .inr (2, [.ref hc, .ref hp, .ref hk, .int (nI day), .int coal, .int bar, .int fine, .int crs, .int coin, .int ship])), (hk, .inr (1, [.ref k1, .ref k2, .ref k3, .int (nI mk), .int (nI nK)])), (k1, .inl (cI, 4, .inl kw)), (k3, .inl (cZ, 4, .inl kb)), (hc, .inr (0, [.ref c1, .ref c2, .ref c3, .ref c4, .int (nI nC)])), (c1, .inl (cI, 4, .inl (rowF nC (fSh r sh fl) sh))), (c2, .inl (cI, 4, .inl (rowF nC (fCo co fl) co))), (c3, .inl (cI, 4, .inl (rowF nC (fBu r sh bu fl) bu))), (c4, .inl (cZ, 4, .inl (rowF nC (fFl r sh co fl) fl)))]) (rV (As := [.int r]) (rest := []) F hG hK (hP.sub (ws' := [(hp, .inr (1, [.ref p1, .ref p2, .ref p3, .int (nI mp), .int (nI nP)])), (p1, .inl (cI, 4, .inl pw))]) [1, 2] rfl) ((hD.sub (ws' := [(hp, .inr (1, [.ref p1, .ref p2, .ref p3, .int (nI mp), .int (nI nP)])), (p1, .inl (cI, 4, .inl pw))]) [1, 2] (by decide) rfl).weaken (fun _ _ _ _ => trivial)) s_RX2_62 (c_X1_takeWeather l D cI cZ cJ hp p1 p2 p3 mp pw nP r (by first | assumption | omega) _) 1 0 rfl rfl rfl rfl hl.1 rfl (Nat.le_of_ble_eq_true rfl) dX2_letDayGo_13 ⟨(Nat.le_of_ble_eq_true rfl), (Nat.le_of_ble_eq_true rfl)⟩ ⟨(Nat.le_of_ble_eq_true rfl), (Nat.le_of_ble_eq_true rfl)⟩) hP hD hS hA [1, 2] [0, 3, 4, 5, 6, 7, 8, 9, 10] rfl rfl (by decide) (by decide) (fun u H locs hw hP hD hS => ?_)
  obtain ⟨w1_13, rfl⟩ : ∃ z, z = u := ⟨_, rfl⟩
  try dsimp only at hw
  subst hw
  have hP : va_P D vwCl [(h0, .inr (2, [.ref hc, .ref hp, .ref hk, .int (nI day), .int coal, .int bar, .int fine, .int crs, .int coin, .int ship])), (hk, .inr (1, [.ref k1, .ref k2, .ref k3, .int (nI mk), .int (nI nK)])), (k1, .inl (cI, 4, .inl kw)), (k3, .inl (cZ, 4, .inl kb)), (hc, .inr (0, [.ref c1, .ref c2, .ref c3, .ref c4, .int (nI nC)])), (c1, .inl (cI, 4, .inl (rowF nC (fSh r sh fl) sh))), (c2, .inl (cI, 4, .inl (rowF nC (fCo co fl) co))), (c3, .inl (cI, 4, .inl (rowF nC (fBu r sh bu fl) bu))), (c4, .inl (cZ, 4, .inl (rowF nC (fFl r sh co fl) fl))), (hp, .inr (1, [.ref p1, .ref p2, .ref p3, .int (nI mp), .int (nI nP)])), (p1, .inl (cI, 4, .inl (rowF nP (fun j => wth r (pw j)) pw)))] _ := hP
  have hD : va_D A [(h0, .inr (2, [.ref hc, .ref hp, .ref hk, .int (nI day), .int coal, .int bar, .int fine, .int crs, .int coin, .int ship])), (hk, .inr (1, [.ref k1, .ref k2, .ref k3, .int (nI mk), .int (nI nK)])), (k1, .inl (cI, 4, .inl kw)), (k3, .inl (cZ, 4, .inl kb)), (hc, .inr (0, [.ref c1, .ref c2, .ref c3, .ref c4, .int (nI nC)])), (c1, .inl (cI, 4, .inl (rowF nC (fSh r sh fl) sh))), (c2, .inl (cI, 4, .inl (rowF nC (fCo co fl) co))), (c3, .inl (cI, 4, .inl (rowF nC (fBu r sh bu fl) bu))), (c4, .inl (cZ, 4, .inl (rowF nC (fFl r sh co fl) fl))), (hp, .inr (1, [.ref p1, .ref p2, .ref p3, .int (nI mp), .int (nI nP)])), (p1, .inl (cI, 4, .inl (rowF nP (fun j => wth r (pw j)) pw)))] := hD
  refine lv_aload_n hx hb dX2_letDayGo_16 rfl (lv_at hl 0 rfl) ?_
  refine k_v (wr := [(hc, .inr (0, [.ref c1, .ref c2, .ref c3, .ref c4, .int (nI nC)])), (c1, .inl (cI, 4, .inl (rowF nC (fSh r sh fl) sh))), (c2, .inl (cI, 4, .inl (rowF nC (fCo co fl) co))), (c3, .inl (cI, 4, .inl (rowF nC (fBu r sh bu fl) bu))), (c4, .inl (cZ, 4, .inl (rowF nC (fFl r sh co fl) fl))), (hp, .inr (1, [.ref p1, .ref p2, .ref p3, .int (nI mp), .int (nI nP)])), (p1, .inl (cI, 4, .inl (rowF nP (fun j => wth r (pw j)) pw)))]) (rV (As := []) (rest := []) F hG hK (hP.sub (ws' := [(h0, .inr (2, [.ref hc, .ref hp, .ref hk, .int (nI day), .int coal, .int bar, .int fine, .int crs, .int coin, .int ship])), (hk, .inr (1, [.ref k1, .ref k2, .ref k3, .int (nI mk), .int (nI nK)])), (k1, .inl (cI, 4, .inl kw)), (k3, .inl (cZ, 4, .inl kb))]) [0, 1, 2, 3] rfl) ((hD.sub (ws' := [(h0, .inr (2, [.ref hc, .ref hp, .ref hk, .int (nI day), .int coal, .int bar, .int fine, .int crs, .int coin, .int ship])), (hk, .inr (1, [.ref k1, .ref k2, .ref k3, .int (nI mk), .int (nI nK)])), (k1, .inl (cI, 4, .inl kw)), (k3, .inl (cZ, 4, .inl kb))]) [0, 1, 2, 3] (by decide) rfl).weaken (fun _ _ _ _ => trivial)) s_RX2_65 (c_X2_boilPans l D cI cZ cJ h0 hc hp hk k1 k2 k3 mk nK day coal bar fine crs coin ship kw kb (by first | assumption | omega) _) 2 0 rfl rfl rfl rfl hl.1 rfl (Nat.le_of_ble_eq_true rfl) dX2_letDayGo_17 ⟨(Nat.le_of_ble_eq_true rfl), (Nat.le_of_ble_eq_true rfl)⟩ ⟨(Nat.le_of_ble_eq_true rfl), (Nat.le_of_ble_eq_true rfl)⟩) hP hD hS hA [0, 1, 2, 3] [4, 5, 6, 7, 8, 9, 10] rfl rfl (by decide) (by decide) (fun u H locs hw hP hD hS => ?_)
  obtain ⟨coal1_17, w1_17, b1_17⟩ := u
  try dsimp only at hw
  obtain ⟨rfl, rfl, rfl⟩ := hw
  have hP : va_P D vwCl [(hc, .inr (0, [.ref c1, .ref c2, .ref c3, .ref c4, .int (nI nC)])), (c1, .inl (cI, 4, .inl (rowF nC (fSh r sh fl) sh))), (c2, .inl (cI, 4, .inl (rowF nC (fCo co fl) co))), (c3, .inl (cI, 4, .inl (rowF nC (fBu r sh bu fl) bu))), (c4, .inl (cZ, 4, .inl (rowF nC (fFl r sh co fl) fl))), (hp, .inr (1, [.ref p1, .ref p2, .ref p3, .int (nI mp), .int (nI nP)])), (p1, .inl (cI, 4, .inl (rowF nP (fun j => wth r (pw j)) pw))), (h0, .inr (2, [.ref hc, .ref hp, .ref hk, .int (nI day), .int (cN kw kb coal nK), .int bar, .int fine, .int crs, .int coin, .int ship])), (hk, .inr (1, [.ref k1, .ref k2, .ref k3, .int (nI mk), .int (nI nK)])), (k1, .inl (cI, 4, .inl (rowF nK (fKw kw kb (cN kw kb coal)) kw))), (k3, .inl (cZ, 4, .inl (rowF nK (fKb kw kb (cN kw kb coal)) kb)))] _ := hP
  have hD : va_D A [(hc, .inr (0, [.ref c1, .ref c2, .ref c3, .ref c4, .int (nI nC)])), (c1, .inl (cI, 4, .inl (rowF nC (fSh r sh fl) sh))), (c2, .inl (cI, 4, .inl (rowF nC (fCo co fl) co))), (c3, .inl (cI, 4, .inl (rowF nC (fBu r sh bu fl) bu))), (c4, .inl (cZ, 4, .inl (rowF nC (fFl r sh co fl) fl))), (hp, .inr (1, [.ref p1, .ref p2, .ref p3, .int (nI mp), .int (nI nP)])), (p1, .inl (cI, 4, .inl (rowF nP (fun j => wth r (pw j)) pw))), (h0, .inr (2, [.ref hc, .ref hp, .ref hk, .int (nI day), .int (cN kw kb coal nK), .int bar, .int fine, .int crs, .int coin, .int ship])), (hk, .inr (1, [.ref k1, .ref k2, .ref k3, .int (nI mk), .int (nI nK)])), (k1, .inl (cI, 4, .inl (rowF nK (fKw kw kb (cN kw kb coal)) kw))), (k3, .inl (cZ, 4, .inl (rowF nK (fKb kw kb (cN kw kb coal)) kb)))] := hD
  refine lv_aload_n hx hb dX2_letDayGo_20 rfl (lv_at hl 0 rfl) ?_
  refine lv_iload_n hx hb dX2_letDayGo_21 rfl (lv_at hl 2 rfl) ?_
  refine k_v (wr := [(hc, .inr (0, [.ref c1, .ref c2, .ref c3, .ref c4, .int (nI nC)])), (c1, .inl (cI, 4, .inl (rowF nC (fSh r sh fl) sh))), (c2, .inl (cI, 4, .inl (rowF nC (fCo co fl) co))), (c3, .inl (cI, 4, .inl (rowF nC (fBu r sh bu fl) bu))), (c4, .inl (cZ, 4, .inl (rowF nC (fFl r sh co fl) fl))), (hp, .inr (1, [.ref p1, .ref p2, .ref p3, .int (nI mp), .int (nI nP)])), (p1, .inl (cI, 4, .inl (rowF nP (fun j => wth r (pw j)) pw))), (hk, .inr (1, [.ref k1, .ref k2, .ref k3, .int (nI mk), .int (nI nK)])), (k1, .inl (cI, 4, .inl (rowF nK (fKw kw kb (cN kw kb coal)) kw))), (k3, .inl (cZ, 4, .inl (rowF nK (fKb kw kb (cN kw kb coal)) kb)))]) (rV (As := [.int t]) (rest := []) F hG hK (hP.sub (ws' := [(h0, .inr (2, [.ref hc, .ref hp, .ref hk, .int (nI day), .int (cN kw kb coal nK), .int bar, .int fine, .int crs, .int coin, .int ship]))]) [7] rfl) ((hD.sub (ws' := [(h0, .inr (2, [.ref hc, .ref hp, .ref hk, .int (nI day), .int (cN kw kb coal nK), .int bar, .int fine, .int crs, .int coin, .int ship]))]) [7] (by decide) rfl).weaken (fun _ _ _ _ => trivial)) s_RX2_68 (c_X2_loadShip l D cI cZ cJ h0 hc hp hk day (cN kw kb coal nK) bar fine crs coin ship t _) 2 0 rfl rfl rfl rfl hl.1 rfl (Nat.le_of_ble_eq_true rfl) dX2_letDayGo_22 ⟨(Nat.le_of_ble_eq_true rfl), (Nat.le_of_ble_eq_true rfl)⟩ ⟨(Nat.le_of_ble_eq_true rfl), (Nat.le_of_ble_eq_true rfl)⟩) hP hD hS hA [7] [0, 1, 2, 3, 4, 5, 6, 8, 9, 10] rfl rfl (by decide) (by decide) (fun u H locs hw hP hD hS => ?_)
  try dsimp only at hw
  have hP : va_P D vwCl [(hc, .inr (0, [.ref c1, .ref c2, .ref c3, .ref c4, .int (nI nC)])), (c1, .inl (cI, 4, .inl (rowF nC (fSh r sh fl) sh))), (c2, .inl (cI, 4, .inl (rowF nC (fCo co fl) co))), (c3, .inl (cI, 4, .inl (rowF nC (fBu r sh bu fl) bu))), (c4, .inl (cZ, 4, .inl (rowF nC (fFl r sh co fl) fl))), (hp, .inr (1, [.ref p1, .ref p2, .ref p3, .int (nI mp), .int (nI nP)])), (p1, .inl (cI, 4, .inl (rowF nP (fun j => wth r (pw j)) pw))), (hk, .inr (1, [.ref k1, .ref k2, .ref k3, .int (nI mk), .int (nI nK)])), (k1, .inl (cI, 4, .inl (rowF nK (fKw kw kb (cN kw kb coal)) kw))), (k3, .inl (cZ, 4, .inl (rowF nK (fKb kw kb (cN kw kb coal)) kb))), (h0, .inr (2, [.ref hc, .ref hp, .ref hk, .int (nI day), .int (cN kw kb coal nK), .int bar, .int (fine - mn t fine), .int (crs - mn (t - mn t fine) crs), .int (coin + (5 * mn t fine + 2 * mn (t - mn t fine) crs)), .int (ship + (mn t fine + mn (t - mn t fine) crs))]))] _ := hP
  have hD : va_D A [(hc, .inr (0, [.ref c1, .ref c2, .ref c3, .ref c4, .int (nI nC)])), (c1, .inl (cI, 4, .inl (rowF nC (fSh r sh fl) sh))), (c2, .inl (cI, 4, .inl (rowF nC (fCo co fl) co))), (c3, .inl (cI, 4, .inl (rowF nC (fBu r sh bu fl) bu))), (c4, .inl (cZ, 4, .inl (rowF nC (fFl r sh co fl) fl))), (hp, .inr (1, [.ref p1, .ref p2, .ref p3, .int (nI mp), .int (nI nP)])), (p1, .inl (cI, 4, .inl (rowF nP (fun j => wth r (pw j)) pw))), (hk, .inr (1, [.ref k1, .ref k2, .ref k3, .int (nI mk), .int (nI nK)])), (k1, .inl (cI, 4, .inl (rowF nK (fKw kw kb (cN kw kb coal)) kw))), (k3, .inl (cZ, 4, .inl (rowF nK (fKb kw kb (cN kw kb coal)) kb))), (h0, .inr (2, [.ref hc, .ref hp, .ref hk, .int (nI day), .int (cN kw kb coal nK), .int bar, .int (fine - mn t fine), .int (crs - mn (t - mn t fine) crs), .int (coin + (5 * mn t fine + 2 * mn (t - mn t fine) crs)), .int (ship + (mn t fine + mn (t - mn t fine) crs))]))] := hD
  refine lv_aload_n hx hb dX2_letDayGo_25 rfl (lv_at hl 0 rfl) ?_
  refine lv_dup hx hb dX2_letDayGo_26 rfl ?_
  refine va_get (D := D) (ci := 2) (v := .int (nI day)) (C := RX2) (T := TX2) (N := 10) hx hb ht inG_X2 hown hK hP 10 rfl rfl 3 (by decide) (ht _ qF_RX2_30) (fun _ h9 => h9) rfl dX2_letDayGo_27 ?_
  refine lv_iconst (v := 1) hx hb dX2_letDayGo_30 (by decide) ?_
  refine lv_iadd hx hb dX2_letDayGo_31 ?_
  refine t_i (nI (day + 1)) (nI_1 day) ?_
  refine va_put (D := D) (ci := 2) (v := .int (nI (day + 1))) (C := RX2) (T := TX2) (N := 10) hx hb ht inG_X2 tyX2 tyX2_ok nmX2 hown hK hP hD hS 10 rfl rfl 3 (by decide) (ht _ qF_RX2_30) (fun _ h9 => h9) rfl (tyX2_ok 3 (by decide)) rfl rfl (Nat.le_of_ble_eq_true rfl) dX2_letDayGo_32 (fun H locs hP hD hS => ?_)
  have hP : va_P D vwCl [(hc, .inr (0, [.ref c1, .ref c2, .ref c3, .ref c4, .int (nI nC)])), (c1, .inl (cI, 4, .inl (rowF nC (fSh r sh fl) sh))), (c2, .inl (cI, 4, .inl (rowF nC (fCo co fl) co))), (c3, .inl (cI, 4, .inl (rowF nC (fBu r sh bu fl) bu))), (c4, .inl (cZ, 4, .inl (rowF nC (fFl r sh co fl) fl))), (hp, .inr (1, [.ref p1, .ref p2, .ref p3, .int (nI mp), .int (nI nP)])), (p1, .inl (cI, 4, .inl (rowF nP (fun j => wth r (pw j)) pw))), (hk, .inr (1, [.ref k1, .ref k2, .ref k3, .int (nI mk), .int (nI nK)])), (k1, .inl (cI, 4, .inl (rowF nK (fKw kw kb (cN kw kb coal)) kw))), (k3, .inl (cZ, 4, .inl (rowF nK (fKb kw kb (cN kw kb coal)) kb))), (h0, .inr (2, [.ref hc, .ref hp, .ref hk, .int (nI (day + 1)), .int (cN kw kb coal nK), .int bar, .int (fine - mn t fine), .int (crs - mn (t - mn t fine) crs), .int (coin + (5 * mn t fine + 2 * mn (t - mn t fine) crs)), .int (ship + (mn t fine + mn (t - mn t fine) crs))]))] _ := hP
  have hD : va_D A [(hc, .inr (0, [.ref c1, .ref c2, .ref c3, .ref c4, .int (nI nC)])), (c1, .inl (cI, 4, .inl (rowF nC (fSh r sh fl) sh))), (c2, .inl (cI, 4, .inl (rowF nC (fCo co fl) co))), (c3, .inl (cI, 4, .inl (rowF nC (fBu r sh bu fl) bu))), (c4, .inl (cZ, 4, .inl (rowF nC (fFl r sh co fl) fl))), (hp, .inr (1, [.ref p1, .ref p2, .ref p3, .int (nI mp), .int (nI nP)])), (p1, .inl (cI, 4, .inl (rowF nP (fun j => wth r (pw j)) pw))), (hk, .inr (1, [.ref k1, .ref k2, .ref k3, .int (nI mk), .int (nI nK)])), (k1, .inl (cI, 4, .inl (rowF nK (fKw kw kb (cN kw kb coal)) kw))), (k3, .inl (cZ, 4, .inl (rowF nK (fKb kw kb (cN kw kb coal)) kb))), (h0, .inr (2, [.ref hc, .ref hp, .ref hk, .int (nI (day + 1)), .int (cN kw kb coal nK), .int bar, .int (fine - mn t fine), .int (crs - mn (t - mn t fine) crs), .int (coin + (5 * mn t fine + 2 * mn (t - mn t fine) crs)), .int (ship + (mn t fine + mn (t - mn t fine) crs))]))] := hD
  exact hend _ _ _ _ _ _ () dX2_letDayGo_35 (trivial) (hP.sub [10, 0, 1, 2, 3, 4, 5, 6, 7, 8, 9] rfl) (hD.sub [10, 0, 1, 2, 3, 4, 5, 6, 7, 8, 9] (by decide) rfl) hS (Nat.le_of_ble_eq_true rfl) (Nat.le_of_ble_eq_true rfl)

def rm_X2_copyOf : Room := { frames := 1, cells := 0, slots := 0, locals := 22 }
set_option maxHeartbeats 4000000 in
set_option maxRecDepth 100000 in
theorem c_X2_copyOf (l : Launch) (D : va_G) (cI cZ cJ : ClassId) (h0 ac ap ak ac1 ac2 ac3 ac4 ap1 ap2 ap3 ak1 ak2 ak3 : Nat) (g0 bc bp bk bc1 bc2 bc3 bc4 bp1 bp2 bp3 bk1 bk2 bk3 : Nat) (mp mk mp2 mk2 tday oday tC tP tK nC nP nK : Nat) (tcoal tbar tfine tcrs tcoin tship ocoal obar ofine ocrs ocoin oship : Int32) (tsh tco tbu tfl tpw tpa tpb tkw tka tkb osh oco obu ofl opw opa opb okw oka okb : Nat → Int32) (hC : nC ≤ 4) (hPp : nP ≤ 4) (hKk : nK ≤ 4) (z_osh : ∀ j, nC ≤ j → tsh j = osh j) (z_oco : ∀ j, nC ≤ j → tco j = oco j) (z_obu : ∀ j, nC ≤ j → tbu j = obu j) (z_ofl : ∀ j, nC ≤ j → tfl j = ofl j) (z_opw : ∀ j, nP ≤ j → tpw j = opw j) (z_opa : ∀ j, nP ≤ j → tpa j = opa j) (z_opb : ∀ j, nP ≤ j → tpb j = opb j) (z_okw : ∀ j, nK ≤ j → tkw j = okw j) (z_oka : ∀ j, nK ≤ j → tka j = oka j) (z_okb : ∀ j, nK ≤ j → tkb j = okb j) (hbC : ∀ j, vp_nar .boolean (ofl j) = ofl j) (hbP : ∀ j, vp_nar .boolean (opb j) = opb j) (hbK : ∀ j, vp_nar .boolean (okb j) = okb j) : Mv l yX2_copyOf cX2_copyOf 2 rm_X2_copyOf D (TY cI cZ cJ) [.ref h0, .ref g0] [(h0, .inr (2, [.ref ac, .ref ap, .ref ak, .int (nI tday), .int tcoal, .int tbar, .int tfine, .int tcrs, .int tcoin, .int tship])), (ac, .inr (0, [.ref ac1, .ref ac2, .ref ac3, .ref ac4, .int (nI tC)])), (ac1, .inl (cI, 4, .inl tsh)), (ac2, .inl (cI, 4, .inl tco)), (ac3, .inl (cI, 4, .inl tbu)), (ac4, .inl (cZ, 4, .inl tfl)), (ap, .inr (1, [.ref ap1, .ref ap2, .ref ap3, .int (nI mp), .int (nI tP)])), (ap1, .inl (cI, 4, .inl tpw)), (ap2, .inl (cI, 4, .inl tpa)), (ap3, .inl (cZ, 4, .inl tpb)), (ak, .inr (1, [.ref ak1, .ref ak2, .ref ak3, .int (nI mk), .int (nI tK)])), (ak1, .inl (cI, 4, .inl tkw)), (ak2, .inl (cI, 4, .inl tka)), (ak3, .inl (cZ, 4, .inl tkb)), (g0, .inr (2, [.ref bc, .ref bp, .ref bk, .int (nI oday), .int ocoal, .int obar, .int ofine, .int ocrs, .int ocoin, .int oship])), (bc, .inr (0, [.ref bc1, .ref bc2, .ref bc3, .ref bc4, .int (nI nC)])), (bc1, .inl (cI, 4, .inl osh)), (bc2, .inl (cI, 4, .inl oco)), (bc3, .inl (cI, 4, .inl obu)), (bc4, .inl (cZ, 4, .inl ofl)), (bp, .inr (1, [.ref bp1, .ref bp2, .ref bp3, .int (nI mp2), .int (nI nP)])), (bp1, .inl (cI, 4, .inl opw)), (bp2, .inl (cI, 4, .inl opa)), (bp3, .inl (cZ, 4, .inl opb)), (bk, .inr (1, [.ref bk1, .ref bk2, .ref bk3, .int (nI mk2), .int (nI nK)])), (bk1, .inl (cI, 4, .inl okw)), (bk2, .inl (cI, 4, .inl oka)), (bk3, .inl (cZ, 4, .inl okb))] (fun (u : Unit) => True) (fun (u : Unit) => [(h0, .inr (2, [.ref ac, .ref ap, .ref ak, .int (nI oday), .int ocoal, .int obar, .int ofine, .int ocrs, .int ocoin, .int oship])), (ac, .inr (0, [.ref ac1, .ref ac2, .ref ac3, .ref ac4, .int (nI nC)])), (ac1, .inl (cI, 4, .inl osh)), (ac2, .inl (cI, 4, .inl oco)), (ac3, .inl (cI, 4, .inl obu)), (ac4, .inl (cZ, 4, .inl ofl)), (ap, .inr (1, [.ref ap1, .ref ap2, .ref ap3, .int (nI mp), .int (nI nP)])), (ap1, .inl (cI, 4, .inl opw)), (ap2, .inl (cI, 4, .inl opa)), (ap3, .inl (cZ, 4, .inl opb)), (ak, .inr (1, [.ref ak1, .ref ak2, .ref ak3, .int (nI mk), .int (nI nK)])), (ak1, .inl (cI, 4, .inl okw)), (ak2, .inl (cI, 4, .inl oka)), (ak3, .inl (cZ, 4, .inl okb)), (g0, .inr (2, [.ref bc, .ref bp, .ref bk, .int (nI oday), .int ocoal, .int obar, .int ofine, .int ocrs, .int ocoin, .int oship])), (bc, .inr (0, [.ref bc1, .ref bc2, .ref bc3, .ref bc4, .int (nI nC)])), (bc1, .inl (cI, 4, .inl osh)), (bc2, .inl (cI, 4, .inl oco)), (bc3, .inl (cI, 4, .inl obu)), (bc4, .inl (cZ, 4, .inl ofl)), (bp, .inr (1, [.ref bp1, .ref bp2, .ref bp3, .int (nI mp2), .int (nI nP)])), (bp1, .inl (cI, 4, .inl opw)), (bp2, .inl (cI, 4, .inl opa)), (bp3, .inl (cZ, 4, .inl opb)), (bk, .inr (1, [.ref bk1, .ref bk2, .ref bk3, .int (nI mk2), .int (nI nK)])), (bk1, .inl (cI, 4, .inl okw)), (bk2, .inl (cI, 4, .inl oka)), (bk3, .inl (cZ, 4, .inl okb))]) := by
  refine Mv.ofQ (by decide) (Nat.le_of_ble_eq_true rfl) ?_
  intro p e s m args below meth c A ls Q hF hK hP hD hA hl hend hin
  obtain ⟨F, hr, hlocks, hG⟩ := hF
  have hx := F.1
  have hb := F.2.1
  have hown := F.2.2.2.1
  have ht := F.2.2.2.2
  have hS : va_S A s.heap s.heap [] := va_S.rf
  have hl : lv_has ls 2 [(0, .ref h0), (1, .ref g0)] := hl
  refine lv_aload_n hx hb dX2_copyOf_0 rfl (lv_at hl 0 rfl) ?_
  refine va_get (D := D) (ci := 2) (v := .ref ac) (C := RX2) (T := TX2) (N := 10) hx hb ht inG_X2 hown hK hP 0 rfl rfl 0 (by decide) (ht _ qF_RX2_12) (fun _ h9 => h9) rfl dX2_copyOf_1 ?_
  refine lv_aload_n hx hb dX2_copyOf_4 rfl (lv_at hl 1 rfl) ?_
  refine va_get (D := D) (ci := 2) (v := .ref bc) (C := RX2) (T := TX2) (N := 10) hx hb ht inG_X2 hown hK hP 14 rfl rfl 0 (by decide) (ht _ qF_RX2_12) (fun _ h9 => h9) rfl dX2_copyOf_5 ?_
  refine k_v (wr := [(h0, .inr (2, [.ref ac, .ref ap, .ref ak, .int (nI tday), .int tcoal, .int tbar, .int tfine, .int tcrs, .int tcoin, .int tship])), (ap, .inr (1, [.ref ap1, .ref ap2, .ref ap3, .int (nI mp), .int (nI tP)])), (ap1, .inl (cI, 4, .inl tpw)), (ap2, .inl (cI, 4, .inl tpa)), (ap3, .inl (cZ, 4, .inl tpb)), (ak, .inr (1, [.ref ak1, .ref ak2, .ref ak3, .int (nI mk), .int (nI tK)])), (ak1, .inl (cI, 4, .inl tkw)), (ak2, .inl (cI, 4, .inl tka)), (ak3, .inl (cZ, 4, .inl tkb)), (g0, .inr (2, [.ref bc, .ref bp, .ref bk, .int (nI oday), .int ocoal, .int obar, .int ofine, .int ocrs, .int ocoin, .int oship])), (bp, .inr (1, [.ref bp1, .ref bp2, .ref bp3, .int (nI mp2), .int (nI nP)])), (bp1, .inl (cI, 4, .inl opw)), (bp2, .inl (cI, 4, .inl opa)), (bp3, .inl (cZ, 4, .inl opb)), (bk, .inr (1, [.ref bk1, .ref bk2, .ref bk3, .int (nI mk2), .int (nI nK)])), (bk1, .inl (cI, 4, .inl okw)), (bk2, .inl (cI, 4, .inl oka)), (bk3, .inl (cZ, 4, .inl okb))]) (rV (As := [.ref bc]) (rest := []) F hG hK (hP.sub (ws' := [(ac, .inr (0, [.ref ac1, .ref ac2, .ref ac3, .ref ac4, .int (nI tC)])), (ac1, .inl (cI, 4, .inl tsh)), (ac2, .inl (cI, 4, .inl tco)), (ac3, .inl (cI, 4, .inl tbu)), (ac4, .inl (cZ, 4, .inl tfl)), (bc, .inr (0, [.ref bc1, .ref bc2, .ref bc3, .ref bc4, .int (nI nC)])), (bc1, .inl (cI, 4, .inl osh)), (bc2, .inl (cI, 4, .inl oco)), (bc3, .inl (cI, 4, .inl obu)), (bc4, .inl (cZ, 4, .inl ofl))]) [1, 2, 3, 4, 5, 15, 16, 17, 18, 19] rfl) ((hD.sub (ws' := [(ac, .inr (0, [.ref ac1, .ref ac2, .ref ac3, .ref ac4, .int (nI tC)])), (ac1, .inl (cI, 4, .inl tsh)), (ac2, .inl (cI, 4, .inl tco)), (ac3, .inl (cI, 4, .inl tbu)), (ac4, .inl (cZ, 4, .inl tfl)), (bc, .inr (0, [.ref bc1, .ref bc2, .ref bc3, .ref bc4, .int (nI nC)])), (bc1, .inl (cI, 4, .inl osh)), (bc2, .inl (cI, 4, .inl oco)), (bc3, .inl (cI, 4, .inl obu)), (bc4, .inl (cZ, 4, .inl ofl))]) [1, 2, 3, 4, 5, 15, 16, 17, 18, 19] (by decide) rfl).weaken (fun _ _ _ _ => trivial)) s_RX2_52 (c_X0_copyOf l D cI cZ cJ ac ac1 ac2 ac3 ac4 bc bc1 bc2 bc3 bc4 tsh tco tbu tfl osh oco obu ofl tC nC (by first | assumption | omega) z_osh z_oco z_obu z_ofl hbC _) 0 0 rfl rfl rfl rfl hl.1 rfl (Nat.le_of_ble_eq_true rfl) dX2_copyOf_8 ⟨(Nat.le_of_ble_eq_true rfl), (Nat.le_of_ble_eq_true rfl)⟩ ⟨(Nat.le_of_ble_eq_true rfl), (Nat.le_of_ble_eq_true rfl)⟩) hP hD hS hA [1, 2, 3, 4, 5, 15, 16, 17, 18, 19] [0, 6, 7, 8, 9, 10, 11, 12, 13, 14, 20, 21, 22, 23, 24, 25, 26, 27] rfl rfl (by decide) (by decide) (fun u H locs hw hP hD hS => ?_)
  obtain ⟨x1_8, x2_8, x3_8, x4_8⟩ := u
  try dsimp only at hw
  obtain ⟨q_0, q_1, q_2, q_3⟩ := hw
  have q_0 := q_0.symm
  subst q_0
  have q_1 := q_1.symm
  subst q_1
  have q_2 := q_2.symm
  subst q_2
  have q_3 := q_3.symm
  subst q_3
  have hP : va_P D vwCl [(h0, .inr (2, [.ref ac, .ref ap, .ref ak, .int (nI tday), .int tcoal, .int tbar, .int tfine, .int tcrs, .int tcoin, .int tship])), (ap, .inr (1, [.ref ap1, .ref ap2, .ref ap3, .int (nI mp), .int (nI tP)])), (ap1, .inl (cI, 4, .inl tpw)), (ap2, .inl (cI, 4, .inl tpa)), (ap3, .inl (cZ, 4, .inl tpb)), (ak, .inr (1, [.ref ak1, .ref ak2, .ref ak3, .int (nI mk), .int (nI tK)])), (ak1, .inl (cI, 4, .inl tkw)), (ak2, .inl (cI, 4, .inl tka)), (ak3, .inl (cZ, 4, .inl tkb)), (g0, .inr (2, [.ref bc, .ref bp, .ref bk, .int (nI oday), .int ocoal, .int obar, .int ofine, .int ocrs, .int ocoin, .int oship])), (bp, .inr (1, [.ref bp1, .ref bp2, .ref bp3, .int (nI mp2), .int (nI nP)])), (bp1, .inl (cI, 4, .inl opw)), (bp2, .inl (cI, 4, .inl opa)), (bp3, .inl (cZ, 4, .inl opb)), (bk, .inr (1, [.ref bk1, .ref bk2, .ref bk3, .int (nI mk2), .int (nI nK)])), (bk1, .inl (cI, 4, .inl okw)), (bk2, .inl (cI, 4, .inl oka)), (bk3, .inl (cZ, 4, .inl okb)), (ac, .inr (0, [.ref ac1, .ref ac2, .ref ac3, .ref ac4, .int (nI nC)])), (ac1, .inl (cI, 4, .inl osh)), (ac2, .inl (cI, 4, .inl oco)), (ac3, .inl (cI, 4, .inl obu)), (ac4, .inl (cZ, 4, .inl ofl)), (bc, .inr (0, [.ref bc1, .ref bc2, .ref bc3, .ref bc4, .int (nI nC)])), (bc1, .inl (cI, 4, .inl osh)), (bc2, .inl (cI, 4, .inl oco)), (bc3, .inl (cI, 4, .inl obu)), (bc4, .inl (cZ, 4, .inl ofl))] _ := hP
  have hD : va_D A [(h0, .inr (2, [.ref ac, .ref ap, .ref ak, .int (nI tday), .int tcoal, .int tbar, .int tfine, .int tcrs, .int tcoin, .int tship])), (ap, .inr (1, [.ref ap1, .ref ap2, .ref ap3, .int (nI mp), .int (nI tP)])), (ap1, .inl (cI, 4, .inl tpw)), (ap2, .inl (cI, 4, .inl tpa)), (ap3, .inl (cZ, 4, .inl tpb)), (ak, .inr (1, [.ref ak1, .ref ak2, .ref ak3, .int (nI mk), .int (nI tK)])), (ak1, .inl (cI, 4, .inl tkw)), (ak2, .inl (cI, 4, .inl tka)), (ak3, .inl (cZ, 4, .inl tkb)), (g0, .inr (2, [.ref bc, .ref bp, .ref bk, .int (nI oday), .int ocoal, .int obar, .int ofine, .int ocrs, .int ocoin, .int oship])), (bp, .inr (1, [.ref bp1, .ref bp2, .ref bp3, .int (nI mp2), .int (nI nP)])), (bp1, .inl (cI, 4, .inl opw)), (bp2, .inl (cI, 4, .inl opa)), (bp3, .inl (cZ, 4, .inl opb)), (bk, .inr (1, [.ref bk1, .ref bk2, .ref bk3, .int (nI mk2), .int (nI nK)])), (bk1, .inl (cI, 4, .inl okw)), (bk2, .inl (cI, 4, .inl oka)), (bk3, .inl (cZ, 4, .inl okb)), (ac, .inr (0, [.ref ac1, .ref ac2, .ref ac3, .ref ac4, .int (nI nC)])), (ac1, .inl (cI, 4, .inl osh)), (ac2, .inl (cI, 4, .inl oco)), (ac3, .inl (cI, 4, .inl obu)), (ac4, .inl (cZ, 4, .inl ofl)), (bc, .inr (0, [.ref bc1, .ref bc2, .ref bc3, .ref bc4, .int (nI nC)])), (bc1, .inl (cI, 4, .inl osh)), (bc2, .inl (cI, 4, .inl oco)), (bc3, .inl (cI, 4, .inl obu)), (bc4, .inl (cZ, 4, .inl ofl))] := hD
  refine lv_aload_n hx hb dX2_copyOf_11 rfl (lv_at hl 0 rfl) ?_
  refine va_get (D := D) (ci := 2) (v := .ref ap) (C := RX2) (T := TX2) (N := 10) hx hb ht inG_X2 hown hK hP 0 rfl rfl 1 (by decide) (ht _ qF_RX2_23) (fun _ h9 => h9) rfl dX2_copyOf_12 ?_
  refine lv_aload_n hx hb dX2_copyOf_15 rfl (lv_at hl 1 rfl) ?_
  refine va_get (D := D) (ci := 2) (v := .ref bp) (C := RX2) (T := TX2) (N := 10) hx hb ht inG_X2 hown hK hP 9 rfl rfl 1 (by decide) (ht _ qF_RX2_23) (fun _ h9 => h9) rfl dX2_copyOf_16 ?_
  refine k_v (wr := [(h0, .inr (2, [.ref ac, .ref ap, .ref ak, .int (nI tday), .int tcoal, .int tbar, .int tfine, .int tcrs, .int tcoin, .int tship])), (ak, .inr (1, [.ref ak1, .ref ak2, .ref ak3, .int (nI mk), .int (nI tK)])), (ak1, .inl (cI, 4, .inl tkw)), (ak2, .inl (cI, 4, .inl tka)), (ak3, .inl (cZ, 4, .inl tkb)), (g0, .inr (2, [.ref bc, .ref bp, .ref bk, .int (nI oday), .int ocoal, .int obar, .int ofine, .int ocrs, .int ocoin, .int oship])), (bk, .inr (1, [.ref bk1, .ref bk2, .ref bk3, .int (nI mk2), .int (nI nK)])), (bk1, .inl (cI, 4, .inl okw)), (bk2, .inl (cI, 4, .inl oka)), (bk3, .inl (cZ, 4, .inl okb)), (ac, .inr (0, [.ref ac1, .ref ac2, .ref ac3, .ref ac4, .int (nI nC)])), (ac1, .inl (cI, 4, .inl osh)), (ac2, .inl (cI, 4, .inl oco)), (ac3, .inl (cI, 4, .inl obu)), (ac4, .inl (cZ, 4, .inl ofl)), (bc, .inr (0, [.ref bc1, .ref bc2, .ref bc3, .ref bc4, .int (nI nC)])), (bc1, .inl (cI, 4, .inl osh)), (bc2, .inl (cI, 4, .inl oco)), (bc3, .inl (cI, 4, .inl obu)), (bc4, .inl (cZ, 4, .inl ofl))]) (rV (As := [.ref bp]) (rest := []) F hG hK (hP.sub (ws' := [(ap, .inr (1, [.ref ap1, .ref ap2, .ref ap3, .int (nI mp), .int (nI tP)])), (ap1, .inl (cI, 4, .inl tpw)), (ap2, .inl (cI, 4, .inl tpa)), (ap3, .inl (cZ, 4, .inl tpb)), (bp, .inr (1, [.ref bp1, .ref bp2, .ref bp3, .int (nI mp2), .int (nI nP)])), (bp1, .inl (cI, 4, .inl opw)), (bp2, .inl (cI, 4, .inl opa)), (bp3, .inl (cZ, 4, .inl opb))]) [1, 2, 3, 4, 10, 11, 12, 13] rfl) ((hD.sub (ws' := [(ap, .inr (1, [.ref ap1, .ref ap2, .ref ap3, .int (nI mp), .int (nI tP)])), (ap1, .inl (cI, 4, .inl tpw)), (ap2, .inl (cI, 4, .inl tpa)), (ap3, .inl (cZ, 4, .inl tpb)), (bp, .inr (1, [.ref bp1, .ref bp2, .ref bp3, .int (nI mp2), .int (nI nP)])), (bp1, .inl (cI, 4, .inl opw)), (bp2, .inl (cI, 4, .inl opa)), (bp3, .inl (cZ, 4, .inl opb))]) [1, 2, 3, 4, 10, 11, 12, 13] (by decide) rfl).weaken (fun _ _ _ _ => trivial)) s_RX2_56 (c_X1_copyOf l D cI cZ cJ ap ap1 ap2 ap3 mp bp bp1 bp2 bp3 mp2 tpw tpa tpb opw opa opb tP nP (by first | assumption | omega) z_opw z_opa z_opb hbP _) 1 0 rfl rfl rfl rfl hl.1 rfl (Nat.le_of_ble_eq_true rfl) dX2_copyOf_19 ⟨(Nat.le_of_ble_eq_true rfl), (Nat.le_of_ble_eq_true rfl)⟩ ⟨(Nat.le_of_ble_eq_true rfl), (Nat.le_of_ble_eq_true rfl)⟩) hP hD hS hA [1, 2, 3, 4, 10, 11, 12, 13] [0, 5, 6, 7, 8, 9, 14, 15, 16, 17, 18, 19, 20, 21, 22, 23, 24, 25, 26, 27] rfl rfl (by decide) (by decide) (fun u H locs hw hP hD hS => ?_)
  obtain ⟨x1_19, x2_19, x3_19⟩ := u
  try dsimp only at hw
  obtain ⟨q_0, q_1, q_2⟩ := hw
  have q_0 := q_0.symm
  subst q_0
  have q_1 := q_1.symm
  subst q_1
  have q_2 := q_2.symm
  subst q_2
  have hP : va_P D vwCl [(h0, .inr (2, [.ref ac, .ref ap, .ref ak, .int (nI tday), .int tcoal, .int tbar, .int tfine, .int tcrs, .int tcoin, .int tship])), (ak, .inr (1, [.ref ak1, .ref ak2, .ref ak3, .int (nI mk), .int (nI tK)])), (ak1, .inl (cI, 4, .inl tkw)), (ak2, .inl (cI, 4, .inl tka)), (ak3, .inl (cZ, 4, .inl tkb)), (g0, .inr (2, [.ref bc, .ref bp, .ref bk, .int (nI oday), .int ocoal, .int obar, .int ofine, .int ocrs, .int ocoin, .int oship])), (bk, .inr (1, [.ref bk1, .ref bk2, .ref bk3, .int (nI mk2), .int (nI nK)])), (bk1, .inl (cI, 4, .inl okw)), (bk2, .inl (cI, 4, .inl oka)), (bk3, .inl (cZ, 4, .inl okb)), (ac, .inr (0, [.ref ac1, .ref ac2, .ref ac3, .ref ac4, .int (nI nC)])), (ac1, .inl (cI, 4, .inl osh)), (ac2, .inl (cI, 4, .inl oco)), (ac3, .inl (cI, 4, .inl obu)), (ac4, .inl (cZ, 4, .inl ofl)), (bc, .inr (0, [.ref bc1, .ref bc2, .ref bc3, .ref bc4, .int (nI nC)])), (bc1, .inl (cI, 4, .inl osh)), (bc2, .inl (cI, 4, .inl oco)), (bc3, .inl (cI, 4, .inl obu)), (bc4, .inl (cZ, 4, .inl ofl)), (ap, .inr (1, [.ref ap1, .ref ap2, .ref ap3, .int (nI mp), .int (nI nP)])), (ap1, .inl (cI, 4, .inl opw)), (ap2, .inl (cI, 4, .inl opa)), (ap3, .inl (cZ, 4, .inl opb)), (bp, .inr (1, [.ref bp1, .ref bp2, .ref bp3, .int (nI mp2), .int (nI nP)])), (bp1, .inl (cI, 4, .inl opw)), (bp2, .inl (cI, 4, .inl opa)), (bp3, .inl (cZ, 4, .inl opb))] _ := hP
  have hD : va_D A [(h0, .inr (2, [.ref ac, .ref ap, .ref ak, .int (nI tday), .int tcoal, .int tbar, .int tfine, .int tcrs, .int tcoin, .int tship])), (ak, .inr (1, [.ref ak1, .ref ak2, .ref ak3, .int (nI mk), .int (nI tK)])), (ak1, .inl (cI, 4, .inl tkw)), (ak2, .inl (cI, 4, .inl tka)), (ak3, .inl (cZ, 4, .inl tkb)), (g0, .inr (2, [.ref bc, .ref bp, .ref bk, .int (nI oday), .int ocoal, .int obar, .int ofine, .int ocrs, .int ocoin, .int oship])), (bk, .inr (1, [.ref bk1, .ref bk2, .ref bk3, .int (nI mk2), .int (nI nK)])), (bk1, .inl (cI, 4, .inl okw)), (bk2, .inl (cI, 4, .inl oka)), (bk3, .inl (cZ, 4, .inl okb)), (ac, .inr (0, [.ref ac1, .ref ac2, .ref ac3, .ref ac4, .int (nI nC)])), (ac1, .inl (cI, 4, .inl osh)), (ac2, .inl (cI, 4, .inl oco)), (ac3, .inl (cI, 4, .inl obu)), (ac4, .inl (cZ, 4, .inl ofl)), (bc, .inr (0, [.ref bc1, .ref bc2, .ref bc3, .ref bc4, .int (nI nC)])), (bc1, .inl (cI, 4, .inl osh)), (bc2, .inl (cI, 4, .inl oco)), (bc3, .inl (cI, 4, .inl obu)), (bc4, .inl (cZ, 4, .inl ofl)), (ap, .inr (1, [.ref ap1, .ref ap2, .ref ap3, .int (nI mp), .int (nI nP)])), (ap1, .inl (cI, 4, .inl opw)), (ap2, .inl (cI, 4, .inl opa)), (ap3, .inl (cZ, 4, .inl opb)), (bp, .inr (1, [.ref bp1, .ref bp2, .ref bp3, .int (nI mp2), .int (nI nP)])), (bp1, .inl (cI, 4, .inl opw)), (bp2, .inl (cI, 4, .inl opa)), (bp3, .inl (cZ, 4, .inl opb))] := hD
  refine lv_aload_n hx hb dX2_copyOf_22 rfl (lv_at hl 0 rfl) ?_
  refine va_get (D := D) (ci := 2) (v := .ref ak) (C := RX2) (T := TX2) (N := 10) hx hb ht inG_X2 hown hK hP 0 rfl rfl 2 (by decide) (ht _ qF_RX2_27) (fun _ h9 => h9) rfl dX2_copyOf_23 ?_
  refine lv_aload_n hx hb dX2_copyOf_26 rfl (lv_at hl 1 rfl) ?_
  refine va_get (D := D) (ci := 2) (v := .ref bk) (C := RX2) (T := TX2) (N := 10) hx hb ht inG_X2 hown hK hP 5 rfl rfl 2 (by decide) (ht _ qF_RX2_27) (fun _ h9 => h9) rfl dX2_copyOf_27 ?_
  refine k_v (wr := [(h0, .inr (2, [.ref ac, .ref ap, .ref ak, .int (nI tday), .int tcoal, .int tbar, .int tfine, .int tcrs, .int tcoin, .int tship])), (g0, .inr (2, [.ref bc, .ref bp, .ref bk, .int (nI oday), .int ocoal, .int obar, .int ofine, .int ocrs, .int ocoin, .int oship])), (ac, .inr (0, [.ref ac1, .ref ac2, .ref ac3, .ref ac4, .int (nI nC)])), (ac1, .inl (cI, 4, .inl osh)), (ac2, .inl (cI, 4, .inl oco)), (ac3, .inl (cI, 4, .inl obu)), (ac4, .inl (cZ, 4, .inl ofl)), (bc, .inr (0, [.ref bc1, .ref bc2, .ref bc3, .ref bc4, .int (nI nC)])), (bc1, .inl (cI, 4, .inl osh)), (bc2, .inl (cI, 4, .inl oco)), (bc3, .inl (cI, 4, .inl obu)), (bc4, .inl (cZ, 4, .inl ofl)), (ap, .inr (1, [.ref ap1, .ref ap2, .ref ap3, .int (nI mp), .int (nI nP)])), (ap1, .inl (cI, 4, .inl opw)), (ap2, .inl (cI, 4, .inl opa)), (ap3, .inl (cZ, 4, .inl opb)), (bp, .inr (1, [.ref bp1, .ref bp2, .ref bp3, .int (nI mp2), .int (nI nP)])), (bp1, .inl (cI, 4, .inl opw)), (bp2, .inl (cI, 4, .inl opa)), (bp3, .inl (cZ, 4, .inl opb))]) (rV (As := [.ref bk]) (rest := []) F hG hK (hP.sub (ws' := [(ak, .inr (1, [.ref ak1, .ref ak2, .ref ak3, .int (nI mk), .int (nI tK)])), (ak1, .inl (cI, 4, .inl tkw)), (ak2, .inl (cI, 4, .inl tka)), (ak3, .inl (cZ, 4, .inl tkb)), (bk, .inr (1, [.ref bk1, .ref bk2, .ref bk3, .int (nI mk2), .int (nI nK)])), (bk1, .inl (cI, 4, .inl okw)), (bk2, .inl (cI, 4, .inl oka)), (bk3, .inl (cZ, 4, .inl okb))]) [1, 2, 3, 4, 6, 7, 8, 9] rfl) ((hD.sub (ws' := [(ak, .inr (1, [.ref ak1, .ref ak2, .ref ak3, .int (nI mk), .int (nI tK)])), (ak1, .inl (cI, 4, .inl tkw)), (ak2, .inl (cI, 4, .inl tka)), (ak3, .inl (cZ, 4, .inl tkb)), (bk, .inr (1, [.ref bk1, .ref bk2, .ref bk3, .int (nI mk2), .int (nI nK)])), (bk1, .inl (cI, 4, .inl okw)), (bk2, .inl (cI, 4, .inl oka)), (bk3, .inl (cZ, 4, .inl okb))]) [1, 2, 3, 4, 6, 7, 8, 9] (by decide) rfl).weaken (fun _ _ _ _ => trivial)) s_RX2_56 (c_X1_copyOf l D cI cZ cJ ak ak1 ak2 ak3 mk bk bk1 bk2 bk3 mk2 tkw tka tkb okw oka okb tK nK (by first | assumption | omega) z_okw z_oka z_okb hbK _) 1 0 rfl rfl rfl rfl hl.1 rfl (Nat.le_of_ble_eq_true rfl) dX2_copyOf_30 ⟨(Nat.le_of_ble_eq_true rfl), (Nat.le_of_ble_eq_true rfl)⟩ ⟨(Nat.le_of_ble_eq_true rfl), (Nat.le_of_ble_eq_true rfl)⟩) hP hD hS hA [1, 2, 3, 4, 6, 7, 8, 9] [0, 5, 10, 11, 12, 13, 14, 15, 16, 17, 18, 19, 20, 21, 22, 23, 24, 25, 26, 27] rfl rfl (by decide) (by decide) (fun u H locs hw hP hD hS => ?_)
  obtain ⟨x1_30, x2_30, x3_30⟩ := u
  try dsimp only at hw
  obtain ⟨q_0, q_1, q_2⟩ := hw
  have q_0 := q_0.symm
  subst q_0
  have q_1 := q_1.symm
  subst q_1
  have q_2 := q_2.symm
  subst q_2
  have hP : va_P D vwCl [(h0, .inr (2, [.ref ac, .ref ap, .ref ak, .int (nI tday), .int tcoal, .int tbar, .int tfine, .int tcrs, .int tcoin, .int tship])), (g0, .inr (2, [.ref bc, .ref bp, .ref bk, .int (nI oday), .int ocoal, .int obar, .int ofine, .int ocrs, .int ocoin, .int oship])), (ac, .inr (0, [.ref ac1, .ref ac2, .ref ac3, .ref ac4, .int (nI nC)])), (ac1, .inl (cI, 4, .inl osh)), (ac2, .inl (cI, 4, .inl oco)), (ac3, .inl (cI, 4, .inl obu)), (ac4, .inl (cZ, 4, .inl ofl)), (bc, .inr (0, [.ref bc1, .ref bc2, .ref bc3, .ref bc4, .int (nI nC)])), (bc1, .inl (cI, 4, .inl osh)), (bc2, .inl (cI, 4, .inl oco)), (bc3, .inl (cI, 4, .inl obu)), (bc4, .inl (cZ, 4, .inl ofl)), (ap, .inr (1, [.ref ap1, .ref ap2, .ref ap3, .int (nI mp), .int (nI nP)])), (ap1, .inl (cI, 4, .inl opw)), (ap2, .inl (cI, 4, .inl opa)), (ap3, .inl (cZ, 4, .inl opb)), (bp, .inr (1, [.ref bp1, .ref bp2, .ref bp3, .int (nI mp2), .int (nI nP)])), (bp1, .inl (cI, 4, .inl opw)), (bp2, .inl (cI, 4, .inl opa)), (bp3, .inl (cZ, 4, .inl opb)), (ak, .inr (1, [.ref ak1, .ref ak2, .ref ak3, .int (nI mk), .int (nI nK)])), (ak1, .inl (cI, 4, .inl okw)), (ak2, .inl (cI, 4, .inl oka)), (ak3, .inl (cZ, 4, .inl okb)), (bk, .inr (1, [.ref bk1, .ref bk2, .ref bk3, .int (nI mk2), .int (nI nK)])), (bk1, .inl (cI, 4, .inl okw)), (bk2, .inl (cI, 4, .inl oka)), (bk3, .inl (cZ, 4, .inl okb))] _ := hP
  have hD : va_D A [(h0, .inr (2, [.ref ac, .ref ap, .ref ak, .int (nI tday), .int tcoal, .int tbar, .int tfine, .int tcrs, .int tcoin, .int tship])), (g0, .inr (2, [.ref bc, .ref bp, .ref bk, .int (nI oday), .int ocoal, .int obar, .int ofine, .int ocrs, .int ocoin, .int oship])), (ac, .inr (0, [.ref ac1, .ref ac2, .ref ac3, .ref ac4, .int (nI nC)])), (ac1, .inl (cI, 4, .inl osh)), (ac2, .inl (cI, 4, .inl oco)), (ac3, .inl (cI, 4, .inl obu)), (ac4, .inl (cZ, 4, .inl ofl)), (bc, .inr (0, [.ref bc1, .ref bc2, .ref bc3, .ref bc4, .int (nI nC)])), (bc1, .inl (cI, 4, .inl osh)), (bc2, .inl (cI, 4, .inl oco)), (bc3, .inl (cI, 4, .inl obu)), (bc4, .inl (cZ, 4, .inl ofl)), (ap, .inr (1, [.ref ap1, .ref ap2, .ref ap3, .int (nI mp), .int (nI nP)])), (ap1, .inl (cI, 4, .inl opw)), (ap2, .inl (cI, 4, .inl opa)), (ap3, .inl (cZ, 4, .inl opb)), (bp, .inr (1, [.ref bp1, .ref bp2, .ref bp3, .int (nI mp2), .int (nI nP)])), (bp1, .inl (cI, 4, .inl opw)), (bp2, .inl (cI, 4, .inl opa)), (bp3, .inl (cZ, 4, .inl opb)), (ak, .inr (1, [.ref ak1, .ref ak2, .ref ak3, .int (nI mk), .int (nI nK)])), (ak1, .inl (cI, 4, .inl okw)), (ak2, .inl (cI, 4, .inl oka)), (ak3, .inl (cZ, 4, .inl okb)), (bk, .inr (1, [.ref bk1, .ref bk2, .ref bk3, .int (nI mk2), .int (nI nK)])), (bk1, .inl (cI, 4, .inl okw)), (bk2, .inl (cI, 4, .inl oka)), (bk3, .inl (cZ, 4, .inl okb))] := hD
  refine lv_aload_n hx hb dX2_copyOf_33 rfl (lv_at hl 0 rfl) ?_
  refine lv_aload_n hx hb dX2_copyOf_34 rfl (lv_at hl 1 rfl) ?_
  refine va_get (D := D) (ci := 2) (v := .int (nI oday)) (C := RX2) (T := TX2) (N := 10) hx hb ht inG_X2 hown hK hP 1 rfl rfl 3 (by decide) (ht _ qF_RX2_30) (fun _ h9 => h9) rfl dX2_copyOf_35 ?_
  refine va_put (D := D) (ci := 2) (v := .int (nI oday)) (C := RX2) (T := TX2) (N := 10) hx hb ht inG_X2 tyX2 tyX2_ok nmX2 hown hK hP hD hS 0 rfl rfl 3 (by decide) (ht _ qF_RX2_30) (fun _ h9 => h9) rfl (tyX2_ok 3 (by decide)) rfl rfl (Nat.le_of_ble_eq_true rfl) dX2_copyOf_38 (fun H locs hP hD hS => ?_)
  have hP : va_P D vwCl [(h0, .inr (2, [.ref ac, .ref ap, .ref ak, .int (nI oday), .int tcoal, .int tbar, .int tfine, .int tcrs, .int tcoin, .int tship])), (g0, .inr (2, [.ref bc, .ref bp, .ref bk, .int (nI oday), .int ocoal, .int obar, .int ofine, .int ocrs, .int ocoin, .int oship])), (ac, .inr (0, [.ref ac1, .ref ac2, .ref ac3, .ref ac4, .int (nI nC)])), (ac1, .inl (cI, 4, .inl osh)), (ac2, .inl (cI, 4, .inl oco)), (ac3, .inl (cI, 4, .inl obu)), (ac4, .inl (cZ, 4, .inl ofl)), (bc, .inr (0, [.ref bc1, .ref bc2, .ref bc3, .ref bc4, .int (nI nC)])), (bc1, .inl (cI, 4, .inl osh)), (bc2, .inl (cI, 4, .inl oco)), (bc3, .inl (cI, 4, .inl obu)), (bc4, .inl (cZ, 4, .inl ofl)), (ap, .inr (1, [.ref ap1, .ref ap2, .ref ap3, .int (nI mp), .int (nI nP)])), (ap1, .inl (cI, 4, .inl opw)), (ap2, .inl (cI, 4, .inl opa)), (ap3, .inl (cZ, 4, .inl opb)), (bp, .inr (1, [.ref bp1, .ref bp2, .ref bp3, .int (nI mp2), .int (nI nP)])), (bp1, .inl (cI, 4, .inl opw)), (bp2, .inl (cI, 4, .inl opa)), (bp3, .inl (cZ, 4, .inl opb)), (ak, .inr (1, [.ref ak1, .ref ak2, .ref ak3, .int (nI mk), .int (nI nK)])), (ak1, .inl (cI, 4, .inl okw)), (ak2, .inl (cI, 4, .inl oka)), (ak3, .inl (cZ, 4, .inl okb)), (bk, .inr (1, [.ref bk1, .ref bk2, .ref bk3, .int (nI mk2), .int (nI nK)])), (bk1, .inl (cI, 4, .inl okw)), (bk2, .inl (cI, 4, .inl oka)), (bk3, .inl (cZ, 4, .inl okb))] _ := hP
  have hD : va_D A [(h0, .inr (2, [.ref ac, .ref ap, .ref ak, .int (nI oday), .int tcoal, .int tbar, .int tfine, .int tcrs, .int tcoin, .int tship])), (g0, .inr (2, [.ref bc, .ref bp, .ref bk, .int (nI oday), .int ocoal, .int obar, .int ofine, .int ocrs, .int ocoin, .int oship])), (ac, .inr (0, [.ref ac1, .ref ac2, .ref ac3, .ref ac4, .int (nI nC)])), (ac1, .inl (cI, 4, .inl osh)), (ac2, .inl (cI, 4, .inl oco)), (ac3, .inl (cI, 4, .inl obu)), (ac4, .inl (cZ, 4, .inl ofl)), (bc, .inr (0, [.ref bc1, .ref bc2, .ref bc3, .ref bc4, .int (nI nC)])), (bc1, .inl (cI, 4, .inl osh)), (bc2, .inl (cI, 4, .inl oco)), (bc3, .inl (cI, 4, .inl obu)), (bc4, .inl (cZ, 4, .inl ofl)), (ap, .inr (1, [.ref ap1, .ref ap2, .ref ap3, .int (nI mp), .int (nI nP)])), (ap1, .inl (cI, 4, .inl opw)), (ap2, .inl (cI, 4, .inl opa)), (ap3, .inl (cZ, 4, .inl opb)), (bp, .inr (1, [.ref bp1, .ref bp2, .ref bp3, .int (nI mp2), .int (nI nP)])), (bp1, .inl (cI, 4, .inl opw)), (bp2, .inl (cI, 4, .inl opa)), (bp3, .inl (cZ, 4, .inl opb)), (ak, .inr (1, [.ref ak1, .ref ak2, .ref ak3, .int (nI mk), .int (nI nK)])), (ak1, .inl (cI, 4, .inl okw)), (ak2, .inl (cI, 4, .inl oka)), (ak3, .inl (cZ, 4, .inl okb)), (bk, .inr (1, [.ref bk1, .ref bk2, .ref bk3, .int (nI mk2), .int (nI nK)])), (bk1, .inl (cI, 4, .inl okw)), (bk2, .inl (cI, 4, .inl oka)), (bk3, .inl (cZ, 4, .inl okb))] := hD
  refine lv_aload_n hx hb dX2_copyOf_41 rfl (lv_at hl 0 rfl) ?_
  refine lv_aload_n hx hb dX2_copyOf_42 rfl (lv_at hl 1 rfl) ?_
  refine va_get (D := D) (ci := 2) (v := .int ocoal) (C := RX2) (T := TX2) (N := 10) hx hb ht inG_X2 hown hK hP 1 rfl rfl 4 (by decide) (ht _ qF_RX2_34) (fun _ h9 => h9) rfl dX2_copyOf_43 ?_
  refine va_put (D := D) (ci := 2) (v := .int ocoal) (C := RX2) (T := TX2) (N := 10) hx hb ht inG_X2 tyX2 tyX2_ok nmX2 hown hK hP hD hS 0 rfl rfl 4 (by decide) (ht _ qF_RX2_34) (fun _ h9 => h9) rfl (tyX2_ok 4 (by decide)) rfl rfl (Nat.le_of_ble_eq_true rfl) dX2_copyOf_46 (fun H locs hP hD hS => ?_)
  have hP : va_P D vwCl [(h0, .inr (2, [.ref ac, .ref ap, .ref ak, .int (nI oday), .int ocoal, .int tbar, .int tfine, .int tcrs, .int tcoin, .int tship])), (g0, .inr (2, [.ref bc, .ref bp, .ref bk, .int (nI oday), .int ocoal, .int obar, .int ofine, .int ocrs, .int ocoin, .int oship])), (ac, .inr (0, [.ref ac1, .ref ac2, .ref ac3, .ref ac4, .int (nI nC)])), (ac1, .inl (cI, 4, .inl osh)), (ac2, .inl (cI, 4, .inl oco)), (ac3, .inl (cI, 4, .inl obu)), (ac4, .inl (cZ, 4, .inl ofl)), (bc, .inr (0, [.ref bc1, .ref bc2, .ref bc3, .ref bc4, .int (nI nC)])), (bc1, .inl (cI, 4, .inl osh)), (bc2, .inl (cI, 4, .inl oco)), (bc3, .inl (cI, 4, .inl obu)), (bc4, .inl (cZ, 4, .inl ofl)), (ap, .inr (1, [.ref ap1, .ref ap2, .ref ap3, .int (nI mp), .int (nI nP)])), (ap1, .inl (cI, 4, .inl opw)), (ap2, .inl (cI, 4, .inl opa)), (ap3, .inl (cZ, 4, .inl opb)), (bp, .inr (1, [.ref bp1, .ref bp2, .ref bp3, .int (nI mp2), .int (nI nP)])), (bp1, .inl (cI, 4, .inl opw)), (bp2, .inl (cI, 4, .inl opa)), (bp3, .inl (cZ, 4, .inl opb)), (ak, .inr (1, [.ref ak1, .ref ak2, .ref ak3, .int (nI mk), .int (nI nK)])), (ak1, .inl (cI, 4, .inl okw)), (ak2, .inl (cI, 4, .inl oka)), (ak3, .inl (cZ, 4, .inl okb)), (bk, .inr (1, [.ref bk1, .ref bk2, .ref bk3, .int (nI mk2), .int (nI nK)])), (bk1, .inl (cI, 4, .inl okw)), (bk2, .inl (cI, 4, .inl oka)), (bk3, .inl (cZ, 4, .inl okb))] _ := hP
  have hD : va_D A [(h0, .inr (2, [.ref ac, .ref ap, .ref ak, .int (nI oday), .int ocoal, .int tbar, .int tfine, .int tcrs, .int tcoin, .int tship])), (g0, .inr (2, [.ref bc, .ref bp, .ref bk, .int (nI oday), .int ocoal, .int obar, .int ofine, .int ocrs, .int ocoin, .int oship])), (ac, .inr (0, [.ref ac1, .ref ac2, .ref ac3, .ref ac4, .int (nI nC)])), (ac1, .inl (cI, 4, .inl osh)), (ac2, .inl (cI, 4, .inl oco)), (ac3, .inl (cI, 4, .inl obu)), (ac4, .inl (cZ, 4, .inl ofl)), (bc, .inr (0, [.ref bc1, .ref bc2, .ref bc3, .ref bc4, .int (nI nC)])), (bc1, .inl (cI, 4, .inl osh)), (bc2, .inl (cI, 4, .inl oco)), (bc3, .inl (cI, 4, .inl obu)), (bc4, .inl (cZ, 4, .inl ofl)), (ap, .inr (1, [.ref ap1, .ref ap2, .ref ap3, .int (nI mp), .int (nI nP)])), (ap1, .inl (cI, 4, .inl opw)), (ap2, .inl (cI, 4, .inl opa)), (ap3, .inl (cZ, 4, .inl opb)), (bp, .inr (1, [.ref bp1, .ref bp2, .ref bp3, .int (nI mp2), .int (nI nP)])), (bp1, .inl (cI, 4, .inl opw)), (bp2, .inl (cI, 4, .inl opa)), (bp3, .inl (cZ, 4, .inl opb)), (ak, .inr (1, [.ref ak1, .ref ak2, .ref ak3, .int (nI mk), .int (nI nK)])), (ak1, .inl (cI, 4, .inl okw)), (ak2, .inl (cI, 4, .inl oka)), (ak3, .inl (cZ, 4, .inl okb)), (bk, .inr (1, [.ref bk1, .ref bk2, .ref bk3, .int (nI mk2), .int (nI nK)])), (bk1, .inl (cI, 4, .inl okw)), (bk2, .inl (cI, 4, .inl oka)), (bk3, .inl (cZ, 4, .inl okb))] := hD
  refine lv_aload_n hx hb dX2_copyOf_49 rfl (lv_at hl 0 rfl) ?_
  refine lv_aload_n hx hb dX2_copyOf_50 rfl (lv_at hl 1 rfl) ?_
  refine va_get (D := D) (ci := 2) (v := .int obar) (C := RX2) (T := TX2) (N := 10) hx hb ht inG_X2 hown hK hP 1 rfl rfl 5 (by decide) (ht _ qF_RX2_37) (fun _ h9 => h9) rfl dX2_copyOf_51 ?_
  refine va_put (D := D) (ci := 2) (v := .int obar) (C := RX2) (T := TX2) (N := 10) hx hb ht inG_X2 tyX2 tyX2_ok nmX2 hown hK hP hD hS 0 rfl rfl 5 (by decide) (ht _ qF_RX2_37) (fun _ h9 => h9) rfl (tyX2_ok 5 (by decide)) rfl rfl (Nat.le_of_ble_eq_true rfl) dX2_copyOf_54 (fun H locs hP hD hS => ?_)
  have hP : va_P D vwCl [(h0, .inr (2, [.ref ac, .ref ap, .ref ak, .int (nI oday), .int ocoal, .int obar, .int tfine, .int tcrs, .int tcoin, .int tship])), (g0, .inr (2, [.ref bc, .ref bp, .ref bk, .int (nI oday), .int ocoal, .int obar, .int ofine, .int ocrs, .int ocoin, .int oship])), (ac, .inr (0, [.ref ac1, .ref ac2, .ref ac3, .ref ac4, .int (nI nC)])), (ac1, .inl (cI, 4, .inl osh)), (ac2, .inl (cI, 4, .inl oco)), (ac3, .inl (cI, 4, .inl obu)), (ac4, .inl (cZ, 4, .inl ofl)), (bc, .inr (0, [.ref bc1, .ref bc2, .ref bc3, .ref bc4, .int (nI nC)])), (bc1, .inl (cI, 4, .inl osh)), (bc2, .inl (cI, 4, .inl oco)), (bc3, .inl (cI, 4, .inl obu)), (bc4, .inl (cZ, 4, .inl ofl)), (ap, .inr (1, [.ref ap1, .ref ap2, .ref ap3, .int (nI mp), .int (nI nP)])), (ap1, .inl (cI, 4, .inl opw)), (ap2, .inl (cI, 4, .inl opa)), (ap3, .inl (cZ, 4, .inl opb)), (bp, .inr (1, [.ref bp1, .ref bp2, .ref bp3, .int (nI mp2), .int (nI nP)])), (bp1, .inl (cI, 4, .inl opw)), (bp2, .inl (cI, 4, .inl opa)), (bp3, .inl (cZ, 4, .inl opb)), (ak, .inr (1, [.ref ak1, .ref ak2, .ref ak3, .int (nI mk), .int (nI nK)])), (ak1, .inl (cI, 4, .inl okw)), (ak2, .inl (cI, 4, .inl oka)), (ak3, .inl (cZ, 4, .inl okb)), (bk, .inr (1, [.ref bk1, .ref bk2, .ref bk3, .int (nI mk2), .int (nI nK)])), (bk1, .inl (cI, 4, .inl okw)), (bk2, .inl (cI, 4, .inl oka)), (bk3, .inl (cZ, 4, .inl okb))] _ := hP
  have hD : va_D A [(h0, .inr (2, [.ref ac, .ref ap, .ref ak, .int (nI oday), .int ocoal, .int obar, .int tfine, .int tcrs, .int tcoin, .int tship])), (g0, .inr (2, [.ref bc, .ref bp, .ref bk, .int (nI oday), .int ocoal, .int obar, .int ofine, .int ocrs, .int ocoin, .int oship])), (ac, .inr (0, [.ref ac1, .ref ac2, .ref ac3, .ref ac4, .int (nI nC)])), (ac1, .inl (cI, 4, .inl osh)), (ac2, .inl (cI, 4, .inl oco)), (ac3, .inl (cI, 4, .inl obu)), (ac4, .inl (cZ, 4, .inl ofl)), (bc, .inr (0, [.ref bc1, .ref bc2, .ref bc3, .ref bc4, .int (nI nC)])), (bc1, .inl (cI, 4, .inl osh)), (bc2, .inl (cI, 4, .inl oco)), (bc3, .inl (cI, 4, .inl obu)), (bc4, .inl (cZ, 4, .inl ofl)), (ap, .inr (1, [.ref ap1, .ref ap2, .ref ap3, .int (nI mp), .int (nI nP)])), (ap1, .inl (cI, 4, .inl opw)), (ap2, .inl (cI, 4, .inl opa)), (ap3, .inl (cZ, 4, .inl opb)), (bp, .inr (1, [.ref bp1, .ref bp2, .ref bp3, .int (nI mp2), .int (nI nP)])), (bp1, .inl (cI, 4, .inl opw)), (bp2, .inl (cI, 4, .inl opa)), (bp3, .inl (cZ, 4, .inl opb)), (ak, .inr (1, [.ref ak1, .ref ak2, .ref ak3, .int (nI mk), .int (nI nK)])), (ak1, .inl (cI, 4, .inl okw)), (ak2, .inl (cI, 4, .inl oka)), (ak3, .inl (cZ, 4, .inl okb)), (bk, .inr (1, [.ref bk1, .ref bk2, .ref bk3, .int (nI mk2), .int (nI nK)])), (bk1, .inl (cI, 4, .inl okw)), (bk2, .inl (cI, 4, .inl oka)), (bk3, .inl (cZ, 4, .inl okb))] := hD
  refine lv_aload_n hx hb dX2_copyOf_57 rfl (lv_at hl 0 rfl) ?_
  refine lv_aload_n hx hb dX2_copyOf_58 rfl (lv_at hl 1 rfl) ?_
  refine va_get (D := D) (ci := 2) (v := .int ofine) (C := RX2) (T := TX2) (N := 10) hx hb ht inG_X2 hown hK hP 1 rfl rfl 6 (by decide) (ht _ qF_RX2_40) (fun _ h9 => h9) rfl dX2_copyOf_59 ?_
  refine va_put (D := D) (ci := 2) (v := .int ofine) (C := RX2) (T := TX2) (N := 10) hx hb ht inG_X2 tyX2 tyX2_ok nmX2 hown hK hP hD hS 0 rfl rfl 6 (by decide) (ht _ qF_RX2_40) (fun _ h9 => h9) rfl (tyX2_ok 6 (by decide)) rfl rfl (Nat.le_of_ble_eq_true rfl) dX2_copyOf_62 (fun H locs hP hD hS => ?_)
  have hP : va_P D vwCl [(h0, .inr (2, [.ref ac, .ref ap, .ref ak, .int (nI oday), .int ocoal, .int obar, .int ofine, .int tcrs, .int tcoin, .int tship])), (g0, .inr (2, [.ref bc, .ref bp, .ref bk, .int (nI oday), .int ocoal, .int obar, .int ofine, .int ocrs, .int ocoin, .int oship])), (ac, .inr (0, [.ref ac1, .ref ac2, .ref ac3, .ref ac4, .int (nI nC)])), (ac1, .inl (cI, 4, .inl osh)), (ac2, .inl (cI, 4, .inl oco)), (ac3, .inl (cI, 4, .inl obu)), (ac4, .inl (cZ, 4, .inl ofl)), (bc, .inr (0, [.ref bc1, .ref bc2, .ref bc3, .ref bc4, .int (nI nC)])), (bc1, .inl (cI, 4, .inl osh)), (bc2, .inl (cI, 4, .inl oco)), (bc3, .inl (cI, 4, .inl obu)), (bc4, .inl (cZ, 4, .inl ofl)), (ap, .inr (1, [.ref ap1, .ref ap2, .ref ap3, .int (nI mp), .int (nI nP)])), (ap1, .inl (cI, 4, .inl opw)), (ap2, .inl (cI, 4, .inl opa)), (ap3, .inl (cZ, 4, .inl opb)), (bp, .inr (1, [.ref bp1, .ref bp2, .ref bp3, .int (nI mp2), .int (nI nP)])), (bp1, .inl (cI, 4, .inl opw)), (bp2, .inl (cI, 4, .inl opa)), (bp3, .inl (cZ, 4, .inl opb)), (ak, .inr (1, [.ref ak1, .ref ak2, .ref ak3, .int (nI mk), .int (nI nK)])), (ak1, .inl (cI, 4, .inl okw)), (ak2, .inl (cI, 4, .inl oka)), (ak3, .inl (cZ, 4, .inl okb)), (bk, .inr (1, [.ref bk1, .ref bk2, .ref bk3, .int (nI mk2), .int (nI nK)])), (bk1, .inl (cI, 4, .inl okw)), (bk2, .inl (cI, 4, .inl oka)), (bk3, .inl (cZ, 4, .inl okb))] _ := hP
  have hD : va_D A [(h0, .inr (2, [.ref ac, .ref ap, .ref ak, .int (nI oday), .int ocoal, .int obar, .int ofine, .int tcrs, .int tcoin, .int tship])), (g0, .inr (2, [.ref bc, .ref bp, .ref bk, .int (nI oday), .int ocoal, .int obar, .int ofine, .int ocrs, .int ocoin, .int oship])), (ac, .inr (0, [.ref ac1, .ref ac2, .ref ac3, .ref ac4, .int (nI nC)])), (ac1, .inl (cI, 4, .inl osh)), (ac2, .inl (cI, 4, .inl oco)), (ac3, .inl (cI, 4, .inl obu)), (ac4, .inl (cZ, 4, .inl ofl)), (bc, .inr (0, [.ref bc1, .ref bc2, .ref bc3, .ref bc4, .int (nI nC)])), (bc1, .inl (cI, 4, .inl osh)), (bc2, .inl (cI, 4, .inl oco)), (bc3, .inl (cI, 4, .inl obu)), (bc4, .inl (cZ, 4, .inl ofl)), (ap, .inr (1, [.ref ap1, .ref ap2, .ref ap3, .int (nI mp), .int (nI nP)])), (ap1, .inl (cI, 4, .inl opw)), (ap2, .inl (cI, 4, .inl opa)), (ap3, .inl (cZ, 4, .inl opb)), (bp, .inr (1, [.ref bp1, .ref bp2, .ref bp3, .int (nI mp2), .int (nI nP)])), (bp1, .inl (cI, 4, .inl opw)), (bp2, .inl (cI, 4, .inl opa)), (bp3, .inl (cZ, 4, .inl opb)), (ak, .inr (1, [.ref ak1, .ref ak2, .ref ak3, .int (nI mk), .int (nI nK)])), (ak1, .inl (cI, 4, .inl okw)), (ak2, .inl (cI, 4, .inl oka)), (ak3, .inl (cZ, 4, .inl okb)), (bk, .inr (1, [.ref bk1, .ref bk2, .ref bk3, .int (nI mk2), .int (nI nK)])), (bk1, .inl (cI, 4, .inl okw)), (bk2, .inl (cI, 4, .inl oka)), (bk3, .inl (cZ, 4, .inl okb))] := hD
  refine lv_aload_n hx hb dX2_copyOf_65 rfl (lv_at hl 0 rfl) ?_
  refine lv_aload_n hx hb dX2_copyOf_66 rfl (lv_at hl 1 rfl) ?_
  refine va_get (D := D) (ci := 2) (v := .int ocrs) (C := RX2) (T := TX2) (N := 10) hx hb ht inG_X2 hown hK hP 1 rfl rfl 7 (by decide) (ht _ qF_RX2_43) (fun _ h9 => h9) rfl dX2_copyOf_67 ?_
  refine va_put (D := D) (ci := 2) (v := .int ocrs) (C := RX2) (T := TX2) (N := 10) hx hb ht inG_X2 tyX2 tyX2_ok nmX2 hown hK hP hD hS 0 rfl rfl 7 (by decide) (ht _ qF_RX2_43) (fun _ h9 => h9) rfl (tyX2_ok 7 (by decide)) rfl rfl (Nat.le_of_ble_eq_true rfl) dX2_copyOf_70 (fun H locs hP hD hS => ?_)
  have hP : va_P D vwCl [(h0, .inr (2, [.ref ac, .ref ap, .ref ak, .int (nI oday), .int ocoal, .int obar, .int ofine, .int ocrs, .int tcoin, .int tship])), (g0, .inr (2, [.ref bc, .ref bp, .ref bk, .int (nI oday), .int ocoal, .int obar, .int ofine, .int ocrs, .int ocoin, .int oship])), (ac, .inr (0, [.ref ac1, .ref ac2, .ref ac3, .ref ac4, .int (nI nC)])), (ac1, .inl (cI, 4, .inl osh)), (ac2, .inl (cI, 4, .inl oco)), (ac3, .inl (cI, 4, .inl obu)), (ac4, .inl (cZ, 4, .inl ofl)), (bc, .inr (0, [.ref bc1, .ref bc2, .ref bc3, .ref bc4, .int (nI nC)])), (bc1, .inl (cI, 4, .inl osh)), (bc2, .inl (cI, 4, .inl oco)), (bc3, .inl (cI, 4, .inl obu)), (bc4, .inl (cZ, 4, .inl ofl)), (ap, .inr (1, [.ref ap1, .ref ap2, .ref ap3, .int (nI mp), .int (nI nP)])), (ap1, .inl (cI, 4, .inl opw)), (ap2, .inl (cI, 4, .inl opa)), (ap3, .inl (cZ, 4, .inl opb)), (bp, .inr (1, [.ref bp1, .ref bp2, .ref bp3, .int (nI mp2), .int (nI nP)])), (bp1, .inl (cI, 4, .inl opw)), (bp2, .inl (cI, 4, .inl opa)), (bp3, .inl (cZ, 4, .inl opb)), (ak, .inr (1, [.ref ak1, .ref ak2, .ref ak3, .int (nI mk), .int (nI nK)])), (ak1, .inl (cI, 4, .inl okw)), (ak2, .inl (cI, 4, .inl oka)), (ak3, .inl (cZ, 4, .inl okb)), (bk, .inr (1, [.ref bk1, .ref bk2, .ref bk3, .int (nI mk2), .int (nI nK)])), (bk1, .inl (cI, 4, .inl okw)), (bk2, .inl (cI, 4, .inl oka)), (bk3, .inl (cZ, 4, .inl okb))] _ := hP
  have hD : va_D A [(h0, .inr (2, [.ref ac, .ref ap, .ref ak, .int (nI oday), .int ocoal, .int obar, .int ofine, .int ocrs, .int tcoin, .int tship])), (g0, .inr (2, [.ref bc, .ref bp, .ref bk, .int (nI oday), .int ocoal, .int obar, .int ofine, .int ocrs, .int ocoin, .int oship])), (ac, .inr (0, [.ref ac1, .ref ac2, .ref ac3, .ref ac4, .int (nI nC)])), (ac1, .inl (cI, 4, .inl osh)), (ac2, .inl (cI, 4, .inl oco)), (ac3, .inl (cI, 4, .inl obu)), (ac4, .inl (cZ, 4, .inl ofl)), (bc, .inr (0, [.ref bc1, .ref bc2, .ref bc3, .ref bc4, .int (nI nC)])), (bc1, .inl (cI, 4, .inl osh)), (bc2, .inl (cI, 4, .inl oco)), (bc3, .inl (cI, 4, .inl obu)), (bc4, .inl (cZ, 4, .inl ofl)), (ap, .inr (1, [.ref ap1, .ref ap2, .ref ap3, .int (nI mp), .int (nI nP)])), (ap1, .inl (cI, 4, .inl opw)), (ap2, .inl (cI, 4, .inl opa)), (ap3, .inl (cZ, 4, .inl opb)), (bp, .inr (1, [.ref bp1, .ref bp2, .ref bp3, .int (nI mp2), .int (nI nP)])), (bp1, .inl (cI, 4, .inl opw)), (bp2, .inl (cI, 4, .inl opa)), (bp3, .inl (cZ, 4, .inl opb)), (ak, .inr (1, [.ref ak1, .ref ak2, .ref ak3, .int (nI mk), .int (nI nK)])), (ak1, .inl (cI, 4, .inl okw)), (ak2, .inl (cI, 4, .inl oka)), (ak3, .inl (cZ, 4, .inl okb)), (bk, .inr (1, [.ref bk1, .ref bk2, .ref bk3, .int (nI mk2), .int (nI nK)])), (bk1, .inl (cI, 4, .inl okw)), (bk2, .inl (cI, 4, .inl oka)), (bk3, .inl (cZ, 4, .inl okb))] := hD
  refine lv_aload_n hx hb dX2_copyOf_73 rfl (lv_at hl 0 rfl) ?_
  refine lv_aload_n hx hb dX2_copyOf_74 rfl (lv_at hl 1 rfl) ?_
  refine va_get (D := D) (ci := 2) (v := .int ocoin) (C := RX2) (T := TX2) (N := 10) hx hb ht inG_X2 hown hK hP 1 rfl rfl 8 (by decide) (ht _ qF_RX2_46) (fun _ h9 => h9) rfl dX2_copyOf_75 ?_
  refine va_put (D := D) (ci := 2) (v := .int ocoin) (C := RX2) (T := TX2) (N := 10) hx hb ht inG_X2 tyX2 tyX2_ok nmX2 hown hK hP hD hS 0 rfl rfl 8 (by decide) (ht _ qF_RX2_46) (fun _ h9 => h9) rfl (tyX2_ok 8 (by decide)) rfl rfl (Nat.le_of_ble_eq_true rfl) dX2_copyOf_78 (fun H locs hP hD hS => ?_)
  have hP : va_P D vwCl [(h0, .inr (2, [.ref ac, .ref ap, .ref ak, .int (nI oday), .int ocoal, .int obar, .int ofine, .int ocrs, .int ocoin, .int tship])), (g0, .inr (2, [.ref bc, .ref bp, .ref bk, .int (nI oday), .int ocoal, .int obar, .int ofine, .int ocrs, .int ocoin, .int oship])), (ac, .inr (0, [.ref ac1, .ref ac2, .ref ac3, .ref ac4, .int (nI nC)])), (ac1, .inl (cI, 4, .inl osh)), (ac2, .inl (cI, 4, .inl oco)), (ac3, .inl (cI, 4, .inl obu)), (ac4, .inl (cZ, 4, .inl ofl)), (bc, .inr (0, [.ref bc1, .ref bc2, .ref bc3, .ref bc4, .int (nI nC)])), (bc1, .inl (cI, 4, .inl osh)), (bc2, .inl (cI, 4, .inl oco)), (bc3, .inl (cI, 4, .inl obu)), (bc4, .inl (cZ, 4, .inl ofl)), (ap, .inr (1, [.ref ap1, .ref ap2, .ref ap3, .int (nI mp), .int (nI nP)])), (ap1, .inl (cI, 4, .inl opw)), (ap2, .inl (cI, 4, .inl opa)), (ap3, .inl (cZ, 4, .inl opb)), (bp, .inr (1, [.ref bp1, .ref bp2, .ref bp3, .int (nI mp2), .int (nI nP)])), (bp1, .inl (cI, 4, .inl opw)), (bp2, .inl (cI, 4, .inl opa)), (bp3, .inl (cZ, 4, .inl opb)), (ak, .inr (1, [.ref ak1, .ref ak2, .ref ak3, .int (nI mk), .int (nI nK)])), (ak1, .inl (cI, 4, .inl okw)), (ak2, .inl (cI, 4, .inl oka)), (ak3, .inl (cZ, 4, .inl okb)), (bk, .inr (1, [.ref bk1, .ref bk2, .ref bk3, .int (nI mk2), .int (nI nK)])), (bk1, .inl (cI, 4, .inl okw)), (bk2, .inl (cI, 4, .inl oka)), (bk3, .inl (cZ, 4, .inl okb))] _ := hP
  have hD : va_D A [(h0, .inr (2, [.ref ac, .ref ap, .ref ak, .int (nI oday), .int ocoal, .int obar, .int ofine, .int ocrs, .int ocoin, .int tship])), (g0, .inr (2, [.ref bc, .ref bp, .ref bk, .int (nI oday), .int ocoal, .int obar, .int ofine, .int ocrs, .int ocoin, .int oship])), (ac, .inr (0, [.ref ac1, .ref ac2, .ref ac3, .ref ac4, .int (nI nC)])), (ac1, .inl (cI, 4, .inl osh)), (ac2, .inl (cI, 4, .inl oco)), (ac3, .inl (cI, 4, .inl obu)), (ac4, .inl (cZ, 4, .inl ofl)), (bc, .inr (0, [.ref bc1, .ref bc2, .ref bc3, .ref bc4, .int (nI nC)])), (bc1, .inl (cI, 4, .inl osh)), (bc2, .inl (cI, 4, .inl oco)), (bc3, .inl (cI, 4, .inl obu)), (bc4, .inl (cZ, 4, .inl ofl)), (ap, .inr (1, [.ref ap1, .ref ap2, .ref ap3, .int (nI mp), .int (nI nP)])), (ap1, .inl (cI, 4, .inl opw)), (ap2, .inl (cI, 4, .inl opa)), (ap3, .inl (cZ, 4, .inl opb)), (bp, .inr (1, [.ref bp1, .ref bp2, .ref bp3, .int (nI mp2), .int (nI nP)])), (bp1, .inl (cI, 4, .inl opw)), (bp2, .inl (cI, 4, .inl opa)), (bp3, .inl (cZ, 4, .inl opb)), (ak, .inr (1, [.ref ak1, .ref ak2, .ref ak3, .int (nI mk), .int (nI nK)])), (ak1, .inl (cI, 4, .inl okw)), (ak2, .inl (cI, 4, .inl oka)), (ak3, .inl (cZ, 4, .inl okb)), (bk, .inr (1, [.ref bk1, .ref bk2, .ref bk3, .int (nI mk2), .int (nI nK)])), (bk1, .inl (cI, 4, .inl okw)), (bk2, .inl (cI, 4, .inl oka)), (bk3, .inl (cZ, 4, .inl okb))] := hD
  refine lv_aload_n hx hb dX2_copyOf_81 rfl (lv_at hl 0 rfl) ?_
  refine lv_aload_n hx hb dX2_copyOf_82 rfl (lv_at hl 1 rfl) ?_
  refine va_get (D := D) (ci := 2) (v := .int oship) (C := RX2) (T := TX2) (N := 10) hx hb ht inG_X2 hown hK hP 1 rfl rfl 9 (by decide) (ht _ qF_RX2_49) (fun _ h9 => h9) rfl dX2_copyOf_83 ?_
  refine va_put (D := D) (ci := 2) (v := .int oship) (C := RX2) (T := TX2) (N := 10) hx hb ht inG_X2 tyX2 tyX2_ok nmX2 hown hK hP hD hS 0 rfl rfl 9 (by decide) (ht _ qF_RX2_49) (fun _ h9 => h9) rfl (tyX2_ok 9 (by decide)) rfl rfl (Nat.le_of_ble_eq_true rfl) dX2_copyOf_86 (fun H locs hP hD hS => ?_)
  have hP : va_P D vwCl [(h0, .inr (2, [.ref ac, .ref ap, .ref ak, .int (nI oday), .int ocoal, .int obar, .int ofine, .int ocrs, .int ocoin, .int oship])), (g0, .inr (2, [.ref bc, .ref bp, .ref bk, .int (nI oday), .int ocoal, .int obar, .int ofine, .int ocrs, .int ocoin, .int oship])), (ac, .inr (0, [.ref ac1, .ref ac2, .ref ac3, .ref ac4, .int (nI nC)])), (ac1, .inl (cI, 4, .inl osh)), (ac2, .inl (cI, 4, .inl oco)), (ac3, .inl (cI, 4, .inl obu)), (ac4, .inl (cZ, 4, .inl ofl)), (bc, .inr (0, [.ref bc1, .ref bc2, .ref bc3, .ref bc4, .int (nI nC)])), (bc1, .inl (cI, 4, .inl osh)), (bc2, .inl (cI, 4, .inl oco)), (bc3, .inl (cI, 4, .inl obu)), (bc4, .inl (cZ, 4, .inl ofl)), (ap, .inr (1, [.ref ap1, .ref ap2, .ref ap3, .int (nI mp), .int (nI nP)])), (ap1, .inl (cI, 4, .inl opw)), (ap2, .inl (cI, 4, .inl opa)), (ap3, .inl (cZ, 4, .inl opb)), (bp, .inr (1, [.ref bp1, .ref bp2, .ref bp3, .int (nI mp2), .int (nI nP)])), (bp1, .inl (cI, 4, .inl opw)), (bp2, .inl (cI, 4, .inl opa)), (bp3, .inl (cZ, 4, .inl opb)), (ak, .inr (1, [.ref ak1, .ref ak2, .ref ak3, .int (nI mk), .int (nI nK)])), (ak1, .inl (cI, 4, .inl okw)), (ak2, .inl (cI, 4, .inl oka)), (ak3, .inl (cZ, 4, .inl okb)), (bk, .inr (1, [.ref bk1, .ref bk2, .ref bk3, .int (nI mk2), .int (nI nK)])), (bk1, .inl (cI, 4, .inl okw)), (bk2, .inl (cI, 4, .inl oka)), (bk3, .inl (cZ, 4, .inl okb))] _ := hP
  have hD : va_D A [(h0, .inr (2, [.ref ac, .ref ap, .ref ak, .int (nI oday), .int ocoal, .int obar, .int ofine, .int ocrs, .int ocoin, .int oship])), (g0, .inr (2, [.ref bc, .ref bp, .ref bk, .int (nI oday), .int ocoal, .int obar, .int ofine, .int ocrs, .int ocoin, .int oship])), (ac, .inr (0, [.ref ac1, .ref ac2, .ref ac3, .ref ac4, .int (nI nC)])), (ac1, .inl (cI, 4, .inl osh)), (ac2, .inl (cI, 4, .inl oco)), (ac3, .inl (cI, 4, .inl obu)), (ac4, .inl (cZ, 4, .inl ofl)), (bc, .inr (0, [.ref bc1, .ref bc2, .ref bc3, .ref bc4, .int (nI nC)])), (bc1, .inl (cI, 4, .inl osh)), (bc2, .inl (cI, 4, .inl oco)), (bc3, .inl (cI, 4, .inl obu)), (bc4, .inl (cZ, 4, .inl ofl)), (ap, .inr (1, [.ref ap1, .ref ap2, .ref ap3, .int (nI mp), .int (nI nP)])), (ap1, .inl (cI, 4, .inl opw)), (ap2, .inl (cI, 4, .inl opa)), (ap3, .inl (cZ, 4, .inl opb)), (bp, .inr (1, [.ref bp1, .ref bp2, .ref bp3, .int (nI mp2), .int (nI nP)])), (bp1, .inl (cI, 4, .inl opw)), (bp2, .inl (cI, 4, .inl opa)), (bp3, .inl (cZ, 4, .inl opb)), (ak, .inr (1, [.ref ak1, .ref ak2, .ref ak3, .int (nI mk), .int (nI nK)])), (ak1, .inl (cI, 4, .inl okw)), (ak2, .inl (cI, 4, .inl oka)), (ak3, .inl (cZ, 4, .inl okb)), (bk, .inr (1, [.ref bk1, .ref bk2, .ref bk3, .int (nI mk2), .int (nI nK)])), (bk1, .inl (cI, 4, .inl okw)), (bk2, .inl (cI, 4, .inl oka)), (bk3, .inl (cZ, 4, .inl okb))] := hD
  exact hend _ _ _ _ _ _ () dX2_copyOf_89 (trivial) (hP.sub [0, 2, 3, 4, 5, 6, 12, 13, 14, 15, 20, 21, 22, 23, 1, 7, 8, 9, 10, 11, 16, 17, 18, 19, 24, 25, 26, 27] rfl) (hD.sub [0, 2, 3, 4, 5, 6, 12, 13, 14, 15, 20, 21, 22, 23, 1, 7, 8, 9, 10, 11, 16, 17, 18, 19, 24, 25, 26, 27] (by decide) rfl) hS (Nat.le_of_ble_eq_true rfl) (Nat.le_of_ble_eq_true rfl)
end
