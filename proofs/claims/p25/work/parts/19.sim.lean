/-! words that the law's own numbers need -/
theorem oneP {D : va_G} {cl : List vw_C} {ws : va_W} {H : Heap} {k : Nat} {x : Nat × va_E} (hP : va_P D cl ws H) (h : ws[k]? = some x) : va_P D cl [x] H := hP.subset (fun q hq => by
  rw [List.mem_singleton.mp hq]
  exact List.mem_of_getElem? h)
theorem oneD {A : Nat → Prop} {ws : va_W} {k : Nat} {x : Nat × va_E} (_hD : va_D A ws) (_h : ws[k]? = some x) : va_D (fun _ => True) [x] := ⟨fun i j p q hp hq _ => by
  have h1 : i < 1 := (List.getElem?_eq_some_iff.mp hp).1
  have h2 : j < 1 := (List.getElem?_eq_some_iff.mp hq).1
  omega, fun _ _ _ => trivial⟩
theorem va_frP {A0 : Nat → Prop} {X : va_W} {T : List va_W} {H0 H : Heap} {locs : List Loc} (hD : va_D A0 (wS X T)) (hS : va_S A0 H0 H locs) (hA : ∀ q, H0.size ≤ q → A0 q) {wc0 : va_W} (isC : List Nat) (hC : isC.map (fun i => X[i]?) = wc0.map some) : ∀ q, va_A (wS wc0 T) H.size q → A0 q := fun q hq => by
  rcases hq with ⟨k, e, h⟩ | h
  · exact hD.2 _ _ (va_part isC hC k _ h)
  · exact hA _ (Nat.le_trans hS.1 h)
theorem upd_upd {f : Nat → Int32} {i : Nat} {x y : Int32} : upd (upd f i x) i y = upd f i y := funext fun j => by
  unfold upd
  by_cases h : j = i <;> simp [h]
def blw (x : Int32) (n : Nat) : Nat := (x.toBitVec.toNat &&& 2147483647) % n
theorem blw_lt {x : Int32} {n : Nat} (h : 0 < n) : blw x n < n := Nat.mod_lt _ h
theorem mask_eq (x : Int32) : x &&& 2147483647 = nI (x.toBitVec.toNat &&& 2147483647) := by
  apply Int32.toBitVec_inj.mp
  show x.toBitVec &&& BitVec.ofNat 32 2147483647 = BitVec.ofNat 32 (x.toBitVec.toNat &&& 2147483647)
  apply BitVec.eq_of_toNat_eq
  have h : x.toBitVec.toNat &&& 2147483647 ≤ 2147483647 := Nat.and_le_right
  rw [BitVec.toNat_and, BitVec.toNat_ofNat, BitVec.toNat_ofNat, Nat.mod_eq_of_lt (show x.toBitVec.toNat &&& 2147483647 < 2 ^ 32 by omega)]
theorem blw_eq {x : Int32} {n : Nat} (h0 : 0 < n) (h : n < 1000) : (x &&& 2147483647) - (x &&& 2147483647) / nI n * nI n = nI (blw x n) := by
  rw [mask_eq]
  have h2 : x.toBitVec.toNat &&& 2147483647 ≤ 2147483647 := Nat.and_le_right
  exact pk_rem (by omega) h0 (by omega)
theorem eg2 {s : Int32} (h : 34 < s) : eggB s = 2 := by
  have e : (34 : Int32).toInt = 34 := by decide
  have e2 : (20 : Int32).toInt = 20 := by decide
  have e3 : (35 : Int32).toInt = 35 := by decide
  have h1 := Int32.lt_iff_toInt_lt.mp h
  unfold eggB
  rw [if_neg (by rw [Int32.lt_iff_toInt_lt]; omega), if_neg (by rw [Int32.lt_iff_toInt_lt]; omega)]
theorem eg1 {s : Int32} (h : s ≤ 34) (h2 : 19 < s) : eggB s = 1 := by
  have e : (34 : Int32).toInt = 34 := by decide
  have e1 : (19 : Int32).toInt = 19 := by decide
  have e2 : (20 : Int32).toInt = 20 := by decide
  have e3 : (35 : Int32).toInt = 35 := by decide
  have h1 := Int32.le_iff_toInt_le.mp h
  have h3 := Int32.lt_iff_toInt_lt.mp h2
  unfold eggB
  rw [if_neg (by rw [Int32.lt_iff_toInt_lt]; omega), if_pos (by rw [Int32.lt_iff_toInt_lt]; omega)]
theorem eg0 {s : Int32} (h2 : s ≤ 19) : eggB s = 0 := by
  have e1 : (19 : Int32).toInt = 19 := by decide
  have e2 : (20 : Int32).toInt = 20 := by decide
  have h3 := Int32.le_iff_toInt_le.mp h2
  unfold eggB
  rw [if_pos (by rw [Int32.lt_iff_toInt_lt]; omega)]
theorem egg012 (s : Int32) : eggB s = 0 ∨ eggB s = 1 ∨ eggB s = 2 := by
  unfold eggB
  by_cases h : s < 20
  · rw [if_pos h]; exact Or.inl rfl
  · rw [if_neg h]
    by_cases h2 : s < 35
    · rw [if_pos h2]; exact Or.inr (Or.inl rfl)
    · rw [if_neg h2]; exact Or.inr (Or.inr rfl)
theorem cby_ne {e : Int32} (h : e = 0 ∨ e = 1 ∨ e = 2) (h1 : ¬ e = 1) : 2 + e / 2 = cby e := by
  rcases h with rfl | rfl | rfl
  · decide
  · exact absurd rfl h1
  · decide
theorem sub_s (s : Int32) (k : Nat) : s - nI k - 1 = s - nI (k + 1) := by
  rw [← nI_1 k, Int32.sub_sub]
theorem add_s (s : Int32) (k : Nat) : s + nI k + 1 = s + nI (k + 1) := by
  rw [← nI_1 k, Int32.add_assoc]
/-- shale by ones -/
theorem burn_n {r s : Int32} (h : 0 ≤ s.toInt) : ∃ m : Nat, m ≤ 8 ∧ bPart r s = nI m ∧ (m : Int) = (bPart r s).toInt := by
  have b := bPart_T r h
  have h8 : (bPart r s).toInt ≤ 8 := by
    have e8 : (8 : Int32).toInt = 8 := by decide
    have e4 : (4 : Int32).toInt = 4 := by decide
    unfold bPart bDaily
    rw [mn_T]
    by_cases hr : r < 5
    · rw [if_pos hr, e8]; omega
    · rw [if_neg hr, e4]; omega
  refine ⟨(bPart r s).toInt.toNat, by omega, ?_, by omega⟩
  apply Int32.toInt_inj.mp
  rw [nI_toInt (by omega)]
  omega
theorem burn_T {r s : Int32} {m k : Nat} (h : 0 ≤ s.toInt ∧ s.toInt ≤ 200) (e : (m : Int) = (bPart r s).toInt) : (nI k < bDaily r ∧ 0 < s - nI k → k ≤ m → k < m) ∧ (bDaily r ≤ nI k → k ≤ m → k = m) ∧ (s - nI k ≤ 0 → k ≤ m → k = m) := by
  have e8 : (8 : Int32).toInt = 8 := by decide
  have e4 : (4 : Int32).toInt = 4 := by decide
  have e0 : (0 : Int32).toInt = 0 := by decide
  have hd : (bDaily r).toInt = 8 ∨ (bDaily r).toInt = 4 := by
    unfold bDaily
    by_cases hr : r < 5
    · rw [if_pos hr, e8]; omega
    · rw [if_neg hr, e4]; omega
  have em : (bPart r s).toInt = min (bDaily r).toInt s.toInt := mn_T _ _
  have hs : k ≤ m → (nI k).toInt = k ∧ (s - nI k).toInt = s.toInt - k := fun hk => by
    have a : (nI k).toInt = k := nI_toInt (by omega)
    exact ⟨a, by rw [tIs (by omega) (by omega), a]⟩
  refine ⟨fun h1 hk => ?_, fun h1 hk => ?_, fun h1 hk => ?_⟩
  · obtain ⟨a, b⟩ := hs hk
    have h2 := Int32.lt_iff_toInt_lt.mp h1.1
    have h3 := Int32.lt_iff_toInt_lt.mp h1.2
    omega
  · obtain ⟨a, b⟩ := hs hk
    have h2 := Int32.le_iff_toInt_le.mp h1
    omega
  · obtain ⟨a, b⟩ := hs hk
    have h3 := Int32.le_iff_toInt_le.mp h1
    omega
theorem daily_4 {r : Int32} (h : 4 < r) : 4 = bDaily r := by
  have e4 : (4 : Int32).toInt = 4 := by decide
  have e5 : (5 : Int32).toInt = 5 := by decide
  have h1 := Int32.lt_iff_toInt_lt.mp h
  unfold bDaily
  rw [if_neg (by rw [Int32.lt_iff_toInt_lt]; omega)]
theorem daily_8 {r : Int32} (h : r ≤ 4) : 8 = bDaily r := by
  have e4 : (4 : Int32).toInt = 4 := by decide
  have e5 : (5 : Int32).toInt = 5 := by decide
  have h1 := Int32.le_iff_toInt_le.mp h
  unfold bDaily
  rw [if_pos (by rw [Int32.lt_iff_toInt_lt]; omega)]
theorem mx_a {x y : Int32} (h : 0 ≤ y.toInt) (h2 : y < x) : x - y = mx 0 (x - y) := by
  have e0 : (0 : Int32).toInt = 0 := by decide
  have h1 := Int32.lt_iff_toInt_lt.mp h2
  have h3 := x.toInt_lt
  apply Int32.toInt_inj.mp
  rw [mx_T, tIs (by omega) (by omega), e0]
  omega
theorem mx_b {x y : Int32} (h0 : 0 ≤ x.toInt) (h2 : x ≤ y) : 0 = mx 0 (x - y) := by
  have e0 : (0 : Int32).toInt = 0 := by decide
  have h1 := Int32.le_iff_toInt_le.mp h2
  have h3 := y.toInt_lt
  apply Int32.toInt_inj.mp
  rw [mx_T, tIs (by omega) (by omega), e0]
  omega
theorem wthI {w r : Int32} (h0 : 0 ≤ w.toInt) (h1 : w.toInt ≤ 400) (h2 : 0 ≤ r.toInt) (h3 : r.toInt ≤ 9) : (w.toInt ≤ 0 → (wth r w).toInt = w.toInt) ∧ (0 < w.toInt → r.toInt = 0 → (wth r w).toInt = max 0 (w.toInt - 3)) ∧ (0 < w.toInt → 0 < r.toInt → (wth r w).toInt = min 400 (w.toInt + r.toInt)) := by
  have e4 : (400 : Int32).toInt = 400 := by decide
  have e3 : (3 : Int32).toInt = 3 := by decide
  have e0 : (0 : Int32).toInt = 0 := by decide
  have a : (w + r).toInt = w.toInt + r.toInt := tIa (by omega) (by omega)
  have b := mn_T 400 (w + r)
  rw [a, e4] at b
  unfold wth
  refine ⟨fun q => ?_, fun q q2 => ?_, fun q q2 => ?_⟩
  · rw [if_pos (by rw [Int32.le_iff_toInt_le]; omega)]
  · rw [if_neg (by rw [Int32.le_iff_toInt_le]; omega), if_pos (Int32.toInt_inj.mp (by omega)), mx_T, tIs (by omega) (by omega), e0, e3]
    omega
  · rw [if_neg (by rw [Int32.le_iff_toInt_le]; omega), if_neg (fun q3 => by rw [q3] at q2; omega)]
    omega
theorem pos_of {x : Int32} (h : 0 ≤ x.toInt) (h1 : ¬ x = 0) : 0 < x.toInt := by
  have e0 : (0 : Int32).toInt = 0 := by decide
  have : x.toInt ≠ 0 := fun q => h1 (Int32.toInt_inj.mp (by omega))
  omega
/-- a pit's water, as it is told step by step -/
theorem wth_1 {w r : Int32} (h : (0 ≤ w.toInt ∧ w.toInt ≤ 400) ∧ 0 ≤ r.toInt ∧ r.toInt ≤ 9) (hw : ¬ w = 0) (hr : ¬ r = 0) (c : w + r ≤ 400) : w + r = wth r w := by
  have e4 : (400 : Int32).toInt = 400 := by decide
  have a : (w + r).toInt = w.toInt + r.toInt := tIa (by omega) (by omega)
  have c1 := Int32.le_iff_toInt_le.mp c
  apply Int32.toInt_inj.mp
  rw [(wthI h.1.1 h.1.2 h.2.1 h.2.2).2.2 (pos_of h.1.1 hw) (pos_of h.2.1 hr)]
  omega
theorem wth_2 {w r : Int32} (h : (0 ≤ w.toInt ∧ w.toInt ≤ 400) ∧ 0 ≤ r.toInt ∧ r.toInt ≤ 9) (hw : ¬ w = 0) (hr : ¬ r = 0) (c : 400 < w + r) : 400 = wth r w := by
  have e4 : (400 : Int32).toInt = 400 := by decide
  have a : (w + r).toInt = w.toInt + r.toInt := tIa (by omega) (by omega)
  have c1 := Int32.lt_iff_toInt_lt.mp c
  apply Int32.toInt_inj.mp
  rw [(wthI h.1.1 h.1.2 h.2.1 h.2.2).2.2 (pos_of h.1.1 hw) (pos_of h.2.1 hr)]
  omega
theorem wth_3 {w r : Int32} (h : (0 ≤ w.toInt ∧ w.toInt ≤ 400) ∧ 0 ≤ r.toInt ∧ r.toInt ≤ 9) (hw : ¬ w = 0) (hr : r = 0) (c : 3 < w + r) : w + r - 3 = wth r w := by
  have e3 : (3 : Int32).toInt = 3 := by decide
  have e0 : (0 : Int32).toInt = 0 := by decide
  subst hr
  have a : (w + 0).toInt = w.toInt + (0 : Int32).toInt := tIa (by omega) (by omega)
  have c1 := Int32.lt_iff_toInt_lt.mp c
  apply Int32.toInt_inj.mp
  rw [(wthI h.1.1 h.1.2 h.2.1 h.2.2).2.1 (pos_of h.1.1 hw) e0, tIs (by omega) (by omega)]
  omega
theorem wth_4 {w r : Int32} (h : (0 ≤ w.toInt ∧ w.toInt ≤ 400) ∧ 0 ≤ r.toInt ∧ r.toInt ≤ 9) (hw : ¬ w = 0) (hr : r = 0) (c : w + r ≤ 3) : 0 = wth r w := by
  have e3 : (3 : Int32).toInt = 3 := by decide
  have e0 : (0 : Int32).toInt = 0 := by decide
  subst hr
  have a : (w + 0).toInt = w.toInt + (0 : Int32).toInt := tIa (by omega) (by omega)
  have c1 := Int32.le_iff_toInt_le.mp c
  apply Int32.toInt_inj.mp
  rw [(wthI h.1.1 h.1.2 h.2.1 h.2.2).2.1 (pos_of h.1.1 hw) e0]
  omega
theorem wth_5 {w r : Int32} (h : (0 ≤ w.toInt ∧ w.toInt ≤ 400) ∧ 0 ≤ r.toInt ∧ r.toInt ≤ 9) (hr : r = 0) (c : 400 < w + r) : False := by
  have e4 : (400 : Int32).toInt = 400 := by decide
  have e0 : (0 : Int32).toInt = 0 := by decide
  subst hr
  have a : (w + 0).toInt = w.toInt + (0 : Int32).toInt := tIa (by omega) (by omega)
  have c1 := Int32.lt_iff_toInt_lt.mp c
  omega
theorem nat_of {x : Int32} {B : Nat} (h : 0 ≤ x.toInt) (h2 : x.toInt ≤ B) (hB : B < 2147483648) : ∃ n : Nat, n ≤ B ∧ x = nI n := by
  refine ⟨x.toInt.toNat, by omega, ?_⟩
  apply Int32.toInt_inj.mp
  rw [nI_toInt (by omega)]
  omega
theorem nI_sub1 {a : Nat} (h : 0 < a) : nI a - 1 = nI (a - 1) := by
  have h2 := nI_pred (a - 1)
  rw [show a - 1 + 1 = a by omega] at h2
  exact h2
theorem mn_n {a b : Nat} (ha : a < 2147483648) (hb : b < 2147483648) : mn (nI a) (nI b) = nI (min a b) := by
  apply Int32.toInt_inj.mp
  rw [mn_T, nI_toInt (by omega), nI_toInt (by omega), nI_toInt (by omega)]
  omega
theorem sb_n {a b : Nat} (h : b ≤ a) (ha : a < 2147483648) : nI a - nI b = nI (a - b) := by
  apply Int32.toInt_inj.mp
  have h1 : (nI a).toInt = a := nI_toInt (by omega)
  have h2 : (nI b).toInt = b := nI_toInt (by omega)
  rw [tIs (by omega) (by omega), h1, h2, nI_toInt (by omega)]
  omega
theorem ml_n (a b : Nat) : nI a * nI b = nI (a * b) := pk_mul a b
/-- the ship's day, crystal by crystal -/
theorem ship_e {t f c k : Nat} (ht : t ≤ 60) (hf : f ≤ 40000000) (hc : c ≤ 40000000) (hk : k = min t (f + c)) : nI (f - k) = nI f - mn (nI t) (nI f) ∧ nI (c - (k - f)) = nI c - mn (nI t - mn (nI t) (nI f)) (nI c) ∧ nI k = mn (nI t) (nI f) + mn (nI t - mn (nI t) (nI f)) (nI c) ∧ nI (5 * min k f + 2 * (k - f)) = 5 * mn (nI t) (nI f) + 2 * mn (nI t - mn (nI t) (nI f)) (nI c) := by
  rw [mn_n (by omega) (by omega), sb_n (a := t) (by omega) (by omega), mn_n (by omega) (by omega), sb_n (by omega) (by omega), sb_n (by omega) (by omega)]
  refine ⟨by congr 1; omega, by congr 1; omega, ?_, ?_⟩
  · rw [nI_add]
    congr 1
    omega
  · rw [show (5 : Int32) = nI 5 from rfl, show (2 : Int32) = nI 2 from rfl, ml_n, ml_n, nI_add]
    congr 1
    omega
theorem add_back (a b : Int32) : b = a + b - a := by
  rw [Int32.add_comm, Int32.add_sub_cancel]
theorem rowF_end {n : Nat} {g f : Nat → Int32} {x : Nat → Int32} {i : Nat} (e : x = rowF i g f) (h : i = n) : x = rowF n g f := h ▸ e
/-- the private constructor of the law's class -/
def sINL (own : String) (idx : Nat) (y : MethodName) (cc : ByteArray) (n : Nat) (na : Nat) : Prop := GoodIn G_ (ws_ y cc n none) ∧ Cond.initialized y.cls ∈ G_ ∧ Cond.methodLinkNest own idx y RL ∈ nW ∧ Cond.instanceMethod y ∈ G_ ∧ y.name = "<init>" ∧ nMH y na
section
variable {p : Program} {l : Launch} {e : Env} {R : Room} {s : State} {m : MethodId} {args : Array Value} {below : List Frame} {meth : Method} {c : Code} {H : Heap} {locs : List Loc} {cells slots : Nat} {Q : State → Prop}
variable {cc cc' : ByteArray} {pc nL n' na idx : Nat} {own : String} {y : MethodName} {rm : Room} {D : va_G} {ty : List (ClassId × FieldType)} {b : Nat} {As st rest : List Value} {wc : va_W} {ls : Array Slot} {Qc : Array Value → State → Outcome → State → Prop} {free : Addr → Prop}
theorem rINL (F : CallFix p m c cc nL s args G_ own) (hG : gN s) (hK : va_K D vwCl ty s) (hP : va_P D vwCl wc H) (hD : va_D (fun _ => True) wc) (hs : sINL own idx y cc' n' na) (hM : Met l y (ws_ y cc' n' none) rm (va_Pc (.ref b :: As) (PB D ty wc H.size)) Qc rm.cells rm.slots free)
    (hn : As.length = na) (hl : ls.size = nL) (hst : st = As.reverse ++ .ref b :: rest) (hw : (rest.map fun v => v.category).sum ≤ 8) (hdg : decode cc pc = .ok (.invokespecial idx, 3)) (hR : rm.frames + 1 ≤ R.frames ∧ 8 + (n' + 11) + rm.locals ≤ R.locals) (hf : cells + rm.cells ≤ R.cells ∧ slots + rm.slots ≤ R.slots) :
    va_Run p l e R s m args below meth c H locs cells slots rm.cells rm.slots (F0 m pc ls st) rest (Qc (Value.ref b :: As).toArray) free := by
  subst hst
  obtain ⟨h1, h2, h3, h4, h5, h6⟩ := hs
  exact va_runIN (host := RL) (As := As) (rest := rest) F hM ⟨va_cnB na F.2.2.2.2 h1 rfl rfl rfl (hG.1 _ h3) (F.2.2.2.2 _ h2) h6 hR, h5, F.2.2.2.2 _ h4⟩ ⟨PB.blind, PB.pre hP hK hD hG⟩ rfl hn hl rfl (lv_room hw) hdg hf
end
theorem s_RX4_55 : sS RX4 55 yX4_strength cX4_strength 1 (some .int) 1 := sS.mk qM_RX4_55 qS_yX4_strength qN_RX4 qC_yX4_strength ⟨by decide +kernel, by decide +kernel, by decide +kernel⟩
theorem s_RX4_59 : sS RX4 59 yX4_egg cX4_egg 1 (some .int) 1 := sS.mk qM_RX4_59 qS_yX4_egg qN_RX4 qC_yX4_egg ⟨by decide +kernel, by decide +kernel, by decide +kernel⟩
def rm_L_below : Room := { frames := 0, cells := 0, slots := 0, locals := 0 }
set_option maxHeartbeats 4000000 in
set_option maxRecDepth 100000 in
theorem c_L_below (l : Launch) (D : va_G) (cI cZ cQ : ClassId) (x : Int32) (n : Nat) (hn0 : 0 < n) (hn : n < 1000) : Mi l yL_below cL_below 2 (some .int) rm_L_below D (TYQ cI cZ cQ) [.int x, .int (nI n)] ([]) (fun (r : Int32) (u : Unit) => r = nI (blw x n)) (fun (u : Unit) => []) := by
  refine Mi.ofQ (by decide) (Nat.le_of_ble_eq_true rfl) ?_
  intro p e s m args below meth c A ls Q hF hK hP hD hA hl hend
  obtain ⟨F, hr, hlocks, hG⟩ := hF
  have hx := F.1
  have hb := F.2.1
  have hown := F.2.2.2.1
  have ht := F.2.2.2.2
  have hS : va_S A s.heap s.heap [] := va_S.rf
  have hl : lv_has ls 2 [(0, .int x), (1, .int (nI n))] := hl
  refine lv_iload_n hx hb dL_below_0 rfl (lv_at hl 0 rfl) ?_
  refine lv_ldc hx hb hown (ht _ qk_RL_7) dL_below_1 ?_
  refine lv_iand hx hb dL_below_3 ?_
  refine lv_iload_n hx hb dL_below_4 rfl (lv_at hl 1 rfl) ?_
  refine lv_irem hx hb dL_below_5 (by intro q; have := (nI_eq (a := n) (b := 0) (by omega) (by omega)).mp q; omega) ?_
  refine t_i (nI (blw x n)) (blw_eq hn0 hn) ?_
  exact hend _ _ _ _ _ _ (nI (blw x n)) () dL_below_6 (rfl) (hP.sub [] rfl) (hD.sub [] (by decide) rfl) hS rfl (Nat.le_of_ble_eq_true rfl) (Nat.le_of_ble_eq_true rfl)

def rm_X4_strength2 : Room := { frames := 0, cells := 0, slots := 0, locals := 0 }
set_option maxHeartbeats 4000000 in
set_option maxRecDepth 100000 in
theorem c_X4_strength2 (l : Launch) (D : va_G) (cI cZ cQ : ClassId) (a0 : Nat) (gF : Nat → Int32) (h0 : 0 ≤ gF 0 + gF 1) : Mi l yX4_strength cX4_strength 1 (some .int) rm_X4_strength2 D (TYQ cI cZ cQ) [.ref a0] ([(a0, .inl (cI, 2, .inl gF))]) (fun (r : Int32) (u : Unit) => r = strg (gF 0) (gF 1)) (fun (u : Unit) => [(a0, .inl (cI, 2, .inl gF))]) := by
  refine Mi.ofQ (by decide) (Nat.le_of_ble_eq_true rfl) ?_
  intro p e s m args below meth c A ls Q hF hK hP hD hA hl hend
  obtain ⟨F, hr, hlocks, hG⟩ := hF
  have hx := F.1
  have hb := F.2.1
  have hown := F.2.2.2.1
  have ht := F.2.2.2.2
  have hS : va_S A s.heap s.heap [] := va_S.rf
  have hl : lv_has ls 1 [(0, .ref a0)] := hl
  refine lv_aload_n hx hb dX4_strength_0 rfl (lv_at hl 0 rfl) ?_
  refine lv_iconst (v := 0) hx hb dX4_strength_1 (by decide) ?_
  refine aI hx hb hK hP 0 0 rfl rfl 0 (rfl) (by decide) (by decide) (v := gF 0) (rfl) dX4_strength_2 ?_
  refine lv_aload_n hx hb dX4_strength_3 rfl (lv_at hl 0 rfl) ?_
  refine lv_iconst (v := 1) hx hb dX4_strength_4 (by decide) ?_
  refine aI hx hb hK hP 0 0 rfl rfl 1 (rfl) (by decide) (by decide) (v := gF 1) (rfl) dX4_strength_5 ?_
  refine lv_iadd hx hb dX4_strength_6 ?_
  refine lv_if_ne (tgt := 14) hx hb dX4_strength_7 (by decide) (fun c_1 => ?_) (fun c_1 => ?_)
  · skip
    refine lv_bipush (v := 100) hx hb dX4_strength_14 (by decide) ?_
    refine lv_aload_n hx hb dX4_strength_16 rfl (lv_at hl 0 rfl) ?_
    refine lv_iconst (v := 1) hx hb dX4_strength_17 (by decide) ?_
    refine aI hx hb hK hP 0 0 rfl rfl 1 (rfl) (by decide) (by decide) (v := gF 1) (rfl) dX4_strength_18 ?_
    refine lv_imul hx hb dX4_strength_19 ?_
    refine lv_aload_n hx hb dX4_strength_20 rfl (lv_at hl 0 rfl) ?_
    refine lv_iconst (v := 0) hx hb dX4_strength_21 (by decide) ?_
    refine aI hx hb hK hP 0 0 rfl rfl 0 (rfl) (by decide) (by decide) (v := gF 0) (rfl) dX4_strength_22 ?_
    refine lv_aload_n hx hb dX4_strength_23 rfl (lv_at hl 0 rfl) ?_
    refine lv_iconst (v := 1) hx hb dX4_strength_24 (by decide) ?_
    refine aI hx hb hK hP 0 0 rfl rfl 1 (rfl) (by decide) (by decide) (v := gF 1) (rfl) dX4_strength_25 ?_
    refine lv_iadd hx hb dX4_strength_26 ?_
    refine lv_idiv hx hb dX4_strength_27 (c_1) ?_
    exact hend _ _ _ _ _ _ ((100 * (gF 1)) / ((gF 0) + (gF 1))) () dX4_strength_28 (by unfold strg; rw [if_neg (ne_le0 c_1 h0)]) (hP.sub [0] rfl) (hD.sub [0] (by decide) rfl) hS rfl (Nat.le_of_ble_eq_true rfl) (Nat.le_of_ble_eq_true rfl)
  · skip
    refine lv_iconst (v := 0) hx hb dX4_strength_10 (by decide) ?_
    refine lv_goto (tgt := 28) hx hb dX4_strength_11 (by decide) ?_
    exact hend _ _ _ _ _ _ 0 () dX4_strength_28 (by unfold strg; rw [if_pos (zero_le0 c_1)]) (hP.sub [0] rfl) (hD.sub [0] (by decide) rfl) hS rfl (Nat.le_of_ble_eq_true rfl) (Nat.le_of_ble_eq_true rfl)

def rm_X4_egg2 : Room := { frames := 1, cells := 0, slots := 0, locals := 20 }
set_option maxHeartbeats 4000000 in
set_option maxRecDepth 100000 in
theorem c_X4_egg2 (l : Launch) (D : va_G) (cI cZ cQ : ClassId) (a0 : Nat) (gF : Nat → Int32) (h0 : 0 ≤ gF 0 + gF 1) : Mi l yX4_egg cX4_egg 1 (some .int) rm_X4_egg2 D (TYQ cI cZ cQ) [.ref a0] ([(a0, .inl (cI, 2, .inl gF))]) (fun (r : Int32) (u : Unit) => r = eggB (strg (gF 0) (gF 1))) (fun (u : Unit) => [(a0, .inl (cI, 2, .inl gF))]) := by
  refine Mi.ofQ (by decide) (Nat.le_of_ble_eq_true rfl) ?_
  intro p e s m args below meth c A ls Q hF hK hP hD hA hl hend
  obtain ⟨F, hr, hlocks, hG⟩ := hF
  have hx := F.1
  have hb := F.2.1
  have hown := F.2.2.2.1
  have ht := F.2.2.2.2
  have hS : va_S A s.heap s.heap [] := va_S.rf
  have hl : lv_has ls 1 [(0, .ref a0)] := hl
  refine lv_aload_n hx hb dX4_egg_0 rfl (lv_at hl 0 rfl) ?_
  refine k_iR (fun _ => rfl) (rS (As := [.ref a0]) (rest := []) F hG hK (hP.sub (ws' := [(a0, .inl (cI, 2, .inl gF))]) [0] rfl) ((hD.sub (ws' := [(a0, .inl (cI, 2, .inl gF))]) [0] (by decide) rfl).weaken (fun _ _ _ _ => trivial)) s_RX4_55 (c_X4_strength2 l D cI cZ cQ a0 gF (by first | assumption | omega) _) rfl hl.1 rfl (Nat.le_of_ble_eq_true rfl) dX4_egg_1 ⟨(Nat.le_of_ble_eq_true rfl), (Nat.le_of_ble_eq_true rfl)⟩ ⟨(Nat.le_of_ble_eq_true rfl), (Nat.le_of_ble_eq_true rfl)⟩) hP hD hS hA [0] rfl (fun r_1 uu H locs hw hP hS => ?_)
  try dsimp only at hw
  subst hw
  have hP : va_P D vwCl ([(a0, .inl (cI, 2, .inl gF))]) _ := hP
  have hD : va_D A ([(a0, .inl (cI, 2, .inl gF))]) := hD
  refine lv_bipush (v := 34) hx hb dX4_egg_4 (by decide) ?_
  refine lv_icmp_le (tgt := 13) hx hb dX4_egg_6 (by decide) (fun c_1 => ?_) (fun c_1 => ?_)
  · skip
    have c_1n := Int32.not_lt.mpr c_1
    refine lv_aload_n hx hb dX4_egg_13 rfl (lv_at hl 0 rfl) ?_
    refine k_iR (fun _ => rfl) (rS (As := [.ref a0]) (rest := []) F hG hK (hP.sub (ws' := [(a0, .inl (cI, 2, .inl gF))]) [0] rfl) ((hD.sub (ws' := [(a0, .inl (cI, 2, .inl gF))]) [0] (by decide) rfl).weaken (fun _ _ _ _ => trivial)) s_RX4_55 (c_X4_strength2 l D cI cZ cQ a0 gF (by first | assumption | omega) _) rfl hl.1 rfl (Nat.le_of_ble_eq_true rfl) dX4_egg_14 ⟨(Nat.le_of_ble_eq_true rfl), (Nat.le_of_ble_eq_true rfl)⟩ ⟨(Nat.le_of_ble_eq_true rfl), (Nat.le_of_ble_eq_true rfl)⟩) hP hD hS hA [0] rfl (fun r_14 uu H locs hw hP hS => ?_)
    try dsimp only at hw
    subst hw
    have hP : va_P D vwCl ([(a0, .inl (cI, 2, .inl gF))]) _ := hP
    have hD : va_D A ([(a0, .inl (cI, 2, .inl gF))]) := hD
    refine lv_bipush (v := 19) hx hb dX4_egg_17 (by decide) ?_
    refine lv_icmp_le (tgt := 26) hx hb dX4_egg_19 (by decide) (fun c_2 => ?_) (fun c_2 => ?_)
    · skip
      have c_2n := Int32.not_lt.mpr c_2
      refine lv_iconst (v := 0) hx hb dX4_egg_26 (by decide) ?_
      exact hend _ _ _ _ _ _ 0 () dX4_egg_27 ((eg0 c_2).symm) (hP.sub [0] rfl) (hD.sub [0] (by decide) rfl) hS rfl (Nat.le_of_ble_eq_true rfl) (Nat.le_of_ble_eq_true rfl)
    · skip
      have c_2n := Int32.not_le.mp c_2
      refine lv_iconst (v := 1) hx hb dX4_egg_22 (by decide) ?_
      refine lv_goto (tgt := 27) hx hb dX4_egg_23 (by decide) ?_
      exact hend _ _ _ _ _ _ 1 () dX4_egg_27 ((eg1 c_1 c_2n).symm) (hP.sub [0] rfl) (hD.sub [0] (by decide) rfl) hS rfl (Nat.le_of_ble_eq_true rfl) (Nat.le_of_ble_eq_true rfl)
  · skip
    have c_1n := Int32.not_le.mp c_1
    refine lv_iconst (v := 2) hx hb dX4_egg_9 (by decide) ?_
    refine lv_goto (tgt := 27) hx hb dX4_egg_10 (by decide) ?_
    exact hend _ _ _ _ _ _ 2 () dX4_egg_27 ((eg2 c_1n).symm) (hP.sub [0] rfl) (hD.sub [0] (by decide) rfl) hS rfl (Nat.le_of_ble_eq_true rfl) (Nat.le_of_ble_eq_true rfl)

def rm_X4_strength3 : Room := { frames := 0, cells := 0, slots := 0, locals := 0 }
set_option maxHeartbeats 4000000 in
set_option maxRecDepth 100000 in
theorem c_X4_strength3 (l : Launch) (D : va_G) (cI cZ cQ : ClassId) (a0 : Nat) (gF : Nat → Int32) (h0 : 0 ≤ gF 0 + gF 1) : Mi l yX4_strength cX4_strength 1 (some .int) rm_X4_strength3 D (TYQ cI cZ cQ) [.ref a0] ([(a0, .inl (cI, 3, .inl gF))]) (fun (r : Int32) (u : Unit) => r = strg (gF 0) (gF 1)) (fun (u : Unit) => [(a0, .inl (cI, 3, .inl gF))]) := by
  refine Mi.ofQ (by decide) (Nat.le_of_ble_eq_true rfl) ?_
  intro p e s m args below meth c A ls Q hF hK hP hD hA hl hend
  obtain ⟨F, hr, hlocks, hG⟩ := hF
  have hx := F.1
  have hb := F.2.1
  have hown := F.2.2.2.1
  have ht := F.2.2.2.2
  have hS : va_S A s.heap s.heap [] := va_S.rf
  have hl : lv_has ls 1 [(0, .ref a0)] := hl
  refine lv_aload_n hx hb dX4_strength_0 rfl (lv_at hl 0 rfl) ?_
  refine lv_iconst (v := 0) hx hb dX4_strength_1 (by decide) ?_
  refine aI hx hb hK hP 0 0 rfl rfl 0 (rfl) (by decide) (by decide) (v := gF 0) (rfl) dX4_strength_2 ?_
  refine lv_aload_n hx hb dX4_strength_3 rfl (lv_at hl 0 rfl) ?_
  refine lv_iconst (v := 1) hx hb dX4_strength_4 (by decide) ?_
  refine aI hx hb hK hP 0 0 rfl rfl 1 (rfl) (by decide) (by decide) (v := gF 1) (rfl) dX4_strength_5 ?_
  refine lv_iadd hx hb dX4_strength_6 ?_
  refine lv_if_ne (tgt := 14) hx hb dX4_strength_7 (by decide) (fun c_1 => ?_) (fun c_1 => ?_)
  · skip
    refine lv_bipush (v := 100) hx hb dX4_strength_14 (by decide) ?_
    refine lv_aload_n hx hb dX4_strength_16 rfl (lv_at hl 0 rfl) ?_
    refine lv_iconst (v := 1) hx hb dX4_strength_17 (by decide) ?_
    refine aI hx hb hK hP 0 0 rfl rfl 1 (rfl) (by decide) (by decide) (v := gF 1) (rfl) dX4_strength_18 ?_
    refine lv_imul hx hb dX4_strength_19 ?_
    refine lv_aload_n hx hb dX4_strength_20 rfl (lv_at hl 0 rfl) ?_
    refine lv_iconst (v := 0) hx hb dX4_strength_21 (by decide) ?_
    refine aI hx hb hK hP 0 0 rfl rfl 0 (rfl) (by decide) (by decide) (v := gF 0) (rfl) dX4_strength_22 ?_
    refine lv_aload_n hx hb dX4_strength_23 rfl (lv_at hl 0 rfl) ?_
    refine lv_iconst (v := 1) hx hb dX4_strength_24 (by decide) ?_
    refine aI hx hb hK hP 0 0 rfl rfl 1 (rfl) (by decide) (by decide) (v := gF 1) (rfl) dX4_strength_25 ?_
    refine lv_iadd hx hb dX4_strength_26 ?_
    refine lv_idiv hx hb dX4_strength_27 (c_1) ?_
    exact hend _ _ _ _ _ _ ((100 * (gF 1)) / ((gF 0) + (gF 1))) () dX4_strength_28 (by unfold strg; rw [if_neg (ne_le0 c_1 h0)]) (hP.sub [0] rfl) (hD.sub [0] (by decide) rfl) hS rfl (Nat.le_of_ble_eq_true rfl) (Nat.le_of_ble_eq_true rfl)
  · skip
    refine lv_iconst (v := 0) hx hb dX4_strength_10 (by decide) ?_
    refine lv_goto (tgt := 28) hx hb dX4_strength_11 (by decide) ?_
    exact hend _ _ _ _ _ _ 0 () dX4_strength_28 (by unfold strg; rw [if_pos (zero_le0 c_1)]) (hP.sub [0] rfl) (hD.sub [0] (by decide) rfl) hS rfl (Nat.le_of_ble_eq_true rfl) (Nat.le_of_ble_eq_true rfl)

def rm_X4_egg3 : Room := { frames := 1, cells := 0, slots := 0, locals := 20 }
set_option maxHeartbeats 4000000 in
set_option maxRecDepth 100000 in
theorem c_X4_egg3 (l : Launch) (D : va_G) (cI cZ cQ : ClassId) (a0 : Nat) (gF : Nat → Int32) (h0 : 0 ≤ gF 0 + gF 1) : Mi l yX4_egg cX4_egg 1 (some .int) rm_X4_egg3 D (TYQ cI cZ cQ) [.ref a0] ([(a0, .inl (cI, 3, .inl gF))]) (fun (r : Int32) (u : Unit) => r = eggB (strg (gF 0) (gF 1))) (fun (u : Unit) => [(a0, .inl (cI, 3, .inl gF))]) := by
  refine Mi.ofQ (by decide) (Nat.le_of_ble_eq_true rfl) ?_
  intro p e s m args below meth c A ls Q hF hK hP hD hA hl hend
  obtain ⟨F, hr, hlocks, hG⟩ := hF
  have hx := F.1
  have hb := F.2.1
  have hown := F.2.2.2.1
  have ht := F.2.2.2.2
  have hS : va_S A s.heap s.heap [] := va_S.rf
  have hl : lv_has ls 1 [(0, .ref a0)] := hl
  refine lv_aload_n hx hb dX4_egg_0 rfl (lv_at hl 0 rfl) ?_
  refine k_iR (fun _ => rfl) (rS (As := [.ref a0]) (rest := []) F hG hK (hP.sub (ws' := [(a0, .inl (cI, 3, .inl gF))]) [0] rfl) ((hD.sub (ws' := [(a0, .inl (cI, 3, .inl gF))]) [0] (by decide) rfl).weaken (fun _ _ _ _ => trivial)) s_RX4_55 (c_X4_strength3 l D cI cZ cQ a0 gF (by first | assumption | omega) _) rfl hl.1 rfl (Nat.le_of_ble_eq_true rfl) dX4_egg_1 ⟨(Nat.le_of_ble_eq_true rfl), (Nat.le_of_ble_eq_true rfl)⟩ ⟨(Nat.le_of_ble_eq_true rfl), (Nat.le_of_ble_eq_true rfl)⟩) hP hD hS hA [0] rfl (fun r_1 uu H locs hw hP hS => ?_)
  try dsimp only at hw
  subst hw
  have hP : va_P D vwCl ([(a0, .inl (cI, 3, .inl gF))]) _ := hP
  have hD : va_D A ([(a0, .inl (cI, 3, .inl gF))]) := hD
  refine lv_bipush (v := 34) hx hb dX4_egg_4 (by decide) ?_
  refine lv_icmp_le (tgt := 13) hx hb dX4_egg_6 (by decide) (fun c_1 => ?_) (fun c_1 => ?_)
  · skip
    have c_1n := Int32.not_lt.mpr c_1
    refine lv_aload_n hx hb dX4_egg_13 rfl (lv_at hl 0 rfl) ?_
    refine k_iR (fun _ => rfl) (rS (As := [.ref a0]) (rest := []) F hG hK (hP.sub (ws' := [(a0, .inl (cI, 3, .inl gF))]) [0] rfl) ((hD.sub (ws' := [(a0, .inl (cI, 3, .inl gF))]) [0] (by decide) rfl).weaken (fun _ _ _ _ => trivial)) s_RX4_55 (c_X4_strength3 l D cI cZ cQ a0 gF (by first | assumption | omega) _) rfl hl.1 rfl (Nat.le_of_ble_eq_true rfl) dX4_egg_14 ⟨(Nat.le_of_ble_eq_true rfl), (Nat.le_of_ble_eq_true rfl)⟩ ⟨(Nat.le_of_ble_eq_true rfl), (Nat.le_of_ble_eq_true rfl)⟩) hP hD hS hA [0] rfl (fun r_14 uu H locs hw hP hS => ?_)
    try dsimp only at hw
    subst hw
    have hP : va_P D vwCl ([(a0, .inl (cI, 3, .inl gF))]) _ := hP
    have hD : va_D A ([(a0, .inl (cI, 3, .inl gF))]) := hD
    refine lv_bipush (v := 19) hx hb dX4_egg_17 (by decide) ?_
    refine lv_icmp_le (tgt := 26) hx hb dX4_egg_19 (by decide) (fun c_2 => ?_) (fun c_2 => ?_)
    · skip
      have c_2n := Int32.not_lt.mpr c_2
      refine lv_iconst (v := 0) hx hb dX4_egg_26 (by decide) ?_
      exact hend _ _ _ _ _ _ 0 () dX4_egg_27 ((eg0 c_2).symm) (hP.sub [0] rfl) (hD.sub [0] (by decide) rfl) hS rfl (Nat.le_of_ble_eq_true rfl) (Nat.le_of_ble_eq_true rfl)
    · skip
      have c_2n := Int32.not_le.mp c_2
      refine lv_iconst (v := 1) hx hb dX4_egg_22 (by decide) ?_
      refine lv_goto (tgt := 27) hx hb dX4_egg_23 (by decide) ?_
      exact hend _ _ _ _ _ _ 1 () dX4_egg_27 ((eg1 c_1 c_2n).symm) (hP.sub [0] rfl) (hD.sub [0] (by decide) rfl) hS rfl (Nat.le_of_ble_eq_true rfl) (Nat.le_of_ble_eq_true rfl)
  · skip
    have c_1n := Int32.not_le.mp c_1
    refine lv_iconst (v := 2) hx hb dX4_egg_9 (by decide) ?_
    refine lv_goto (tgt := 27) hx hb dX4_egg_10 (by decide) ?_
    exact hend _ _ _ _ _ _ 2 () dX4_egg_27 ((eg2 c_1n).symm) (hP.sub [0] rfl) (hD.sub [0] (by decide) rfl) hS rfl (Nat.le_of_ble_eq_true rfl) (Nat.le_of_ble_eq_true rfl)

def rm_X4_comes : Room := { frames := 2, cells := 0, slots := 0, locals := 40 }
set_option maxHeartbeats 4000000 in
set_option maxRecDepth 100000 in
theorem c_X4_comes (l : Launch) (D : va_G) (cI cZ cQ : ClassId) (a0 : Nat) (gF : Nat → Int32) (x : Int32) (h0 : 0 ≤ gF 0 + gF 1) : Mi l yX4_comes cX4_comes 3 (some .int) rm_X4_comes D (TYQ cI cZ cQ) [.ref a0, .int x] ([(a0, .inl (cI, 3, .inl gF))]) (fun (r : Int32) (u : Unit) => r = crys (gF 0) (gF 1) x) (fun (u : Unit) => [(a0, .inl (cI, 3, .inl gF))]) := by
  refine Mi.ofQ (by decide) (Nat.le_of_ble_eq_true rfl) ?_
  intro p e s m args below meth c A ls Q hF hK hP hD hA hl hend
  obtain ⟨F, hr, hlocks, hG⟩ := hF
  have hx := F.1
  have hb := F.2.1
  have hown := F.2.2.2.1
  have ht := F.2.2.2.2
  have hS : va_S A s.heap s.heap [] := va_S.rf
  have hl : lv_has ls 3 [(0, .ref a0), (1, .int x)] := hl
  refine lv_iload_n hx hb dX4_comes_0 rfl (lv_at hl 1 rfl) ?_
  refine lv_aload_n hx hb dX4_comes_1 rfl (lv_at hl 0 rfl) ?_
  refine k_iR (fun _ => rfl) (rS (As := [.ref a0]) (rest := [.int x]) F hG hK (hP.sub (ws' := [(a0, .inl (cI, 3, .inl gF))]) [0] rfl) ((hD.sub (ws' := [(a0, .inl (cI, 3, .inl gF))]) [0] (by decide) rfl).weaken (fun _ _ _ _ => trivial)) s_RX4_59 (c_X4_egg3 l D cI cZ cQ a0 gF (by first | assumption | omega) _) rfl hl.1 rfl (Nat.le_of_ble_eq_true rfl) dX4_comes_2 ⟨(Nat.le_of_ble_eq_true rfl), (Nat.le_of_ble_eq_true rfl)⟩ ⟨(Nat.le_of_ble_eq_true rfl), (Nat.le_of_ble_eq_true rfl)⟩) hP hD hS hA [0] rfl (fun r_2 uu H locs hw hP hS => ?_)
  try dsimp only at hw
  subst hw
  have hP : va_P D vwCl ([(a0, .inl (cI, 3, .inl gF))]) _ := hP
  have hD : va_D A ([(a0, .inl (cI, 3, .inl gF))]) := hD
  refine lv_iconst (v := 1) hx hb dX4_comes_5 (by decide) ?_
  refine lv_icmp_ne (tgt := 13) hx hb dX4_comes_6 (by decide) (fun c_1 => ?_) (fun c_1 => ?_)
  · skip
    refine lv_iconst (v := 2) hx hb dX4_comes_13 (by decide) ?_
    refine lv_aload_n hx hb dX4_comes_14 rfl (lv_at hl 0 rfl) ?_
    refine k_iR (fun _ => rfl) (rS (As := [.ref a0]) (rest := [.int 2, .int x]) F hG hK (hP.sub (ws' := [(a0, .inl (cI, 3, .inl gF))]) [0] rfl) ((hD.sub (ws' := [(a0, .inl (cI, 3, .inl gF))]) [0] (by decide) rfl).weaken (fun _ _ _ _ => trivial)) s_RX4_59 (c_X4_egg3 l D cI cZ cQ a0 gF (by first | assumption | omega) _) rfl hl.1 rfl (Nat.le_of_ble_eq_true rfl) dX4_comes_15 ⟨(Nat.le_of_ble_eq_true rfl), (Nat.le_of_ble_eq_true rfl)⟩ ⟨(Nat.le_of_ble_eq_true rfl), (Nat.le_of_ble_eq_true rfl)⟩) hP hD hS hA [0] rfl (fun r_15 uu H locs hw hP hS => ?_)
    try dsimp only at hw
    subst hw
    have hP : va_P D vwCl ([(a0, .inl (cI, 3, .inl gF))]) _ := hP
    have hD : va_D A ([(a0, .inl (cI, 3, .inl gF))]) := hD
    refine lv_iconst (v := 2) hx hb dX4_comes_18 (by decide) ?_
    refine lv_idiv hx hb dX4_comes_19 (by decide) ?_
    refine lv_iadd hx hb dX4_comes_20 ?_
    refine t_i (cby (eggB (strg (gF 0) (gF 1)))) (cby_ne (egg012 _) c_1) ?_
    refine lv_imul hx hb dX4_comes_21 ?_
    refine lv_istore_n (lv' := [(2, .int (x * (cby (eggB (strg (gF 0) (gF 1)))))), (0, .ref a0), (1, .int x)]) hx hb dX4_comes_22 rfl hl (by decide) rfl (fun ls hl => ?_)
    refine lv_iload_n hx hb dX4_comes_23 rfl (lv_at hl 0 rfl) ?_
    refine lv_aload_n hx hb dX4_comes_24 rfl (lv_at hl 1 rfl) ?_
    refine lv_iconst (v := 1) hx hb dX4_comes_25 (by decide) ?_
    refine aI hx hb hK hP 0 0 rfl rfl 1 (rfl) (by decide) (by decide) (v := gF 1) (rfl) dX4_comes_26 ?_
    refine lv_icmp_ge (tgt := 34) hx hb dX4_comes_27 (by decide) (fun c_2 => ?_) (fun c_2 => ?_)
    · skip
      have c_2n := Int32.not_lt.mpr c_2
      refine lv_aload_n hx hb dX4_comes_34 rfl (lv_at hl 1 rfl) ?_
      refine lv_iconst (v := 1) hx hb dX4_comes_35 (by decide) ?_
      refine aI hx hb hK hP 0 0 rfl rfl 1 (rfl) (by decide) (by decide) (v := gF 1) (rfl) dX4_comes_36 ?_
      exact hend _ _ _ _ _ _ (gF 1) () dX4_comes_37 (by unfold crys mn; rw [Int32.mul_comm (cby _) x, if_neg (Int32.not_lt.mpr c_2)]) (hP.sub [0] rfl) (hD.sub [0] (by decide) rfl) hS rfl (Nat.le_of_ble_eq_true rfl) (Nat.le_of_ble_eq_true rfl)
    · skip
      have c_2n := Int32.not_le.mp c_2
      refine lv_iload_n hx hb dX4_comes_30 rfl (lv_at hl 0 rfl) ?_
      refine lv_goto (tgt := 37) hx hb dX4_comes_31 (by decide) ?_
      exact hend _ _ _ _ _ _ (x * (cby (eggB (strg (gF 0) (gF 1))))) () dX4_comes_37 (by unfold crys mn; rw [Int32.mul_comm (cby _) x, if_pos c_2n]) (hP.sub [0] rfl) (hD.sub [0] (by decide) rfl) hS rfl (Nat.le_of_ble_eq_true rfl) (Nat.le_of_ble_eq_true rfl)
  · skip
    refine lv_iconst (v := 5) hx hb dX4_comes_9 (by decide) ?_
    refine lv_goto (tgt := 21) hx hb dX4_comes_10 (by decide) ?_
    refine t_i (cby (eggB (strg (gF 0) (gF 1)))) (by rw [c_1]; decide) ?_
    refine lv_imul hx hb dX4_comes_21 ?_
    refine lv_istore_n (lv' := [(2, .int (x * (cby (eggB (strg (gF 0) (gF 1)))))), (0, .ref a0), (1, .int x)]) hx hb dX4_comes_22 rfl hl (by decide) rfl (fun ls hl => ?_)
    refine lv_iload_n hx hb dX4_comes_23 rfl (lv_at hl 0 rfl) ?_
    refine lv_aload_n hx hb dX4_comes_24 rfl (lv_at hl 1 rfl) ?_
    refine lv_iconst (v := 1) hx hb dX4_comes_25 (by decide) ?_
    refine aI hx hb hK hP 0 0 rfl rfl 1 (rfl) (by decide) (by decide) (v := gF 1) (rfl) dX4_comes_26 ?_
    refine lv_icmp_ge (tgt := 34) hx hb dX4_comes_27 (by decide) (fun c_3 => ?_) (fun c_3 => ?_)
    · skip
      have c_3n := Int32.not_lt.mpr c_3
      refine lv_aload_n hx hb dX4_comes_34 rfl (lv_at hl 1 rfl) ?_
      refine lv_iconst (v := 1) hx hb dX4_comes_35 (by decide) ?_
      refine aI hx hb hK hP 0 0 rfl rfl 1 (rfl) (by decide) (by decide) (v := gF 1) (rfl) dX4_comes_36 ?_
      exact hend _ _ _ _ _ _ (gF 1) () dX4_comes_37 (by unfold crys mn; rw [Int32.mul_comm (cby _) x, if_neg (Int32.not_lt.mpr c_3)]) (hP.sub [0] rfl) (hD.sub [0] (by decide) rfl) hS rfl (Nat.le_of_ble_eq_true rfl) (Nat.le_of_ble_eq_true rfl)
    · skip
      have c_3n := Int32.not_le.mp c_3
      refine lv_iload_n hx hb dX4_comes_30 rfl (lv_at hl 0 rfl) ?_
      refine lv_goto (tgt := 37) hx hb dX4_comes_31 (by decide) ?_
      exact hend _ _ _ _ _ _ (x * (cby (eggB (strg (gF 0) (gF 1))))) () dX4_comes_37 (by unfold crys mn; rw [Int32.mul_comm (cby _) x, if_pos c_3n]) (hP.sub [0] rfl) (hD.sub [0] (by decide) rfl) hS rfl (Nat.le_of_ble_eq_true rfl) (Nat.le_of_ble_eq_true rfl)

def rm_X4_init : Room := { frames := 1, cells := 5, slots := 13, locals := 20 }
set_option maxHeartbeats 4000000 in
set_option maxRecDepth 100000 in
theorem c_X4_init (l : Launch) (D : va_G) (cI cZ cQ : ClassId) (z0 : Nat)  : Mv l yX4_init cX4_init 1 rm_X4_init D (TYQ cI cZ cQ) [.ref z0] ([(z0, .inr (4, [.null, .null, .null, .null, .null, .int 0, .int 0, .int 0, .int 0, .int 0, .int 0, .int 0]))]) (fun (u : Nat × Nat × Nat × Nat × Nat) => True) (fun (u : Nat × Nat × Nat × Nat × Nat) => [(z0, .inr (4, [.ref u.1, .ref u.2.1, .ref u.2.2.1, .ref u.2.2.2.1, .ref u.2.2.2.2, .int 0, .int 0, .int 0, .int 0, .int 0, .int 0, .int 0])), (u.1, .inl (cI, 6, .inl (fun _ => 0))), (u.2.1, .inl (cI, 7, .inl (fun _ => 0))), (u.2.2.1, .inl (cQ, 0, .inr (.inr (.inr (.inr (rf 0 (fun i => i))))))), (u.2.2.2.1, .inl (cQ, 0, .inr (.inr (.inr (.inr (rf 0 (fun i => i))))))), (u.2.2.2.2, .inl (cQ, 0, .inr (.inr (.inr (.inr (rf 0 (fun i => i)))))))]) := by
  refine Mv.ofQ (by decide) (Nat.le_of_ble_eq_true rfl) ?_
  intro p e s m args below meth c A ls Q hF hK hP hD hA hl hend hin
  obtain ⟨F, hr, hlocks, hG⟩ := hF
  have hx := F.1
  have hb := F.2.1
  have hown := F.2.2.2.1
  have ht := F.2.2.2.2
  have hS : va_S A s.heap s.heap [] := va_S.rf
  have hin := hin.symm
  have hl : lv_has ls 1 [(0, .ref z0)] := hl
  refine lv_aload_n hx hb dX4_init_0 rfl (lv_at hl 0 rfl) ?_
  refine W.objInit hx hb hown (ht _ qM_RX4_1) (ht _ qI_objectInit) (ht _ qC_objectInit) rfl (by rw [F.2.2.1]; exact hl.1) rfl dX4_init_1 (Nat.le_of_ble_eq_true rfl) (Nat.le_of_ble_eq_true rfl) ?_
  refine W.eq (g2 := F0 m 4 ls []) rfl ?_
  refine lv_aload_n hx hb dX4_init_4 rfl (lv_at hl 0 rfl) ?_
  refine lv_bipush (v := 6) hx hb dX4_init_5 (by decide) ?_
  refine n_int (cJ := cI) hx hb ht (tyI hK) hP hD hS hA 6 rfl (by decide) (Nat.le_of_ble_eq_true rfl) (Nat.le_of_ble_eq_true rfl) dX4_init_7 (fun q_7 H hP hD hS => ?_)
  have hP : va_P D vwCl ([(z0, .inr (4, [.null, .null, .null, .null, .null, .int 0, .int 0, .int 0, .int 0, .int 0, .int 0, .int 0])), (q_7, .inl (cI, 6, .inl (fun _ => 0)))]) _ := hP
  have hD : va_D A ([(z0, .inr (4, [.null, .null, .null, .null, .null, .int 0, .int 0, .int 0, .int 0, .int 0, .int 0, .int 0])), (q_7, .inl (cI, 6, .inl (fun _ => 0)))]) := hD
  refine va_put (D := D) (ci := 4) (v := .ref q_7) (C := RX4) (T := TX4) (N := 12) hx hb ht inG_X4 tyX4 tyX4_ok nmX4 hown hK hP hD hS 0 rfl rfl 0 (by decide) (ht _ qF_RX4_7) (fun _ h9 => h9) rfl (tyX4_ok 0 (by decide)) rfl rfl (Nat.le_of_ble_eq_true rfl) dX4_init_9 (fun H locs hP hD hS => ?_)
  have hP : va_P D vwCl ([(z0, .inr (4, [.ref q_7, .null, .null, .null, .null, .int 0, .int 0, .int 0, .int 0, .int 0, .int 0, .int 0])), (q_7, .inl (cI, 6, .inl (fun _ => 0)))]) _ := hP
  have hD : va_D A ([(z0, .inr (4, [.ref q_7, .null, .null, .null, .null, .int 0, .int 0, .int 0, .int 0, .int 0, .int 0, .int 0])), (q_7, .inl (cI, 6, .inl (fun _ => 0)))]) := hD
  refine lv_aload_n hx hb dX4_init_12 rfl (lv_at hl 0 rfl) ?_
  refine lv_bipush (v := 7) hx hb dX4_init_13 (by decide) ?_
  refine n_int (cJ := cI) hx hb ht (tyI hK) hP hD hS hA 7 rfl (by decide) (Nat.le_of_ble_eq_true rfl) (Nat.le_of_ble_eq_true rfl) dX4_init_15 (fun q_15 H hP hD hS => ?_)
  have hP : va_P D vwCl ([(z0, .inr (4, [.ref q_7, .null, .null, .null, .null, .int 0, .int 0, .int 0, .int 0, .int 0, .int 0, .int 0])), (q_7, .inl (cI, 6, .inl (fun _ => 0))), (q_15, .inl (cI, 7, .inl (fun _ => 0)))]) _ := hP
  have hD : va_D A ([(z0, .inr (4, [.ref q_7, .null, .null, .null, .null, .int 0, .int 0, .int 0, .int 0, .int 0, .int 0, .int 0])), (q_7, .inl (cI, 6, .inl (fun _ => 0))), (q_15, .inl (cI, 7, .inl (fun _ => 0)))]) := hD
  refine va_put (D := D) (ci := 4) (v := .ref q_15) (C := RX4) (T := TX4) (N := 12) hx hb ht inG_X4 tyX4 tyX4_ok nmX4 hown hK hP hD hS 0 rfl rfl 1 (by decide) (ht _ qF_RX4_13) (fun _ h9 => h9) rfl (tyX4_ok 1 (by decide)) rfl rfl (Nat.le_of_ble_eq_true rfl) dX4_init_17 (fun H locs hP hD hS => ?_)
  have hP : va_P D vwCl ([(z0, .inr (4, [.ref q_7, .ref q_15, .null, .null, .null, .int 0, .int 0, .int 0, .int 0, .int 0, .int 0, .int 0])), (q_7, .inl (cI, 6, .inl (fun _ => 0))), (q_15, .inl (cI, 7, .inl (fun _ => 0)))]) _ := hP
  have hD : va_D A ([(z0, .inr (4, [.ref q_7, .ref q_15, .null, .null, .null, .int 0, .int 0, .int 0, .int 0, .int 0, .int 0, .int 0])), (q_7, .inl (cI, 6, .inl (fun _ => 0))), (q_15, .inl (cI, 7, .inl (fun _ => 0)))]) := hD
  refine lv_aload_n hx hb dX4_init_20 rfl (lv_at hl 0 rfl) ?_
  refine lv_iconst (v := 0) hx hb dX4_init_21 (by decide) ?_
  refine n_ax (X := [(z0, .inr (4, [.ref q_7, .ref q_15, .null, .null, .null, .int 0, .int 0, .int 0, .int 0, .int 0, .int 0, .int 0])), (q_7, .inl (cI, 6, .inl (fun _ => 0))), (q_15, .inl (cI, 7, .inl (fun _ => 0)))]) (T := []) hx hb ht hG hown hK hP hD hS hA (fun i => i) 0 rfl (by omega) (Nat.le_of_ble_eq_true rfl) (Nat.le_of_ble_eq_true rfl) dX4_init_22 (fun q_22 H hP hD hS => ?_)
  have hP : va_P D vwCl ([(z0, .inr (4, [.ref q_7, .ref q_15, .null, .null, .null, .int 0, .int 0, .int 0, .int 0, .int 0, .int 0, .int 0])), (q_7, .inl (cI, 6, .inl (fun _ => 0))), (q_15, .inl (cI, 7, .inl (fun _ => 0))), (q_22, .inl (cQ, 0, .inr (.inr (.inr (.inr (rf 0 (fun i => i)))))))]) _ := hP
  have hD : va_D A ([(z0, .inr (4, [.ref q_7, .ref q_15, .null, .null, .null, .int 0, .int 0, .int 0, .int 0, .int 0, .int 0, .int 0])), (q_7, .inl (cI, 6, .inl (fun _ => 0))), (q_15, .inl (cI, 7, .inl (fun _ => 0))), (q_22, .inl (cQ, 0, .inr (.inr (.inr (.inr (rf 0 (fun i => i)))))))]) := hD
  refine va_put (D := D) (ci := 4) (v := .ref q_22) (C := RX4) (T := TX4) (N := 12) hx hb ht inG_X4 tyX4 tyX4_ok nmX4 hown hK hP hD hS 0 rfl rfl 2 (by decide) (ht _ qF_RX4_17) (fun _ h9 => h9) rfl (tyX4_ok 2 (by decide)) rfl rfl (Nat.le_of_ble_eq_true rfl) dX4_init_25 (fun H locs hP hD hS => ?_)
  have hP : va_P D vwCl ([(z0, .inr (4, [.ref q_7, .ref q_15, .ref q_22, .null, .null, .int 0, .int 0, .int 0, .int 0, .int 0, .int 0, .int 0])), (q_7, .inl (cI, 6, .inl (fun _ => 0))), (q_15, .inl (cI, 7, .inl (fun _ => 0))), (q_22, .inl (cQ, 0, .inr (.inr (.inr (.inr (rf 0 (fun i => i)))))))]) _ := hP
  have hD : va_D A ([(z0, .inr (4, [.ref q_7, .ref q_15, .ref q_22, .null, .null, .int 0, .int 0, .int 0, .int 0, .int 0, .int 0, .int 0])), (q_7, .inl (cI, 6, .inl (fun _ => 0))), (q_15, .inl (cI, 7, .inl (fun _ => 0))), (q_22, .inl (cQ, 0, .inr (.inr (.inr (.inr (rf 0 (fun i => i)))))))]) := hD
  refine lv_aload_n hx hb dX4_init_28 rfl (lv_at hl 0 rfl) ?_
  refine lv_iconst (v := 0) hx hb dX4_init_29 (by decide) ?_
  refine n_ax (X := [(z0, .inr (4, [.ref q_7, .ref q_15, .ref q_22, .null, .null, .int 0, .int 0, .int 0, .int 0, .int 0, .int 0, .int 0])), (q_7, .inl (cI, 6, .inl (fun _ => 0))), (q_15, .inl (cI, 7, .inl (fun _ => 0))), (q_22, .inl (cQ, 0, .inr (.inr (.inr (.inr (rf 0 (fun i => i)))))))]) (T := []) hx hb ht hG hown hK hP hD hS hA (fun i => i) 0 rfl (by omega) (Nat.le_of_ble_eq_true rfl) (Nat.le_of_ble_eq_true rfl) dX4_init_30 (fun q_30 H hP hD hS => ?_)
  have hP : va_P D vwCl ([(z0, .inr (4, [.ref q_7, .ref q_15, .ref q_22, .null, .null, .int 0, .int 0, .int 0, .int 0, .int 0, .int 0, .int 0])), (q_7, .inl (cI, 6, .inl (fun _ => 0))), (q_15, .inl (cI, 7, .inl (fun _ => 0))), (q_22, .inl (cQ, 0, .inr (.inr (.inr (.inr (rf 0 (fun i => i))))))), (q_30, .inl (cQ, 0, .inr (.inr (.inr (.inr (rf 0 (fun i => i)))))))]) _ := hP
  have hD : va_D A ([(z0, .inr (4, [.ref q_7, .ref q_15, .ref q_22, .null, .null, .int 0, .int 0, .int 0, .int 0, .int 0, .int 0, .int 0])), (q_7, .inl (cI, 6, .inl (fun _ => 0))), (q_15, .inl (cI, 7, .inl (fun _ => 0))), (q_22, .inl (cQ, 0, .inr (.inr (.inr (.inr (rf 0 (fun i => i))))))), (q_30, .inl (cQ, 0, .inr (.inr (.inr (.inr (rf 0 (fun i => i)))))))]) := hD
  refine va_put (D := D) (ci := 4) (v := .ref q_30) (C := RX4) (T := TX4) (N := 12) hx hb ht inG_X4 tyX4 tyX4_ok nmX4 hown hK hP hD hS 0 rfl rfl 3 (by decide) (ht _ qF_RX4_21) (fun _ h9 => h9) rfl (tyX4_ok 3 (by decide)) rfl rfl (Nat.le_of_ble_eq_true rfl) dX4_init_33 (fun H locs hP hD hS => ?_)
  have hP : va_P D vwCl ([(z0, .inr (4, [.ref q_7, .ref q_15, .ref q_22, .ref q_30, .null, .int 0, .int 0, .int 0, .int 0, .int 0, .int 0, .int 0])), (q_7, .inl (cI, 6, .inl (fun _ => 0))), (q_15, .inl (cI, 7, .inl (fun _ => 0))), (q_22, .inl (cQ, 0, .inr (.inr (.inr (.inr (rf 0 (fun i => i))))))), (q_30, .inl (cQ, 0, .inr (.inr (.inr (.inr (rf 0 (fun i => i)))))))]) _ := hP
  have hD : va_D A ([(z0, .inr (4, [.ref q_7, .ref q_15, .ref q_22, .ref q_30, .null, .int 0, .int 0, .int 0, .int 0, .int 0, .int 0, .int 0])), (q_7, .inl (cI, 6, .inl (fun _ => 0))), (q_15, .inl (cI, 7, .inl (fun _ => 0))), (q_22, .inl (cQ, 0, .inr (.inr (.inr (.inr (rf 0 (fun i => i))))))), (q_30, .inl (cQ, 0, .inr (.inr (.inr (.inr (rf 0 (fun i => i)))))))]) := hD
  refine lv_aload_n hx hb dX4_init_36 rfl (lv_at hl 0 rfl) ?_
  refine lv_iconst (v := 0) hx hb dX4_init_37 (by decide) ?_
  refine n_ax (X := [(z0, .inr (4, [.ref q_7, .ref q_15, .ref q_22, .ref q_30, .null, .int 0, .int 0, .int 0, .int 0, .int 0, .int 0, .int 0])), (q_7, .inl (cI, 6, .inl (fun _ => 0))), (q_15, .inl (cI, 7, .inl (fun _ => 0))), (q_22, .inl (cQ, 0, .inr (.inr (.inr (.inr (rf 0 (fun i => i))))))), (q_30, .inl (cQ, 0, .inr (.inr (.inr (.inr (rf 0 (fun i => i)))))))]) (T := []) hx hb ht hG hown hK hP hD hS hA (fun i => i) 0 rfl (by omega) (Nat.le_of_ble_eq_true rfl) (Nat.le_of_ble_eq_true rfl) dX4_init_38 (fun q_38 H hP hD hS => ?_)
  have hP : va_P D vwCl ([(z0, .inr (4, [.ref q_7, .ref q_15, .ref q_22, .ref q_30, .null, .int 0, .int 0, .int 0, .int 0, .int 0, .int 0, .int 0])), (q_7, .inl (cI, 6, .inl (fun _ => 0))), (q_15, .inl (cI, 7, .inl (fun _ => 0))), (q_22, .inl (cQ, 0, .inr (.inr (.inr (.inr (rf 0 (fun i => i))))))), (q_30, .inl (cQ, 0, .inr (.inr (.inr (.inr (rf 0 (fun i => i))))))), (q_38, .inl (cQ, 0, .inr (.inr (.inr (.inr (rf 0 (fun i => i)))))))]) _ := hP
  have hD : va_D A ([(z0, .inr (4, [.ref q_7, .ref q_15, .ref q_22, .ref q_30, .null, .int 0, .int 0, .int 0, .int 0, .int 0, .int 0, .int 0])), (q_7, .inl (cI, 6, .inl (fun _ => 0))), (q_15, .inl (cI, 7, .inl (fun _ => 0))), (q_22, .inl (cQ, 0, .inr (.inr (.inr (.inr (rf 0 (fun i => i))))))), (q_30, .inl (cQ, 0, .inr (.inr (.inr (.inr (rf 0 (fun i => i))))))), (q_38, .inl (cQ, 0, .inr (.inr (.inr (.inr (rf 0 (fun i => i)))))))]) := hD
  refine va_put (D := D) (ci := 4) (v := .ref q_38) (C := RX4) (T := TX4) (N := 12) hx hb ht inG_X4 tyX4 tyX4_ok nmX4 hown hK hP hD hS 0 rfl rfl 4 (by decide) (ht _ qF_RX4_24) (fun _ h9 => h9) rfl (tyX4_ok 4 (by decide)) rfl rfl (Nat.le_of_ble_eq_true rfl) dX4_init_41 (fun H locs hP hD hS => ?_)
  have hP : va_P D vwCl ([(z0, .inr (4, [.ref q_7, .ref q_15, .ref q_22, .ref q_30, .ref q_38, .int 0, .int 0, .int 0, .int 0, .int 0, .int 0, .int 0])), (q_7, .inl (cI, 6, .inl (fun _ => 0))), (q_15, .inl (cI, 7, .inl (fun _ => 0))), (q_22, .inl (cQ, 0, .inr (.inr (.inr (.inr (rf 0 (fun i => i))))))), (q_30, .inl (cQ, 0, .inr (.inr (.inr (.inr (rf 0 (fun i => i))))))), (q_38, .inl (cQ, 0, .inr (.inr (.inr (.inr (rf 0 (fun i => i)))))))]) _ := hP
  have hD : va_D A ([(z0, .inr (4, [.ref q_7, .ref q_15, .ref q_22, .ref q_30, .ref q_38, .int 0, .int 0, .int 0, .int 0, .int 0, .int 0, .int 0])), (q_7, .inl (cI, 6, .inl (fun _ => 0))), (q_15, .inl (cI, 7, .inl (fun _ => 0))), (q_22, .inl (cQ, 0, .inr (.inr (.inr (.inr (rf 0 (fun i => i))))))), (q_30, .inl (cQ, 0, .inr (.inr (.inr (.inr (rf 0 (fun i => i))))))), (q_38, .inl (cQ, 0, .inr (.inr (.inr (.inr (rf 0 (fun i => i)))))))]) := hD
  exact hend _ _ _ _ _ _ (q_7, q_15, q_22, q_30, q_38) dX4_init_44 (trivial) (hP.sub [0, 1, 2, 3, 4, 5] rfl) (hD.sub [0, 1, 2, 3, 4, 5] (by decide) rfl) hS (Nat.le_of_ble_eq_true rfl) (Nat.le_of_ble_eq_true rfl)

def rm_X4_more : Room := { frames := 0, cells := 1, slots := 5, locals := 0 }
set_option maxHeartbeats 4000000 in
set_option maxRecDepth 100000 in
theorem c_X4_more (l : Launch) (D : va_G) (cI cZ cQ : ClassId) (zc q n K : Nat) (r : Nat → Nat) (gF : Nat → Nat → Int32) (h : Nat → Int32) (hn : n ≤ 4) : Mr l yX4_more cX4_more 4 (.array (.array .int)) rm_X4_more D (TYQ cI cZ cQ) [.ref zc, .ref q] (wS [(zc, .inl (cQ, n, .inr (.inr (.inr (.inr (rf n r)))))), (q, .inl (cI, K, .inl h))] ([MR cI K n r gF])) (fun (u : Unit) => True) (fun (u : Unit) (ra : Nat) => wS [(zc, .inl (cQ, n, .inr (.inr (.inr (.inr (rf n r)))))), (q, .inl (cI, K, .inl h))] ([MR cI K n r gF]) ++ [(ra, .inl (cQ, n + 1, .inr (.inr (.inr (.inr (rf (n + 1) (updR r n q)))))))]) := by
  refine Mr.ofQ (Or.inr ⟨_, rfl⟩) (by decide) (Nat.le_of_ble_eq_true rfl) ?_
  intro p e s m args below meth c A ls Q hF hK hP hD hA hl hend
  obtain ⟨F, hr, hlocks, hG⟩ := hF
  have hx := F.1
  have hb := F.2.1
  have hown := F.2.2.2.1
  have ht := F.2.2.2.2
  have hS : va_S A s.heap s.heap [] := va_S.rf
  have hl : lv_has ls 4 [(0, .ref zc), (1, .ref q)] := hl
  refine lv_aload_n hx hb dX4_more_0 rfl (lv_at hl 0 rfl) ?_
  refine q_ax hx hb hK hP 0 rfl dX4_more_1 ?_
  refine lv_iconst (v := 1) hx hb dX4_more_2 (by decide) ?_
  refine lv_iadd hx hb dX4_more_3 ?_
  refine t_i (nI (n + 1)) (nI_1 n) ?_
  refine n_ax hx hb ht hG hown hK hP hD hS hA r (n + 1) rfl (by omega) (Nat.le_of_ble_eq_true rfl) (by show _ ≤ 5; omega) dX4_more_4 (fun q_4 H hP hD hS => ?_)
  have hP : va_P D vwCl (wS [(zc, .inl (cQ, n, .inr (.inr (.inr (.inr (rf n r)))))), (q, .inl (cI, K, .inl h)), (q_4, .inl (cQ, (n + 1), .inr (.inr (.inr (.inr (rf 0 r))))))] ([MR cI K n r gF])) _ := hP
  have hD : va_D A (wS [(zc, .inl (cQ, n, .inr (.inr (.inr (.inr (rf n r)))))), (q, .inl (cI, K, .inl h)), (q_4, .inl (cQ, (n + 1), .inr (.inr (.inr (.inr (rf 0 r))))))] ([MR cI K n r gF])) := hD
  refine lv_astore_n (lv' := [(2, .ref q_4), (0, .ref zc), (1, .ref q)]) hx hb dX4_more_7 rfl hl (by decide) rfl (fun ls hl => ?_)
  refine lv_iconst (v := 0) hx hb dX4_more_8 (by decide) ?_
  refine lv_istore_n (lv' := [(3, .int 0), (2, .ref q_4), (0, .ref zc), (1, .ref q)]) hx hb dX4_more_9 rfl hl (by decide) rfl (fun ls hl => ?_)
  have loop10 : ∀ (kf10 i : Nat), i ≤ n → n < i + kf10 →  ∀ (H : Heap) (locs : List Loc), va_P D vwCl (wS [(zc, .inl (cQ, n, .inr (.inr (.inr (.inr (rf n r)))))), (q, .inl (cI, K, .inl h)), (q_4, .inl (cQ, (n + 1), .inr (.inr (.inr (.inr (rf i r))))))] ([MR cI K n r gF])) H → va_D A (wS [(zc, .inl (cQ, n, .inr (.inr (.inr (.inr (rf n r)))))), (q, .inl (cI, K, .inl h)), (q_4, .inl (cQ, (n + 1), .inr (.inr (.inr (.inr (rf i r))))))] ([MR cI K n r gF])) → va_S A s.heap H locs → ∀ (ls : Array Slot), lv_has ls 4 [(0, .ref zc), (1, .ref q), (2, .ref q_4), (3, .int (nI i))] → W p l e rm_X4_more s m args below meth c H locs (0 + 1) (0 + (n + 1)) Q (F0 m 10 ls []) := by
    intro kf10
    induction kf10 with
    | zero =>
      intro i hle10 hlt10
      exact absurd hlt10 (by omega)
    | succ kf10 ih10 =>
      intro i hle10 hlt10   H locs hP hD hS ls hl
      refine lv_iload_n hx hb dX4_more_10 rfl (lv_at hl 3 rfl) ?_
      refine lv_aload_n hx hb dX4_more_11 rfl (lv_at hl 0 rfl) ?_
      refine q_ax hx hb hK hP 0 rfl dX4_more_12 ?_
      refine lv_icmp_ge (tgt := 28) hx hb dX4_more_13 (by decide) (fun c_1 => ?_) (fun c_1 => ?_)
      · skip
        have c_1n := Int32.not_lt.mpr c_1
        have c_1m := (nI_leI (a := n) (b := i) (by omega) (by omega)).mp c_1
        refine lv_aload_n hx hb dX4_more_28 rfl (lv_at hl 2 rfl) ?_
        refine lv_aload_n hx hb dX4_more_29 rfl (lv_at hl 0 rfl) ?_
        refine q_ax hx hb hK hP 0 rfl dX4_more_30 ?_
        refine lv_aload_n hx hb dX4_more_31 rfl (lv_at hl 1 rfl) ?_
        refine s_ax hx hb hG hK hP hD hS 2 1 rfl rfl n rfl (by omega) (by omega) (rf (n + 1) (updR r n q)) (by rw [show i = n by omega]; exact rf_push n r q) dX4_more_32 (fun H locs hP hD hS => ?_)
        have hP : va_P D vwCl (wS [(zc, .inl (cQ, n, .inr (.inr (.inr (.inr (rf n r)))))), (q, .inl (cI, K, .inl h)), (q_4, .inl (cQ, (n + 1), .inr (.inr (.inr (.inr (rf (n + 1) (updR r n q)))))))] ([MR cI K n r gF])) _ := hP
        have hD : va_D A (wS [(zc, .inl (cQ, n, .inr (.inr (.inr (.inr (rf n r)))))), (q, .inl (cI, K, .inl h)), (q_4, .inl (cQ, (n + 1), .inr (.inr (.inr (.inr (rf (n + 1) (updR r n q)))))))] ([MR cI K n r gF])) := hD
        refine lv_aload_n hx hb dX4_more_33 rfl (lv_at hl 2 rfl) ?_
        exact hend _ _ _ _ _ _ q_4 () dX4_more_34 trivial (va_P.swap (a := [(zc, .inl (cQ, n, .inr (.inr (.inr (.inr (rf n r)))))), (q, .inl (cI, K, .inl h))]) (b := [(q_4, .inl (cQ, (n + 1), .inr (.inr (.inr (.inr (rf (n + 1) (updR r n q)))))))]) hP) (va_D.swap (a := [(zc, .inl (cQ, n, .inr (.inr (.inr (.inr (rf n r)))))), (q, .inl (cI, K, .inl h))]) (b := [(q_4, .inl (cQ, (n + 1), .inr (.inr (.inr (.inr (rf (n + 1) (updR r n q)))))))]) hD) hS (Nat.le_of_ble_eq_true rfl) (by show _ ≤ 5; omega)
      · skip
        have c_1n := Int32.not_le.mp c_1
        have c_1m := (nI_ltI (a := i) (b := n) (by omega) (by omega)).mp c_1n
        refine lv_aload_n hx hb dX4_more_16 rfl (lv_at hl 2 rfl) ?_
        refine lv_iload_n hx hb dX4_more_17 rfl (lv_at hl 3 rfl) ?_
        refine lv_aload_n hx hb dX4_more_18 rfl (lv_at hl 0 rfl) ?_
        refine lv_iload_n hx hb dX4_more_19 rfl (lv_at hl 3 rfl) ?_
        refine l_ax hx hb hK hP 0 (r := r) rfl i (rfl) (by omega) (by omega) (by omega) dX4_more_20 ?_
        refine s_ax hx hb hG hK hP hD hS 2 (_ + _ + i) rfl (fl_at (d := 0) rfl (MR_at (by omega))) i rfl (by omega) (by omega) (rf (i + 1) r) (rf_up i r) dX4_more_21 (fun H locs hP hD hS => ?_)
        have hP : va_P D vwCl (wS [(zc, .inl (cQ, n, .inr (.inr (.inr (.inr (rf n r)))))), (q, .inl (cI, K, .inl h)), (q_4, .inl (cQ, (n + 1), .inr (.inr (.inr (.inr (rf (i + 1) r))))))] ([MR cI K n r gF])) _ := hP
        have hD : va_D A (wS [(zc, .inl (cQ, n, .inr (.inr (.inr (.inr (rf n r)))))), (q, .inl (cI, K, .inl h)), (q_4, .inl (cQ, (n + 1), .inr (.inr (.inr (.inr (rf (i + 1) r))))))] ([MR cI K n r gF])) := hD
        refine lv_iinc (v := nI (i + 1)) (lv' := [(3, .int (nI (i + 1))), (0, .ref zc), (1, .ref q), (2, .ref q_4)]) hx hb dX4_more_22 hl (k := 3) rfl (nI_1 i) (by decide) rfl (fun ls hl => ?_)
        refine lv_goto (tgt := 10) hx hb dX4_more_25 (by decide) ?_
        exact ih10 (i + 1) (by omega) (by omega)   _ _ (hP.part [0, 1, 2] rfl) (hD.part [0, 1, 2] (by decide) rfl) hS _ (lv_sub hl [1, 2, 3, 0] rfl)
  exact loop10 (n + 1) 0 (Nat.zero_le _) (by omega)   _ _ (hP.part [0, 1, 2] rfl) (hD.part [0, 1, 2] (by decide) rfl) hS _ (lv_sub hl [2, 3, 1, 0] rfl)

def rm_X4_burning : Room := { frames := 0, cells := 0, slots := 0, locals := 0 }
set_option maxHeartbeats 4000000 in
set_option maxRecDepth 100000 in
theorem c_X4_burning (l : Launch) (D : va_G) (cI cZ cQ : ClassId) (z0 zr zs zc zp zk : Nat) (rc : Nat → Nat) (v : VT) (sT : List va_W) (hf1 : ∀ j, vfl v j = 0 ∨ vfl v j = 1) (hC4 : vnC v ≤ 4) : Mi l yX4_burning cX4_burning 6 (some .int) rm_X4_burning D (TYQ cI cZ cQ) [.ref z0] (wS [(z0, .inr (4, [.ref zr, .ref zs, .ref zc, .ref zp, .ref zk, .int (nI (vday v)), .int (vcoal v), .int (vbar v), .int (vfine v), .int (vcrs v), .int (vcoin v), .int (vship v)])), (zc, .inl (cQ, (vnC v), .inr (.inr (.inr (.inr (rf (vnC v) rc))))))] ((MR cI 4 (vnC v) rc (q4 (vsh v) (vco v) (vbu v) (vfl v))) :: sT)) (fun (r : Int32) (u : Unit) => r = sumF (fun j => b01 (vfl v j)) (vnC v)) (fun (u : Unit) => wS [(z0, .inr (4, [.ref zr, .ref zs, .ref zc, .ref zp, .ref zk, .int (nI (vday v)), .int (vcoal v), .int (vbar v), .int (vfine v), .int (vcrs v), .int (vcoin v), .int (vship v)])), (zc, .inl (cQ, (vnC v), .inr (.inr (.inr (.inr (rf (vnC v) rc))))))] ((MR cI 4 (vnC v) rc (q4 (vsh v) (vco v) (vbu v) (vfl v))) :: sT)) := by
  refine Mi.ofQ (by decide) (Nat.le_of_ble_eq_true rfl) ?_
  intro p e s m args below meth c A ls Q hF hK hP hD hA hl hend
  obtain ⟨F, hr, hlocks, hG⟩ := hF
  have hx := F.1
  have hb := F.2.1
  have hown := F.2.2.2.1
  have ht := F.2.2.2.2
  have hS : va_S A s.heap s.heap [] := va_S.rf
  have hl : lv_has ls 6 [(0, .ref z0)] := hl
  refine lv_iconst (v := 0) hx hb dX4_burning_0 (by decide) ?_
  refine lv_istore_n (lv' := [(1, .int 0), (0, .ref z0)]) hx hb dX4_burning_1 rfl hl (by decide) rfl (fun ls hl => ?_)
  refine lv_aload_n hx hb dX4_burning_2 rfl (lv_at hl 1 rfl) ?_
  refine va_get (D := D) (ci := 4) (v := .ref zc) (C := RX4) (T := TX4) (N := 12) hx hb ht inG_X4 hown hK hP 0 rfl rfl 2 (by decide) (ht _ qF_RX4_17) (fun _ h9 => h9) rfl dX4_burning_3 ?_
  refine lv_astore_n (lv' := [(2, .ref zc), (1, .int 0), (0, .ref z0)]) hx hb dX4_burning_6 rfl hl (by decide) rfl (fun ls hl => ?_)
  refine lv_aload_n hx hb dX4_burning_7 rfl (lv_at hl 0 rfl) ?_
  refine q_ax hx hb hK hP 1 rfl dX4_burning_8 ?_
  refine lv_istore_n (lv' := [(3, .int (nI (vnC v))), (2, .ref zc), (1, .int 0), (0, .ref z0)]) hx hb dX4_burning_9 rfl hl (by decide) rfl (fun ls hl => ?_)
  refine lv_iconst (v := 0) hx hb dX4_burning_10 (by decide) ?_
  refine lv_istore (lv' := [(4, .int 0), (3, .int (nI (vnC v))), (2, .ref zc), (1, .int 0), (0, .ref z0)]) hx hb dX4_burning_11 hl (by decide) rfl (fun ls hl => ?_)
  have loop13 : ∀ (kf13 i : Nat), i ≤ (vnC v) → (vnC v) < i + kf13 → ∀ (sm : Int32), sm = sumF (fun j => b01 (vfl v j)) i → ∀ (H : Heap) (locs : List Loc), va_P D vwCl (wS [(z0, .inr (4, [.ref zr, .ref zs, .ref zc, .ref zp, .ref zk, .int (nI (vday v)), .int (vcoal v), .int (vbar v), .int (vfine v), .int (vcrs v), .int (vcoin v), .int (vship v)])), (zc, .inl (cQ, (vnC v), .inr (.inr (.inr (.inr (rf (vnC v) rc))))))] ((MR cI 4 (vnC v) rc (q4 (vsh v) (vco v) (vbu v) (vfl v))) :: sT)) H → va_D A (wS [(z0, .inr (4, [.ref zr, .ref zs, .ref zc, .ref zp, .ref zk, .int (nI (vday v)), .int (vcoal v), .int (vbar v), .int (vfine v), .int (vcrs v), .int (vcoin v), .int (vship v)])), (zc, .inl (cQ, (vnC v), .inr (.inr (.inr (.inr (rf (vnC v) rc))))))] ((MR cI 4 (vnC v) rc (q4 (vsh v) (vco v) (vbu v) (vfl v))) :: sT)) → va_S A s.heap H locs → ∀ (ls : Array Slot), lv_has ls 6 [(0, .ref z0), (1, .int sm), (2, .ref zc), (3, .int (nI (vnC v))), (4, .int (nI i))] → W p l e rm_X4_burning s m args below meth c H locs 0 0 Q (F0 m 13 ls []) := by
    intro kf13
    induction kf13 with
    | zero =>
      intro i hle13 hlt13
      exact absurd hlt13 (by omega)
    | succ kf13 ih13 =>
      intro i hle13 hlt13 sm e_sm H locs hP hD hS ls hl
      refine lv_iload hx hb dX4_burning_13 (lv_at hl 4 rfl) ?_
      refine lv_iload_n hx hb dX4_burning_15 rfl (lv_at hl 3 rfl) ?_
      refine lv_icmp_ge (tgt := 38) hx hb dX4_burning_16 (by decide) (fun c_1 => ?_) (fun c_1 => ?_)
      · skip
        have c_1n := Int32.not_lt.mpr c_1
        have c_1m := (nI_leI (a := vnC v) (b := i) (by omega) (by omega)).mp c_1
        refine lv_iload_n hx hb dX4_burning_38 rfl (lv_at hl 1 rfl) ?_
        exact hend _ _ _ _ _ _ sm () dX4_burning_39 (by rw [e_sm, show i = vnC v by omega]) (hP.part [0, 1] rfl) (hD.part [0, 1] (by decide) rfl) hS rfl (Nat.le_of_ble_eq_true rfl) (Nat.le_of_ble_eq_true rfl)
      · skip
        have c_1n := Int32.not_le.mp c_1
        have c_1m := (nI_ltI (a := i) (b := vnC v) (by omega) (by omega)).mp c_1n
        refine lv_aload_n hx hb dX4_burning_19 rfl (lv_at hl 2 rfl) ?_
        refine lv_iload hx hb dX4_burning_20 (lv_at hl 4 rfl) ?_
        refine l_ax hx hb hK hP 1 (r := rc) rfl i (rfl) (by omega) (by omega) (by omega) dX4_burning_22 ?_
        refine lv_astore (lv' := [(5, .ref (rc i)), (0, .ref z0), (1, .int sm), (2, .ref zc), (3, .int (nI (vnC v))), (4, .int (nI i))]) hx hb dX4_burning_23 hl (by decide) rfl (fun ls hl => ?_)
        refine lv_iload_n hx hb dX4_burning_25 rfl (lv_at hl 2 rfl) ?_
        refine lv_aload hx hb dX4_burning_26 (lv_at hl 0 rfl) ?_
        refine lv_iconst (v := 3) hx hb dX4_burning_28 (by decide) ?_
        refine rl_ hx hb hK hP (d := 0) (r := rc) (F := q4 (vsh v) (vco v) (vbu v) (vfl v)) rfl i (by omega) 3 (rfl) (by decide) (by decide) (v := (vfl v) i) (rfl) dX4_burning_29 ?_
        refine lv_iadd hx hb dX4_burning_30 ?_
        refine lv_istore_n (lv' := [(1, .int (sm + ((vfl v) i))), (5, .ref (rc i)), (0, .ref z0), (2, .ref zc), (3, .int (nI (vnC v))), (4, .int (nI i))]) hx hb dX4_burning_31 rfl hl (by decide) rfl (fun ls hl => ?_)
        refine lv_iinc (v := nI (i + 1)) (lv' := [(4, .int (nI (i + 1))), (1, .int (sm + ((vfl v) i))), (5, .ref (rc i)), (0, .ref z0), (2, .ref zc), (3, .int (nI (vnC v)))]) hx hb dX4_burning_32 hl (k := 5) rfl (nI_1 i) (by decide) rfl (fun ls hl => ?_)
        refine lv_goto (tgt := 13) hx hb dX4_burning_35 (by decide) ?_
        exact ih13 (i + 1) (by omega) (by omega) (sm + ((vfl v) i)) (by rw [e_sm]; simp only [sumF]; rw [b01_of (hf1 i)]) _ _ (hP.part [0, 1] rfl) (hD.part [0, 1] (by decide) rfl) hS _ (lv_sub hl [3, 1, 4, 5, 0] rfl)
  exact loop13 ((vnC v) + 1) 0 (Nat.zero_le _) (by omega) 0 rfl _ _ (hP.part [0, 1] rfl) (hD.part [0, 1] (by decide) rfl) hS _ (lv_sub hl [4, 3, 2, 1, 0] rfl)
