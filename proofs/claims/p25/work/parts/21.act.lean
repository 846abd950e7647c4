/-! what is done to both -/
theorem rg {a lo hi : Nat} (h1 : lo ≤ a) (h2 : a ≤ hi) (hb : hi < 2147483648) : nI lo ≤ nI a ∧ nI a ≤ nI hi := ⟨(nI_leI (by omega) (by omega)).mpr h1, (nI_leI (by omega) (by omega)).mpr h2⟩
theorem more_at {X R : va_W} {S : List va_W} {d a b : Nat} {ca cb : Nat × va_E} (hd : S[d]? = some R) (ha : X[a]? = some ca) (hb : X[b]? = some cb) (k : Nat) (q : Nat × va_E) (h : (wS [ca, cb] [R])[k]? = some q) : (wS X S)[if k = 0 then a else if k = 1 then b else X.length + (S.take d).flatten.length + (k - 2)]? = some q := by
  have e : wS [ca, cb] [R] = ca :: cb :: R := by show [ca, cb] ++ [R].flatten = _; simp
  rw [e] at h
  match k, h with
  | 0, h =>
    cases h
    show (X ++ S.flatten)[a]? = some ca
    rw [List.getElem?_append_left (List.getElem?_eq_some_iff.mp ha).1]
    exact ha
  | 1, h =>
    cases h
    show (X ++ S.flatten)[b]? = some cb
    rw [List.getElem?_append_left (List.getElem?_eq_some_iff.mp hb).1]
    exact hb
  | k + 2, h =>
    have h2 : R[k]? = some q := h
    exact fl_at hd h2
theorem more_P {D : va_G} {cl : List vw_C} {H : Heap} {X R : va_W} {S : List va_W} {d a b : Nat} {ca cb : Nat × va_E} (hP : va_P D cl (wS X S) H) (hd : S[d]? = some R) (ha : X[a]? = some ca) (hb : X[b]? = some cb) : va_P D cl (wS [ca, cb] [R]) H := hP.by _ (more_at hd ha hb)
theorem more_D {A : Nat → Prop} {X R : va_W} {S : List va_W} {d a b : Nat} {ca cb : Nat × va_E} (hD : va_D A (wS X S)) (hd : S[d]? = some R) (ha : X[a]? = some ca) (hb : X[b]? = some cb) (hab : a ≠ b) : va_D (fun _ => True) (wS [ca, cb] [R]) := by
  have l1 := (List.getElem?_eq_some_iff.mp ha).1
  have l2 := (List.getElem?_eq_some_iff.mp hb).1
  have h : va_D A (wS [ca, cb] [R]) := hD.by _ (more_at hd ha hb) (fun i j _ _ e => by
    revert e
    repeat' split
    all_goals (intro e; omega))
  exact h.weaken (fun _ _ _ _ => trivial)
theorem more_C {X R : va_W} {S : List va_W} {d a b : Nat} {ca cb : Nat × va_E} (hd : S[d]? = some R) (ha : X[a]? = some ca) (hb : X[b]? = some cb) : ((List.range (2 + R.length)).map (fun k => if k = 0 then a else if k = 1 then b else X.length + (S.take d).flatten.length + (k - 2))).map (fun i => (wS X S)[i]?) = (wS [ca, cb] [R]).map some := List.ext_getElem? fun k => by
  have e : (wS [ca, cb] [R]).length = 2 + R.length := by show ([ca, cb] ++ [R].flatten).length = _; simp; omega
  rw [List.map_map, List.getElem?_map, List.getElem?_map]
  by_cases hk : k < 2 + R.length
  · rw [List.getElem?_range hk]
    have h := List.getElem?_eq_getElem (l := wS [ca, cb] [R]) (i := k) (by omega)
    rw [h]
    exact congrArg some (more_at hd ha hb k _ h)
  · rw [List.getElem?_eq_none (by rw [List.length_range]; omega), List.getElem?_eq_none (by omega)]
    rfl
theorem push_P {D : va_G} {cl : List vw_C} {H : Heap} {X : va_W} {S : List va_W} {d K n q : Nat} {cI : ClassId} {r : Nat → Nat} {F F' : Nat → Nat → Int32} {x : Nat × va_E} {fn : Nat → Int32} (hd : S[d]? = some (MR cI K n r F)) (hF : ∀ i, i < n → F' i = F i) (hfn : fn = F' n) (hP : va_P D cl (wS (X ++ [(q, .inl (cI, K, .inl fn)), x]) S) H) : va_P D cl (wS (X ++ [x]) (S.set d (MR cI K (n + 1) (updR r n q) F'))) H := by
  subst hfn
  rw [← MR_push hF]
  exact hP.perm (wS_push X hd _ _)
theorem push_D {A : Nat → Prop} {X : va_W} {S : List va_W} {d K n q : Nat} {cI : ClassId} {r : Nat → Nat} {F F' : Nat → Nat → Int32} {x : Nat × va_E} {fn : Nat → Int32} (hd : S[d]? = some (MR cI K n r F)) (hF : ∀ i, i < n → F' i = F i) (hfn : fn = F' n) (hD : va_D A (wS (X ++ [(q, .inl (cI, K, .inl fn)), x]) S)) : va_D A (wS (X ++ [x]) (S.set d (MR cI K (n + 1) (updR r n q) F'))) := by
  subst hfn
  rw [← MR_push hF]
  exact hD.perm (wS_push X hd _ _)
theorem row4 {x : Int32} {a b c d : Nat → Int32} {n : Nat} (hb : b n = 0) (hc : c n = 0) (hd : d n = 0) : upd (upd (upd (upd (fun _ => 0) 0 x) 1 0) 2 0) 3 0 = q4 (upd a n x) b c d n := funext fun j => by
  unfold q4
  rw [hb, hc, hd, pk_us]
  by_cases h0 : j = 0 <;> by_cases h1 : j = 1 <;> by_cases h2 : j = 2 <;> by_cases h3 : j = 3 <;> simp [upd, h0, h1, h2, h3]
theorem row2 {x : Int32} {a b : Nat → Int32} {n : Nat} (hb : b n = 0) : upd (upd (fun _ => 0) 0 x) 1 0 = q2 (upd a n x) b n := funext fun j => by
  unfold q2
  rw [hb, pk_us]
  by_cases h0 : j = 0 <;> by_cases h1 : j = 1 <;> simp [upd, h0, h1]
theorem row3 {a b c : Nat → Int32} {n : Nat} (hb : b n = 0) (hc : c n = 0) : upd (upd (upd (fun _ => 0) 0 0) 1 0) 2 0 = q3 (upd a n 0) b c n := funext fun j => by
  unfold q3
  rw [hb, hc, pk_us]
  by_cases h0 : j = 0 <;> by_cases h1 : j = 1 <;> by_cases h2 : j = 2 <;> simp [upd, h0, h1, h2]
theorem col4 {x : Int32} {a b c d : Nat → Int32} {n : Nat} (i : Nat) (h : i < n) : q4 (upd a n x) b c d i = q4 a b c d i := funext fun j => by
  unfold q4
  rw [pk_un (by omega)]
theorem col2 {x : Int32} {a b : Nat → Int32} {n : Nat} (i : Nat) (h : i < n) : q2 (upd a n x) b i = q2 a b i := funext fun j => by
  unfold q2
  rw [pk_un (by omega)]
theorem col3 {x : Int32} {a b c : Nat → Int32} {n : Nat} (i : Nat) (h : i < n) : q3 (upd a n x) b c i = q3 a b c i := funext fun j => by
  unfold q3
  rw [pk_un (by omega)]
section
variable {p : Program} {l : Launch} {e : Env} {R : Room} {s : State} {m : MethodId} {args : Array Value} {below : List Frame} {meth : Method} {c : Code} {H : Heap} {locs : List Loc} {cells slots mc ms : Nat} {Q : State → Prop}
variable {pc : Nat} {st rest : List Value} {D : va_G} {ls : Array Slot} {S : Type} {A0 : Nat → Prop} {H0 : Heap} {a : Array Value} {X Rw : va_W} {T : List va_W} {ca cb : Nat × va_E}
/-- behind a call of more -/
theorem k_more {post : S → Prop} {en : S → Nat → va_E} (d ia ib : Nat) (hd : T[d]? = some Rw) (ha : X[ia]? = some ca) (hb : X[ib]? = some cb) (hr : va_Run p l e R s m args below meth c H locs cells slots mc ms (F0 m pc ls st) rest (va_Qr post (fun u a t => va_P D vwCl (wS [ca, cb] [Rw] ++ [(a, en u a)]) t.heap ∧ va_D (va_A (wS [ca, cb] [Rw]) H.size) (wS [ca, cb] [Rw] ++ [(a, en u a)])) (va_A (wS [ca, cb] [Rw]) H.size) a) (va_A (wS [ca, cb] [Rw]) H.size)) (hP : va_P D vwCl (wS X T) H) (hD : va_D A0 (wS X T)) (hS : va_S A0 H0 H locs) (hA : ∀ q, H0.size ≤ q → A0 q)
    (kk : ∀ (u : S) (ra : Nat) (H1 : Heap) (locs1 : List Loc), post u → va_P D vwCl (wS (X ++ [(ra, en u ra)]) T) H1 → va_D A0 (wS (X ++ [(ra, en u ra)]) T) → va_S A0 H0 H1 locs1 → W p l e R s m args below meth c H1 locs1 (cells + mc) (slots + ms) Q (F0 m (pc + 3) ls (.ref ra :: rest))) : W p l e R s m args below meth c H locs cells slots Q (F0 m pc ls st) :=
  k_rM (fun _ _ => rfl) hr hP hD hS hA _ (more_C hd ha hb) (fun u ra H1 locs1 hp hP1 hD1 hS1 => kk u ra H1 locs1 hp (va_P.swap hP1) (va_D.swap hD1) hS1)
end
theorem s_RL_21 : sS RL 21 yL_below cL_below 2 (some .int) 2 := sS.mk qM_RL_21 qS_yL_below qN_RL qC_yL_below ⟨by decide +kernel, by decide +kernel, by decide +kernel⟩
theorem s_RL_27 : sS RL 27 yX4_more cX4_more 4 (some (.array (.array .int))) 2 := sS.mk qM_RL_27 qS_yX4_more qN_RX4 qC_yX4_more ⟨by decide +kernel, by decide +kernel, by decide +kernel⟩
theorem s_RL_31 : sV RL 31 RX3 yX3_pile cX3_pile 2 (some .int) 1 := sV.mk qM_RL_31 qI_yX3_pile qV_yX3_pile qN_RX3 qC_yX3_pile ⟨rfl, by decide +kernel, by decide +kernel, by decide +kernel⟩
theorem s_RL_37 : sV RL 37 RX3 yX3_dig cX3_dig 2 (some .int) 1 := sV.mk qM_RL_37 qI_yX3_dig qV_yX3_dig qN_RX3 qC_yX3_dig ⟨rfl, by decide +kernel, by decide +kernel, by decide +kernel⟩
theorem s_RL_40 : sV RL 40 RX3 yX3_pan cX3_pan 1 (some .int) 0 := sV.mk qM_RL_40 qI_yX3_pan qV_yX3_pan qN_RX3 qC_yX3_pan ⟨rfl, by decide +kernel, by decide +kernel, by decide +kernel⟩
theorem s_RL_53 : sV RL 53 RX3 yX3_bring cX3_bring 3 (some .int) 2 := sV.mk qM_RL_53 qI_yX3_bring qV_yX3_bring qN_RX3 qC_yX3_bring ⟨rfl, by decide +kernel, by decide +kernel, by decide +kernel⟩
theorem s_RL_63 : sV RL 63 RX3 yX3_setRain cX3_setRain 4 (some .int) 2 := sV.mk qM_RL_63 qI_yX3_setRain qV_yX3_setRain qN_RX3 qC_yX3_setRain ⟨rfl, by decide +kernel, by decide +kernel, by decide +kernel⟩
theorem s_RL_69 : sV RL 69 RX3 yX3_setShip cX3_setShip 4 (some .int) 2 := sV.mk qM_RL_69 qI_yX3_setShip qV_yX3_setShip qN_RX3 qC_yX3_setShip ⟨rfl, by decide +kernel, by decide +kernel, by decide +kernel⟩
theorem s_RL_72 : sV RL 72 RX3 yX3_light cX3_light 4 (some .int) 2 := sV.mk qM_RL_72 qI_yX3_light qV_yX3_light qN_RX3 qC_yX3_light ⟨rfl, by decide +kernel, by decide +kernel, by decide +kernel⟩
theorem s_RL_75 : sV RL 75 RX3 yX3_steep cX3_steep 5 (some .int) 2 := sV.mk qM_RL_75 qI_yX3_steep qV_yX3_steep qN_RX3 qC_yX3_steep ⟨rfl, by decide +kernel, by decide +kernel, by decide +kernel⟩
theorem s_RL_78 : sV RL 78 RX3 yX3_draw cX3_draw 8 (some .int) 3 := sV.mk qM_RL_78 qI_yX3_draw qV_yX3_draw qN_RX3 qC_yX3_draw ⟨rfl, by decide +kernel, by decide +kernel, by decide +kernel⟩
theorem s_RL_82 : sV RL 82 RX3 yX3_boil cX3_boil 2 (some .boolean) 1 := sV.mk qM_RL_82 qI_yX3_boil qV_yX3_boil qN_RX3 qC_yX3_boil ⟨rfl, by decide +kernel, by decide +kernel, by decide +kernel⟩
theorem s_RL_86 : sS RL 86 yX4_comes cX4_comes 3 (some .int) 2 := sS.mk qM_RL_86 qS_yX4_comes qN_RX4 qC_yX4_comes ⟨by decide +kernel, by decide +kernel, by decide +kernel⟩
theorem s_RL_90 : sS RL 90 yX4_egg cX4_egg 1 (some .int) 1 := sS.mk qM_RL_90 qS_yX4_egg qN_RX4 qC_yX4_egg ⟨by decide +kernel, by decide +kernel, by decide +kernel⟩
theorem s_RL_100 : sV RL 100 RX3 yX3_pour cX3_pour 4 (some .int) 2 := sV.mk qM_RL_100 qI_yX3_pour qV_yX3_pour qN_RX3 qC_yX3_pour ⟨rfl, by decide +kernel, by decide +kernel, by decide +kernel⟩
def rm_L_act : Room := { frames := 7, cells := 4, slots := 24, locals := 117 }
