/-- as Mi.ofQ, for a member of the JDK's that the machine runs as code -/
theorem Mi.ofQF {l : Launch} {y : MethodName} {cc : ByteArray} {n : Nat} {rt : FieldType} {rm : Room} {D : va_G} {ty : List (ClassId × FieldType)} {av : List Value} {ws : va_W} {S : Type} {post : Int32 → S → Prop} {w1 : S → va_W} (hy : plainFor y = true) (hn : (lg_sl av).length ≤ n)
    (body : ∀ p e s m args below meth c A ls (Q : State → Prop), BF p s m args meth c cc n y.cls (some rt) → va_K D vwCl ty s → va_P D vwCl ws s.heap → va_D A ws → (∀ q : Nat, s.heap.size ≤ q → A q) → lv_has ls n (lv_args 0 av) →
      (∀ (H : Heap) (locs : List Loc) (cells slots pc : Nat) (ls : Array Slot) (v : Int32) (u : S), decode cc pc = .ok (.ireturn, 1) → post v u → va_P D vwCl (w1 u) H → va_D A (w1 u) → va_S A s.heap H locs → narrow rt (.int v) = .int v → cells ≤ rm.cells → slots ≤ rm.slots → W p l e rm s m args below meth c H locs cells slots Q (F0 m pc ls [.int v])) →
      W p l e rm s m args below meth c s.heap [] 0 0 Q (F0 m 0 ls [])) : Mi l y cc n (some rt) rm D ty av ws post w1 := by
  intro sz
  refine va_MetF (cc := cc) (maxL := n) (ret := some rt) hy rfl ?_
  intro p e s m args below meth c s₁ B hml hv
  obtain ⟨rfl, hsz, hP, hK, hD0, hG⟩ := hv
  have hts := atoms_spec (ws := ws_ y cc n (some rt)) B.pre
  subst hsz
  have hl := lv_entry av (n := n) hn
  rw [lg_entry_eq]
  have hlocks := B.notSynchronized
  have hr := B.returns
  refine body p e s m _ below meth c (va_A ws s.heap.size) _ _ ⟨⟨B.exec, B.bytes, hml, findClass_of_methodNamed B.named, fun w h => hts w (List.mem_cons_of_mem _ h)⟩, B.returns, hlocks, hG⟩ hK hP hD0.self (fun q h => Or.inr h) hl ?_
  intro H locs cells slots pc ls v u hdg hp hP hD hS hn2 hc hs
  exact e_i B.exec B.bytes hr hlocks hS u hp hP hD hn2 hdg hc hs
theorem s_RX3_227 : sS RX3 227 yJ9_floorMod_7cf53 cJ9_floorMod_7cf53 3 (some .int) 2 := sS.mk qM_RX3_227 qS_yJ9_floorMod_7cf53 qN_RJ9 qC_yJ9_floorMod_7cf53 ⟨by decide +kernel, by decide +kernel, by decide +kernel⟩
theorem s_RX3_233 : sV RX3 233 RX3 yX3_rainOf cX3_rainOf 2 (some .int) 1 := sV.mk qM_RX3_233 qI_yX3_rainOf qV_yX3_rainOf qN_RX3 qC_yX3_rainOf ⟨rfl, by decide +kernel, by decide +kernel, by decide +kernel⟩
theorem s_RX3_236 : sV RX3 236 RX3 yX3_shipOf cX3_shipOf 2 (some .int) 1 := sV.mk qM_RX3_236 qI_yX3_shipOf qV_yX3_shipOf qN_RX3 qC_yX3_shipOf ⟨rfl, by decide +kernel, by decide +kernel, by decide +kernel⟩
theorem s_RX3_239 : sV RX3 239 RX2 yX2_letDayGo cX2_letDayGo 3 none 2 := sV.mk qM_RX3_239 qI_yX2_letDayGo qV_yX2_letDayGo qN_RX2 qC_yX2_letDayGo ⟨rfl, by decide +kernel, by decide +kernel, by decide +kernel⟩
theorem s_RX3_243 : sV RX3 243 RX0 yX0_burning cX0_burning 3 (some .int) 0 := sV.mk qM_RX3_243 qI_yX0_burning qV_yX0_burning qN_RX0 qC_yX0_burning ⟨rfl, by decide +kernel, by decide +kernel, by decide +kernel⟩
theorem s_RX3_246 : sV RX3 246 RX1 yX1_allAlum cX1_allAlum 3 (some .int) 0 := sV.mk qM_RX3_246 qI_yX1_allAlum qV_yX1_allAlum qN_RX1 qC_yX1_allAlum ⟨rfl, by decide +kernel, by decide +kernel, by decide +kernel⟩
theorem s_RX3_152 : sV RX3 152 RX1 yX1_egg cX1_egg 2 (some .int) 1 := sV.mk qM_RX3_152 qI_yX1_egg qV_yX1_egg qN_RX1 qC_yX1_egg ⟨rfl, by decide +kernel, by decide +kernel, by decide +kernel⟩
theorem s_RX3_224 : sS RX3 224 yX3_crystalsByBarrel cX3_crystalsByBarrel 1 (some .int) 1 := sS.mk qM_RX3_224 qS_yX3_crystalsByBarrel qN_RX3 qC_yX3_crystalsByBarrel ⟨by decide +kernel, by decide +kernel, by decide +kernel⟩
def rm_J9_floorMod_7cf53 : Room := { frames := 0, cells := 0, slots := 0, locals := 0 }
set_option maxHeartbeats 4000000 in
set_option maxRecDepth 100000 in
theorem c_J9_floorMod_7cf53 (l : Launch) (D : va_G) (cI cZ cJ : ClassId) (d n : Nat) (hd : d < 2147483648) (hn0 : 0 < n) (hn : n < 2147483648) : Mi l yJ9_floorMod_7cf53 cJ9_floorMod_7cf53 3 (some .int) rm_J9_floorMod_7cf53 D (TY cI cZ cJ) [.int (nI d), .int (nI n)] [] (fun (r : Int32) (u : Unit) => r = nI (d % n)) (fun (u : Unit) => []) := by
  refine Mi.ofQF (by decide +kernel) (Nat.le_of_ble_eq_true rfl) ?_
  intro p e s m args below meth c A ls Q hF hK hP hD hA hl hend
  obtain ⟨F, hr, hlocks, hG⟩ := hF
  have hx := F.1
  have hb := F.2.1
  have hown := F.2.2.2.1
  have ht := F.2.2.2.2
  have hS : va_S A s.heap s.heap [] := va_S.rf
  have hl : lv_has ls 3 [(0, .int (nI d)), (1, .int (nI n))] := hl
  refine lv_iload_n hx hb dJ9_floorMod_7cf53_0 rfl (lv_at hl 0 rfl) ?_
  refine lv_iload_n hx hb dJ9_floorMod_7cf53_1 rfl (lv_at hl 1 rfl) ?_
  refine lv_irem hx hb dJ9_floorMod_7cf53_2 (by intro q; have := (nI_eq (a := n) (b := 0) (by omega) (by omega)).mp q; omega) ?_
  refine t_i (nI (d % n)) (pk_rem hd hn0 hn) ?_
  refine lv_istore_n (lv' := [(2, .int (nI (d % n))), (0, .int (nI d)), (1, .int (nI n))]) hx hb dJ9_floorMod_7cf53_3 rfl hl (by decide) rfl (fun ls hl => ?_)
  refine lv_iload_n hx hb dJ9_floorMod_7cf53_4 rfl (lv_at hl 1 rfl) ?_
  refine lv_iload_n hx hb dJ9_floorMod_7cf53_5 rfl (lv_at hl 2 rfl) ?_
  refine lv_ixor hx hb dJ9_floorMod_7cf53_6 ?_
  refine lv_if_ge (tgt := 18) hx hb dJ9_floorMod_7cf53_7 (by decide) (fun _ => ?_) (fun h => absurd (floorMod_x hd hn) h)
  refine lv_iload_n hx hb dJ9_floorMod_7cf53_18 rfl (lv_at hl 0 rfl) ?_
  exact hend _ _ _ _ _ _ (nI (d % n)) () dJ9_floorMod_7cf53_19 (rfl) hP hD hS rfl (Nat.le_of_ble_eq_true rfl) (Nat.le_of_ble_eq_true rfl)

def rm_X3_rainOf : Room := { frames := 1, cells := 0, slots := 0, locals := 22 }
set_option maxHeartbeats 4000000 in
set_option maxRecDepth 100000 in
theorem c_X3_rainOf (l : Launch) (D : va_G) (cI cZ cJ : ClassId) (x0 xr xs n0 b0 : Nat) (R : Nat → Int32) (d : Nat) (hd : d < 2147483648) : Mi l yX3_rainOf cX3_rainOf 2 (some .int) rm_X3_rainOf D (TY cI cZ cJ) [.ref x0, .int (nI d)] [(x0, .inr (3, [.ref xr, .ref xs, .ref n0, .ref b0])), (xr, .inl (cI, 6, .inl R))] (fun (r : Int32) (u : Unit) => r = R (d % 6)) (fun (u : Unit) => [(x0, .inr (3, [.ref xr, .ref xs, .ref n0, .ref b0])), (xr, .inl (cI, 6, .inl R))]) := by
  refine Mi.ofQ (by decide) (Nat.le_of_ble_eq_true rfl) ?_
  intro p e s m args below meth c A ls Q hF hK hP hD hA hl hend
  obtain ⟨F, hr, hlocks, hG⟩ := hF
  have hx := F.1
  have hb := F.2.1
  have hown := F.2.2.2.1
  have ht := F.2.2.2.2
  have hS : va_S A s.heap s.heap [] := va_S.rf
  have hl : lv_has ls 2 [(0, .ref x0), (1, .int (nI d))] := hl
  refine lv_aload_n hx hb dX3_rainOf_0 rfl (lv_at hl 0 rfl) ?_
  refine va_get (D := D) (ci := 3) (v := .ref xr) (C := RX3) (T := TX3) (N := 4) hx hb ht inG_X3 hown hK hP 0 rfl rfl 0 (by decide) (ht _ qF_RX3_9) (fun _ h9 => h9) rfl dX3_rainOf_1 ?_
  refine lv_iload_n hx hb dX3_rainOf_4 rfl (lv_at hl 1 rfl) ?_
  refine lv_bipush (v := 6) hx hb dX3_rainOf_5 (by decide) ?_
  refine k_i (wr := [(x0, .inr (3, [.ref xr, .ref xs, .ref n0, .ref b0])), (xr, .inl (cI, 6, .inl R))]) (rS (As := [.int (nI d), .int 6]) (rest := [.ref xr]) F hG hK (hP.sub (ws' := []) [] rfl) ((hD.sub (ws' := []) [] (by decide) rfl).weaken (fun _ _ _ _ => trivial)) s_RX3_227 (c_J9_floorMod_7cf53 l D cI cZ cJ d 6 (by first | assumption | omega) (by decide) (by decide) _) rfl hl.1 rfl (Nat.le_of_ble_eq_true rfl) dX3_rainOf_7 ⟨(Nat.le_of_ble_eq_true rfl), (Nat.le_of_ble_eq_true rfl)⟩ ⟨(Nat.le_of_ble_eq_true rfl), (Nat.le_of_ble_eq_true rfl)⟩) hP hD hS hA [] [0, 1] rfl rfl (by decide) (by decide) (fun r_7 uu H locs hw hP hD hS => ?_)
  try dsimp only at hw
  subst hw
  have hP : va_P D vwCl [(x0, .inr (3, [.ref xr, .ref xs, .ref n0, .ref b0])), (xr, .inl (cI, 6, .inl R))] _ := hP
  have hD : va_D A [(x0, .inr (3, [.ref xr, .ref xs, .ref n0, .ref b0])), (xr, .inl (cI, 6, .inl R))] := hD
  refine aI hx hb hK hP 1 0 rfl rfl (d % 6) (rfl) (by omega) (by decide) (v := R (d % 6)) (rfl) dX3_rainOf_10 ?_
  exact hend _ _ _ _ _ _ (R (d % 6)) () dX3_rainOf_11 (rfl) hP hD hS rfl (Nat.le_of_ble_eq_true rfl) (Nat.le_of_ble_eq_true rfl)

def rm_X3_shipOf : Room := { frames := 1, cells := 0, slots := 0, locals := 22 }
set_option maxHeartbeats 4000000 in
set_option maxRecDepth 100000 in
theorem c_X3_shipOf (l : Launch) (D : va_G) (cI cZ cJ : ClassId) (x0 xr xs n0 b0 : Nat) (R : Nat → Int32) (d : Nat) (hd : d < 2147483648) : Mi l yX3_shipOf cX3_shipOf 2 (some .int) rm_X3_shipOf D (TY cI cZ cJ) [.ref x0, .int (nI d)] [(x0, .inr (3, [.ref xr, .ref xs, .ref n0, .ref b0])), (xs, .inl (cI, 7, .inl R))] (fun (r : Int32) (u : Unit) => r = R (d % 7)) (fun (u : Unit) => [(x0, .inr (3, [.ref xr, .ref xs, .ref n0, .ref b0])), (xs, .inl (cI, 7, .inl R))]) := by
  refine Mi.ofQ (by decide) (Nat.le_of_ble_eq_true rfl) ?_
  intro p e s m args below meth c A ls Q hF hK hP hD hA hl hend
  obtain ⟨F, hr, hlocks, hG⟩ := hF
  have hx := F.1
  have hb := F.2.1
  have hown := F.2.2.2.1
  have ht := F.2.2.2.2
  have hS : va_S A s.heap s.heap [] := va_S.rf
  have hl : lv_has ls 2 [(0, .ref x0), (1, .int (nI d))] := hl
  refine lv_aload_n hx hb dX3_shipOf_0 rfl (lv_at hl 0 rfl) ?_
  refine va_get (D := D) (ci := 3) (v := .ref xs) (C := RX3) (T := TX3) (N := 4) hx hb ht inG_X3 hown hK hP 0 rfl rfl 1 (by decide) (ht _ qF_RX3_13) (fun _ h9 => h9) rfl dX3_shipOf_1 ?_
  refine lv_iload_n hx hb dX3_shipOf_4 rfl (lv_at hl 1 rfl) ?_
  refine lv_bipush (v := 7) hx hb dX3_shipOf_5 (by decide) ?_
  refine k_i (wr := [(x0, .inr (3, [.ref xr, .ref xs, .ref n0, .ref b0])), (xs, .inl (cI, 7, .inl R))]) (rS (As := [.int (nI d), .int 7]) (rest := [.ref xs]) F hG hK (hP.sub (ws' := []) [] rfl) ((hD.sub (ws' := []) [] (by decide) rfl).weaken (fun _ _ _ _ => trivial)) s_RX3_227 (c_J9_floorMod_7cf53 l D cI cZ cJ d 7 (by first | assumption | omega) (by decide) (by decide) _) rfl hl.1 rfl (Nat.le_of_ble_eq_true rfl) dX3_shipOf_7 ⟨(Nat.le_of_ble_eq_true rfl), (Nat.le_of_ble_eq_true rfl)⟩ ⟨(Nat.le_of_ble_eq_true rfl), (Nat.le_of_ble_eq_true rfl)⟩) hP hD hS hA [] [0, 1] rfl rfl (by decide) (by decide) (fun r_7 uu H locs hw hP hD hS => ?_)
  try dsimp only at hw
  subst hw
  have hP : va_P D vwCl [(x0, .inr (3, [.ref xr, .ref xs, .ref n0, .ref b0])), (xs, .inl (cI, 7, .inl R))] _ := hP
  have hD : va_D A [(x0, .inr (3, [.ref xr, .ref xs, .ref n0, .ref b0])), (xs, .inl (cI, 7, .inl R))] := hD
  refine aI hx hb hK hP 1 0 rfl rfl (d % 7) (rfl) (by omega) (by decide) (v := R (d % 7)) (rfl) dX3_shipOf_10 ?_
  exact hend _ _ _ _ _ _ (R (d % 7)) () dX3_shipOf_11 (rfl) hP hD hS rfl (Nat.le_of_ble_eq_true rfl) (Nat.le_of_ble_eq_true rfl)

def rm_X3_goOn : Room := { frames := 4, cells := 0, slots := 0, locals := 89 }
set_option maxHeartbeats 4000000 in
set_option maxRecDepth 100000 in
theorem c_X3_goOn (l : Launch) (D : va_G) (cI cZ cJ : ClassId) (x0 xr xs n0 b0 : Nat) (h0 hc hp hk hc1 hc2 hc3 hc4 hp1 hp2 hp3 hk1 hk2 hk3 : Nat) (v : VT) (R S : Nat → Int32) (n : Nat) (hC4 : vnC v ≤ 4) (hP4 : vnP v ≤ 4) (hK3 : vnK v ≤ 3) (hdn : vday v + n < 2147483647) (hvR : vR v = R) (hvS : vS v = S) : Mv l yX3_goOn cX3_goOn 4 rm_X3_goOn D (TY cI cZ cJ) [.ref x0, .ref h0, .int (nI n)] [(x0, .inr (3, [.ref xr, .ref xs, .ref n0, .ref b0])), (xr, .inl (cI, 6, .inl R)), (xs, .inl (cI, 7, .inl S)), (h0, .inr (2, [.ref hc, .ref hp, .ref hk, .int (nI (vday v)), .int (vcoal v), .int (vbar v), .int (vfine v), .int (vcrs v), .int (vcoin v), .int (vship v)])), (hc, .inr (0, [.ref hc1, .ref hc2, .ref hc3, .ref hc4, .int (nI (vnC v))])), (hc1, .inl (cI, 4, .inl (vsh v))), (hc2, .inl (cI, 4, .inl (vco v))), (hc3, .inl (cI, 4, .inl (vbu v))), (hc4, .inl (cZ, 4, .inl (vfl v))), (hp, .inr (1, [.ref hp1, .ref hp2, .ref hp3, .int (nI 4), .int (nI (vnP v))])), (hp1, .inl (cI, 4, .inl (vpw v))), (hp2, .inl (cI, 4, .inl (vpa v))), (hp3, .inl (cZ, 4, .inl (vpb v))), (hk, .inr (1, [.ref hk1, .ref hk2, .ref hk3, .int (nI 3), .int (nI (vnK v))])), (hk1, .inl (cI, 4, .inl (vkw v))), (hk2, .inl (cI, 4, .inl (vka v))), (hk3, .inl (cZ, 4, .inl (vkb v)))] (fun (u : VT) => u = dIt n v) (fun (u : VT) => [(x0, .inr (3, [.ref xr, .ref xs, .ref n0, .ref b0])), (xr, .inl (cI, 6, .inl R)), (xs, .inl (cI, 7, .inl S)), (h0, .inr (2, [.ref hc, .ref hp, .ref hk, .int (nI (vday u)), .int (vcoal u), .int (vbar u), .int (vfine u), .int (vcrs u), .int (vcoin u), .int (vship u)])), (hc, .inr (0, [.ref hc1, .ref hc2, .ref hc3, .ref hc4, .int (nI (vnC u))])), (hc1, .inl (cI, 4, .inl (vsh u))), (hc2, .inl (cI, 4, .inl (vco u))), (hc3, .inl (cI, 4, .inl (vbu u))), (hc4, .inl (cZ, 4, .inl (vfl u))), (hp, .inr (1, [.ref hp1, .ref hp2, .ref hp3, .int (nI 4), .int (nI (vnP u))])), (hp1, .inl (cI, 4, .inl (vpw u))), (hp2, .inl (cI, 4, .inl (vpa u))), (hp3, .inl (cZ, 4, .inl (vpb u))), (hk, .inr (1, [.ref hk1, .ref hk2, .ref hk3, .int (nI 3), .int (nI (vnK u))])), (hk1, .inl (cI, 4, .inl (vkw u))), (hk2, .inl (cI, 4, .inl (vka u))), (hk3, .inl (cZ, 4, .inl (vkb u)))]) := by
  refine Mv.ofQ (by decide) (Nat.le_of_ble_eq_true rfl) ?_
  intro p e s m args below meth c A ls Q hF hK hP hD hA hl hend hin
  obtain ⟨F, hr, hlocks, hG⟩ := hF
  have hx := F.1
  have hb := F.2.1
  have hown := F.2.2.2.1
  have ht := F.2.2.2.2
  have hS : va_S A s.heap s.heap [] := va_S.rf
  have hl : lv_has ls 4 [(0, .ref x0), (1, .ref h0), (2, .int (nI n))] := hl
  refine lv_iconst (v := 0) hx hb dX3_goOn_0 (by decide) ?_
  refine lv_istore_n (lv' := [(3, .int 0), (0, .ref x0), (1, .ref h0), (2, .int (nI n))]) hx hb dX3_goOn_1 rfl hl (by decide) rfl (fun ls hl => ?_)
  have loop2 : ∀ (kf2 i : Nat), i ≤ n → n < i + kf2 → ∀ (u : VT), u = dIt i v → ∀ (H : Heap) (locs : List Loc), va_P D vwCl [(x0, .inr (3, [.ref xr, .ref xs, .ref n0, .ref b0])), (xr, .inl (cI, 6, .inl R)), (xs, .inl (cI, 7, .inl S)), (h0, .inr (2, [.ref hc, .ref hp, .ref hk, .int (nI (vday u)), .int (vcoal u), .int (vbar u), .int (vfine u), .int (vcrs u), .int (vcoin u), .int (vship u)])), (hc, .inr (0, [.ref hc1, .ref hc2, .ref hc3, .ref hc4, .int (nI (vnC u))])), (hc1, .inl (cI, 4, .inl (vsh u))), (hc2, .inl (cI, 4, .inl (vco u))), (hc3, .inl (cI, 4, .inl (vbu u))), (hc4, .inl (cZ, 4, .inl (vfl u))), (hp, .inr (1, [.ref hp1, .ref hp2, .ref hp3, .int (nI 4), .int (nI (vnP u))])), (hp1, .inl (cI, 4, .inl (vpw u))), (hp2, .inl (cI, 4, .inl (vpa u))), (hp3, .inl (cZ, 4, .inl (vpb u))), (hk, .inr (1, [.ref hk1, .ref hk2, .ref hk3, .int (nI 3), .int (nI (vnK u))])), (hk1, .inl (cI, 4, .inl (vkw u))), (hk2, .inl (cI, 4, .inl (vka u))), (hk3, .inl (cZ, 4, .inl (vkb u)))] H → va_D A [(x0, .inr (3, [.ref xr, .ref xs, .ref n0, .ref b0])), (xr, .inl (cI, 6, .inl R)), (xs, .inl (cI, 7, .inl S)), (h0, .inr (2, [.ref hc, .ref hp, .ref hk, .int (nI (vday u)), .int (vcoal u), .int (vbar u), .int (vfine u), .int (vcrs u), .int (vcoin u), .int (vship u)])), (hc, .inr (0, [.ref hc1, .ref hc2, .ref hc3, .ref hc4, .int (nI (vnC u))])), (hc1, .inl (cI, 4, .inl (vsh u))), (hc2, .inl (cI, 4, .inl (vco u))), (hc3, .inl (cI, 4, .inl (vbu u))), (hc4, .inl (cZ, 4, .inl (vfl u))), (hp, .inr (1, [.ref hp1, .ref hp2, .ref hp3, .int (nI 4), .int (nI (vnP u))])), (hp1, .inl (cI, 4, .inl (vpw u))), (hp2, .inl (cI, 4, .inl (vpa u))), (hp3, .inl (cZ, 4, .inl (vpb u))), (hk, .inr (1, [.ref hk1, .ref hk2, .ref hk3, .int (nI 3), .int (nI (vnK u))])), (hk1, .inl (cI, 4, .inl (vkw u))), (hk2, .inl (cI, 4, .inl (vka u))), (hk3, .inl (cZ, 4, .inl (vkb u)))] → va_S A s.heap H locs → ∀ (ls : Array Slot), lv_has ls 4 [(0, .ref x0), (1, .ref h0), (2, .int (nI n)), (3, .int (nI i))] → W p l e rm_X3_goOn s m args below meth c H locs 0 0 Q (F0 m 2 ls []) := by
    intro kf2
    induction kf2 with
    | zero =>
      intro i hle2 hlt2
      exact absurd hlt2 (by omega)
    | succ kf2 ih2 =>
      intro i hle2 hlt2 u e_u H locs hP hD hS ls hl
      have ed : vday u = vday v + i := by rw [e_u, vday_dIt]
      have eC : vnC u = vnC v := by rw [e_u, vnC_dIt]
      have eP : vnP u = vnP v := by rw [e_u, vnP_dIt]
      have eK : vnK u = vnK v := by rw [e_u, vnK_dIt]
      refine lv_iload_n hx hb dX3_goOn_2 rfl (lv_at hl 3 rfl) ?_
      refine lv_iload_n hx hb dX3_goOn_3 rfl (lv_at hl 2 rfl) ?_
      refine lv_icmp_ge (tgt := 33) hx hb dX3_goOn_4 (by decide) (fun c_1 => ?_) (fun c_1 => ?_)
      · skip
        have c_1n := Int32.not_lt.mpr c_1
        have c_1m := (nI_leI (a := n) (b := i) (by omega) (by omega)).mp c_1
        exact hend _ _ _ _ _ _ u dX3_goOn_33 (by rw [e_u, show i = n by omega]) hP hD hS (Nat.le_of_ble_eq_true rfl) (Nat.le_of_ble_eq_true rfl)
      · skip
        have c_1n := Int32.not_le.mp c_1
        have c_1m := (nI_ltI (a := i) (b := n) (by omega) (by omega)).mp c_1n
        refine lv_aload_n hx hb dX3_goOn_7 rfl (lv_at hl 1 rfl) ?_
        refine lv_aload_n hx hb dX3_goOn_8 rfl (lv_at hl 0 rfl) ?_
        refine lv_aload_n hx hb dX3_goOn_9 rfl (lv_at hl 1 rfl) ?_
        refine va_get (D := D) (ci := 2) (v := .int (nI (vday u))) (C := RX2) (T := TX2) (N := 10) hx hb ht inG_X2 hown hK hP 3 rfl rfl 3 (by decide) (ht _ qF_RX3_230) (fun _ h9 => h9) rfl dX3_goOn_10 ?_
        refine k_i (wr := [(xs, .inl (cI, 7, .inl S)), (h0, .inr (2, [.ref hc, .ref hp, .ref hk, .int (nI (vday u)), .int (vcoal u), .int (vbar u), .int (vfine u), .int (vcrs u), .int (vcoin u), .int (vship u)])), (hc, .inr (0, [.ref hc1, .ref hc2, .ref hc3, .ref hc4, .int (nI (vnC u))])), (hc1, .inl (cI, 4, .inl (vsh u))), (hc2, .inl (cI, 4, .inl (vco u))), (hc3, .inl (cI, 4, .inl (vbu u))), (hc4, .inl (cZ, 4, .inl (vfl u))), (hp, .inr (1, [.ref hp1, .ref hp2, .ref hp3, .int (nI 4), .int (nI (vnP u))])), (hp1, .inl (cI, 4, .inl (vpw u))), (hp2, .inl (cI, 4, .inl (vpa u))), (hp3, .inl (cZ, 4, .inl (vpb u))), (hk, .inr (1, [.ref hk1, .ref hk2, .ref hk3, .int (nI 3), .int (nI (vnK u))])), (hk1, .inl (cI, 4, .inl (vkw u))), (hk2, .inl (cI, 4, .inl (vka u))), (hk3, .inl (cZ, 4, .inl (vkb u)))]) (rV (As := [.int (nI (vday u))]) (rest := [.ref h0]) F hG hK (hP.sub (ws' := [(x0, .inr (3, [.ref xr, .ref xs, .ref n0, .ref b0])), (xr, .inl (cI, 6, .inl R))]) [0, 1] rfl) ((hD.sub (ws' := [(x0, .inr (3, [.ref xr, .ref xs, .ref n0, .ref b0])), (xr, .inl (cI, 6, .inl R))]) [0, 1] (by decide) rfl).weaken (fun _ _ _ _ => trivial)) s_RX3_233 (c_X3_rainOf l D cI cZ cJ x0 xr xs n0 b0 R (vday u) (by first | assumption | omega) _) 3 0 rfl rfl rfl rfl hl.1 rfl (Nat.le_of_ble_eq_true rfl) dX3_goOn_13 ⟨(Nat.le_of_ble_eq_true rfl), (Nat.le_of_ble_eq_true rfl)⟩ ⟨(Nat.le_of_ble_eq_true rfl), (Nat.le_of_ble_eq_true rfl)⟩) hP hD hS hA [0, 1] [2, 3, 4, 5, 6, 7, 8, 9, 10, 11, 12, 13, 14, 15, 16] rfl rfl (by decide) (by decide) (fun r_13 uu H locs hw hP hD hS => ?_)
        try dsimp only at hw
        subst hw
        have hP : va_P D vwCl [(xs, .inl (cI, 7, .inl S)), (h0, .inr (2, [.ref hc, .ref hp, .ref hk, .int (nI (vday u)), .int (vcoal u), .int (vbar u), .int (vfine u), .int (vcrs u), .int (vcoin u), .int (vship u)])), (hc, .inr (0, [.ref hc1, .ref hc2, .ref hc3, .ref hc4, .int (nI (vnC u))])), (hc1, .inl (cI, 4, .inl (vsh u))), (hc2, .inl (cI, 4, .inl (vco u))), (hc3, .inl (cI, 4, .inl (vbu u))), (hc4, .inl (cZ, 4, .inl (vfl u))), (hp, .inr (1, [.ref hp1, .ref hp2, .ref hp3, .int (nI 4), .int (nI (vnP u))])), (hp1, .inl (cI, 4, .inl (vpw u))), (hp2, .inl (cI, 4, .inl (vpa u))), (hp3, .inl (cZ, 4, .inl (vpb u))), (hk, .inr (1, [.ref hk1, .ref hk2, .ref hk3, .int (nI 3), .int (nI (vnK u))])), (hk1, .inl (cI, 4, .inl (vkw u))), (hk2, .inl (cI, 4, .inl (vka u))), (hk3, .inl (cZ, 4, .inl (vkb u))), (x0, .inr (3, [.ref xr, .ref xs, .ref n0, .ref b0])), (xr, .inl (cI, 6, .inl R))] _ := hP
        have hD : va_D A [(xs, .inl (cI, 7, .inl S)), (h0, .inr (2, [.ref hc, .ref hp, .ref hk, .int (nI (vday u)), .int (vcoal u), .int (vbar u), .int (vfine u), .int (vcrs u), .int (vcoin u), .int (vship u)])), (hc, .inr (0, [.ref hc1, .ref hc2, .ref hc3, .ref hc4, .int (nI (vnC u))])), (hc1, .inl (cI, 4, .inl (vsh u))), (hc2, .inl (cI, 4, .inl (vco u))), (hc3, .inl (cI, 4, .inl (vbu u))), (hc4, .inl (cZ, 4, .inl (vfl u))), (hp, .inr (1, [.ref hp1, .ref hp2, .ref hp3, .int (nI 4), .int (nI (vnP u))])), (hp1, .inl (cI, 4, .inl (vpw u))), (hp2, .inl (cI, 4, .inl (vpa u))), (hp3, .inl (cZ, 4, .inl (vpb u))), (hk, .inr (1, [.ref hk1, .ref hk2, .ref hk3, .int (nI 3), .int (nI (vnK u))])), (hk1, .inl (cI, 4, .inl (vkw u))), (hk2, .inl (cI, 4, .inl (vka u))), (hk3, .inl (cZ, 4, .inl (vkb u))), (x0, .inr (3, [.ref xr, .ref xs, .ref n0, .ref b0])), (xr, .inl (cI, 6, .inl R))] := hD
        refine t_i (vR u (vday u % 6)) (by rw [e_u, vR_dIt, hvR]) ?_
        refine lv_aload_n hx hb dX3_goOn_16 rfl (lv_at hl 0 rfl) ?_
        refine lv_aload_n hx hb dX3_goOn_17 rfl (lv_at hl 1 rfl) ?_
        refine va_get (D := D) (ci := 2) (v := .int (nI (vday u))) (C := RX2) (T := TX2) (N := 10) hx hb ht inG_X2 hown hK hP 1 rfl rfl 3 (by decide) (ht _ qF_RX3_230) (fun _ h9 => h9) rfl dX3_goOn_18 ?_
        refine k_i (wr := [(h0, .inr (2, [.ref hc, .ref hp, .ref hk, .int (nI (vday u)), .int (vcoal u), .int (vbar u), .int (vfine u), .int (vcrs u), .int (vcoin u), .int (vship u)])), (hc, .inr (0, [.ref hc1, .ref hc2, .ref hc3, .ref hc4, .int (nI (vnC u))])), (hc1, .inl (cI, 4, .inl (vsh u))), (hc2, .inl (cI, 4, .inl (vco u))), (hc3, .inl (cI, 4, .inl (vbu u))), (hc4, .inl (cZ, 4, .inl (vfl u))), (hp, .inr (1, [.ref hp1, .ref hp2, .ref hp3, .int (nI 4), .int (nI (vnP u))])), (hp1, .inl (cI, 4, .inl (vpw u))), (hp2, .inl (cI, 4, .inl (vpa u))), (hp3, .inl (cZ, 4, .inl (vpb u))), (hk, .inr (1, [.ref hk1, .ref hk2, .ref hk3, .int (nI 3), .int (nI (vnK u))])), (hk1, .inl (cI, 4, .inl (vkw u))), (hk2, .inl (cI, 4, .inl (vka u))), (hk3, .inl (cZ, 4, .inl (vkb u))), (xr, .inl (cI, 6, .inl R))]) (rV (As := [.int (nI (vday u))]) (rest := [.int (vR u (vday u % 6)), .ref h0]) F hG hK (hP.sub (ws' := [(x0, .inr (3, [.ref xr, .ref xs, .ref n0, .ref b0])), (xs, .inl (cI, 7, .inl S))]) [15, 0] rfl) ((hD.sub (ws' := [(x0, .inr (3, [.ref xr, .ref xs, .ref n0, .ref b0])), (xs, .inl (cI, 7, .inl S))]) [15, 0] (by decide) rfl).weaken (fun _ _ _ _ => trivial)) s_RX3_236 (c_X3_shipOf l D cI cZ cJ x0 xr xs n0 b0 S (vday u) (by first | assumption | omega) _) 3 0 rfl rfl rfl rfl hl.1 rfl (Nat.le_of_ble_eq_true rfl) dX3_goOn_21 ⟨(Nat.le_of_ble_eq_true rfl), (Nat.le_of_ble_eq_true rfl)⟩ ⟨(Nat.le_of_ble_eq_true rfl), (Nat.le_of_ble_eq_true rfl)⟩) hP hD hS hA [15, 0] [1, 2, 3, 4, 5, 6, 7, 8, 9, 10, 11, 12, 13, 14, 16] rfl rfl (by decide) (by decide) (fun r_21 uu H locs hw hP hD hS => ?_)
        try dsimp only at hw
        subst hw
        have hP : va_P D vwCl [(h0, .inr (2, [.ref hc, .ref hp, .ref hk, .int (nI (vday u)), .int (vcoal u), .int (vbar u), .int (vfine u), .int (vcrs u), .int (vcoin u), .int (vship u)])), (hc, .inr (0, [.ref hc1, .ref hc2, .ref hc3, .ref hc4, .int (nI (vnC u))])), (hc1, .inl (cI, 4, .inl (vsh u))), (hc2, .inl (cI, 4, .inl (vco u))), (hc3, .inl (cI, 4, .inl (vbu u))), (hc4, .inl (cZ, 4, .inl (vfl u))), (hp, .inr (1, [.ref hp1, .ref hp2, .ref hp3, .int (nI 4), .int (nI (vnP u))])), (hp1, .inl (cI, 4, .inl (vpw u))), (hp2, .inl (cI, 4, .inl (vpa u))), (hp3, .inl (cZ, 4, .inl (vpb u))), (hk, .inr (1, [.ref hk1, .ref hk2, .ref hk3, .int (nI 3), .int (nI (vnK u))])), (hk1, .inl (cI, 4, .inl (vkw u))), (hk2, .inl (cI, 4, .inl (vka u))), (hk3, .inl (cZ, 4, .inl (vkb u))), (xr, .inl (cI, 6, .inl R)), (x0, .inr (3, [.ref xr, .ref xs, .ref n0, .ref b0])), (xs, .inl (cI, 7, .inl S))] _ := hP
        have hD : va_D A [(h0, .inr (2, [.ref hc, .ref hp, .ref hk, .int (nI (vday u)), .int (vcoal u), .int (vbar u), .int (vfine u), .int (vcrs u), .int (vcoin u), .int (vship u)])), (hc, .inr (0, [.ref hc1, .ref hc2, .ref hc3, .ref hc4, .int (nI (vnC u))])), (hc1, .inl (cI, 4, .inl (vsh u))), (hc2, .inl (cI, 4, .inl (vco u))), (hc3, .inl (cI, 4, .inl (vbu u))), (hc4, .inl (cZ, 4, .inl (vfl u))), (hp, .inr (1, [.ref hp1, .ref hp2, .ref hp3, .int (nI 4), .int (nI (vnP u))])), (hp1, .inl (cI, 4, .inl (vpw u))), (hp2, .inl (cI, 4, .inl (vpa u))), (hp3, .inl (cZ, 4, .inl (vpb u))), (hk, .inr (1, [.ref hk1, .ref hk2, .ref hk3, .int (nI 3), .int (nI (vnK u))])), (hk1, .inl (cI, 4, .inl (vkw u))), (hk2, .inl (cI, 4, .inl (vka u))), (hk3, .inl (cZ, 4, .inl (vkb u))), (xr, .inl (cI, 6, .inl R)), (x0, .inr (3, [.ref xr, .ref xs, .ref n0, .ref b0])), (xs, .inl (cI, 7, .inl S))] := hD
        refine t_i (vS u (vday u % 7)) (by rw [e_u, vS_dIt, hvS]) ?_
        refine k_v (wr := [(hp2, .inl (cI, 4, .inl (vpa u))), (hp3, .inl (cZ, 4, .inl (vpb u))), (hk2, .inl (cI, 4, .inl (vka u))), (xr, .inl (cI, 6, .inl R)), (x0, .inr (3, [.ref xr, .ref xs, .ref n0, .ref b0])), (xs, .inl (cI, 7, .inl S))]) (rV (As := [.int (vR u (vday u % 6)), .int (vS u (vday u % 7))]) (rest := []) F hG hK (hP.sub (ws' := [(h0, .inr (2, [.ref hc, .ref hp, .ref hk, .int (nI (vday u)), .int (vcoal u), .int (vbar u), .int (vfine u), .int (vcrs u), .int (vcoin u), .int (vship u)])), (hc, .inr (0, [.ref hc1, .ref hc2, .ref hc3, .ref hc4, .int (nI (vnC u))])), (hc1, .inl (cI, 4, .inl (vsh u))), (hc2, .inl (cI, 4, .inl (vco u))), (hc3, .inl (cI, 4, .inl (vbu u))), (hc4, .inl (cZ, 4, .inl (vfl u))), (hp, .inr (1, [.ref hp1, .ref hp2, .ref hp3, .int (nI 4), .int (nI (vnP u))])), (hp1, .inl (cI, 4, .inl (vpw u))), (hk, .inr (1, [.ref hk1, .ref hk2, .ref hk3, .int (nI 3), .int (nI (vnK u))])), (hk1, .inl (cI, 4, .inl (vkw u))), (hk3, .inl (cZ, 4, .inl (vkb u)))]) [0, 1, 2, 3, 4, 5, 6, 7, 10, 11, 13] rfl) ((hD.sub (ws' := [(h0, .inr (2, [.ref hc, .ref hp, .ref hk, .int (nI (vday u)), .int (vcoal u), .int (vbar u), .int (vfine u), .int (vcrs u), .int (vcoin u), .int (vship u)])), (hc, .inr (0, [.ref hc1, .ref hc2, .ref hc3, .ref hc4, .int (nI (vnC u))])), (hc1, .inl (cI, 4, .inl (vsh u))), (hc2, .inl (cI, 4, .inl (vco u))), (hc3, .inl (cI, 4, .inl (vbu u))), (hc4, .inl (cZ, 4, .inl (vfl u))), (hp, .inr (1, [.ref hp1, .ref hp2, .ref hp3, .int (nI 4), .int (nI (vnP u))])), (hp1, .inl (cI, 4, .inl (vpw u))), (hk, .inr (1, [.ref hk1, .ref hk2, .ref hk3, .int (nI 3), .int (nI (vnK u))])), (hk1, .inl (cI, 4, .inl (vkw u))), (hk3, .inl (cZ, 4, .inl (vkb u)))]) [0, 1, 2, 3, 4, 5, 6, 7, 10, 11, 13] (by decide) rfl).weaken (fun _ _ _ _ => trivial)) s_RX3_239 (c_X2_letDayGo l D cI cZ cJ h0 hc hp hk hc1 hc2 hc3 hc4 hp1 hp2 hp3 4 hk1 hk2 hk3 3 (vday u) (vcoal u) (vbar u) (vfine u) (vcrs u) (vcoin u) (vship u) (vsh u) (vco u) (vbu u) (vfl u) (vpw u) (vkw u) (vkb u) (vnC u) (vnP u) (vnK u) (vR u (vday u % 6)) (vS u (vday u % 7)) (by first | assumption | omega) (by first | assumption | omega) (by first | assumption | omega) _) 2 0 rfl rfl rfl rfl hl.1 rfl (Nat.le_of_ble_eq_true rfl) dX3_goOn_24 ⟨(Nat.le_of_ble_eq_true rfl), (Nat.le_of_ble_eq_true rfl)⟩ ⟨(Nat.le_of_ble_eq_true rfl), (Nat.le_of_ble_eq_true rfl)⟩) hP hD hS hA [0, 1, 2, 3, 4, 5, 6, 7, 10, 11, 13] [8, 9, 12, 14, 15, 16] rfl rfl (by decide) (by decide) (fun uu H locs hw hP hD hS => ?_)
        try dsimp only at hw
        have hP : va_P D vwCl [(hp2, .inl (cI, 4, .inl (vpa u))), (hp3, .inl (cZ, 4, .inl (vpb u))), (hk2, .inl (cI, 4, .inl (vka u))), (xr, .inl (cI, 6, .inl R)), (x0, .inr (3, [.ref xr, .ref xs, .ref n0, .ref b0])), (xs, .inl (cI, 7, .inl S)), (h0, .inr (2, [.ref hc, .ref hp, .ref hk, .int (nI ((vday u) + 1)), .int (cN (vkw u) (vkb u) (vcoal u) (vnK u)), .int (vbar u), .int ((vfine u) - mn (vS u (vday u % 7)) (vfine u)), .int ((vcrs u) - mn ((vS u (vday u % 7)) - mn (vS u (vday u % 7)) (vfine u)) (vcrs u)), .int ((vcoin u) + (5 * mn (vS u (vday u % 7)) (vfine u) + 2 * mn ((vS u (vday u % 7)) - mn (vS u (vday u % 7)) (vfine u)) (vcrs u))), .int ((vship u) + (mn (vS u (vday u % 7)) (vfine u) + mn ((vS u (vday u % 7)) - mn (vS u (vday u % 7)) (vfine u)) (vcrs u)))])), (hc, .inr (0, [.ref hc1, .ref hc2, .ref hc3, .ref hc4, .int (nI (vnC u))])), (hc1, .inl (cI, 4, .inl (rowF (vnC u) (fSh (vR u (vday u % 6)) (vsh u) (vfl u)) (vsh u)))), (hc2, .inl (cI, 4, .inl (rowF (vnC u) (fCo (vco u) (vfl u)) (vco u)))), (hc3, .inl (cI, 4, .inl (rowF (vnC u) (fBu (vR u (vday u % 6)) (vsh u) (vbu u) (vfl u)) (vbu u)))), (hc4, .inl (cZ, 4, .inl (rowF (vnC u) (fFl (vR u (vday u % 6)) (vsh u) (vco u) (vfl u)) (vfl u)))), (hp, .inr (1, [.ref hp1, .ref hp2, .ref hp3, .int (nI 4), .int (nI (vnP u))])), (hp1, .inl (cI, 4, .inl (rowF (vnP u) (fun j => wth (vR u (vday u % 6)) ((vpw u) j)) (vpw u)))), (hk, .inr (1, [.ref hk1, .ref hk2, .ref hk3, .int (nI 3), .int (nI (vnK u))])), (hk1, .inl (cI, 4, .inl (rowF (vnK u) (fKw (vkw u) (vkb u) (cN (vkw u) (vkb u) (vcoal u))) (vkw u)))), (hk3, .inl (cZ, 4, .inl (rowF (vnK u) (fKb (vkw u) (vkb u) (cN (vkw u) (vkb u) (vcoal u))) (vkb u))))] _ := hP
        have hD : va_D A [(hp2, .inl (cI, 4, .inl (vpa u))), (hp3, .inl (cZ, 4, .inl (vpb u))), (hk2, .inl (cI, 4, .inl (vka u))), (xr, .inl (cI, 6, .inl R)), (x0, .inr (3, [.ref xr, .ref xs, .ref n0, .ref b0])), (xs, .inl (cI, 7, .inl S)), (h0, .inr (2, [.ref hc, .ref hp, .ref hk, .int (nI ((vday u) + 1)), .int (cN (vkw u) (vkb u) (vcoal u) (vnK u)), .int (vbar u), .int ((vfine u) - mn (vS u (vday u % 7)) (vfine u)), .int ((vcrs u) - mn ((vS u (vday u % 7)) - mn (vS u (vday u % 7)) (vfine u)) (vcrs u)), .int ((vcoin u) + (5 * mn (vS u (vday u % 7)) (vfine u) + 2 * mn ((vS u (vday u % 7)) - mn (vS u (vday u % 7)) (vfine u)) (vcrs u))), .int ((vship u) + (mn (vS u (vday u % 7)) (vfine u) + mn ((vS u (vday u % 7)) - mn (vS u (vday u % 7)) (vfine u)) (vcrs u)))])), (hc, .inr (0, [.ref hc1, .ref hc2, .ref hc3, .ref hc4, .int (nI (vnC u))])), (hc1, .inl (cI, 4, .inl (rowF (vnC u) (fSh (vR u (vday u % 6)) (vsh u) (vfl u)) (vsh u)))), (hc2, .inl (cI, 4, .inl (rowF (vnC u) (fCo (vco u) (vfl u)) (vco u)))), (hc3, .inl (cI, 4, .inl (rowF (vnC u) (fBu (vR u (vday u % 6)) (vsh u) (vbu u) (vfl u)) (vbu u)))), (hc4, .inl (cZ, 4, .inl (rowF (vnC u) (fFl (vR u (vday u % 6)) (vsh u) (vco u) (vfl u)) (vfl u)))), (hp, .inr (1, [.ref hp1, .ref hp2, .ref hp3, .int (nI 4), .int (nI (vnP u))])), (hp1, .inl (cI, 4, .inl (rowF (vnP u) (fun j => wth (vR u (vday u % 6)) ((vpw u) j)) (vpw u)))), (hk, .inr (1, [.ref hk1, .ref hk2, .ref hk3, .int (nI 3), .int (nI (vnK u))])), (hk1, .inl (cI, 4, .inl (rowF (vnK u) (fKw (vkw u) (vkb u) (cN (vkw u) (vkb u) (vcoal u))) (vkw u)))), (hk3, .inl (cZ, 4, .inl (rowF (vnK u) (fKb (vkw u) (vkb u) (cN (vkw u) (vkb u) (vcoal u))) (vkb u))))] := hD
        refine lv_iinc (v := nI (i + 1)) (lv' := [(3, .int (nI (i + 1))), (0, .ref x0), (1, .ref h0), (2, .int (nI n))]) hx hb dX3_goOn_27 hl (k := 3) rfl (nI_1 i) (by decide) rfl (fun ls hl => ?_)
        refine lv_goto (tgt := 2) hx hb dX3_goOn_30 (by decide) ?_
        exact ih2 (i + 1) (by omega) (by omega) (dayV u) (by rw [e_u]; rfl) _ _ (hP.sub [4, 3, 5, 6, 7, 8, 9, 10, 11, 12, 13, 0, 1, 14, 15, 2, 16] rfl) (hD.sub [4, 3, 5, 6, 7, 8, 9, 10, 11, 12, 13, 0, 1, 14, 15, 2, 16] (by decide) rfl) hS _ (lv_sub hl [1, 2, 3, 0] rfl)
  exact loop2 (n + 1) 0 (Nat.zero_le _) (by omega) v rfl _ _ (hP.sub [0, 1, 2, 3, 4, 5, 6, 7, 8, 9, 10, 11, 12, 13, 14, 15, 16] rfl) (hD.sub [0, 1, 2, 3, 4, 5, 6, 7, 8, 9, 10, 11, 12, 13, 14, 15, 16] (by decide) rfl) hS _ (lv_sub hl [1, 2, 3, 0] rfl)

def rm_X3_countIn : Room := { frames := 2, cells := 0, slots := 0, locals := 43 }
set_option maxHeartbeats 4000000 in
set_option maxRecDepth 100000 in
theorem c_X3_countIn (l : Launch) (D : va_G) (cI cZ cJ : ClassId) (x0 xr xs n0 b0 : Nat) (h0 hc hp hk hc1 hc2 hc3 hc4 hp1 hp2 hp3 hk1 hk2 hk3 : Nat) (v : VT) (R : Nat → Int32) (x : Int32) (hC4 : vnC v ≤ 4) (hP4 : vnP v ≤ 4) (hK3 : vnK v ≤ 3) (hd : vday v < 2147483648) : Mi l yX3_countIn cX3_countIn 3 (some .int) rm_X3_countIn D (TY cI cZ cJ) [.ref x0, .ref h0, .int x] [(x0, .inr (3, [.ref xr, .ref xs, .ref n0, .ref b0])), (xr, .inl (cI, 6, .inl R)), (h0, .inr (2, [.ref hc, .ref hp, .ref hk, .int (nI (vday v)), .int (vcoal v), .int (vbar v), .int (vfine v), .int (vcrs v), .int (vcoin v), .int (vship v)])), (hc, .inr (0, [.ref hc1, .ref hc2, .ref hc3, .ref hc4, .int (nI (vnC v))])), (hc4, .inl (cZ, 4, .inl (vfl v))), (hp, .inr (1, [.ref hp1, .ref hp2, .ref hp3, .int (nI 4), .int (nI (vnP v))])), (hp2, .inl (cI, 4, .inl (vpa v))), (hk, .inr (1, [.ref hk1, .ref hk2, .ref hk3, .int (nI 3), .int (nI (vnK v))])), (hk2, .inl (cI, 4, .inl (vka v)))] (fun (r : Int32) (u : Unit) => r = cntR R v x) (fun (u : Unit) => [(x0, .inr (3, [.ref xr, .ref xs, .ref n0, .ref b0])), (xr, .inl (cI, 6, .inl R)), (h0, .inr (2, [.ref hc, .ref hp, .ref hk, .int (nI (vday v)), .int (vcoal v), .int (vbar v), .int (vfine v), .int (vcrs v), .int (vcoin v), .int (vship v)])), (hc, .inr (0, [.ref hc1, .ref hc2, .ref hc3, .ref hc4, .int (nI (vnC v))])), (hc4, .inl (cZ, 4, .inl (vfl v))), (hp, .inr (1, [.ref hp1, .ref hp2, .ref hp3, .int (nI 4), .int (nI (vnP v))])), (hp2, .inl (cI, 4, .inl (vpa v))), (hk, .inr (1, [.ref hk1, .ref hk2, .ref hk3, .int (nI 3), .int (nI (vnK v))])), (hk2, .inl (cI, 4, .inl (vka v)))]) := by
  refine Mi.ofQ (by decide) (Nat.le_of_ble_eq_true rfl) ?_
  intro p e s m args below meth c A ls Q hF hK hP hD hA hl hend
  obtain ⟨F, hr, hlocks, hG⟩ := hF
  have hx := F.1
  have hb := F.2.1
  have hown := F.2.2.2.1
  have ht := F.2.2.2.2
  have hS : va_S A s.heap s.heap [] := va_S.rf
  have hl : lv_has ls 3 [(0, .ref x0), (1, .ref h0), (2, .int x)] := hl
  refine lv_iload_n hx hb dX3_countIn_0 rfl (lv_at hl 2 rfl) ?_
  have w_1 : Int32.toInt x = 0 ∨ Int32.toInt x = 1 ∨ Int32.toInt x = 2 ∨ Int32.toInt x = 3 ∨ Int32.toInt x = 4 ∨ Int32.toInt x = 5 ∨ Int32.toInt x = 6 ∨ Int32.toInt x = 7 ∨ Int32.toInt x = 8 ∨ (Int32.toInt x < 0 ∨ 8 < Int32.toInt x) := by omega
  rcases w_1 with w_1 | w_1 | w_1 | w_1 | w_1 | w_1 | w_1 | w_1 | w_1 | w_1
  · skip
    refine lv_tableIn (off := 51) (tgt := 52) hx hb dX3_countIn_1 (by rw [w_1]; decide) (by rw [w_1]; decide) (by rw [w_1]; rfl) (by decide) ?_
    have w_1e : x = 0 := Int32.toInt_inj.mp w_1
    have w_1n1 : ¬ x = 1 := fun q => by rw [q] at w_1; revert w_1; decide
    have w_1n2 : ¬ x = 2 := fun q => by rw [q] at w_1; revert w_1; decide
    have w_1n3 : ¬ x = 3 := fun q => by rw [q] at w_1; revert w_1; decide
    have w_1n4 : ¬ x = 4 := fun q => by rw [q] at w_1; revert w_1; decide
    have w_1n5 : ¬ x = 5 := fun q => by rw [q] at w_1; revert w_1; decide
    have w_1n6 : ¬ x = 6 := fun q => by rw [q] at w_1; revert w_1; decide
    have w_1n7 : ¬ x = 7 := fun q => by rw [q] at w_1; revert w_1; decide
    have w_1n8 : ¬ x = 8 := fun q => by rw [q] at w_1; revert w_1; decide
    refine lv_aload_n hx hb dX3_countIn_52 rfl (lv_at hl 1 rfl) ?_
    refine va_get (D := D) (ci := 2) (v := .int (nI (vday v))) (C := RX2) (T := TX2) (N := 10) hx hb ht inG_X2 hown hK hP 2 rfl rfl 3 (by decide) (ht _ qF_RX3_230) (fun _ h9 => h9) rfl dX3_countIn_53 ?_
    exact hend _ _ _ _ _ _ (nI (vday v)) () dX3_countIn_56 (by simp only [cntR, eq_true w_1e, eq_false w_1n1, eq_false w_1n2, eq_false w_1n3, eq_false w_1n4, eq_false w_1n5, eq_false w_1n6, eq_false w_1n7, eq_false w_1n8, if_true, if_false]) hP hD hS rfl (Nat.le_of_ble_eq_true rfl) (Nat.le_of_ble_eq_true rfl)
  · skip
    refine lv_tableIn (off := 56) (tgt := 57) hx hb dX3_countIn_1 (by rw [w_1]; decide) (by rw [w_1]; decide) (by rw [w_1]; rfl) (by decide) ?_
    have w_1e : x = 1 := Int32.toInt_inj.mp w_1
    have w_1n0 : ¬ x = 0 := fun q => by rw [q] at w_1; revert w_1; decide
    have w_1n2 : ¬ x = 2 := fun q => by rw [q] at w_1; revert w_1; decide
    have w_1n3 : ¬ x = 3 := fun q => by rw [q] at w_1; revert w_1; decide
    have w_1n4 : ¬ x = 4 := fun q => by rw [q] at w_1; revert w_1; decide
    have w_1n5 : ¬ x = 5 := fun q => by rw [q] at w_1; revert w_1; decide
    have w_1n6 : ¬ x = 6 := fun q => by rw [q] at w_1; revert w_1; decide
    have w_1n7 : ¬ x = 7 := fun q => by rw [q] at w_1; revert w_1; decide
    have w_1n8 : ¬ x = 8 := fun q => by rw [q] at w_1; revert w_1; decide
    refine lv_aload_n hx hb dX3_countIn_57 rfl (lv_at hl 0 rfl) ?_
    refine lv_aload_n hx hb dX3_countIn_58 rfl (lv_at hl 1 rfl) ?_
    refine va_get (D := D) (ci := 2) (v := .int (nI (vday v))) (C := RX2) (T := TX2) (N := 10) hx hb ht inG_X2 hown hK hP 2 rfl rfl 3 (by decide) (ht _ qF_RX3_230) (fun _ h9 => h9) rfl dX3_countIn_59 ?_
    refine k_i (wr := [(h0, .inr (2, [.ref hc, .ref hp, .ref hk, .int (nI (vday v)), .int (vcoal v), .int (vbar v), .int (vfine v), .int (vcrs v), .int (vcoin v), .int (vship v)])), (hc, .inr (0, [.ref hc1, .ref hc2, .ref hc3, .ref hc4, .int (nI (vnC v))])), (hc4, .inl (cZ, 4, .inl (vfl v))), (hp, .inr (1, [.ref hp1, .ref hp2, .ref hp3, .int (nI 4), .int (nI (vnP v))])), (hp2, .inl (cI, 4, .inl (vpa v))), (hk, .inr (1, [.ref hk1, .ref hk2, .ref hk3, .int (nI 3), .int (nI (vnK v))])), (hk2, .inl (cI, 4, .inl (vka v)))]) (rV (As := [.int (nI (vday v))]) (rest := []) F hG hK (hP.sub (ws' := [(x0, .inr (3, [.ref xr, .ref xs, .ref n0, .ref b0])), (xr, .inl (cI, 6, .inl R))]) [0, 1] rfl) ((hD.sub (ws' := [(x0, .inr (3, [.ref xr, .ref xs, .ref n0, .ref b0])), (xr, .inl (cI, 6, .inl R))]) [0, 1] (by decide) rfl).weaken (fun _ _ _ _ => trivial)) s_RX3_233 (c_X3_rainOf l D cI cZ cJ x0 xr xs n0 b0 R (vday v) (by first | assumption | omega) _) 3 0 rfl rfl rfl rfl hl.1 rfl (Nat.le_of_ble_eq_true rfl) dX3_countIn_62 ⟨(Nat.le_of_ble_eq_true rfl), (Nat.le_of_ble_eq_true rfl)⟩ ⟨(Nat.le_of_ble_eq_true rfl), (Nat.le_of_ble_eq_true rfl)⟩) hP hD hS hA [0, 1] [2, 3, 4, 5, 6, 7, 8] rfl rfl (by decide) (by decide) (fun r_62 uu H locs hw hP hD hS => ?_)
    try dsimp only at hw
    subst hw
    have hP : va_P D vwCl [(h0, .inr (2, [.ref hc, .ref hp, .ref hk, .int (nI (vday v)), .int (vcoal v), .int (vbar v), .int (vfine v), .int (vcrs v), .int (vcoin v), .int (vship v)])), (hc, .inr (0, [.ref hc1, .ref hc2, .ref hc3, .ref hc4, .int (nI (vnC v))])), (hc4, .inl (cZ, 4, .inl (vfl v))), (hp, .inr (1, [.ref hp1, .ref hp2, .ref hp3, .int (nI 4), .int (nI (vnP v))])), (hp2, .inl (cI, 4, .inl (vpa v))), (hk, .inr (1, [.ref hk1, .ref hk2, .ref hk3, .int (nI 3), .int (nI (vnK v))])), (hk2, .inl (cI, 4, .inl (vka v))), (x0, .inr (3, [.ref xr, .ref xs, .ref n0, .ref b0])), (xr, .inl (cI, 6, .inl R))] _ := hP
    have hD : va_D A [(h0, .inr (2, [.ref hc, .ref hp, .ref hk, .int (nI (vday v)), .int (vcoal v), .int (vbar v), .int (vfine v), .int (vcrs v), .int (vcoin v), .int (vship v)])), (hc, .inr (0, [.ref hc1, .ref hc2, .ref hc3, .ref hc4, .int (nI (vnC v))])), (hc4, .inl (cZ, 4, .inl (vfl v))), (hp, .inr (1, [.ref hp1, .ref hp2, .ref hp3, .int (nI 4), .int (nI (vnP v))])), (hp2, .inl (cI, 4, .inl (vpa v))), (hk, .inr (1, [.ref hk1, .ref hk2, .ref hk3, .int (nI 3), .int (nI (vnK v))])), (hk2, .inl (cI, 4, .inl (vka v))), (x0, .inr (3, [.ref xr, .ref xs, .ref n0, .ref b0])), (xr, .inl (cI, 6, .inl R))] := hD
    exact hend _ _ _ _ _ _ (R ((vday v) % 6)) () dX3_countIn_65 (by simp only [cntR, eq_true w_1e, eq_false w_1n0, eq_false w_1n2, eq_false w_1n3, eq_false w_1n4, eq_false w_1n5, eq_false w_1n6, eq_false w_1n7, eq_false w_1n8, if_true, if_false]) (hP.sub [7, 8, 0, 1, 2, 3, 4, 5, 6] rfl) (hD.sub [7, 8, 0, 1, 2, 3, 4, 5, 6] (by decide) rfl) hS rfl (Nat.le_of_ble_eq_true rfl) (Nat.le_of_ble_eq_true rfl)
  · skip
    refine lv_tableIn (off := 65) (tgt := 66) hx hb dX3_countIn_1 (by rw [w_1]; decide) (by rw [w_1]; decide) (by rw [w_1]; rfl) (by decide) ?_
    have w_1e : x = 2 := Int32.toInt_inj.mp w_1
    have w_1n0 : ¬ x = 0 := fun q => by rw [q] at w_1; revert w_1; decide
    have w_1n1 : ¬ x = 1 := fun q => by rw [q] at w_1; revert w_1; decide
    have w_1n3 : ¬ x = 3 := fun q => by rw [q] at w_1; revert w_1; decide
    have w_1n4 : ¬ x = 4 := fun q => by rw [q] at w_1; revert w_1; decide
    have w_1n5 : ¬ x = 5 := fun q => by rw [q] at w_1; revert w_1; decide
    have w_1n6 : ¬ x = 6 := fun q => by rw [q] at w_1; revert w_1; decide
    have w_1n7 : ¬ x = 7 := fun q => by rw [q] at w_1; revert w_1; decide
    have w_1n8 : ¬ x = 8 := fun q => by rw [q] at w_1; revert w_1; decide
    refine lv_aload_n hx hb dX3_countIn_66 rfl (lv_at hl 1 rfl) ?_
    refine va_get (D := D) (ci := 2) (v := .int (vcoal v)) (C := RX2) (T := TX2) (N := 10) hx hb ht inG_X2 hown hK hP 2 rfl rfl 4 (by decide) (ht _ qF_RX3_42) (fun _ h9 => h9) rfl dX3_countIn_67 ?_
    exact hend _ _ _ _ _ _ (vcoal v) () dX3_countIn_70 (by simp only [cntR, eq_true w_1e, eq_false w_1n0, eq_false w_1n1, eq_false w_1n3, eq_false w_1n4, eq_false w_1n5, eq_false w_1n6, eq_false w_1n7, eq_false w_1n8, if_true, if_false]) hP hD hS rfl (Nat.le_of_ble_eq_true rfl) (Nat.le_of_ble_eq_true rfl)
  · skip
    refine lv_tableIn (off := 70) (tgt := 71) hx hb dX3_countIn_1 (by rw [w_1]; decide) (by rw [w_1]; decide) (by rw [w_1]; rfl) (by decide) ?_
    have w_1e : x = 3 := Int32.toInt_inj.mp w_1
    have w_1n0 : ¬ x = 0 := fun q => by rw [q] at w_1; revert w_1; decide
    have w_1n1 : ¬ x = 1 := fun q => by rw [q] at w_1; revert w_1; decide
    have w_1n2 : ¬ x = 2 := fun q => by rw [q] at w_1; revert w_1; decide
    have w_1n4 : ¬ x = 4 := fun q => by rw [q] at w_1; revert w_1; decide
    have w_1n5 : ¬ x = 5 := fun q => by rw [q] at w_1; revert w_1; decide
    have w_1n6 : ¬ x = 6 := fun q => by rw [q] at w_1; revert w_1; decide
    have w_1n7 : ¬ x = 7 := fun q => by rw [q] at w_1; revert w_1; decide
    have w_1n8 : ¬ x = 8 := fun q => by rw [q] at w_1; revert w_1; decide
    refine lv_aload_n hx hb dX3_countIn_71 rfl (lv_at hl 1 rfl) ?_
    refine va_get (D := D) (ci := 2) (v := .int (vbar v)) (C := RX2) (T := TX2) (N := 10) hx hb ht inG_X2 hown hK hP 2 rfl rfl 5 (by decide) (ht _ qF_RX3_52) (fun _ h9 => h9) rfl dX3_countIn_72 ?_
    exact hend _ _ _ _ _ _ (vbar v) () dX3_countIn_75 (by simp only [cntR, eq_true w_1e, eq_false w_1n0, eq_false w_1n1, eq_false w_1n2, eq_false w_1n4, eq_false w_1n5, eq_false w_1n6, eq_false w_1n7, eq_false w_1n8, if_true, if_false]) hP hD hS rfl (Nat.le_of_ble_eq_true rfl) (Nat.le_of_ble_eq_true rfl)
  · skip
    refine lv_tableIn (off := 75) (tgt := 76) hx hb dX3_countIn_1 (by rw [w_1]; decide) (by rw [w_1]; decide) (by rw [w_1]; rfl) (by decide) ?_
    have w_1e : x = 4 := Int32.toInt_inj.mp w_1
    have w_1n0 : ¬ x = 0 := fun q => by rw [q] at w_1; revert w_1; decide
    have w_1n1 : ¬ x = 1 := fun q => by rw [q] at w_1; revert w_1; decide
    have w_1n2 : ¬ x = 2 := fun q => by rw [q] at w_1; revert w_1; decide
    have w_1n3 : ¬ x = 3 := fun q => by rw [q] at w_1; revert w_1; decide
    have w_1n5 : ¬ x = 5 := fun q => by rw [q] at w_1; revert w_1; decide
    have w_1n6 : ¬ x = 6 := fun q => by rw [q] at w_1; revert w_1; decide
    have w_1n7 : ¬ x = 7 := fun q => by rw [q] at w_1; revert w_1; decide
    have w_1n8 : ¬ x = 8 := fun q => by rw [q] at w_1; revert w_1; decide
    refine lv_aload_n hx hb dX3_countIn_76 rfl (lv_at hl 1 rfl) ?_
    refine va_get (D := D) (ci := 2) (v := .int (vfine v)) (C := RX2) (T := TX2) (N := 10) hx hb ht inG_X2 hown hK hP 2 rfl rfl 6 (by decide) (ht _ qF_RX3_155) (fun _ h9 => h9) rfl dX3_countIn_77 ?_
    exact hend _ _ _ _ _ _ (vfine v) () dX3_countIn_80 (by simp only [cntR, eq_true w_1e, eq_false w_1n0, eq_false w_1n1, eq_false w_1n2, eq_false w_1n3, eq_false w_1n5, eq_false w_1n6, eq_false w_1n7, eq_false w_1n8, if_true, if_false]) hP hD hS rfl (Nat.le_of_ble_eq_true rfl) (Nat.le_of_ble_eq_true rfl)
  · skip
    refine lv_tableIn (off := 80) (tgt := 81) hx hb dX3_countIn_1 (by rw [w_1]; decide) (by rw [w_1]; decide) (by rw [w_1]; rfl) (by decide) ?_
    have w_1e : x = 5 := Int32.toInt_inj.mp w_1
    have w_1n0 : ¬ x = 0 := fun q => by rw [q] at w_1; revert w_1; decide
    have w_1n1 : ¬ x = 1 := fun q => by rw [q] at w_1; revert w_1; decide
    have w_1n2 : ¬ x = 2 := fun q => by rw [q] at w_1; revert w_1; decide
    have w_1n3 : ¬ x = 3 := fun q => by rw [q] at w_1; revert w_1; decide
    have w_1n4 : ¬ x = 4 := fun q => by rw [q] at w_1; revert w_1; decide
    have w_1n6 : ¬ x = 6 := fun q => by rw [q] at w_1; revert w_1; decide
    have w_1n7 : ¬ x = 7 := fun q => by rw [q] at w_1; revert w_1; decide
    have w_1n8 : ¬ x = 8 := fun q => by rw [q] at w_1; revert w_1; decide
    refine lv_aload_n hx hb dX3_countIn_81 rfl (lv_at hl 1 rfl) ?_
    refine va_get (D := D) (ci := 2) (v := .int (vcrs v)) (C := RX2) (T := TX2) (N := 10) hx hb ht inG_X2 hown hK hP 2 rfl rfl 7 (by decide) (ht _ qF_RX3_158) (fun _ h9 => h9) rfl dX3_countIn_82 ?_
    exact hend _ _ _ _ _ _ (vcrs v) () dX3_countIn_85 (by simp only [cntR, eq_true w_1e, eq_false w_1n0, eq_false w_1n1, eq_false w_1n2, eq_false w_1n3, eq_false w_1n4, eq_false w_1n6, eq_false w_1n7, eq_false w_1n8, if_true, if_false]) hP hD hS rfl (Nat.le_of_ble_eq_true rfl) (Nat.le_of_ble_eq_true rfl)
  · skip
    refine lv_tableIn (off := 85) (tgt := 86) hx hb dX3_countIn_1 (by rw [w_1]; decide) (by rw [w_1]; decide) (by rw [w_1]; rfl) (by decide) ?_
    have w_1e : x = 6 := Int32.toInt_inj.mp w_1
    have w_1n0 : ¬ x = 0 := fun q => by rw [q] at w_1; revert w_1; decide
    have w_1n1 : ¬ x = 1 := fun q => by rw [q] at w_1; revert w_1; decide
    have w_1n2 : ¬ x = 2 := fun q => by rw [q] at w_1; revert w_1; decide
    have w_1n3 : ¬ x = 3 := fun q => by rw [q] at w_1; revert w_1; decide
    have w_1n4 : ¬ x = 4 := fun q => by rw [q] at w_1; revert w_1; decide
    have w_1n5 : ¬ x = 5 := fun q => by rw [q] at w_1; revert w_1; decide
    have w_1n7 : ¬ x = 7 := fun q => by rw [q] at w_1; revert w_1; decide
    have w_1n8 : ¬ x = 8 := fun q => by rw [q] at w_1; revert w_1; decide
    refine lv_aload_n hx hb dX3_countIn_86 rfl (lv_at hl 1 rfl) ?_
    refine va_get (D := D) (ci := 2) (v := .int (vcoin v)) (C := RX2) (T := TX2) (N := 10) hx hb ht inG_X2 hown hK hP 2 rfl rfl 8 (by decide) (ht _ qF_RX3_183) (fun _ h9 => h9) rfl dX3_countIn_87 ?_
    exact hend _ _ _ _ _ _ (vcoin v) () dX3_countIn_90 (by simp only [cntR, eq_true w_1e, eq_false w_1n0, eq_false w_1n1, eq_false w_1n2, eq_false w_1n3, eq_false w_1n4, eq_false w_1n5, eq_false w_1n7, eq_false w_1n8, if_true, if_false]) hP hD hS rfl (Nat.le_of_ble_eq_true rfl) (Nat.le_of_ble_eq_true rfl)
  · skip
    refine lv_tableIn (off := 90) (tgt := 91) hx hb dX3_countIn_1 (by rw [w_1]; decide) (by rw [w_1]; decide) (by rw [w_1]; rfl) (by decide) ?_
    have w_1e : x = 7 := Int32.toInt_inj.mp w_1
    have w_1n0 : ¬ x = 0 := fun q => by rw [q] at w_1; revert w_1; decide
    have w_1n1 : ¬ x = 1 := fun q => by rw [q] at w_1; revert w_1; decide
    have w_1n2 : ¬ x = 2 := fun q => by rw [q] at w_1; revert w_1; decide
    have w_1n3 : ¬ x = 3 := fun q => by rw [q] at w_1; revert w_1; decide
    have w_1n4 : ¬ x = 4 := fun q => by rw [q] at w_1; revert w_1; decide
    have w_1n5 : ¬ x = 5 := fun q => by rw [q] at w_1; revert w_1; decide
    have w_1n6 : ¬ x = 6 := fun q => by rw [q] at w_1; revert w_1; decide
    have w_1n8 : ¬ x = 8 := fun q => by rw [q] at w_1; revert w_1; decide
    refine lv_aload_n hx hb dX3_countIn_91 rfl (lv_at hl 1 rfl) ?_
    refine va_get (D := D) (ci := 2) (v := .ref hc) (C := RX2) (T := TX2) (N := 10) hx hb ht inG_X2 hown hK hP 2 rfl rfl 0 (by decide) (ht _ qF_RX3_65) (fun _ h9 => h9) rfl dX3_countIn_92 ?_
    refine k_i (wr := [(x0, .inr (3, [.ref xr, .ref xs, .ref n0, .ref b0])), (xr, .inl (cI, 6, .inl R)), (h0, .inr (2, [.ref hc, .ref hp, .ref hk, .int (nI (vday v)), .int (vcoal v), .int (vbar v), .int (vfine v), .int (vcrs v), .int (vcoin v), .int (vship v)])), (hp, .inr (1, [.ref hp1, .ref hp2, .ref hp3, .int (nI 4), .int (nI (vnP v))])), (hp2, .inl (cI, 4, .inl (vpa v))), (hk, .inr (1, [.ref hk1, .ref hk2, .ref hk3, .int (nI 3), .int (nI (vnK v))])), (hk2, .inl (cI, 4, .inl (vka v)))]) (rV (As := []) (rest := []) F hG hK (hP.sub (ws' := [(hc, .inr (0, [.ref hc1, .ref hc2, .ref hc3, .ref hc4, .int (nI (vnC v))])), (hc4, .inl (cZ, 4, .inl (vfl v)))]) [3, 4] rfl) ((hD.sub (ws' := [(hc, .inr (0, [.ref hc1, .ref hc2, .ref hc3, .ref hc4, .int (nI (vnC v))])), (hc4, .inl (cZ, 4, .inl (vfl v)))]) [3, 4] (by decide) rfl).weaken (fun _ _ _ _ => trivial)) s_RX3_243 (c_X0_burning l D cI cZ cJ hc hc1 hc2 hc3 hc4 (vfl v) (vnC v) (by first | assumption | omega) _) 0 0 rfl rfl rfl rfl hl.1 rfl (Nat.le_of_ble_eq_true rfl) dX3_countIn_95 ⟨(Nat.le_of_ble_eq_true rfl), (Nat.le_of_ble_eq_true rfl)⟩ ⟨(Nat.le_of_ble_eq_true rfl), (Nat.le_of_ble_eq_true rfl)⟩) hP hD hS hA [3, 4] [0, 1, 2, 5, 6, 7, 8] rfl rfl (by decide) (by decide) (fun r_95 uu H locs hw hP hD hS => ?_)
    try dsimp only at hw
    subst hw
    have hP : va_P D vwCl [(x0, .inr (3, [.ref xr, .ref xs, .ref n0, .ref b0])), (xr, .inl (cI, 6, .inl R)), (h0, .inr (2, [.ref hc, .ref hp, .ref hk, .int (nI (vday v)), .int (vcoal v), .int (vbar v), .int (vfine v), .int (vcrs v), .int (vcoin v), .int (vship v)])), (hp, .inr (1, [.ref hp1, .ref hp2, .ref hp3, .int (nI 4), .int (nI (vnP v))])), (hp2, .inl (cI, 4, .inl (vpa v))), (hk, .inr (1, [.ref hk1, .ref hk2, .ref hk3, .int (nI 3), .int (nI (vnK v))])), (hk2, .inl (cI, 4, .inl (vka v))), (hc, .inr (0, [.ref hc1, .ref hc2, .ref hc3, .ref hc4, .int (nI (vnC v))])), (hc4, .inl (cZ, 4, .inl (vfl v)))] _ := hP
    have hD : va_D A [(x0, .inr (3, [.ref xr, .ref xs, .ref n0, .ref b0])), (xr, .inl (cI, 6, .inl R)), (h0, .inr (2, [.ref hc, .ref hp, .ref hk, .int (nI (vday v)), .int (vcoal v), .int (vbar v), .int (vfine v), .int (vcrs v), .int (vcoin v), .int (vship v)])), (hp, .inr (1, [.ref hp1, .ref hp2, .ref hp3, .int (nI 4), .int (nI (vnP v))])), (hp2, .inl (cI, 4, .inl (vpa v))), (hk, .inr (1, [.ref hk1, .ref hk2, .ref hk3, .int (nI 3), .int (nI (vnK v))])), (hk2, .inl (cI, 4, .inl (vka v))), (hc, .inr (0, [.ref hc1, .ref hc2, .ref hc3, .ref hc4, .int (nI (vnC v))])), (hc4, .inl (cZ, 4, .inl (vfl v)))] := hD
    exact hend _ _ _ _ _ _ (sumF (fun j => b01 ((vfl v) j)) (vnC v)) () dX3_countIn_98 (by simp only [cntR, eq_true w_1e, eq_false w_1n0, eq_false w_1n1, eq_false w_1n2, eq_false w_1n3, eq_false w_1n4, eq_false w_1n5, eq_false w_1n6, eq_false w_1n8, if_true, if_false]) (hP.sub [0, 1, 2, 7, 8, 3, 4, 5, 6] rfl) (hD.sub [0, 1, 2, 7, 8, 3, 4, 5, 6] (by decide) rfl) hS rfl (Nat.le_of_ble_eq_true rfl) (Nat.le_of_ble_eq_true rfl)
  · skip
    refine lv_tableIn (off := 98) (tgt := 99) hx hb dX3_countIn_1 (by rw [w_1]; decide) (by rw [w_1]; decide) (by rw [w_1]; rfl) (by decide) ?_
    have w_1e : x = 8 := Int32.toInt_inj.mp w_1
    have w_1n0 : ¬ x = 0 := fun q => by rw [q] at w_1; revert w_1; decide
    have w_1n1 : ¬ x = 1 := fun q => by rw [q] at w_1; revert w_1; decide
    have w_1n2 : ¬ x = 2 := fun q => by rw [q] at w_1; revert w_1; decide
    have w_1n3 : ¬ x = 3 := fun q => by rw [q] at w_1; revert w_1; decide
    have w_1n4 : ¬ x = 4 := fun q => by rw [q] at w_1; revert w_1; decide
    have w_1n5 : ¬ x = 5 := fun q => by rw [q] at w_1; revert w_1; decide
    have w_1n6 : ¬ x = 6 := fun q => by rw [q] at w_1; revert w_1; decide
    have w_1n7 : ¬ x = 7 := fun q => by rw [q] at w_1; revert w_1; decide
    refine lv_aload_n hx hb dX3_countIn_99 rfl (lv_at hl 1 rfl) ?_
    refine va_get (D := D) (ci := 2) (v := .ref hp) (C := RX2) (T := TX2) (N := 10) hx hb ht inG_X2 hown hK hP 2 rfl rfl 1 (by decide) (ht _ qF_RX3_105) (fun _ h9 => h9) rfl dX3_countIn_100 ?_
    refine k_i (wr := [(x0, .inr (3, [.ref xr, .ref xs, .ref n0, .ref b0])), (xr, .inl (cI, 6, .inl R)), (h0, .inr (2, [.ref hc, .ref hp, .ref hk, .int (nI (vday v)), .int (vcoal v), .int (vbar v), .int (vfine v), .int (vcrs v), .int (vcoin v), .int (vship v)])), (hc, .inr (0, [.ref hc1, .ref hc2, .ref hc3, .ref hc4, .int (nI (vnC v))])), (hc4, .inl (cZ, 4, .inl (vfl v))), (hk, .inr (1, [.ref hk1, .ref hk2, .ref hk3, .int (nI 3), .int (nI (vnK v))])), (hk2, .inl (cI, 4, .inl (vka v)))]) (rV (As := []) (rest := []) F hG hK (hP.sub (ws' := [(hp, .inr (1, [.ref hp1, .ref hp2, .ref hp3, .int (nI 4), .int (nI (vnP v))])), (hp2, .inl (cI, 4, .inl (vpa v)))]) [5, 6] rfl) ((hD.sub (ws' := [(hp, .inr (1, [.ref hp1, .ref hp2, .ref hp3, .int (nI 4), .int (nI (vnP v))])), (hp2, .inl (cI, 4, .inl (vpa v)))]) [5, 6] (by decide) rfl).weaken (fun _ _ _ _ => trivial)) s_RX3_246 (c_X1_allAlum l D cI cZ cJ hp hp1 hp2 hp3 4 (vpa v) (vnP v) (by first | assumption | omega) _) 1 0 rfl rfl rfl rfl hl.1 rfl (Nat.le_of_ble_eq_true rfl) dX3_countIn_103 ⟨(Nat.le_of_ble_eq_true rfl), (Nat.le_of_ble_eq_true rfl)⟩ ⟨(Nat.le_of_ble_eq_true rfl), (Nat.le_of_ble_eq_true rfl)⟩) hP hD hS hA [5, 6] [0, 1, 2, 3, 4, 7, 8] rfl rfl (by decide) (by decide) (fun r_103 uu H locs hw hP hD hS => ?_)
    try dsimp only at hw
    subst hw
    have hP : va_P D vwCl [(x0, .inr (3, [.ref xr, .ref xs, .ref n0, .ref b0])), (xr, .inl (cI, 6, .inl R)), (h0, .inr (2, [.ref hc, .ref hp, .ref hk, .int (nI (vday v)), .int (vcoal v), .int (vbar v), .int (vfine v), .int (vcrs v), .int (vcoin v), .int (vship v)])), (hc, .inr (0, [.ref hc1, .ref hc2, .ref hc3, .ref hc4, .int (nI (vnC v))])), (hc4, .inl (cZ, 4, .inl (vfl v))), (hk, .inr (1, [.ref hk1, .ref hk2, .ref hk3, .int (nI 3), .int (nI (vnK v))])), (hk2, .inl (cI, 4, .inl (vka v))), (hp, .inr (1, [.ref hp1, .ref hp2, .ref hp3, .int (nI 4), .int (nI (vnP v))])), (hp2, .inl (cI, 4, .inl (vpa v)))] _ := hP
    have hD : va_D A [(x0, .inr (3, [.ref xr, .ref xs, .ref n0, .ref b0])), (xr, .inl (cI, 6, .inl R)), (h0, .inr (2, [.ref hc, .ref hp, .ref hk, .int (nI (vday v)), .int (vcoal v), .int (vbar v), .int (vfine v), .int (vcrs v), .int (vcoin v), .int (vship v)])), (hc, .inr (0, [.ref hc1, .ref hc2, .ref hc3, .ref hc4, .int (nI (vnC v))])), (hc4, .inl (cZ, 4, .inl (vfl v))), (hk, .inr (1, [.ref hk1, .ref hk2, .ref hk3, .int (nI 3), .int (nI (vnK v))])), (hk2, .inl (cI, 4, .inl (vka v))), (hp, .inr (1, [.ref hp1, .ref hp2, .ref hp3, .int (nI 4), .int (nI (vnP v))])), (hp2, .inl (cI, 4, .inl (vpa v)))] := hD
    refine lv_aload_n hx hb dX3_countIn_106 rfl (lv_at hl 1 rfl) ?_
    refine va_get (D := D) (ci := 2) (v := .ref hk) (C := RX2) (T := TX2) (N := 10) hx hb ht inG_X2 hown hK hP 2 rfl rfl 2 (by decide) (ht _ qF_RX3_129) (fun _ h9 => h9) rfl dX3_countIn_107 ?_
    refine k_i (wr := [(x0, .inr (3, [.ref xr, .ref xs, .ref n0, .ref b0])), (xr, .inl (cI, 6, .inl R)), (h0, .inr (2, [.ref hc, .ref hp, .ref hk, .int (nI (vday v)), .int (vcoal v), .int (vbar v), .int (vfine v), .int (vcrs v), .int (vcoin v), .int (vship v)])), (hc, .inr (0, [.ref hc1, .ref hc2, .ref hc3, .ref hc4, .int (nI (vnC v))])), (hc4, .inl (cZ, 4, .inl (vfl v))), (hp, .inr (1, [.ref hp1, .ref hp2, .ref hp3, .int (nI 4), .int (nI (vnP v))])), (hp2, .inl (cI, 4, .inl (vpa v)))]) (rV (As := []) (rest := [.int (sumF ((vpa v)) (vnP v))]) F hG hK (hP.sub (ws' := [(hk, .inr (1, [.ref hk1, .ref hk2, .ref hk3, .int (nI 3), .int (nI (vnK v))])), (hk2, .inl (cI, 4, .inl (vka v)))]) [5, 6] rfl) ((hD.sub (ws' := [(hk, .inr (1, [.ref hk1, .ref hk2, .ref hk3, .int (nI 3), .int (nI (vnK v))])), (hk2, .inl (cI, 4, .inl (vka v)))]) [5, 6] (by decide) rfl).weaken (fun _ _ _ _ => trivial)) s_RX3_246 (c_X1_allAlum l D cI cZ cJ hk hk1 hk2 hk3 3 (vka v) (vnK v) (by first | assumption | omega) _) 1 0 rfl rfl rfl rfl hl.1 rfl (Nat.le_of_ble_eq_true rfl) dX3_countIn_110 ⟨(Nat.le_of_ble_eq_true rfl), (Nat.le_of_ble_eq_true rfl)⟩ ⟨(Nat.le_of_ble_eq_true rfl), (Nat.le_of_ble_eq_true rfl)⟩) hP hD hS hA [5, 6] [0, 1, 2, 3, 4, 7, 8] rfl rfl (by decide) (by decide) (fun r_110 uu H locs hw hP hD hS => ?_)
    try dsimp only at hw
    subst hw
    have hP : va_P D vwCl [(x0, .inr (3, [.ref xr, .ref xs, .ref n0, .ref b0])), (xr, .inl (cI, 6, .inl R)), (h0, .inr (2, [.ref hc, .ref hp, .ref hk, .int (nI (vday v)), .int (vcoal v), .int (vbar v), .int (vfine v), .int (vcrs v), .int (vcoin v), .int (vship v)])), (hc, .inr (0, [.ref hc1, .ref hc2, .ref hc3, .ref hc4, .int (nI (vnC v))])), (hc4, .inl (cZ, 4, .inl (vfl v))), (hp, .inr (1, [.ref hp1, .ref hp2, .ref hp3, .int (nI 4), .int (nI (vnP v))])), (hp2, .inl (cI, 4, .inl (vpa v))), (hk, .inr (1, [.ref hk1, .ref hk2, .ref hk3, .int (nI 3), .int (nI (vnK v))])), (hk2, .inl (cI, 4, .inl (vka v)))] _ := hP
    have hD : va_D A [(x0, .inr (3, [.ref xr, .ref xs, .ref n0, .ref b0])), (xr, .inl (cI, 6, .inl R)), (h0, .inr (2, [.ref hc, .ref hp, .ref hk, .int (nI (vday v)), .int (vcoal v), .int (vbar v), .int (vfine v), .int (vcrs v), .int (vcoin v), .int (vship v)])), (hc, .inr (0, [.ref hc1, .ref hc2, .ref hc3, .ref hc4, .int (nI (vnC v))])), (hc4, .inl (cZ, 4, .inl (vfl v))), (hp, .inr (1, [.ref hp1, .ref hp2, .ref hp3, .int (nI 4), .int (nI (vnP v))])), (hp2, .inl (cI, 4, .inl (vpa v))), (hk, .inr (1, [.ref hk1, .ref hk2, .ref hk3, .int (nI 3), .int (nI (vnK v))])), (hk2, .inl (cI, 4, .inl (vka v)))] := hD
    refine lv_iadd hx hb dX3_countIn_113 ?_
    exact hend _ _ _ _ _ _ ((sumF ((vpa v)) (vnP v)) + (sumF ((vka v)) (vnK v))) () dX3_countIn_114 (by simp only [cntR, eq_true w_1e, eq_false w_1n0, eq_false w_1n1, eq_false w_1n2, eq_false w_1n3, eq_false w_1n4, eq_false w_1n5, eq_false w_1n6, eq_false w_1n7, if_true, if_false]) hP hD hS rfl (Nat.le_of_ble_eq_true rfl) (Nat.le_of_ble_eq_true rfl)
  · skip
    refine lv_tableOut (tgt := 115) hx hb dX3_countIn_1 w_1 (by decide) ?_
    have w_1n0 : ¬ x = 0 := fun q => by rw [q] at w_1; revert w_1; decide
    have w_1n1 : ¬ x = 1 := fun q => by rw [q] at w_1; revert w_1; decide
    have w_1n2 : ¬ x = 2 := fun q => by rw [q] at w_1; revert w_1; decide
    have w_1n3 : ¬ x = 3 := fun q => by rw [q] at w_1; revert w_1; decide
    have w_1n4 : ¬ x = 4 := fun q => by rw [q] at w_1; revert w_1; decide
    have w_1n5 : ¬ x = 5 := fun q => by rw [q] at w_1; revert w_1; decide
    have w_1n6 : ¬ x = 6 := fun q => by rw [q] at w_1; revert w_1; decide
    have w_1n7 : ¬ x = 7 := fun q => by rw [q] at w_1; revert w_1; decide
    have w_1n8 : ¬ x = 8 := fun q => by rw [q] at w_1; revert w_1; decide
    refine lv_aload_n hx hb dX3_countIn_115 rfl (lv_at hl 1 rfl) ?_
    refine va_get (D := D) (ci := 2) (v := .int (vship v)) (C := RX2) (T := TX2) (N := 10) hx hb ht inG_X2 hown hK hP 2 rfl rfl 9 (by decide) (ht _ qF_RX3_249) (fun _ h9 => h9) rfl dX3_countIn_116 ?_
    exact hend _ _ _ _ _ _ (vship v) () dX3_countIn_119 (by simp only [cntR, eq_false w_1n0, eq_false w_1n1, eq_false w_1n2, eq_false w_1n3, eq_false w_1n4, eq_false w_1n5, eq_false w_1n6, eq_false w_1n7, eq_false w_1n8, if_true, if_false]) hP hD hS rfl (Nat.le_of_ble_eq_true rfl) (Nat.le_of_ble_eq_true rfl)

def rm_X3_crystalsOf : Room := { frames := 3, cells := 0, slots := 0, locals := 64 }
set_option maxHeartbeats 4000000 in
set_option maxRecDepth 100000 in
theorem c_X3_crystalsOf (l : Launch) (D : va_G) (cI cZ cJ : ClassId) (x0 xr xs n0 b0 : Nat) (nc np nk nk1 nk2 nk3 : Nat) (v : VT) (k : Nat) (x : Int32) (hk : k < 4) : Mi l yX3_crystalsOf cX3_crystalsOf 3 (some .int) rm_X3_crystalsOf D (TY cI cZ cJ) [.ref x0, .int (nI k), .int x] [(x0, .inr (3, [.ref xr, .ref xs, .ref n0, .ref b0])), (n0, .inr (2, [.ref nc, .ref np, .ref nk, .int (nI (vday v)), .int (vcoal v), .int (vbar v), .int (vfine v), .int (vcrs v), .int (vcoin v), .int (vship v)])), (nk, .inr (1, [.ref nk1, .ref nk2, .ref nk3, .int (nI 3), .int (nI (vnK v))])), (nk1, .inl (cI, 4, .inl (vkw v))), (nk2, .inl (cI, 4, .inl (vka v)))] (fun (r : Int32) (u : Unit) => r = crys (vkw v k) (vka v k) x) (fun (u : Unit) => [(x0, .inr (3, [.ref xr, .ref xs, .ref n0, .ref b0])), (n0, .inr (2, [.ref nc, .ref np, .ref nk, .int (nI (vday v)), .int (vcoal v), .int (vbar v), .int (vfine v), .int (vcrs v), .int (vcoin v), .int (vship v)])), (nk, .inr (1, [.ref nk1, .ref nk2, .ref nk3, .int (nI 3), .int (nI (vnK v))])), (nk1, .inl (cI, 4, .inl (vkw v))), (nk2, .inl (cI, 4, .inl (vka v)))]) := by
  refine Mi.ofQ (by decide) (Nat.le_of_ble_eq_true rfl) ?_
  intro p e s m args below meth c A ls Q hF hK hP hD hA hl hend
  obtain ⟨F, hr, hlocks, hG⟩ := hF
  have hx := F.1
  have hb := F.2.1
  have hown := F.2.2.2.1
  have ht := F.2.2.2.2
  have hS : va_S A s.heap s.heap [] := va_S.rf
  have hl : lv_has ls 3 [(0, .ref x0), (1, .int (nI k)), (2, .int x)] := hl
  refine lv_aload_n hx hb dX3_crystalsOf_0 rfl (lv_at hl 0 rfl) ?_
  refine va_get (D := D) (ci := 3) (v := .ref n0) (C := RX3) (T := TX3) (N := 4) hx hb ht inG_X3 hown hK hP 0 rfl rfl 2 (by decide) (ht _ qF_RX3_19) (fun _ h9 => h9) rfl dX3_crystalsOf_1 ?_
  refine va_get (D := D) (ci := 2) (v := .ref nk) (C := RX2) (T := TX2) (N := 10) hx hb ht inG_X2 hown hK hP 1 rfl rfl 2 (by decide) (ht _ qF_RX3_129) (fun _ h9 => h9) rfl dX3_crystalsOf_4 ?_
  refine va_get (D := D) (ci := 1) (v := .ref nk2) (C := RX1) (T := TX1) (N := 5) hx hb ht inG_X1 hown hK hP 2 rfl rfl 1 (by decide) (ht _ qF_RX3_126) (fun _ h9 => h9) rfl dX3_crystalsOf_7 ?_
  refine lv_iload_n hx hb dX3_crystalsOf_10 rfl (lv_at hl 1 rfl) ?_
  refine aI hx hb hK hP 4 0 rfl rfl k (rfl) (by omega) (by decide) (v := (vka v) k) (rfl) dX3_crystalsOf_11 ?_
  refine lv_aload_n hx hb dX3_crystalsOf_12 rfl (lv_at hl 0 rfl) ?_
  refine va_get (D := D) (ci := 3) (v := .ref n0) (C := RX3) (T := TX3) (N := 4) hx hb ht inG_X3 hown hK hP 0 rfl rfl 2 (by decide) (ht _ qF_RX3_19) (fun _ h9 => h9) rfl dX3_crystalsOf_13 ?_
  refine va_get (D := D) (ci := 2) (v := .ref nk) (C := RX2) (T := TX2) (N := 10) hx hb ht inG_X2 hown hK hP 1 rfl rfl 2 (by decide) (ht _ qF_RX3_129) (fun _ h9 => h9) rfl dX3_crystalsOf_16 ?_
  refine lv_iload_n hx hb dX3_crystalsOf_19 rfl (lv_at hl 1 rfl) ?_
  refine k_i (wr := [(x0, .inr (3, [.ref xr, .ref xs, .ref n0, .ref b0])), (n0, .inr (2, [.ref nc, .ref np, .ref nk, .int (nI (vday v)), .int (vcoal v), .int (vbar v), .int (vfine v), .int (vcrs v), .int (vcoin v), .int (vship v)]))]) (rV (As := [.int (nI k)]) (rest := [.int ((vka v) k)]) F hG hK (hP.sub (ws' := [(nk, .inr (1, [.ref nk1, .ref nk2, .ref nk3, .int (nI 3), .int (nI (vnK v))])), (nk1, .inl (cI, 4, .inl (vkw v))), (nk2, .inl (cI, 4, .inl (vka v)))]) [2, 3, 4] rfl) ((hD.sub (ws' := [(nk, .inr (1, [.ref nk1, .ref nk2, .ref nk3, .int (nI 3), .int (nI (vnK v))])), (nk1, .inl (cI, 4, .inl (vkw v))), (nk2, .inl (cI, 4, .inl (vka v)))]) [2, 3, 4] (by decide) rfl).weaken (fun _ _ _ _ => trivial)) s_RX3_152 (c_X1_egg l D cI cZ cJ nk nk1 nk2 nk3 3 (vkw v) (vka v) (vnK v) k (by first | assumption | omega) _) 1 0 rfl rfl rfl rfl hl.1 rfl (Nat.le_of_ble_eq_true rfl) dX3_crystalsOf_20 ⟨(Nat.le_of_ble_eq_true rfl), (Nat.le_of_ble_eq_true rfl)⟩ ⟨(Nat.le_of_ble_eq_true rfl), (Nat.le_of_ble_eq_true rfl)⟩) hP hD hS hA [2, 3, 4] [0, 1] rfl rfl (by decide) (by decide) (fun r_20 uu H locs hw hP hD hS => ?_)
  try dsimp only at hw
  subst hw
  have hP : va_P D vwCl [(x0, .inr (3, [.ref xr, .ref xs, .ref n0, .ref b0])), (n0, .inr (2, [.ref nc, .ref np, .ref nk, .int (nI (vday v)), .int (vcoal v), .int (vbar v), .int (vfine v), .int (vcrs v), .int (vcoin v), .int (vship v)])), (nk, .inr (1, [.ref nk1, .ref nk2, .ref nk3, .int (nI 3), .int (nI (vnK v))])), (nk1, .inl (cI, 4, .inl (vkw v))), (nk2, .inl (cI, 4, .inl (vka v)))] _ := hP
  have hD : va_D A [(x0, .inr (3, [.ref xr, .ref xs, .ref n0, .ref b0])), (n0, .inr (2, [.ref nc, .ref np, .ref nk, .int (nI (vday v)), .int (vcoal v), .int (vbar v), .int (vfine v), .int (vcrs v), .int (vcoin v), .int (vship v)])), (nk, .inr (1, [.ref nk1, .ref nk2, .ref nk3, .int (nI 3), .int (nI (vnK v))])), (nk1, .inl (cI, 4, .inl (vkw v))), (nk2, .inl (cI, 4, .inl (vka v)))] := hD
  refine k_i (wr := [(x0, .inr (3, [.ref xr, .ref xs, .ref n0, .ref b0])), (n0, .inr (2, [.ref nc, .ref np, .ref nk, .int (nI (vday v)), .int (vcoal v), .int (vbar v), .int (vfine v), .int (vcrs v), .int (vcoin v), .int (vship v)])), (nk, .inr (1, [.ref nk1, .ref nk2, .ref nk3, .int (nI 3), .int (nI (vnK v))])), (nk1, .inl (cI, 4, .inl (vkw v))), (nk2, .inl (cI, 4, .inl (vka v)))]) (rS (As := [.int (eggB (strg ((vkw v) k) ((vka v) k)))]) (rest := [.int ((vka v) k)]) F hG hK (hP.sub (ws' := []) [] rfl) ((hD.sub (ws' := []) [] (by decide) rfl).weaken (fun _ _ _ _ => trivial)) s_RX3_224 (c_X3_crystalsByBarrel l D cI cZ cJ (eggB (strg ((vkw v) k) ((vka v) k))) _) rfl hl.1 rfl (Nat.le_of_ble_eq_true rfl) dX3_crystalsOf_23 ⟨(Nat.le_of_ble_eq_true rfl), (Nat.le_of_ble_eq_true rfl)⟩ ⟨(Nat.le_of_ble_eq_true rfl), (Nat.le_of_ble_eq_true rfl)⟩) hP hD hS hA [] [0, 1, 2, 3, 4] rfl rfl (by decide) (by decide) (fun r_23 uu H locs hw hP hD hS => ?_)
  try dsimp only at hw
  subst hw
  have hP : va_P D vwCl [(x0, .inr (3, [.ref xr, .ref xs, .ref n0, .ref b0])), (n0, .inr (2, [.ref nc, .ref np, .ref nk, .int (nI (vday v)), .int (vcoal v), .int (vbar v), .int (vfine v), .int (vcrs v), .int (vcoin v), .int (vship v)])), (nk, .inr (1, [.ref nk1, .ref nk2, .ref nk3, .int (nI 3), .int (nI (vnK v))])), (nk1, .inl (cI, 4, .inl (vkw v))), (nk2, .inl (cI, 4, .inl (vka v)))] _ := hP
  have hD : va_D A [(x0, .inr (3, [.ref xr, .ref xs, .ref n0, .ref b0])), (n0, .inr (2, [.ref nc, .ref np, .ref nk, .int (nI (vday v)), .int (vcoal v), .int (vbar v), .int (vfine v), .int (vcrs v), .int (vcoin v), .int (vship v)])), (nk, .inr (1, [.ref nk1, .ref nk2, .ref nk3, .int (nI 3), .int (nI (vnK v))])), (nk1, .inl (cI, 4, .inl (vkw v))), (nk2, .inl (cI, 4, .inl (vka v)))] := hD
  refine lv_iload_n hx hb dX3_crystalsOf_26 rfl (lv_at hl 2 rfl) ?_
  refine lv_imul hx hb dX3_crystalsOf_27 ?_
  refine k_min F qM_RX3_46 hl.1 (Nat.le_of_ble_eq_true rfl) (Nat.le_of_ble_eq_true rfl) (Nat.le_of_ble_eq_true rfl) (Nat.le_of_ble_eq_true rfl) dX3_crystalsOf_28 ?_
  exact hend _ _ _ _ _ _ (mn ((vka v) k) ((cby (eggB (strg ((vkw v) k) ((vka v) k)))) * x)) () dX3_crystalsOf_31 (rfl) hP hD hS rfl (Nat.le_of_ble_eq_true rfl) (Nat.le_of_ble_eq_true rfl)
