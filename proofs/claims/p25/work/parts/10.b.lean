theorem s_RX1_35 : sSN RX1 35 yX3_strengthOf cX3_strengthOf 3 (some .int) 2 := ⟨ws_in qC_yX3_strengthOf, qN_RX3, by decide +kernel, qS_yX3_strengthOf, by decide +kernel, by decide +kernel, by decide +kernel⟩
theorem s_RX1_38 : sV RX1 38 RX1 yX1_strength cX1_strength 2 (some .int) 1 := sV.mk qM_RX1_38 qI_yX1_strength qV_yX1_strength qN_RX1 qC_yX1_strength ⟨rfl, by decide +kernel, by decide +kernel, by decide +kernel⟩
theorem s_RX1_42 : sSN RX1 42 yX3_eggBy cX3_eggBy 1 (some .int) 1 := ⟨ws_in qC_yX3_eggBy, qN_RX3, by decide +kernel, qS_yX3_eggBy, by decide +kernel, by decide +kernel, by decide +kernel⟩
theorem s_RX1_45 : sV RX1 45 RX1 yX1_egg cX1_egg 2 (some .int) 1 := sV.mk qM_RX1_45 qI_yX1_egg qV_yX1_egg qN_RX1 qC_yX1_egg ⟨rfl, by decide +kernel, by decide +kernel, by decide +kernel⟩
theorem s_RX2_59 : sV RX2 59 RX0 yX0_burn cX0_burn 4 none 1 := sV.mk qM_RX2_59 qI_yX0_burn qV_yX0_burn qN_RX0 qC_yX0_burn ⟨rfl, by decide +kernel, by decide +kernel, by decide +kernel⟩
theorem s_RX2_62 : sV RX2 62 RX1 yX1_takeWeather cX1_takeWeather 4 none 1 := sV.mk qM_RX2_62 qI_yX1_takeWeather qV_yX1_takeWeather qN_RX1 qC_yX1_takeWeather ⟨rfl, by decide +kernel, by decide +kernel, by decide +kernel⟩
theorem s_RX2_65 : sV RX2 65 RX2 yX2_boilPans cX2_boilPans 2 none 0 := sV.mk qM_RX2_65 qI_yX2_boilPans qV_yX2_boilPans qN_RX2 qC_yX2_boilPans ⟨rfl, by decide +kernel, by decide +kernel, by decide +kernel⟩
theorem s_RX2_68 : sV RX2 68 RX2 yX2_loadShip cX2_loadShip 4 none 1 := sV.mk qM_RX2_68 qI_yX2_loadShip qV_yX2_loadShip qN_RX2 qC_yX2_loadShip ⟨rfl, by decide +kernel, by decide +kernel, by decide +kernel⟩
theorem s_RX2_52 : sV RX2 52 RX0 yX0_copyOf cX0_copyOf 3 none 1 := sV.mk qM_RX2_52 qI_yX0_copyOf qV_yX0_copyOf qN_RX0 qC_yX0_copyOf ⟨rfl, by decide +kernel, by decide +kernel, by decide +kernel⟩
theorem s_RX2_56 : sV RX2 56 RX1 yX1_copyOf cX1_copyOf 3 none 1 := sV.mk qM_RX2_56 qI_yX1_copyOf qV_yX1_copyOf qN_RX1 qC_yX1_copyOf ⟨rfl, by decide +kernel, by decide +kernel, by decide +kernel⟩
def rm_X0_copyOf : Room := { frames := 0, cells := 0, slots := 0, locals := 0 }
set_option maxHeartbeats 4000000 in
set_option maxRecDepth 100000 in
theorem c_X0_copyOf (l : Launch) (D : va_G) (cI cZ cJ : ClassId) (h0 a1 a2 a3 a4 g0 b1 b2 b3 b4 : Nat) (t1 t2 t3 t4 o1 o2 o3 o4 : Nat → Int32) (n1 n : Nat) (hn : n ≤ 4) (hz1 : ∀ j, n ≤ j → t1 j = o1 j) (hz2 : ∀ j, n ≤ j → t2 j = o2 j) (hz3 : ∀ j, n ≤ j → t3 j = o3 j) (hz4 : ∀ j, n ≤ j → t4 j = o4 j) (hb4 : ∀ j, vp_nar .boolean (o4 j) = o4 j) : Mv l yX0_copyOf cX0_copyOf 3 rm_X0_copyOf D (TY cI cZ cJ) [.ref h0, .ref g0] [(h0, .inr (0, [.ref a1, .ref a2, .ref a3, .ref a4, .int (nI n1)])), (a1, .inl (cI, 4, .inl t1)), (a2, .inl (cI, 4, .inl t2)), (a3, .inl (cI, 4, .inl t3)), (a4, .inl (cZ, 4, .inl t4)), (g0, .inr (0, [.ref b1, .ref b2, .ref b3, .ref b4, .int (nI n)])), (b1, .inl (cI, 4, .inl o1)), (b2, .inl (cI, 4, .inl o2)), (b3, .inl (cI, 4, .inl o3)), (b4, .inl (cZ, 4, .inl o4))] (fun (u : (Nat → Int32) × (Nat → Int32) × (Nat → Int32) × (Nat → Int32)) => u.1 = o1 ∧ u.2.1 = o2 ∧ u.2.2.1 = o3 ∧ u.2.2.2 = o4) (fun (u : (Nat → Int32) × (Nat → Int32) × (Nat → Int32) × (Nat → Int32)) => [(h0, .inr (0, [.ref a1, .ref a2, .ref a3, .ref a4, .int (nI n)])), (a1, .inl (cI, 4, .inl u.1)), (a2, .inl (cI, 4, .inl u.2.1)), (a3, .inl (cI, 4, .inl u.2.2.1)), (a4, .inl (cZ, 4, .inl u.2.2.2)), (g0, .inr (0, [.ref b1, .ref b2, .ref b3, .ref b4, .int (nI n)])), (b1, .inl (cI, 4, .inl o1)), (b2, .inl (cI, 4, .inl o2)), (b3, .inl (cI, 4, .inl o3)), (b4, .inl (cZ, 4, .inl o4))]) := by
  refine Mv.ofQ (by decide) (Nat.le_of_ble_eq_true rfl) ?_
  intro p e s m args below meth c A ls Q hF hK hP hD hA hl hend hin
  obtain ⟨F, hr, hlocks, hG⟩ := hF
  have hx := F.1
  have hb := F.2.1
  have hown := F.2.2.2.1
  have ht := F.2.2.2.2
  have hS : va_S A s.heap s.heap [] := va_S.rf
  have hl : lv_has ls 3 [(0, .ref h0), (1, .ref g0)] := hl
  refine lv_aload_n hx hb dX0_copyOf_0 rfl (lv_at hl 0 rfl) ?_
  refine lv_aload_n hx hb dX0_copyOf_1 rfl (lv_at hl 1 rfl) ?_
  refine va_get (D := D) (ci := 0) (v := .int (nI n)) (C := RX0) (T := TX0) (N := 5) hx hb ht inG_X0 hown hK hP 5 rfl rfl 4 (by decide) (ht _ qF_RX0_25) (fun _ h9 => h9) rfl dX0_copyOf_2 ?_
  refine va_put (D := D) (ci := 0) (v := .int (nI n)) (C := RX0) (T := TX0) (N := 5) hx hb ht inG_X0 tyX0 tyX0_ok nmX0 hown hK hP hD hS 0 rfl rfl 4 (by decide) (ht _ qF_RX0_25) (fun _ h9 => h9) rfl (tyX0_ok 4 (by decide)) rfl rfl (Nat.le_of_ble_eq_true rfl) dX0_copyOf_5 (fun H locs hP hD hS => ?_)
  have hP : va_P D vwCl [(h0, .inr (0, [.ref a1, .ref a2, .ref a3, .ref a4, .int (nI n)])), (a1, .inl (cI, 4, .inl t1)), (a2, .inl (cI, 4, .inl t2)), (a3, .inl (cI, 4, .inl t3)), (a4, .inl (cZ, 4, .inl t4)), (g0, .inr (0, [.ref b1, .ref b2, .ref b3, .ref b4, .int (nI n)])), (b1, .inl (cI, 4, .inl o1)), (b2, .inl (cI, 4, .inl o2)), (b3, .inl (cI, 4, .inl o3)), (b4, .inl (cZ, 4, .inl o4))] _ := hP
  have hD : va_D A [(h0, .inr (0, [.ref a1, .ref a2, .ref a3, .ref a4, .int (nI n)])), (a1, .inl (cI, 4, .inl t1)), (a2, .inl (cI, 4, .inl t2)), (a3, .inl (cI, 4, .inl t3)), (a4, .inl (cZ, 4, .inl t4)), (g0, .inr (0, [.ref b1, .ref b2, .ref b3, .ref b4, .int (nI n)])), (b1, .inl (cI, 4, .inl o1)), (b2, .inl (cI, 4, .inl o2)), (b3, .inl (cI, 4, .inl o3)), (b4, .inl (cZ, 4, .inl o4))] := hD
  refine lv_iconst (v := 0) hx hb dX0_copyOf_8 (by decide) ?_
  refine lv_istore_n (lv' := [(2, .int 0), (0, .ref h0), (1, .ref g0)]) hx hb dX0_copyOf_9 rfl hl (by decide) rfl (fun ls hl => ?_)
  have loop10 : ∀ (kf10 i : Nat), i ≤ n → n < i + kf10 → ∀ (x1 : Nat → Int32) (x2 : Nat → Int32) (x3 : Nat → Int32) (x4 : Nat → Int32), x1 = rowF i o1 t1 → x2 = rowF i o2 t2 → x3 = rowF i o3 t3 → x4 = rowF i o4 t4 → ∀ (H : Heap) (locs : List Loc), va_P D vwCl [(h0, .inr (0, [.ref a1, .ref a2, .ref a3, .ref a4, .int (nI n)])), (a1, .inl (cI, 4, .inl x1)), (a2, .inl (cI, 4, .inl x2)), (a3, .inl (cI, 4, .inl x3)), (a4, .inl (cZ, 4, .inl x4)), (g0, .inr (0, [.ref b1, .ref b2, .ref b3, .ref b4, .int (nI n)])), (b1, .inl (cI, 4, .inl o1)), (b2, .inl (cI, 4, .inl o2)), (b3, .inl (cI, 4, .inl o3)), (b4, .inl (cZ, 4, .inl o4))] H → va_D A [(h0, .inr (0, [.ref a1, .ref a2, .ref a3, .ref a4, .int (nI n)])), (a1, .inl (cI, 4, .inl x1)), (a2, .inl (cI, 4, .inl x2)), (a3, .inl (cI, 4, .inl x3)), (a4, .inl (cZ, 4, .inl x4)), (g0, .inr (0, [.ref b1, .ref b2, .ref b3, .ref b4, .int (nI n)])), (b1, .inl (cI, 4, .inl o1)), (b2, .inl (cI, 4, .inl o2)), (b3, .inl (cI, 4, .inl o3)), (b4, .inl (cZ, 4, .inl o4))] → va_S A s.heap H locs → ∀ (ls : Array Slot), lv_has ls 3 [(0, .ref h0), (1, .ref g0), (2, .int (nI i))] → W p l e rm_X0_copyOf s m args below meth c H locs 0 0 Q (F0 m 10 ls []) := by
    intro kf10
    induction kf10 with
    | zero =>
      intro i hle10 hlt10
      exact absurd hlt10 (by omega)
    | succ kf10 ih10 =>
      intro i hle10 hlt10 x1 x2 x3 x4 e_x1 e_x2 e_x3 e_x4 H locs hP hD hS ls hl
      refine lv_iload_n hx hb dX0_copyOf_10 rfl (lv_at hl 2 rfl) ?_
      refine lv_aload_n hx hb dX0_copyOf_11 rfl (lv_at hl 0 rfl) ?_
      refine va_get (D := D) (ci := 0) (v := .int (nI n)) (C := RX0) (T := TX0) (N := 5) hx hb ht inG_X0 hown hK hP 0 rfl rfl 4 (by decide) (ht _ qF_RX0_25) (fun _ h9 => h9) rfl dX0_copyOf_12 ?_
      refine lv_icmp_ge (tgt := 72) hx hb dX0_copyOf_15 (by decide) (fun c_1 => ?_) (fun c_1 => ?_)
      · skip
        have c_1n := Int32.not_lt.mpr c_1
        have c_1m := (nI_leI (a := n) (b := i) (by omega) (by omega)).mp c_1
        exact hend _ _ _ _ _ _ (x1, x2, x3, x4) dX0_copyOf_72 (by rw [e_x1, e_x2, e_x3, e_x4, show i = n by omega]; exact ⟨rowF_all hz1, rowF_all hz2, rowF_all hz3, rowF_all hz4⟩) hP hD hS (Nat.le_of_ble_eq_true rfl) (Nat.le_of_ble_eq_true rfl)
      · skip
        have c_1n := Int32.not_le.mp c_1
        have c_1m := (nI_ltI (a := i) (b := n) (by omega) (by omega)).mp c_1n
        refine lv_aload_n hx hb dX0_copyOf_18 rfl (lv_at hl 0 rfl) ?_
        refine va_get (D := D) (ci := 0) (v := .ref a1) (C := RX0) (T := TX0) (N := 5) hx hb ht inG_X0 hown hK hP 0 rfl rfl 0 (by decide) (ht _ qF_RX0_9) (fun _ h9 => h9) rfl dX0_copyOf_19 ?_
        refine lv_iload_n hx hb dX0_copyOf_22 rfl (lv_at hl 2 rfl) ?_
        refine lv_aload_n hx hb dX0_copyOf_23 rfl (lv_at hl 1 rfl) ?_
        refine va_get (D := D) (ci := 0) (v := .ref b1) (C := RX0) (T := TX0) (N := 5) hx hb ht inG_X0 hown hK hP 5 rfl rfl 0 (by decide) (ht _ qF_RX0_9) (fun _ h9 => h9) rfl dX0_copyOf_24 ?_
        refine lv_iload_n hx hb dX0_copyOf_27 rfl (lv_at hl 2 rfl) ?_
        refine aI hx hb hK hP 6 0 rfl rfl i (rfl) (by omega) (by decide) (v := o1 i) (rfl) dX0_copyOf_28 ?_
        refine sI_ hx hb hK hP hD hS 1 0 rfl rfl i (rfl) (by omega) (by decide) (upd x1 i (o1 i)) (rfl) dX0_copyOf_29 (fun H locs hP hD hS => ?_)
        have hP : va_P D vwCl [(h0, .inr (0, [.ref a1, .ref a2, .ref a3, .ref a4, .int (nI n)])), (a1, .inl (cI, 4, .inl (upd x1 i (o1 i)))), (a2, .inl (cI, 4, .inl x2)), (a3, .inl (cI, 4, .inl x3)), (a4, .inl (cZ, 4, .inl x4)), (g0, .inr (0, [.ref b1, .ref b2, .ref b3, .ref b4, .int (nI n)])), (b1, .inl (cI, 4, .inl o1)), (b2, .inl (cI, 4, .inl o2)), (b3, .inl (cI, 4, .inl o3)), (b4, .inl (cZ, 4, .inl o4))] _ := hP
        have hD : va_D A [(h0, .inr (0, [.ref a1, .ref a2, .ref a3, .ref a4, .int (nI n)])), (a1, .inl (cI, 4, .inl (upd x1 i (o1 i)))), (a2, .inl (cI, 4, .inl x2)), (a3, .inl (cI, 4, .inl x3)), (a4, .inl (cZ, 4, .inl x4)), (g0, .inr (0, [.ref b1, .ref b2, .ref b3, .ref b4, .int (nI n)])), (b1, .inl (cI, 4, .inl o1)), (b2, .inl (cI, 4, .inl o2)), (b3, .inl (cI, 4, .inl o3)), (b4, .inl (cZ, 4, .inl o4))] := hD
        refine lv_aload_n hx hb dX0_copyOf_30 rfl (lv_at hl 0 rfl) ?_
        refine va_get (D := D) (ci := 0) (v := .ref a2) (C := RX0) (T := TX0) (N := 5) hx hb ht inG_X0 hown hK hP 0 rfl rfl 1 (by decide) (ht _ qF_RX0_15) (fun _ h9 => h9) rfl dX0_copyOf_31 ?_
        refine lv_iload_n hx hb dX0_copyOf_34 rfl (lv_at hl 2 rfl) ?_
        refine lv_aload_n hx hb dX0_copyOf_35 rfl (lv_at hl 1 rfl) ?_
        refine va_get (D := D) (ci := 0) (v := .ref b2) (C := RX0) (T := TX0) (N := 5) hx hb ht inG_X0 hown hK hP 5 rfl rfl 1 (by decide) (ht _ qF_RX0_15) (fun _ h9 => h9) rfl dX0_copyOf_36 ?_
        refine lv_iload_n hx hb dX0_copyOf_39 rfl (lv_at hl 2 rfl) ?_
        refine aI hx hb hK hP 7 0 rfl rfl i (rfl) (by omega) (by decide) (v := o2 i) (rfl) dX0_copyOf_40 ?_
        refine sI_ hx hb hK hP hD hS 2 0 rfl rfl i (rfl) (by omega) (by decide) (upd x2 i (o2 i)) (rfl) dX0_copyOf_41 (fun H locs hP hD hS => ?_)
        have hP : va_P D vwCl [(h0, .inr (0, [.ref a1, .ref a2, .ref a3, .ref a4, .int (nI n)])), (a1, .inl (cI, 4, .inl (upd x1 i (o1 i)))), (a2, .inl (cI, 4, .inl (upd x2 i (o2 i)))), (a3, .inl (cI, 4, .inl x3)), (a4, .inl (cZ, 4, .inl x4)), (g0, .inr (0, [.ref b1, .ref b2, .ref b3, .ref b4, .int (nI n)])), (b1, .inl (cI, 4, .inl o1)), (b2, .inl (cI, 4, .inl o2)), (b3, .inl (cI, 4, .inl o3)), (b4, .inl (cZ, 4, .inl o4))] _ := hP
        have hD : va_D A [(h0, .inr (0, [.ref a1, .ref a2, .ref a3, .ref a4, .int (nI n)])), (a1, .inl (cI, 4, .inl (upd x1 i (o1 i)))), (a2, .inl (cI, 4, .inl (upd x2 i (o2 i)))), (a3, .inl (cI, 4, .inl x3)), (a4, .inl (cZ, 4, .inl x4)), (g0, .inr (0, [.ref b1, .ref b2, .ref b3, .ref b4, .int (nI n)])), (b1, .inl (cI, 4, .inl o1)), (b2, .inl (cI, 4, .inl o2)), (b3, .inl (cI, 4, .inl o3)), (b4, .inl (cZ, 4, .inl o4))] := hD
        refine lv_aload_n hx hb dX0_copyOf_42 rfl (lv_at hl 0 rfl) ?_
        refine va_get (D := D) (ci := 0) (v := .ref a3) (C := RX0) (T := TX0) (N := 5) hx hb ht inG_X0 hown hK hP 0 rfl rfl 2 (by decide) (ht _ qF_RX0_18) (fun _ h9 => h9) rfl dX0_copyOf_43 ?_
        refine lv_iload_n hx hb dX0_copyOf_46 rfl (lv_at hl 2 rfl) ?_
        refine lv_aload_n hx hb dX0_copyOf_47 rfl (lv_at hl 1 rfl) ?_
        refine va_get (D := D) (ci := 0) (v := .ref b3) (C := RX0) (T := TX0) (N := 5) hx hb ht inG_X0 hown hK hP 5 rfl rfl 2 (by decide) (ht _ qF_RX0_18) (fun _ h9 => h9) rfl dX0_copyOf_48 ?_
        refine lv_iload_n hx hb dX0_copyOf_51 rfl (lv_at hl 2 rfl) ?_
        refine aI hx hb hK hP 8 0 rfl rfl i (rfl) (by omega) (by decide) (v := o3 i) (rfl) dX0_copyOf_52 ?_
        refine sI_ hx hb hK hP hD hS 3 0 rfl rfl i (rfl) (by omega) (by decide) (upd x3 i (o3 i)) (rfl) dX0_copyOf_53 (fun H locs hP hD hS => ?_)
        have hP : va_P D vwCl [(h0, .inr (0, [.ref a1, .ref a2, .ref a3, .ref a4, .int (nI n)])), (a1, .inl (cI, 4, .inl (upd x1 i (o1 i)))), (a2, .inl (cI, 4, .inl (upd x2 i (o2 i)))), (a3, .inl (cI, 4, .inl (upd x3 i (o3 i)))), (a4, .inl (cZ, 4, .inl x4)), (g0, .inr (0, [.ref b1, .ref b2, .ref b3, .ref b4, .int (nI n)])), (b1, .inl (cI, 4, .inl o1)), (b2, .inl (cI, 4, .inl o2)), (b3, .inl (cI, 4, .inl o3)), (b4, .inl (cZ, 4, .inl o4))] _ := hP
        have hD : va_D A [(h0, .inr (0, [.ref a1, .ref a2, .ref a3, .ref a4, .int (nI n)])), (a1, .inl (cI, 4, .inl (upd x1 i (o1 i)))), (a2, .inl (cI, 4, .inl (upd x2 i (o2 i)))), (a3, .inl (cI, 4, .inl (upd x3 i (o3 i)))), (a4, .inl (cZ, 4, .inl x4)), (g0, .inr (0, [.ref b1, .ref b2, .ref b3, .ref b4, .int (nI n)])), (b1, .inl (cI, 4, .inl o1)), (b2, .inl (cI, 4, .inl o2)), (b3, .inl (cI, 4, .inl o3)), (b4, .inl (cZ, 4, .inl o4))] := hD
        refine lv_aload_n hx hb dX0_copyOf_54 rfl (lv_at hl 0 rfl) ?_
        refine va_get (D := D) (ci := 0) (v := .ref a4) (C := RX0) (T := TX0) (N := 5) hx hb ht inG_X0 hown hK hP 0 rfl rfl 3 (by decide) (ht _ qF_RX0_21) (fun _ h9 => h9) rfl dX0_copyOf_55 ?_
        refine lv_iload_n hx hb dX0_copyOf_58 rfl (lv_at hl 2 rfl) ?_
        refine lv_aload_n hx hb dX0_copyOf_59 rfl (lv_at hl 1 rfl) ?_
        refine va_get (D := D) (ci := 0) (v := .ref b4) (C := RX0) (T := TX0) (N := 5) hx hb ht inG_X0 hown hK hP 5 rfl rfl 3 (by decide) (ht _ qF_RX0_21) (fun _ h9 => h9) rfl dX0_copyOf_60 ?_
        refine lv_iload_n hx hb dX0_copyOf_63 rfl (lv_at hl 2 rfl) ?_
        refine aZ hx hb hK hP 9 1 rfl rfl i (rfl) (by omega) (by decide) (v := o4 i) (rfl) dX0_copyOf_64 ?_
        refine sZ_ hx hb hK hP hD hS 4 1 rfl rfl i (rfl) (by omega) (by decide) (hb4 i) (upd x4 i (o4 i)) (rfl) dX0_copyOf_65 (fun H locs hP hD hS => ?_)
        have hP : va_P D vwCl [(h0, .inr (0, [.ref a1, .ref a2, .ref a3, .ref a4, .int (nI n)])), (a1, .inl (cI, 4, .inl (upd x1 i (o1 i)))), (a2, .inl (cI, 4, .inl (upd x2 i (o2 i)))), (a3, .inl (cI, 4, .inl (upd x3 i (o3 i)))), (a4, .inl (cZ, 4, .inl (upd x4 i (o4 i)))), (g0, .inr (0, [.ref b1, .ref b2, .ref b3, .ref b4, .int (nI n)])), (b1, .inl (cI, 4, .inl o1)), (b2, .inl (cI, 4, .inl o2)), (b3, .inl (cI, 4, .inl o3)), (b4, .inl (cZ, 4, .inl o4))] _ := hP
        have hD : va_D A [(h0, .inr (0, [.ref a1, .ref a2, .ref a3, .ref a4, .int (nI n)])), (a1, .inl (cI, 4, .inl (upd x1 i (o1 i)))), (a2, .inl (cI, 4, .inl (upd x2 i (o2 i)))), (a3, .inl (cI, 4, .inl (upd x3 i (o3 i)))), (a4, .inl (cZ, 4, .inl (upd x4 i (o4 i)))), (g0, .inr (0, [.ref b1, .ref b2, .ref b3, .ref b4, .int (nI n)])), (b1, .inl (cI, 4, .inl o1)), (b2, .inl (cI, 4, .inl o2)), (b3, .inl (cI, 4, .inl o3)), (b4, .inl (cZ, 4, .inl o4))] := hD
        refine lv_iinc (v := nI (i + 1)) (lv' := [(2, .int (nI (i + 1))), (0, .ref h0), (1, .ref g0)]) hx hb dX0_copyOf_66 hl (k := 2) rfl (nI_1 i) (by decide) rfl (fun ls hl => ?_)
        refine lv_goto (tgt := 10) hx hb dX0_copyOf_69 (by decide) ?_
        exact ih10 (i + 1) (by omega) (by omega) (upd x1 i (o1 i)) (upd x2 i (o2 i)) (upd x3 i (o3 i)) (upd x4 i (o4 i)) (by subst e_x1; exact rowF_upd _ _ _ rfl) (by subst e_x2; exact rowF_upd _ _ _ rfl) (by subst e_x3; exact rowF_upd _ _ _ rfl) (by subst e_x4; exact rowF_upd _ _ _ rfl) _ _ (hP.sub [0, 1, 2, 3, 4, 5, 6, 7, 8, 9] rfl) (hD.sub [0, 1, 2, 3, 4, 5, 6, 7, 8, 9] (by decide) rfl) hS _ (lv_sub hl [1, 2, 0] rfl)
  exact loop10 (n + 1) 0 (Nat.zero_le _) (by omega) t1 t2 t3 t4 ((rowF_0 _ _).symm) ((rowF_0 _ _).symm) ((rowF_0 _ _).symm) ((rowF_0 _ _).symm) _ _ (hP.sub [0, 1, 2, 3, 4, 5, 6, 7, 8, 9] rfl) (hD.sub [0, 1, 2, 3, 4, 5, 6, 7, 8, 9] (by decide) rfl) hS _ (lv_sub hl [1, 2, 0] rfl)

def rm_X1_has : Room := { frames := 0, cells := 0, slots := 0, locals := 0 }
set_option maxHeartbeats 4000000 in
set_option maxRecDepth 100000 in
theorem c_X1_has (l : Launch) (D : va_G) (cI cZ cJ : ClassId) (h0 a1 a2 a3 mo : Nat) (n : Nat) (x : Int32) (hn : n ≤ 4) : Mi l yX1_has cX1_has 2 (some .boolean) rm_X1_has D (TY cI cZ cJ) [.ref h0, .int x] [(h0, .inr (1, [.ref a1, .ref a2, .ref a3, .int (nI mo), .int (nI n)]))] (fun (r : Int32) (u : Unit) => (r = 1 ∧ ∃ j : Nat, j < n ∧ x = nI j) ∨ (r = 0 ∧ ¬ (0 ≤ x ∧ x < nI n))) (fun (u : Unit) => [(h0, .inr (1, [.ref a1, .ref a2, .ref a3, .int (nI mo), .int (nI n)]))]) := by
  refine Mi.ofQ (by decide) (Nat.le_of_ble_eq_true rfl) ?_
  intro p e s m args below meth c A ls Q hF hK hP hD hA hl hend
  obtain ⟨F, hr, hlocks, hG⟩ := hF
  have hx := F.1
  have hb := F.2.1
  have hown := F.2.2.2.1
  have ht := F.2.2.2.2
  have hS : va_S A s.heap s.heap [] := va_S.rf
  have hl : lv_has ls 2 [(0, .ref h0), (1, .int x)] := hl
  refine lv_iload_n hx hb dX1_has_0 rfl (lv_at hl 1 rfl) ?_
  refine lv_if_lt (tgt := 16) hx hb dX1_has_1 (by decide) (fun c_1 => ?_) (fun c_1 => ?_)
  · skip
    have c_1n := Int32.not_le.mpr c_1
    refine lv_iconst (v := 0) hx hb dX1_has_16 (by decide) ?_
    exact hend _ _ _ _ _ _ 0 () dX1_has_17 (Or.inr ⟨rfl, by simp [eq_true c_1, eq_false c_1n]⟩) hP hD hS (by decide) (Nat.le_of_ble_eq_true rfl) (Nat.le_of_ble_eq_true rfl)
  · skip
    have c_1n := Int32.not_lt.mp c_1
    refine lv_iload_n hx hb dX1_has_4 rfl (lv_at hl 1 rfl) ?_
    refine lv_aload_n hx hb dX1_has_5 rfl (lv_at hl 0 rfl) ?_
    refine va_get (D := D) (ci := 1) (v := .int (nI n)) (C := RX1) (T := TX1) (N := 5) hx hb ht inG_X1 hown hK hP 0 rfl rfl 4 (by decide) (ht _ qF_RX1_22) (fun _ h9 => h9) rfl dX1_has_6 ?_
    refine lv_icmp_ge (tgt := 16) hx hb dX1_has_9 (by decide) (fun c_2 => ?_) (fun c_2 => ?_)
    · skip
      have c_2n := Int32.not_lt.mpr c_2
      refine lv_iconst (v := 0) hx hb dX1_has_16 (by decide) ?_
      exact hend _ _ _ _ _ _ 0 () dX1_has_17 (Or.inr ⟨rfl, by simp [eq_false c_1, eq_true c_1n, eq_true c_2, eq_false c_2n]⟩) hP hD hS (by decide) (Nat.le_of_ble_eq_true rfl) (Nat.le_of_ble_eq_true rfl)
    · skip
      have c_2n := Int32.not_le.mp c_2
      refine lv_iconst (v := 1) hx hb dX1_has_12 (by decide) ?_
      refine lv_goto (tgt := 17) hx hb dX1_has_13 (by decide) ?_
      exact hend _ _ _ _ _ _ 1 () dX1_has_17 (Or.inl ⟨rfl, hasP (by omega) c_1 c_2⟩) hP hD hS (by decide) (Nat.le_of_ble_eq_true rfl) (Nat.le_of_ble_eq_true rfl)

def rm_X1_full : Room := { frames := 0, cells := 0, slots := 0, locals := 0 }
set_option maxHeartbeats 4000000 in
set_option maxRecDepth 100000 in
theorem c_X1_full (l : Launch) (D : va_G) (cI cZ cJ : ClassId) (h0 a1 a2 a3 mo : Nat) (n : Nat) (hn : n ≤ 4) (hmo : mo ≤ 4) : Mi l yX1_full cX1_full 1 (some .boolean) rm_X1_full D (TY cI cZ cJ) [.ref h0] [(h0, .inr (1, [.ref a1, .ref a2, .ref a3, .int (nI mo), .int (nI n)]))] (fun (r : Int32) (u : Unit) => (r = 1 ∧ mo ≤ n) ∨ (r = 0 ∧ n < mo)) (fun (u : Unit) => [(h0, .inr (1, [.ref a1, .ref a2, .ref a3, .int (nI mo), .int (nI n)]))]) := by
  refine Mi.ofQ (by decide) (Nat.le_of_ble_eq_true rfl) ?_
  intro p e s m args below meth c A ls Q hF hK hP hD hA hl hend
  obtain ⟨F, hr, hlocks, hG⟩ := hF
  have hx := F.1
  have hb := F.2.1
  have hown := F.2.2.2.1
  have ht := F.2.2.2.2
  have hS : va_S A s.heap s.heap [] := va_S.rf
  have hl : lv_has ls 1 [(0, .ref h0)] := hl
  refine lv_aload_n hx hb dX1_full_0 rfl (lv_at hl 0 rfl) ?_
  refine va_get (D := D) (ci := 1) (v := .int (nI n)) (C := RX1) (T := TX1) (N := 5) hx hb ht inG_X1 hown hK hP 0 rfl rfl 4 (by decide) (ht _ qF_RX1_22) (fun _ h9 => h9) rfl dX1_full_1 ?_
  refine lv_aload_n hx hb dX1_full_4 rfl (lv_at hl 0 rfl) ?_
  refine va_get (D := D) (ci := 1) (v := .int (nI mo)) (C := RX1) (T := TX1) (N := 5) hx hb ht inG_X1 hown hK hP 0 rfl rfl 3 (by decide) (ht _ qF_RX1_32) (fun _ h9 => h9) rfl dX1_full_5 ?_
  refine lv_icmp_lt (tgt := 15) hx hb dX1_full_8 (by decide) (fun c_1 => ?_) (fun c_1 => ?_)
  · skip
    have c_1n := Int32.not_le.mpr c_1
    have c_1m := (nI_ltI (a := n) (b := mo) (by omega) (by omega)).mp c_1
    refine lv_iconst (v := 0) hx hb dX1_full_15 (by decide) ?_
    exact hend _ _ _ _ _ _ 0 () dX1_full_16 (Or.inr ⟨rfl, c_1m⟩) hP hD hS (by decide) (Nat.le_of_ble_eq_true rfl) (Nat.le_of_ble_eq_true rfl)
  · skip
    have c_1n := Int32.not_lt.mp c_1
    have c_1m := (nI_leI (a := mo) (b := n) (by omega) (by omega)).mp c_1n
    refine lv_iconst (v := 1) hx hb dX1_full_11 (by decide) ?_
    refine lv_goto (tgt := 16) hx hb dX1_full_12 (by decide) ?_
    exact hend _ _ _ _ _ _ 1 () dX1_full_16 (Or.inl ⟨rfl, c_1m⟩) hP hD hS (by decide) (Nat.le_of_ble_eq_true rfl) (Nat.le_of_ble_eq_true rfl)

def rm_X1_add : Room := { frames := 0, cells := 0, slots := 0, locals := 0 }
set_option maxHeartbeats 4000000 in
set_option maxRecDepth 100000 in
theorem c_X1_add (l : Launch) (D : va_G) (cI cZ cJ : ClassId) (h0 a1 a2 a3 mo : Nat) (wa : Nat → Int32) (n : Nat) (x : Int32) (hn : n < 4) : Mi l yX1_add cX1_add 3 (some .int) rm_X1_add D (TY cI cZ cJ) [.ref h0, .int x] [(h0, .inr (1, [.ref a1, .ref a2, .ref a3, .int (nI mo), .int (nI n)])), (a1, .inl (cI, 4, .inl wa))] (fun (r : Int32) (u : (Nat → Int32)) => r = nI n ∧ u = upd wa n x) (fun (u : (Nat → Int32)) => [(h0, .inr (1, [.ref a1, .ref a2, .ref a3, .int (nI mo), .int (nI (n + 1))])), (a1, .inl (cI, 4, .inl u))]) := by
  refine Mi.ofQ (by decide) (Nat.le_of_ble_eq_true rfl) ?_
  intro p e s m args below meth c A ls Q hF hK hP hD hA hl hend
  obtain ⟨F, hr, hlocks, hG⟩ := hF
  have hx := F.1
  have hb := F.2.1
  have hown := F.2.2.2.1
  have ht := F.2.2.2.2
  have hS : va_S A s.heap s.heap [] := va_S.rf
  have hl : lv_has ls 3 [(0, .ref h0), (1, .int x)] := hl
  refine lv_aload_n hx hb dX1_add_0 rfl (lv_at hl 0 rfl) ?_
  refine va_get (D := D) (ci := 1) (v := .int (nI n)) (C := RX1) (T := TX1) (N := 5) hx hb ht inG_X1 hown hK hP 0 rfl rfl 4 (by decide) (ht _ qF_RX1_22) (fun _ h9 => h9) rfl dX1_add_1 ?_
  refine lv_istore_n (lv' := [(2, .int (nI n)), (0, .ref h0), (1, .int x)]) hx hb dX1_add_4 rfl hl (by decide) rfl (fun ls hl => ?_)
  refine lv_aload_n hx hb dX1_add_5 rfl (lv_at hl 1 rfl) ?_
  refine va_get (D := D) (ci := 1) (v := .ref a1) (C := RX1) (T := TX1) (N := 5) hx hb ht inG_X1 hown hK hP 0 rfl rfl 0 (by decide) (ht _ qF_RX1_9) (fun _ h9 => h9) rfl dX1_add_6 ?_
  refine lv_iload_n hx hb dX1_add_9 rfl (lv_at hl 0 rfl) ?_
  refine lv_iload_n hx hb dX1_add_10 rfl (lv_at hl 2 rfl) ?_
  refine sI_ hx hb hK hP hD hS 1 0 rfl rfl n (rfl) (by omega) (by decide) (upd wa n x) (rfl) dX1_add_11 (fun H locs hP hD hS => ?_)
  have hP : va_P D vwCl [(h0, .inr (1, [.ref a1, .ref a2, .ref a3, .int (nI mo), .int (nI n)])), (a1, .inl (cI, 4, .inl (upd wa n x)))] _ := hP
  have hD : va_D A [(h0, .inr (1, [.ref a1, .ref a2, .ref a3, .int (nI mo), .int (nI n)])), (a1, .inl (cI, 4, .inl (upd wa n x)))] := hD
  refine lv_aload_n hx hb dX1_add_12 rfl (lv_at hl 1 rfl) ?_
  refine lv_dup hx hb dX1_add_13 rfl ?_
  refine va_get (D := D) (ci := 1) (v := .int (nI n)) (C := RX1) (T := TX1) (N := 5) hx hb ht inG_X1 hown hK hP 0 rfl rfl 4 (by decide) (ht _ qF_RX1_22) (fun _ h9 => h9) rfl dX1_add_14 ?_
  refine lv_iconst (v := 1) hx hb dX1_add_17 (by decide) ?_
  refine lv_iadd hx hb dX1_add_18 ?_
  refine t_i (nI (n + 1)) (nI_1 n) ?_
  refine va_put (D := D) (ci := 1) (v := .int (nI (n + 1))) (C := RX1) (T := TX1) (N := 5) hx hb ht inG_X1 tyX1 tyX1_ok nmX1 hown hK hP hD hS 0 rfl rfl 4 (by decide) (ht _ qF_RX1_22) (fun _ h9 => h9) rfl (tyX1_ok 4 (by decide)) rfl rfl (Nat.le_of_ble_eq_true rfl) dX1_add_19 (fun H locs hP hD hS => ?_)
  have hP : va_P D vwCl [(h0, .inr (1, [.ref a1, .ref a2, .ref a3, .int (nI mo), .int (nI (n + 1))])), (a1, .inl (cI, 4, .inl (upd wa n x)))] _ := hP
  have hD : va_D A [(h0, .inr (1, [.ref a1, .ref a2, .ref a3, .int (nI mo), .int (nI (n + 1))])), (a1, .inl (cI, 4, .inl (upd wa n x)))] := hD
  refine lv_iload_n hx hb dX1_add_22 rfl (lv_at hl 0 rfl) ?_
  exact hend _ _ _ _ _ _ (nI n) (upd wa n x) dX1_add_23 (⟨rfl, rfl⟩) hP hD hS rfl (Nat.le_of_ble_eq_true rfl) (Nat.le_of_ble_eq_true rfl)

def rm_X1_empty : Room := { frames := 0, cells := 0, slots := 0, locals := 0 }
set_option maxHeartbeats 4000000 in
set_option maxRecDepth 100000 in
theorem c_X1_empty (l : Launch) (D : va_G) (cI cZ cJ : ClassId) (h0 a1 a2 a3 mo : Nat) (wa al bo : Nat → Int32) (n k : Nat) (hk : k < 4) : Mv l yX1_empty cX1_empty 2 rm_X1_empty D (TY cI cZ cJ) [.ref h0, .int (nI k)] [(h0, .inr (1, [.ref a1, .ref a2, .ref a3, .int (nI mo), .int (nI n)])), (a1, .inl (cI, 4, .inl wa)), (a2, .inl (cI, 4, .inl al)), (a3, .inl (cZ, 4, .inl bo))] (fun (u : (Nat → Int32) × (Nat → Int32) × (Nat → Int32)) => u.1 = upd wa k 0 ∧ u.2.1 = upd al k 0 ∧ u.2.2 = upd bo k 0) (fun (u : (Nat → Int32) × (Nat → Int32) × (Nat → Int32)) => [(h0, .inr (1, [.ref a1, .ref a2, .ref a3, .int (nI mo), .int (nI n)])), (a1, .inl (cI, 4, .inl u.1)), (a2, .inl (cI, 4, .inl u.2.1)), (a3, .inl (cZ, 4, .inl u.2.2))]) := by
  refine Mv.ofQ (by decide) (Nat.le_of_ble_eq_true rfl) ?_
  intro p e s m args below meth c A ls Q hF hK hP hD hA hl hend hin
  obtain ⟨F, hr, hlocks, hG⟩ := hF
  have hx := F.1
  have hb := F.2.1
  have hown := F.2.2.2.1
  have ht := F.2.2.2.2
  have hS : va_S A s.heap s.heap [] := va_S.rf
  have hl : lv_has ls 2 [(0, .ref h0), (1, .int (nI k))] := hl
  refine lv_aload_n hx hb dX1_empty_0 rfl (lv_at hl 0 rfl) ?_
  refine va_get (D := D) (ci := 1) (v := .ref a1) (C := RX1) (T := TX1) (N := 5) hx hb ht inG_X1 hown hK hP 0 rfl rfl 0 (by decide) (ht _ qF_RX1_9) (fun _ h9 => h9) rfl dX1_empty_1 ?_
  refine lv_iload_n hx hb dX1_empty_4 rfl (lv_at hl 1 rfl) ?_
  refine lv_iconst (v := 0) hx hb dX1_empty_5 (by decide) ?_
  refine sI_ hx hb hK hP hD hS 1 0 rfl rfl k (rfl) (by omega) (by decide) (upd wa k 0) (rfl) dX1_empty_6 (fun H locs hP hD hS => ?_)
  have hP : va_P D vwCl [(h0, .inr (1, [.ref a1, .ref a2, .ref a3, .int (nI mo), .int (nI n)])), (a1, .inl (cI, 4, .inl (upd wa k 0))), (a2, .inl (cI, 4, .inl al)), (a3, .inl (cZ, 4, .inl bo))] _ := hP
  have hD : va_D A [(h0, .inr (1, [.ref a1, .ref a2, .ref a3, .int (nI mo), .int (nI n)])), (a1, .inl (cI, 4, .inl (upd wa k 0))), (a2, .inl (cI, 4, .inl al)), (a3, .inl (cZ, 4, .inl bo))] := hD
  refine lv_aload_n hx hb dX1_empty_7 rfl (lv_at hl 0 rfl) ?_
  refine va_get (D := D) (ci := 1) (v := .ref a2) (C := RX1) (T := TX1) (N := 5) hx hb ht inG_X1 hown hK hP 0 rfl rfl 1 (by decide) (ht _ qF_RX1_15) (fun _ h9 => h9) rfl dX1_empty_8 ?_
  refine lv_iload_n hx hb dX1_empty_11 rfl (lv_at hl 1 rfl) ?_
  refine lv_iconst (v := 0) hx hb dX1_empty_12 (by decide) ?_
  refine sI_ hx hb hK hP hD hS 2 0 rfl rfl k (rfl) (by omega) (by decide) (upd al k 0) (rfl) dX1_empty_13 (fun H locs hP hD hS => ?_)
  have hP : va_P D vwCl [(h0, .inr (1, [.ref a1, .ref a2, .ref a3, .int (nI mo), .int (nI n)])), (a1, .inl (cI, 4, .inl (upd wa k 0))), (a2, .inl (cI, 4, .inl (upd al k 0))), (a3, .inl (cZ, 4, .inl bo))] _ := hP
  have hD : va_D A [(h0, .inr (1, [.ref a1, .ref a2, .ref a3, .int (nI mo), .int (nI n)])), (a1, .inl (cI, 4, .inl (upd wa k 0))), (a2, .inl (cI, 4, .inl (upd al k 0))), (a3, .inl (cZ, 4, .inl bo))] := hD
  refine lv_aload_n hx hb dX1_empty_14 rfl (lv_at hl 0 rfl) ?_
  refine va_get (D := D) (ci := 1) (v := .ref a3) (C := RX1) (T := TX1) (N := 5) hx hb ht inG_X1 hown hK hP 0 rfl rfl 2 (by decide) (ht _ qF_RX1_18) (fun _ h9 => h9) rfl dX1_empty_15 ?_
  refine lv_iload_n hx hb dX1_empty_18 rfl (lv_at hl 1 rfl) ?_
  refine lv_iconst (v := 0) hx hb dX1_empty_19 (by decide) ?_
  refine sZ_ hx hb hK hP hD hS 3 1 rfl rfl k (rfl) (by omega) (by decide) (by decide) (upd bo k 0) (rfl) dX1_empty_20 (fun H locs hP hD hS => ?_)
  have hP : va_P D vwCl [(h0, .inr (1, [.ref a1, .ref a2, .ref a3, .int (nI mo), .int (nI n)])), (a1, .inl (cI, 4, .inl (upd wa k 0))), (a2, .inl (cI, 4, .inl (upd al k 0))), (a3, .inl (cZ, 4, .inl (upd bo k 0)))] _ := hP
  have hD : va_D A [(h0, .inr (1, [.ref a1, .ref a2, .ref a3, .int (nI mo), .int (nI n)])), (a1, .inl (cI, 4, .inl (upd wa k 0))), (a2, .inl (cI, 4, .inl (upd al k 0))), (a3, .inl (cZ, 4, .inl (upd bo k 0)))] := hD
  exact hend _ _ _ _ _ _ (upd wa k 0, upd al k 0, upd bo k 0) dX1_empty_21 (⟨rfl, rfl, rfl⟩) hP hD hS (Nat.le_of_ble_eq_true rfl) (Nat.le_of_ble_eq_true rfl)

def rm_X1_strength : Room := { frames := 1, cells := 0, slots := 0, locals := 22 }
set_option maxHeartbeats 4000000 in
set_option maxRecDepth 100000 in
theorem c_X1_strength (l : Launch) (D : va_G) (cI cZ cJ : ClassId) (h0 a1 a2 a3 mo : Nat) (wa al : Nat → Int32) (n k : Nat) (hk : k < 4) : Mi l yX1_strength cX1_strength 2 (some .int) rm_X1_strength D (TY cI cZ cJ) [.ref h0, .int (nI k)] [(h0, .inr (1, [.ref a1, .ref a2, .ref a3, .int (nI mo), .int (nI n)])), (a1, .inl (cI, 4, .inl wa)), (a2, .inl (cI, 4, .inl al))] (fun (r : Int32) (u : Unit) => r = strg (wa k) (al k)) (fun (u : Unit) => [(h0, .inr (1, [.ref a1, .ref a2, .ref a3, .int (nI mo), .int (nI n)])), (a1, .inl (cI, 4, .inl wa)), (a2, .inl (cI, 4, .inl al))]) := by
  refine Mi.ofQ (by decide) (Nat.le_of_ble_eq_true rfl) ?_
  intro p e s m args below meth c A ls Q hF hK hP hD hA hl hend
  obtain ⟨F, hr, hlocks, hG⟩ := hF
  have hx := F.1
  have hb := F.2.1
  have hown := F.2.2.2.1
  have ht := F.2.2.2.2
  have hS : va_S A s.heap s.heap [] := va_S.rf
  have hl : lv_has ls 2 [(0, .ref h0), (1, .int (nI k))] := hl
  refine lv_aload_n hx hb dX1_strength_0 rfl (lv_at hl 0 rfl) ?_
  refine va_get (D := D) (ci := 1) (v := .ref a1) (C := RX1) (T := TX1) (N := 5) hx hb ht inG_X1 hown hK hP 0 rfl rfl 0 (by decide) (ht _ qF_RX1_9) (fun _ h9 => h9) rfl dX1_strength_1 ?_
  refine lv_iload_n hx hb dX1_strength_4 rfl (lv_at hl 1 rfl) ?_
  refine aI hx hb hK hP 1 0 rfl rfl k (rfl) (by omega) (by decide) (v := wa k) (rfl) dX1_strength_5 ?_
  refine lv_aload_n hx hb dX1_strength_6 rfl (lv_at hl 0 rfl) ?_
  refine va_get (D := D) (ci := 1) (v := .ref a2) (C := RX1) (T := TX1) (N := 5) hx hb ht inG_X1 hown hK hP 0 rfl rfl 1 (by decide) (ht _ qF_RX1_15) (fun _ h9 => h9) rfl dX1_strength_7 ?_
  refine lv_iload_n hx hb dX1_strength_10 rfl (lv_at hl 1 rfl) ?_
  refine aI hx hb hK hP 2 0 rfl rfl k (rfl) (by omega) (by decide) (v := al k) (rfl) dX1_strength_11 ?_
  refine k_i (wr := [(h0, .inr (1, [.ref a1, .ref a2, .ref a3, .int (nI mo), .int (nI n)])), (a1, .inl (cI, 4, .inl wa)), (a2, .inl (cI, 4, .inl al))]) (rSN (As := [.int (wa k), .int (al k)]) (rest := []) F hG hK (hP.sub (ws' := []) [] rfl) ((hD.sub (ws' := []) [] (by decide) rfl).weaken (fun _ _ _ _ => trivial)) s_RX1_35 (c_X3_strengthOf l D cI cZ cJ (wa k) (al k) _) rfl hl.1 rfl (Nat.le_of_ble_eq_true rfl) dX1_strength_12 ⟨(Nat.le_of_ble_eq_true rfl), (Nat.le_of_ble_eq_true rfl)⟩ ⟨(Nat.le_of_ble_eq_true rfl), (Nat.le_of_ble_eq_true rfl)⟩) hP hD hS hA [] [0, 1, 2] rfl rfl (by decide) (by decide) (fun r_12 uu H locs hw hP hD hS => ?_)
  try dsimp only at hw
  subst hw
  have hP : va_P D vwCl [(h0, .inr (1, [.ref a1, .ref a2, .ref a3, .int (nI mo), .int (nI n)])), (a1, .inl (cI, 4, .inl wa)), (a2, .inl (cI, 4, .inl al))] _ := hP
  have hD : va_D A [(h0, .inr (1, [.ref a1, .ref a2, .ref a3, .int (nI mo), .int (nI n)])), (a1, .inl (cI, 4, .inl wa)), (a2, .inl (cI, 4, .inl al))] := hD
  exact hend _ _ _ _ _ _ (strg (wa k) (al k)) () dX1_strength_15 (rfl) hP hD hS rfl (Nat.le_of_ble_eq_true rfl) (Nat.le_of_ble_eq_true rfl)

def rm_X1_egg : Room := { frames := 2, cells := 0, slots := 0, locals := 43 }
set_option maxHeartbeats 4000000 in
set_option maxRecDepth 100000 in
theorem c_X1_egg (l : Launch) (D : va_G) (cI cZ cJ : ClassId) (h0 a1 a2 a3 mo : Nat) (wa al : Nat → Int32) (n k : Nat) (hk : k < 4) : Mi l yX1_egg cX1_egg 2 (some .int) rm_X1_egg D (TY cI cZ cJ) [.ref h0, .int (nI k)] [(h0, .inr (1, [.ref a1, .ref a2, .ref a3, .int (nI mo), .int (nI n)])), (a1, .inl (cI, 4, .inl wa)), (a2, .inl (cI, 4, .inl al))] (fun (r : Int32) (u : Unit) => r = eggB (strg (wa k) (al k))) (fun (u : Unit) => [(h0, .inr (1, [.ref a1, .ref a2, .ref a3, .int (nI mo), .int (nI n)])), (a1, .inl (cI, 4, .inl wa)), (a2, .inl (cI, 4, .inl al))]) := by
  refine Mi.ofQ (by decide) (Nat.le_of_ble_eq_true rfl) ?_
  intro p e s m args below meth c A ls Q hF hK hP hD hA hl hend
  obtain ⟨F, hr, hlocks, hG⟩ := hF
  have hx := F.1
  have hb := F.2.1
  have hown := F.2.2.2.1
  have ht := F.2.2.2.2
  have hS : va_S A s.heap s.heap [] := va_S.rf
  have hl : lv_has ls 2 [(0, .ref h0), (1, .int (nI k))] := hl
  refine lv_aload_n hx hb dX1_egg_0 rfl (lv_at hl 0 rfl) ?_
  refine lv_iload_n hx hb dX1_egg_1 rfl (lv_at hl 1 rfl) ?_
  refine k_i (wr := []) (rV (As := [.int (nI k)]) (rest := []) F hG hK (hP.sub (ws' := [(h0, .inr (1, [.ref a1, .ref a2, .ref a3, .int (nI mo), .int (nI n)])), (a1, .inl (cI, 4, .inl wa)), (a2, .inl (cI, 4, .inl al))]) [0, 1, 2] rfl) ((hD.sub (ws' := [(h0, .inr (1, [.ref a1, .ref a2, .ref a3, .int (nI mo), .int (nI n)])), (a1, .inl (cI, 4, .inl wa)), (a2, .inl (cI, 4, .inl al))]) [0, 1, 2] (by decide) rfl).weaken (fun _ _ _ _ => trivial)) s_RX1_38 (c_X1_strength l D cI cZ cJ h0 a1 a2 a3 mo wa al n k (by first | assumption | omega) _) 1 0 rfl rfl rfl rfl hl.1 rfl (Nat.le_of_ble_eq_true rfl) dX1_egg_2 ⟨(Nat.le_of_ble_eq_true rfl), (Nat.le_of_ble_eq_true rfl)⟩ ⟨(Nat.le_of_ble_eq_true rfl), (Nat.le_of_ble_eq_true rfl)⟩) hP hD hS hA [0, 1, 2] [] rfl rfl (by decide) (by decide) (fun r_2 uu H locs hw hP hD hS => ?_)
  try dsimp only at hw
  subst hw
  have hP : va_P D vwCl [(h0, .inr (1, [.ref a1, .ref a2, .ref a3, .int (nI mo), .int (nI n)])), (a1, .inl (cI, 4, .inl wa)), (a2, .inl (cI, 4, .inl al))] _ := hP
  have hD : va_D A [(h0, .inr (1, [.ref a1, .ref a2, .ref a3, .int (nI mo), .int (nI n)])), (a1, .inl (cI, 4, .inl wa)), (a2, .inl (cI, 4, .inl al))] := hD
  refine k_i (wr := [(h0, .inr (1, [.ref a1, .ref a2, .ref a3, .int (nI mo), .int (nI n)])), (a1, .inl (cI, 4, .inl wa)), (a2, .inl (cI, 4, .inl al))]) (rSN (As := [.int (strg (wa k) (al k))]) (rest := []) F hG hK (hP.sub (ws' := []) [] rfl) ((hD.sub (ws' := []) [] (by decide) rfl).weaken (fun _ _ _ _ => trivial)) s_RX1_42 (c_X3_eggBy l D cI cZ cJ (strg (wa k) (al k)) _) rfl hl.1 rfl (Nat.le_of_ble_eq_true rfl) dX1_egg_5 ⟨(Nat.le_of_ble_eq_true rfl), (Nat.le_of_ble_eq_true rfl)⟩ ⟨(Nat.le_of_ble_eq_true rfl), (Nat.le_of_ble_eq_true rfl)⟩) hP hD hS hA [] [0, 1, 2] rfl rfl (by decide) (by decide) (fun r_5 uu H locs hw hP hD hS => ?_)
  try dsimp only at hw
  subst hw
  have hP : va_P D vwCl [(h0, .inr (1, [.ref a1, .ref a2, .ref a3, .int (nI mo), .int (nI n)])), (a1, .inl (cI, 4, .inl wa)), (a2, .inl (cI, 4, .inl al))] _ := hP
  have hD : va_D A [(h0, .inr (1, [.ref a1, .ref a2, .ref a3, .int (nI mo), .int (nI n)])), (a1, .inl (cI, 4, .inl wa)), (a2, .inl (cI, 4, .inl al))] := hD
  exact hend _ _ _ _ _ _ (eggB (strg (wa k) (al k))) () dX1_egg_8 (rfl) hP hD hS rfl (Nat.le_of_ble_eq_true rfl) (Nat.le_of_ble_eq_true rfl)

def rm_X1_tell : Room := { frames := 3, cells := 0, slots := 0, locals := 64 }
set_option maxHeartbeats 4000000 in
set_option maxRecDepth 100000 in
theorem c_X1_tell (l : Launch) (D : va_G) (cI cZ cJ : ClassId) (h0 a1 a2 a3 mo : Nat) (wa al bo : Nat → Int32) (n k : Nat) (x : Int32) (hk : k < 4) : Mi l yX1_tell cX1_tell 3 (some .int) rm_X1_tell D (TY cI cZ cJ) [.ref h0, .int (nI k), .int x] [(h0, .inr (1, [.ref a1, .ref a2, .ref a3, .int (nI mo), .int (nI n)])), (a1, .inl (cI, 4, .inl wa)), (a2, .inl (cI, 4, .inl al)), (a3, .inl (cZ, 4, .inl bo))] (fun (r : Int32) (u : Unit) => r = ltell wa al bo k x) (fun (u : Unit) => [(h0, .inr (1, [.ref a1, .ref a2, .ref a3, .int (nI mo), .int (nI n)])), (a1, .inl (cI, 4, .inl wa)), (a2, .inl (cI, 4, .inl al)), (a3, .inl (cZ, 4, .inl bo))]) := by
  refine Mi.ofQ (by decide) (Nat.le_of_ble_eq_true rfl) ?_
  intro p e s m args below meth c A ls Q hF hK hP hD hA hl hend
  obtain ⟨F, hr, hlocks, hG⟩ := hF
  have hx := F.1
  have hb := F.2.1
  have hown := F.2.2.2.1
  have ht := F.2.2.2.2
  have hS : va_S A s.heap s.heap [] := va_S.rf
  have hl : lv_has ls 3 [(0, .ref h0), (1, .int (nI k)), (2, .int x)] := hl
  refine lv_iload_n hx hb dX1_tell_0 rfl (lv_at hl 2 rfl) ?_
  have w_1 : Int32.toInt x = 0 ∨ Int32.toInt x = 1 ∨ Int32.toInt x = 2 ∨ Int32.toInt x = 3 ∨ (Int32.toInt x < 0 ∨ 3 < Int32.toInt x) := by omega
  rcases w_1 with w_1 | w_1 | w_1 | w_1 | w_1
  · skip
    refine lv_tableIn (off := 31) (tgt := 32) hx hb dX1_tell_1 (by rw [w_1]; decide) (by rw [w_1]; decide) (by rw [w_1]; rfl) (by decide) ?_
    have w_1e : x = 0 := Int32.toInt_inj.mp w_1
    have w_1n1 : ¬ x = 1 := fun q => by rw [q] at w_1; revert w_1; decide
    have w_1n2 : ¬ x = 2 := fun q => by rw [q] at w_1; revert w_1; decide
    have w_1n3 : ¬ x = 3 := fun q => by rw [q] at w_1; revert w_1; decide
    refine lv_aload_n hx hb dX1_tell_32 rfl (lv_at hl 0 rfl) ?_
    refine va_get (D := D) (ci := 1) (v := .ref a1) (C := RX1) (T := TX1) (N := 5) hx hb ht inG_X1 hown hK hP 0 rfl rfl 0 (by decide) (ht _ qF_RX1_9) (fun _ h9 => h9) rfl dX1_tell_33 ?_
    refine lv_iload_n hx hb dX1_tell_36 rfl (lv_at hl 1 rfl) ?_
    refine aI hx hb hK hP 1 0 rfl rfl k (rfl) (by omega) (by decide) (v := wa k) (rfl) dX1_tell_37 ?_
    exact hend _ _ _ _ _ _ (wa k) () dX1_tell_38 (by simp only [ltell, b01, eq_true w_1e, eq_false w_1n1, eq_false w_1n2, eq_false w_1n3, if_true, if_false]) hP hD hS rfl (Nat.le_of_ble_eq_true rfl) (Nat.le_of_ble_eq_true rfl)
  · skip
    refine lv_tableIn (off := 38) (tgt := 39) hx hb dX1_tell_1 (by rw [w_1]; decide) (by rw [w_1]; decide) (by rw [w_1]; rfl) (by decide) ?_
    have w_1e : x = 1 := Int32.toInt_inj.mp w_1
    have w_1n0 : ¬ x = 0 := fun q => by rw [q] at w_1; revert w_1; decide
    have w_1n2 : ¬ x = 2 := fun q => by rw [q] at w_1; revert w_1; decide
    have w_1n3 : ¬ x = 3 := fun q => by rw [q] at w_1; revert w_1; decide
    refine lv_aload_n hx hb dX1_tell_39 rfl (lv_at hl 0 rfl) ?_
    refine va_get (D := D) (ci := 1) (v := .ref a2) (C := RX1) (T := TX1) (N := 5) hx hb ht inG_X1 hown hK hP 0 rfl rfl 1 (by decide) (ht _ qF_RX1_15) (fun _ h9 => h9) rfl dX1_tell_40 ?_
    refine lv_iload_n hx hb dX1_tell_43 rfl (lv_at hl 1 rfl) ?_
    refine aI hx hb hK hP 2 0 rfl rfl k (rfl) (by omega) (by decide) (v := al k) (rfl) dX1_tell_44 ?_
    exact hend _ _ _ _ _ _ (al k) () dX1_tell_45 (by simp only [ltell, b01, eq_true w_1e, eq_false w_1n0, eq_false w_1n2, eq_false w_1n3, if_true, if_false]) hP hD hS rfl (Nat.le_of_ble_eq_true rfl) (Nat.le_of_ble_eq_true rfl)
  · skip
    refine lv_tableIn (off := 45) (tgt := 46) hx hb dX1_tell_1 (by rw [w_1]; decide) (by rw [w_1]; decide) (by rw [w_1]; rfl) (by decide) ?_
    have w_1e : x = 2 := Int32.toInt_inj.mp w_1
    have w_1n0 : ¬ x = 0 := fun q => by rw [q] at w_1; revert w_1; decide
    have w_1n1 : ¬ x = 1 := fun q => by rw [q] at w_1; revert w_1; decide
    have w_1n3 : ¬ x = 3 := fun q => by rw [q] at w_1; revert w_1; decide
    refine lv_aload_n hx hb dX1_tell_46 rfl (lv_at hl 0 rfl) ?_
    refine lv_iload_n hx hb dX1_tell_47 rfl (lv_at hl 1 rfl) ?_
    refine k_i (wr := [(a3, .inl (cZ, 4, .inl bo))]) (rV (As := [.int (nI k)]) (rest := []) F hG hK (hP.sub (ws' := [(h0, .inr (1, [.ref a1, .ref a2, .ref a3, .int (nI mo), .int (nI n)])), (a1, .inl (cI, 4, .inl wa)), (a2, .inl (cI, 4, .inl al))]) [0, 1, 2] rfl) ((hD.sub (ws' := [(h0, .inr (1, [.ref a1, .ref a2, .ref a3, .int (nI mo), .int (nI n)])), (a1, .inl (cI, 4, .inl wa)), (a2, .inl (cI, 4, .inl al))]) [0, 1, 2] (by decide) rfl).weaken (fun _ _ _ _ => trivial)) s_RX1_38 (c_X1_strength l D cI cZ cJ h0 a1 a2 a3 mo wa al n k (by first | assumption | omega) _) 1 0 rfl rfl rfl rfl hl.1 rfl (Nat.le_of_ble_eq_true rfl) dX1_tell_48 ⟨(Nat.le_of_ble_eq_true rfl), (Nat.le_of_ble_eq_true rfl)⟩ ⟨(Nat.le_of_ble_eq_true rfl), (Nat.le_of_ble_eq_true rfl)⟩) hP hD hS hA [0, 1, 2] [3] rfl rfl (by decide) (by decide) (fun r_48 uu H locs hw hP hD hS => ?_)
    try dsimp only at hw
    subst hw
    have hP : va_P D vwCl [(a3, .inl (cZ, 4, .inl bo)), (h0, .inr (1, [.ref a1, .ref a2, .ref a3, .int (nI mo), .int (nI n)])), (a1, .inl (cI, 4, .inl wa)), (a2, .inl (cI, 4, .inl al))] _ := hP
    have hD : va_D A [(a3, .inl (cZ, 4, .inl bo)), (h0, .inr (1, [.ref a1, .ref a2, .ref a3, .int (nI mo), .int (nI n)])), (a1, .inl (cI, 4, .inl wa)), (a2, .inl (cI, 4, .inl al))] := hD
    exact hend _ _ _ _ _ _ (strg (wa k) (al k)) () dX1_tell_51 (by simp only [ltell, b01, eq_true w_1e, eq_false w_1n0, eq_false w_1n1, eq_false w_1n3, if_true, if_false]) (hP.sub [1, 2, 3, 0] rfl) (hD.sub [1, 2, 3, 0] (by decide) rfl) hS rfl (Nat.le_of_ble_eq_true rfl) (Nat.le_of_ble_eq_true rfl)
  · skip
    refine lv_tableIn (off := 51) (tgt := 52) hx hb dX1_tell_1 (by rw [w_1]; decide) (by rw [w_1]; decide) (by rw [w_1]; rfl) (by decide) ?_
    have w_1e : x = 3 := Int32.toInt_inj.mp w_1
    have w_1n0 : ¬ x = 0 := fun q => by rw [q] at w_1; revert w_1; decide
    have w_1n1 : ¬ x = 1 := fun q => by rw [q] at w_1; revert w_1; decide
    have w_1n2 : ¬ x = 2 := fun q => by rw [q] at w_1; revert w_1; decide
    refine lv_aload_n hx hb dX1_tell_52 rfl (lv_at hl 0 rfl) ?_
    refine lv_iload_n hx hb dX1_tell_53 rfl (lv_at hl 1 rfl) ?_
    refine k_i (wr := [(a3, .inl (cZ, 4, .inl bo))]) (rV (As := [.int (nI k)]) (rest := []) F hG hK (hP.sub (ws' := [(h0, .inr (1, [.ref a1, .ref a2, .ref a3, .int (nI mo), .int (nI n)])), (a1, .inl (cI, 4, .inl wa)), (a2, .inl (cI, 4, .inl al))]) [0, 1, 2] rfl) ((hD.sub (ws' := [(h0, .inr (1, [.ref a1, .ref a2, .ref a3, .int (nI mo), .int (nI n)])), (a1, .inl (cI, 4, .inl wa)), (a2, .inl (cI, 4, .inl al))]) [0, 1, 2] (by decide) rfl).weaken (fun _ _ _ _ => trivial)) s_RX1_45 (c_X1_egg l D cI cZ cJ h0 a1 a2 a3 mo wa al n k (by first | assumption | omega) _) 1 0 rfl rfl rfl rfl hl.1 rfl (Nat.le_of_ble_eq_true rfl) dX1_tell_54 ⟨(Nat.le_of_ble_eq_true rfl), (Nat.le_of_ble_eq_true rfl)⟩ ⟨(Nat.le_of_ble_eq_true rfl), (Nat.le_of_ble_eq_true rfl)⟩) hP hD hS hA [0, 1, 2] [3] rfl rfl (by decide) (by decide) (fun r_54 uu H locs hw hP hD hS => ?_)
    try dsimp only at hw
    subst hw
    have hP : va_P D vwCl [(a3, .inl (cZ, 4, .inl bo)), (h0, .inr (1, [.ref a1, .ref a2, .ref a3, .int (nI mo), .int (nI n)])), (a1, .inl (cI, 4, .inl wa)), (a2, .inl (cI, 4, .inl al))] _ := hP
    have hD : va_D A [(a3, .inl (cZ, 4, .inl bo)), (h0, .inr (1, [.ref a1, .ref a2, .ref a3, .int (nI mo), .int (nI n)])), (a1, .inl (cI, 4, .inl wa)), (a2, .inl (cI, 4, .inl al))] := hD
    exact hend _ _ _ _ _ _ (eggB (strg (wa k) (al k))) () dX1_tell_57 (by simp only [ltell, b01, eq_true w_1e, eq_false w_1n0, eq_false w_1n1, eq_false w_1n2, if_true, if_false]) (hP.sub [1, 2, 3, 0] rfl) (hD.sub [1, 2, 3, 0] (by decide) rfl) hS rfl (Nat.le_of_ble_eq_true rfl) (Nat.le_of_ble_eq_true rfl)
  · skip
    refine lv_tableOut (tgt := 58) hx hb dX1_tell_1 w_1 (by decide) ?_
    have w_1n0 : ¬ x = 0 := fun q => by rw [q] at w_1; revert w_1; decide
    have w_1n1 : ¬ x = 1 := fun q => by rw [q] at w_1; revert w_1; decide
    have w_1n2 : ¬ x = 2 := fun q => by rw [q] at w_1; revert w_1; decide
    have w_1n3 : ¬ x = 3 := fun q => by rw [q] at w_1; revert w_1; decide
    refine lv_aload_n hx hb dX1_tell_58 rfl (lv_at hl 0 rfl) ?_
    refine va_get (D := D) (ci := 1) (v := .ref a3) (C := RX1) (T := TX1) (N := 5) hx hb ht inG_X1 hown hK hP 0 rfl rfl 2 (by decide) (ht _ qF_RX1_18) (fun _ h9 => h9) rfl dX1_tell_59 ?_
    refine lv_iload_n hx hb dX1_tell_62 rfl (lv_at hl 1 rfl) ?_
    refine aZ hx hb hK hP 3 1 rfl rfl k (rfl) (by omega) (by decide) (v := bo k) (rfl) dX1_tell_63 ?_
    refine lv_if_eq (tgt := 71) hx hb dX1_tell_64 (by decide) (fun c_2 => ?_) (fun c_2 => ?_)
    · skip
      refine lv_iconst (v := 0) hx hb dX1_tell_71 (by decide) ?_
      exact hend _ _ _ _ _ _ 0 () dX1_tell_72 (by simp only [ltell, b01, eq_false w_1n0, eq_false w_1n1, eq_false w_1n2, eq_false w_1n3, eq_true c_2, if_true, if_false]) hP hD hS rfl (Nat.le_of_ble_eq_true rfl) (Nat.le_of_ble_eq_true rfl)
    · skip
      refine lv_iconst (v := 1) hx hb dX1_tell_67 (by decide) ?_
      refine lv_goto (tgt := 72) hx hb dX1_tell_68 (by decide) ?_
      exact hend _ _ _ _ _ _ 1 () dX1_tell_72 (by simp only [ltell, b01, eq_false w_1n0, eq_false w_1n1, eq_false w_1n2, eq_false w_1n3, eq_false c_2, if_true, if_false]) hP hD hS rfl (Nat.le_of_ble_eq_true rfl) (Nat.le_of_ble_eq_true rfl)

def rm_X1_allAlum : Room := { frames := 0, cells := 0, slots := 0, locals := 0 }
set_option maxHeartbeats 4000000 in
set_option maxRecDepth 100000 in
theorem c_X1_allAlum (l : Launch) (D : va_G) (cI cZ cJ : ClassId) (h0 a1 a2 a3 mo : Nat) (al : Nat → Int32) (n : Nat) (hn : n ≤ 4) : Mi l yX1_allAlum cX1_allAlum 3 (some .int) rm_X1_allAlum D (TY cI cZ cJ) [.ref h0] [(h0, .inr (1, [.ref a1, .ref a2, .ref a3, .int (nI mo), .int (nI n)])), (a2, .inl (cI, 4, .inl al))] (fun (r : Int32) (u : Unit) => r = sumF (al) n) (fun (u : Unit) => [(h0, .inr (1, [.ref a1, .ref a2, .ref a3, .int (nI mo), .int (nI n)])), (a2, .inl (cI, 4, .inl al))]) := by
  refine Mi.ofQ (by decide) (Nat.le_of_ble_eq_true rfl) ?_
  intro p e s m args below meth c A ls Q hF hK hP hD hA hl hend
  obtain ⟨F, hr, hlocks, hG⟩ := hF
  have hx := F.1
  have hb := F.2.1
  have hown := F.2.2.2.1
  have ht := F.2.2.2.2
  have hS : va_S A s.heap s.heap [] := va_S.rf
  have hl : lv_has ls 3 [(0, .ref h0)] := hl
  refine lv_iconst (v := 0) hx hb dX1_allAlum_0 (by decide) ?_
  refine lv_istore_n (lv' := [(1, .int 0), (0, .ref h0)]) hx hb dX1_allAlum_1 rfl hl (by decide) rfl (fun ls hl => ?_)
  refine lv_iconst (v := 0) hx hb dX1_allAlum_2 (by decide) ?_
  refine lv_istore_n (lv' := [(2, .int 0), (1, .int 0), (0, .ref h0)]) hx hb dX1_allAlum_3 rfl hl (by decide) rfl (fun ls hl => ?_)
  have loop4 : ∀ (kf4 i : Nat), i ≤ n → n < i + kf4 → ∀ (sm : Int32), sm = sumF (al) i → ∀ (H : Heap) (locs : List Loc), va_P D vwCl [(h0, .inr (1, [.ref a1, .ref a2, .ref a3, .int (nI mo), .int (nI n)])), (a2, .inl (cI, 4, .inl al))] H → va_D A [(h0, .inr (1, [.ref a1, .ref a2, .ref a3, .int (nI mo), .int (nI n)])), (a2, .inl (cI, 4, .inl al))] → va_S A s.heap H locs → ∀ (ls : Array Slot), lv_has ls 3 [(0, .ref h0), (1, .int sm), (2, .int (nI i))] → W p l e rm_X1_allAlum s m args below meth c H locs 0 0 Q (F0 m 4 ls []) := by
    intro kf4
    induction kf4 with
    | zero =>
      intro i hle4 hlt4
      exact absurd hlt4 (by omega)
    | succ kf4 ih4 =>
      intro i hle4 hlt4 sm e_sm H locs hP hD hS ls hl
      refine lv_iload_n hx hb dX1_allAlum_4 rfl (lv_at hl 2 rfl) ?_
      refine lv_aload_n hx hb dX1_allAlum_5 rfl (lv_at hl 0 rfl) ?_
      refine va_get (D := D) (ci := 1) (v := .int (nI n)) (C := RX1) (T := TX1) (N := 5) hx hb ht inG_X1 hown hK hP 0 rfl rfl 4 (by decide) (ht _ qF_RX1_22) (fun _ h9 => h9) rfl dX1_allAlum_6 ?_
      refine lv_icmp_ge (tgt := 27) hx hb dX1_allAlum_9 (by decide) (fun c_1 => ?_) (fun c_1 => ?_)
      · skip
        have c_1n := Int32.not_lt.mpr c_1
        have c_1m := (nI_leI (a := n) (b := i) (by omega) (by omega)).mp c_1
        refine lv_iload_n hx hb dX1_allAlum_27 rfl (lv_at hl 1 rfl) ?_
        exact hend _ _ _ _ _ _ sm () dX1_allAlum_28 (by rw [e_sm, show i = n by omega]) hP hD hS rfl (Nat.le_of_ble_eq_true rfl) (Nat.le_of_ble_eq_true rfl)
      · skip
        have c_1n := Int32.not_le.mp c_1
        have c_1m := (nI_ltI (a := i) (b := n) (by omega) (by omega)).mp c_1n
        refine lv_iload_n hx hb dX1_allAlum_12 rfl (lv_at hl 1 rfl) ?_
        refine lv_aload_n hx hb dX1_allAlum_13 rfl (lv_at hl 0 rfl) ?_
        refine va_get (D := D) (ci := 1) (v := .ref a2) (C := RX1) (T := TX1) (N := 5) hx hb ht inG_X1 hown hK hP 0 rfl rfl 1 (by decide) (ht _ qF_RX1_15) (fun _ h9 => h9) rfl dX1_allAlum_14 ?_
        refine lv_iload_n hx hb dX1_allAlum_17 rfl (lv_at hl 2 rfl) ?_
        refine aI hx hb hK hP 1 0 rfl rfl i (rfl) (by omega) (by decide) (v := al i) (rfl) dX1_allAlum_18 ?_
        refine lv_iadd hx hb dX1_allAlum_19 ?_
        refine lv_istore_n (lv' := [(1, .int (sm + (al i))), (0, .ref h0), (2, .int (nI i))]) hx hb dX1_allAlum_20 rfl hl (by decide) rfl (fun ls hl => ?_)
        refine lv_iinc (v := nI (i + 1)) (lv' := [(2, .int (nI (i + 1))), (1, .int (sm + (al i))), (0, .ref h0)]) hx hb dX1_allAlum_21 hl (k := 2) rfl (nI_1 i) (by decide) rfl (fun ls hl => ?_)
        refine lv_goto (tgt := 4) hx hb dX1_allAlum_24 (by decide) ?_
        exact ih4 (i + 1) (by omega) (by omega) (sm + (al i)) (by rw [e_sm]; simp only [sumF, eq_false c_1, eq_true c_1n, if_true, if_false, Int32.add_zero]) _ _ (hP.sub [0, 1] rfl) (hD.sub [0, 1] (by decide) rfl) hS _ (lv_sub hl [2, 1, 0] rfl)
  exact loop4 (n + 1) 0 (Nat.zero_le _) (by omega) 0 rfl _ _ (hP.sub [0, 1] rfl) (hD.sub [0, 1] (by decide) rfl) hS _ (lv_sub hl [2, 1, 0] rfl)

def rm_X1_filled : Room := { frames := 0, cells := 0, slots := 0, locals := 0 }
set_option maxHeartbeats 4000000 in
set_option maxRecDepth 100000 in
theorem c_X1_filled (l : Launch) (D : va_G) (cI cZ cJ : ClassId) (h0 a1 a2 a3 mo : Nat) (wa al : Nat → Int32) (n : Nat) (hn : n ≤ 4) : Mi l yX1_filled cX1_filled 3 (some .int) rm_X1_filled D (TY cI cZ cJ) [.ref h0] [(h0, .inr (1, [.ref a1, .ref a2, .ref a3, .int (nI mo), .int (nI n)])), (a1, .inl (cI, 4, .inl wa)), (a2, .inl (cI, 4, .inl al))] (fun (r : Int32) (u : Unit) => r = sumF (fil wa al) n) (fun (u : Unit) => [(h0, .inr (1, [.ref a1, .ref a2, .ref a3, .int (nI mo), .int (nI n)])), (a1, .inl (cI, 4, .inl wa)), (a2, .inl (cI, 4, .inl al))]) := by
  refine Mi.ofQ (by decide) (Nat.le_of_ble_eq_true rfl) ?_
  intro p e s m args below meth c A ls Q hF hK hP hD hA hl hend
  obtain ⟨F, hr, hlocks, hG⟩ := hF
  have hx := F.1
  have hb := F.2.1
  have hown := F.2.2.2.1
  have ht := F.2.2.2.2
  have hS : va_S A s.heap s.heap [] := va_S.rf
  have hl : lv_has ls 3 [(0, .ref h0)] := hl
  refine lv_iconst (v := 0) hx hb dX1_filled_0 (by decide) ?_
  refine lv_istore_n (lv' := [(1, .int 0), (0, .ref h0)]) hx hb dX1_filled_1 rfl hl (by decide) rfl (fun ls hl => ?_)
  refine lv_iconst (v := 0) hx hb dX1_filled_2 (by decide) ?_
  refine lv_istore_n (lv' := [(2, .int 0), (1, .int 0), (0, .ref h0)]) hx hb dX1_filled_3 rfl hl (by decide) rfl (fun ls hl => ?_)
  have loop4 : ∀ (kf4 i : Nat), i ≤ n → n < i + kf4 → ∀ (sm : Int32), sm = sumF (fil wa al) i → ∀ (H : Heap) (locs : List Loc), va_P D vwCl [(h0, .inr (1, [.ref a1, .ref a2, .ref a3, .int (nI mo), .int (nI n)])), (a1, .inl (cI, 4, .inl wa)), (a2, .inl (cI, 4, .inl al))] H → va_D A [(h0, .inr (1, [.ref a1, .ref a2, .ref a3, .int (nI mo), .int (nI n)])), (a1, .inl (cI, 4, .inl wa)), (a2, .inl (cI, 4, .inl al))] → va_S A s.heap H locs → ∀ (ls : Array Slot), lv_has ls 3 [(0, .ref h0), (1, .int sm), (2, .int (nI i))] → W p l e rm_X1_filled s m args below meth c H locs 0 0 Q (F0 m 4 ls []) := by
    intro kf4
    induction kf4 with
    | zero =>
      intro i hle4 hlt4
      exact absurd hlt4 (by omega)
    | succ kf4 ih4 =>
      intro i hle4 hlt4 sm e_sm H locs hP hD hS ls hl
      refine lv_iload_n hx hb dX1_filled_4 rfl (lv_at hl 2 rfl) ?_
      refine lv_aload_n hx hb dX1_filled_5 rfl (lv_at hl 0 rfl) ?_
      refine va_get (D := D) (ci := 1) (v := .int (nI n)) (C := RX1) (T := TX1) (N := 5) hx hb ht inG_X1 hown hK hP 0 rfl rfl 4 (by decide) (ht _ qF_RX1_22) (fun _ h9 => h9) rfl dX1_filled_6 ?_
      refine lv_icmp_ge (tgt := 37) hx hb dX1_filled_9 (by decide) (fun c_1 => ?_) (fun c_1 => ?_)
      · skip
        have c_1n := Int32.not_lt.mpr c_1
        have c_1m := (nI_leI (a := n) (b := i) (by omega) (by omega)).mp c_1
        refine lv_iload_n hx hb dX1_filled_37 rfl (lv_at hl 1 rfl) ?_
        exact hend _ _ _ _ _ _ sm () dX1_filled_38 (by rw [e_sm, show i = n by omega]) hP hD hS rfl (Nat.le_of_ble_eq_true rfl) (Nat.le_of_ble_eq_true rfl)
      · skip
        have c_1n := Int32.not_le.mp c_1
        have c_1m := (nI_ltI (a := i) (b := n) (by omega) (by omega)).mp c_1n
        refine lv_aload_n hx hb dX1_filled_12 rfl (lv_at hl 0 rfl) ?_
        refine va_get (D := D) (ci := 1) (v := .ref a1) (C := RX1) (T := TX1) (N := 5) hx hb ht inG_X1 hown hK hP 0 rfl rfl 0 (by decide) (ht _ qF_RX1_9) (fun _ h9 => h9) rfl dX1_filled_13 ?_
        refine lv_iload_n hx hb dX1_filled_16 rfl (lv_at hl 2 rfl) ?_
        refine aI hx hb hK hP 1 0 rfl rfl i (rfl) (by omega) (by decide) (v := wa i) (rfl) dX1_filled_17 ?_
        refine lv_aload_n hx hb dX1_filled_18 rfl (lv_at hl 0 rfl) ?_
        refine va_get (D := D) (ci := 1) (v := .ref a2) (C := RX1) (T := TX1) (N := 5) hx hb ht inG_X1 hown hK hP 0 rfl rfl 1 (by decide) (ht _ qF_RX1_15) (fun _ h9 => h9) rfl dX1_filled_19 ?_
        refine lv_iload_n hx hb dX1_filled_22 rfl (lv_at hl 2 rfl) ?_
        refine aI hx hb hK hP 2 0 rfl rfl i (rfl) (by omega) (by decide) (v := al i) (rfl) dX1_filled_23 ?_
        refine lv_iadd hx hb dX1_filled_24 ?_
        refine lv_if_le (tgt := 31) hx hb dX1_filled_25 (by decide) (fun c_2 => ?_) (fun c_2 => ?_)
        · skip
          have c_2n := Int32.not_lt.mpr c_2
          refine lv_iinc (v := nI (i + 1)) (lv' := [(2, .int (nI (i + 1))), (0, .ref h0), (1, .int sm)]) hx hb dX1_filled_31 hl (k := 2) rfl (nI_1 i) (by decide) rfl (fun ls hl => ?_)
          refine lv_goto (tgt := 4) hx hb dX1_filled_34 (by decide) ?_
          exact ih4 (i + 1) (by omega) (by omega) sm (by rw [e_sm]; simp only [sumF, fil, eq_false c_1, eq_true c_1n, eq_true c_2, eq_false c_2n, if_true, if_false, Int32.add_zero]) _ _ (hP.sub [0, 1, 2] rfl) (hD.sub [0, 1, 2] (by decide) rfl) hS _ (lv_sub hl [1, 2, 0] rfl)
        · skip
          have c_2n := Int32.not_le.mp c_2
          refine lv_iinc (v := sm + 1) (lv' := [(1, .int (sm + 1)), (0, .ref h0), (2, .int (nI i))]) hx hb dX1_filled_28 hl (k := 1) rfl (rfl) (by decide) rfl (fun ls hl => ?_)
          refine lv_iinc (v := nI (i + 1)) (lv' := [(2, .int (nI (i + 1))), (1, .int (sm + 1)), (0, .ref h0)]) hx hb dX1_filled_31 hl (k := 2) rfl (nI_1 i) (by decide) rfl (fun ls hl => ?_)
          refine lv_goto (tgt := 4) hx hb dX1_filled_34 (by decide) ?_
          exact ih4 (i + 1) (by omega) (by omega) (sm + 1) (by rw [e_sm]; simp only [sumF, fil, eq_false c_1, eq_true c_1n, eq_false c_2, eq_true c_2n, if_true, if_false, Int32.add_zero]) _ _ (hP.sub [0, 1, 2] rfl) (hD.sub [0, 1, 2] (by decide) rfl) hS _ (lv_sub hl [2, 1, 0] rfl)
  exact loop4 (n + 1) 0 (Nat.zero_le _) (by omega) 0 rfl _ _ (hP.sub [0, 1, 2] rfl) (hD.sub [0, 1, 2] (by decide) rfl) hS _ (lv_sub hl [2, 1, 0] rfl)

def rm_X1_strengths : Room := { frames := 2, cells := 0, slots := 0, locals := 43 }
set_option maxHeartbeats 4000000 in
set_option maxRecDepth 100000 in
theorem c_X1_strengths (l : Launch) (D : va_G) (cI cZ cJ : ClassId) (h0 a1 a2 a3 mo : Nat) (wa al : Nat → Int32) (n : Nat) (hn : n ≤ 4) : Mi l yX1_strengths cX1_strengths 3 (some .int) rm_X1_strengths D (TY cI cZ cJ) [.ref h0] [(h0, .inr (1, [.ref a1, .ref a2, .ref a3, .int (nI mo), .int (nI n)])), (a1, .inl (cI, 4, .inl wa)), (a2, .inl (cI, 4, .inl al))] (fun (r : Int32) (u : Unit) => r = sumF (fun j => strg (wa j) (al j)) n) (fun (u : Unit) => [(h0, .inr (1, [.ref a1, .ref a2, .ref a3, .int (nI mo), .int (nI n)])), (a1, .inl (cI, 4, .inl wa)), (a2, .inl (cI, 4, .inl al))]) := by
  refine Mi.ofQ (by decide) (Nat.le_of_ble_eq_true rfl) ?_
  intro p e s m args below meth c A ls Q hF hK hP hD hA hl hend
  obtain ⟨F, hr, hlocks, hG⟩ := hF
  have hx := F.1
  have hb := F.2.1
  have hown := F.2.2.2.1
  have ht := F.2.2.2.2
  have hS : va_S A s.heap s.heap [] := va_S.rf
  have hl : lv_has ls 3 [(0, .ref h0)] := hl
  refine lv_iconst (v := 0) hx hb dX1_strengths_0 (by decide) ?_
  refine lv_istore_n (lv' := [(1, .int 0), (0, .ref h0)]) hx hb dX1_strengths_1 rfl hl (by decide) rfl (fun ls hl => ?_)
  refine lv_iconst (v := 0) hx hb dX1_strengths_2 (by decide) ?_
  refine lv_istore_n (lv' := [(2, .int 0), (1, .int 0), (0, .ref h0)]) hx hb dX1_strengths_3 rfl hl (by decide) rfl (fun ls hl => ?_)
  have loop4 : ∀ (kf4 i : Nat), i ≤ n → n < i + kf4 → ∀ (sm : Int32), sm = sumF (fun j => strg (wa j) (al j)) i → ∀ (H : Heap) (locs : List Loc), va_P D vwCl [(h0, .inr (1, [.ref a1, .ref a2, .ref a3, .int (nI mo), .int (nI n)])), (a1, .inl (cI, 4, .inl wa)), (a2, .inl (cI, 4, .inl al))] H → va_D A [(h0, .inr (1, [.ref a1, .ref a2, .ref a3, .int (nI mo), .int (nI n)])), (a1, .inl (cI, 4, .inl wa)), (a2, .inl (cI, 4, .inl al))] → va_S A s.heap H locs → ∀ (ls : Array Slot), lv_has ls 3 [(0, .ref h0), (1, .int sm), (2, .int (nI i))] → W p l e rm_X1_strengths s m args below meth c H locs 0 0 Q (F0 m 4 ls []) := by
    intro kf4
    induction kf4 with
    | zero =>
      intro i hle4 hlt4
      exact absurd hlt4 (by omega)
    | succ kf4 ih4 =>
      intro i hle4 hlt4 sm e_sm H locs hP hD hS ls hl
      refine lv_iload_n hx hb dX1_strengths_4 rfl (lv_at hl 2 rfl) ?_
      refine lv_aload_n hx hb dX1_strengths_5 rfl (lv_at hl 0 rfl) ?_
      refine va_get (D := D) (ci := 1) (v := .int (nI n)) (C := RX1) (T := TX1) (N := 5) hx hb ht inG_X1 hown hK hP 0 rfl rfl 4 (by decide) (ht _ qF_RX1_22) (fun _ h9 => h9) rfl dX1_strengths_6 ?_
      refine lv_icmp_ge (tgt := 26) hx hb dX1_strengths_9 (by decide) (fun c_1 => ?_) (fun c_1 => ?_)
      · skip
        have c_1n := Int32.not_lt.mpr c_1
        have c_1m := (nI_leI (a := n) (b := i) (by omega) (by omega)).mp c_1
        refine lv_iload_n hx hb dX1_strengths_26 rfl (lv_at hl 1 rfl) ?_
        exact hend _ _ _ _ _ _ sm () dX1_strengths_27 (by rw [e_sm, show i = n by omega]) hP hD hS rfl (Nat.le_of_ble_eq_true rfl) (Nat.le_of_ble_eq_true rfl)
      · skip
        have c_1n := Int32.not_le.mp c_1
        have c_1m := (nI_ltI (a := i) (b := n) (by omega) (by omega)).mp c_1n
        refine lv_iload_n hx hb dX1_strengths_12 rfl (lv_at hl 1 rfl) ?_
        refine lv_aload_n hx hb dX1_strengths_13 rfl (lv_at hl 0 rfl) ?_
        refine lv_iload_n hx hb dX1_strengths_14 rfl (lv_at hl 2 rfl) ?_
        refine k_i (wr := []) (rV (As := [.int (nI i)]) (rest := [.int sm]) F hG hK (hP.sub (ws' := [(h0, .inr (1, [.ref a1, .ref a2, .ref a3, .int (nI mo), .int (nI n)])), (a1, .inl (cI, 4, .inl wa)), (a2, .inl (cI, 4, .inl al))]) [0, 1, 2] rfl) ((hD.sub (ws' := [(h0, .inr (1, [.ref a1, .ref a2, .ref a3, .int (nI mo), .int (nI n)])), (a1, .inl (cI, 4, .inl wa)), (a2, .inl (cI, 4, .inl al))]) [0, 1, 2] (by decide) rfl).weaken (fun _ _ _ _ => trivial)) s_RX1_38 (c_X1_strength l D cI cZ cJ h0 a1 a2 a3 mo wa al n i (by first | assumption | omega) _) 1 0 rfl rfl rfl rfl hl.1 rfl (Nat.le_of_ble_eq_true rfl) dX1_strengths_15 ⟨(Nat.le_of_ble_eq_true rfl), (Nat.le_of_ble_eq_true rfl)⟩ ⟨(Nat.le_of_ble_eq_true rfl), (Nat.le_of_ble_eq_true rfl)⟩) hP hD hS hA [0, 1, 2] [] rfl rfl (by decide) (by decide) (fun r_15 uu H locs hw hP hD hS => ?_)
        try dsimp only at hw
        subst hw
        have hP : va_P D vwCl [(h0, .inr (1, [.ref a1, .ref a2, .ref a3, .int (nI mo), .int (nI n)])), (a1, .inl (cI, 4, .inl wa)), (a2, .inl (cI, 4, .inl al))] _ := hP
        have hD : va_D A [(h0, .inr (1, [.ref a1, .ref a2, .ref a3, .int (nI mo), .int (nI n)])), (a1, .inl (cI, 4, .inl wa)), (a2, .inl (cI, 4, .inl al))] := hD
        refine lv_iadd hx hb dX1_strengths_18 ?_
        refine lv_istore_n (lv' := [(1, .int (sm + (strg (wa i) (al i)))), (0, .ref h0), (2, .int (nI i))]) hx hb dX1_strengths_19 rfl hl (by decide) rfl (fun ls hl => ?_)
        refine lv_iinc (v := nI (i + 1)) (lv' := [(2, .int (nI (i + 1))), (1, .int (sm + (strg (wa i) (al i)))), (0, .ref h0)]) hx hb dX1_strengths_20 hl (k := 2) rfl (nI_1 i) (by decide) rfl (fun ls hl => ?_)
        refine lv_goto (tgt := 4) hx hb dX1_strengths_23 (by decide) ?_
        exact ih4 (i + 1) (by omega) (by omega) (sm + (strg (wa i) (al i))) (by rw [e_sm]; simp only [sumF, eq_false c_1, eq_true c_1n, if_true, if_false, Int32.add_zero]) _ _ (hP.sub [0, 1, 2] rfl) (hD.sub [0, 1, 2] (by decide) rfl) hS _ (lv_sub hl [2, 1, 0] rfl)
  exact loop4 (n + 1) 0 (Nat.zero_le _) (by omega) 0 rfl _ _ (hP.sub [0, 1, 2] rfl) (hD.sub [0, 1, 2] (by decide) rfl) hS _ (lv_sub hl [2, 1, 0] rfl)

def rm_X1_takeWeather : Room := { frames := 1, cells := 0, slots := 0, locals := 21 }
set_option maxHeartbeats 4000000 in
set_option maxRecDepth 100000 in
theorem c_X1_takeWeather (l : Launch) (D : va_G) (cI cZ cJ : ClassId) (h0 a1 a2 a3 mo : Nat) (wa : Nat → Int32) (n : Nat) (r : Int32) (hn : n ≤ 4) : Mv l yX1_takeWeather cX1_takeWeather 4 rm_X1_takeWeather D (TY cI cZ cJ) [.ref h0, .int r] [(h0, .inr (1, [.ref a1, .ref a2, .ref a3, .int (nI mo), .int (nI n)])), (a1, .inl (cI, 4, .inl wa))] (fun (u : (Nat → Int32)) => u = rowF n (fun j => wth r (wa j)) wa) (fun (u : (Nat → Int32)) => [(h0, .inr (1, [.ref a1, .ref a2, .ref a3, .int (nI mo), .int (nI n)])), (a1, .inl (cI, 4, .inl u))]) := by
  refine Mv.ofQ (by decide) (Nat.le_of_ble_eq_true rfl) ?_
  intro p e s m args below meth c A ls Q hF hK hP hD hA hl hend hin
  obtain ⟨F, hr, hlocks, hG⟩ := hF
  have hx := F.1
  have hb := F.2.1
  have hown := F.2.2.2.1
  have ht := F.2.2.2.2
  have hS : va_S A s.heap s.heap [] := va_S.rf
  have hl : lv_has ls 4 [(0, .ref h0), (1, .int r)] := hl
  refine lv_iconst (v := 0) hx hb dX1_takeWeather_0 (by decide) ?_
  refine lv_istore_n (lv' := [(2, .int 0), (0, .ref h0), (1, .int r)]) hx hb dX1_takeWeather_1 rfl hl (by decide) rfl (fun ls hl => ?_)
  have loop2 : ∀ (kf2 i : Nat), i ≤ n → n < i + kf2 → ∀ (w1 : Nat → Int32), w1 = rowF i (fun j => wth r (wa j)) wa → ∀ (H : Heap) (locs : List Loc), va_P D vwCl [(h0, .inr (1, [.ref a1, .ref a2, .ref a3, .int (nI mo), .int (nI n)])), (a1, .inl (cI, 4, .inl w1))] H → va_D A [(h0, .inr (1, [.ref a1, .ref a2, .ref a3, .int (nI mo), .int (nI n)])), (a1, .inl (cI, 4, .inl w1))] → va_S A s.heap H locs → ∀ (ls : Array Slot), lv_has ls 4 [(0, .ref h0), (1, .int r), (2, .int (nI i))] → W p l e rm_X1_takeWeather s m args below meth c H locs 0 0 Q (F0 m 2 ls []) := by
    intro kf2
    induction kf2 with
    | zero =>
      intro i hle2 hlt2
      exact absurd hlt2 (by omega)
    | succ kf2 ih2 =>
      intro i hle2 hlt2 w1 e_w1 H locs hP hD hS ls hl
      refine lv_iload_n hx hb dX1_takeWeather_2 rfl (lv_at hl 2 rfl) ?_
      refine lv_aload_n hx hb dX1_takeWeather_3 rfl (lv_at hl 0 rfl) ?_
      refine va_get (D := D) (ci := 1) (v := .int (nI n)) (C := RX1) (T := TX1) (N := 5) hx hb ht inG_X1 hown hK hP 0 rfl rfl 4 (by decide) (ht _ qF_RX1_22) (fun _ h9 => h9) rfl dX1_takeWeather_4 ?_
      refine lv_icmp_ge (tgt := 61) hx hb dX1_takeWeather_7 (by decide) (fun c_1 => ?_) (fun c_1 => ?_)
      · skip
        have c_1n := Int32.not_lt.mpr c_1
        have c_1m := (nI_leI (a := n) (b := i) (by omega) (by omega)).mp c_1
        exact hend _ _ _ _ _ _ w1 dX1_takeWeather_61 (by rw [e_w1, show i = n by omega]) hP hD hS (Nat.le_of_ble_eq_true rfl) (Nat.le_of_ble_eq_true rfl)
      · skip
        have c_1n := Int32.not_le.mp c_1
        have c_1m := (nI_ltI (a := i) (b := n) (by omega) (by omega)).mp c_1n
        refine lv_aload_n hx hb dX1_takeWeather_10 rfl (lv_at hl 0 rfl) ?_
        refine va_get (D := D) (ci := 1) (v := .ref a1) (C := RX1) (T := TX1) (N := 5) hx hb ht inG_X1 hown hK hP 0 rfl rfl 0 (by decide) (ht _ qF_RX1_9) (fun _ h9 => h9) rfl dX1_takeWeather_11 ?_
        refine lv_iload_n hx hb dX1_takeWeather_14 rfl (lv_at hl 2 rfl) ?_
        refine aI hx hb hK hP 1 0 rfl rfl i (rfl) (by omega) (by decide) (v := wa i) (by rw [e_w1]; exact rowF_at _ _ _ (Nat.le_refl _)) dX1_takeWeather_15 ?_
        refine lv_if_le (tgt := 55) hx hb dX1_takeWeather_16 (by decide) (fun c_2 => ?_) (fun c_2 => ?_)
        · skip
          have c_2n := Int32.not_lt.mpr c_2
          refine lv_iinc (v := nI (i + 1)) (lv' := [(2, .int (nI (i + 1))), (0, .ref h0), (1, .int r)]) hx hb dX1_takeWeather_55 hl (k := 2) rfl (nI_1 i) (by decide) rfl (fun ls hl => ?_)
          refine lv_goto (tgt := 2) hx hb dX1_takeWeather_58 (by decide) ?_
          exact ih2 (i + 1) (by omega) (by omega) w1 (by subst e_w1; exact (rowF_same _ _ _ (by simp only [wth, eq_false c_1, eq_true c_1n, eq_true c_2, eq_false c_2n, if_true])).symm) _ _ (hP.sub [0, 1] rfl) (hD.sub [0, 1] (by decide) rfl) hS _ (lv_sub hl [1, 2, 0] rfl)
        · skip
          have c_2n := Int32.not_le.mp c_2
          refine lv_sipush (v := 400) hx hb dX1_takeWeather_19 (by decide) ?_
          refine lv_aload_n hx hb dX1_takeWeather_22 rfl (lv_at hl 0 rfl) ?_
          refine va_get (D := D) (ci := 1) (v := .ref a1) (C := RX1) (T := TX1) (N := 5) hx hb ht inG_X1 hown hK hP 0 rfl rfl 0 (by decide) (ht _ qF_RX1_9) (fun _ h9 => h9) rfl dX1_takeWeather_23 ?_
          refine lv_iload_n hx hb dX1_takeWeather_26 rfl (lv_at hl 2 rfl) ?_
          refine aI hx hb hK hP 1 0 rfl rfl i (rfl) (by omega) (by decide) (v := wa i) (by rw [e_w1]; exact rowF_at _ _ _ (Nat.le_refl _)) dX1_takeWeather_27 ?_
          refine lv_iload_n hx hb dX1_takeWeather_28 rfl (lv_at hl 1 rfl) ?_
          refine lv_iadd hx hb dX1_takeWeather_29 ?_
          refine k_min F qM_RX1_26 hl.1 (Nat.le_of_ble_eq_true rfl) (Nat.le_of_ble_eq_true rfl) (Nat.le_of_ble_eq_true rfl) (Nat.le_of_ble_eq_true rfl) dX1_takeWeather_30 ?_
          refine lv_istore_n (lv' := [(3, .int (mn 400 ((wa i) + r))), (0, .ref h0), (1, .int r), (2, .int (nI i))]) hx hb dX1_takeWeather_33 rfl hl (by decide) rfl (fun ls hl => ?_)
          refine lv_aload_n hx hb dX1_takeWeather_34 rfl (lv_at hl 1 rfl) ?_
          refine va_get (D := D) (ci := 1) (v := .ref a1) (C := RX1) (T := TX1) (N := 5) hx hb ht inG_X1 hown hK hP 0 rfl rfl 0 (by decide) (ht _ qF_RX1_9) (fun _ h9 => h9) rfl dX1_takeWeather_35 ?_
          refine lv_iload_n hx hb dX1_takeWeather_38 rfl (lv_at hl 3 rfl) ?_
          refine lv_iload_n hx hb dX1_takeWeather_39 rfl (lv_at hl 2 rfl) ?_
          refine lv_if_ne (tgt := 53) hx hb dX1_takeWeather_40 (by decide) (fun c_3 => ?_) (fun c_3 => ?_)
          · skip
            refine lv_iload_n hx hb dX1_takeWeather_53 rfl (lv_at hl 0 rfl) ?_
            refine sI_ hx hb hK hP hD hS 1 0 rfl rfl i (rfl) (by omega) (by decide) (upd w1 i (mn 400 ((wa i) + r))) (rfl) dX1_takeWeather_54 (fun H locs hP hD hS => ?_)
            have hP : va_P D vwCl [(h0, .inr (1, [.ref a1, .ref a2, .ref a3, .int (nI mo), .int (nI n)])), (a1, .inl (cI, 4, .inl (upd w1 i (mn 400 ((wa i) + r)))))] _ := hP
            have hD : va_D A [(h0, .inr (1, [.ref a1, .ref a2, .ref a3, .int (nI mo), .int (nI n)])), (a1, .inl (cI, 4, .inl (upd w1 i (mn 400 ((wa i) + r)))))] := hD
            refine lv_iinc (v := nI (i + 1)) (lv' := [(2, .int (nI (i + 1))), (3, .int (mn 400 ((wa i) + r))), (0, .ref h0), (1, .int r)]) hx hb dX1_takeWeather_55 hl (k := 3) rfl (nI_1 i) (by decide) rfl (fun ls hl => ?_)
            refine lv_goto (tgt := 2) hx hb dX1_takeWeather_58 (by decide) ?_
            exact ih2 (i + 1) (by omega) (by omega) (upd w1 i (mn 400 ((wa i) + r))) (by subst e_w1; exact rowF_upd _ _ _ (by simp only [wth, eq_false c_1, eq_true c_1n, eq_false c_2, eq_true c_2n, eq_false c_3, if_true, if_false])) _ _ (hP.sub [0, 1] rfl) (hD.sub [0, 1] (by decide) rfl) hS _ (lv_sub hl [2, 3, 0] rfl)
          · skip
            refine lv_iconst (v := 0) hx hb dX1_takeWeather_43 (by decide) ?_
            refine lv_iload_n hx hb dX1_takeWeather_44 rfl (lv_at hl 0 rfl) ?_
            refine lv_iconst (v := 3) hx hb dX1_takeWeather_45 (by decide) ?_
            refine lv_isub hx hb dX1_takeWeather_46 ?_
            refine k_max F qM_RX1_48 hl.1 (Nat.le_of_ble_eq_true rfl) (Nat.le_of_ble_eq_true rfl) (Nat.le_of_ble_eq_true rfl) (Nat.le_of_ble_eq_true rfl) dX1_takeWeather_47 ?_
            refine lv_goto (tgt := 54) hx hb dX1_takeWeather_50 (by decide) ?_
            refine sI_ hx hb hK hP hD hS 1 0 rfl rfl i (rfl) (by omega) (by decide) (upd w1 i (mx 0 ((mn 400 ((wa i) + r)) - 3))) (rfl) dX1_takeWeather_54 (fun H locs hP hD hS => ?_)
            have hP : va_P D vwCl [(h0, .inr (1, [.ref a1, .ref a2, .ref a3, .int (nI mo), .int (nI n)])), (a1, .inl (cI, 4, .inl (upd w1 i (mx 0 ((mn 400 ((wa i) + r)) - 3)))))] _ := hP
            have hD : va_D A [(h0, .inr (1, [.ref a1, .ref a2, .ref a3, .int (nI mo), .int (nI n)])), (a1, .inl (cI, 4, .inl (upd w1 i (mx 0 ((mn 400 ((wa i) + r)) - 3)))))] := hD
            refine lv_iinc (v := nI (i + 1)) (lv' := [(2, .int (nI (i + 1))), (3, .int (mn 400 ((wa i) + r))), (0, .ref h0), (1, .int r)]) hx hb dX1_takeWeather_55 hl (k := 3) rfl (nI_1 i) (by decide) rfl (fun ls hl => ?_)
            refine lv_goto (tgt := 2) hx hb dX1_takeWeather_58 (by decide) ?_
            exact ih2 (i + 1) (by omega) (by omega) (upd w1 i (mx 0 ((mn 400 ((wa i) + r)) - 3))) (by subst e_w1; exact rowF_upd _ _ _ (by simp only [wth, eq_false c_1, eq_true c_1n, eq_false c_2, eq_true c_2n, eq_true c_3, if_true, if_false])) _ _ (hP.sub [0, 1] rfl) (hD.sub [0, 1] (by decide) rfl) hS _ (lv_sub hl [2, 3, 0] rfl)
  exact loop2 (n + 1) 0 (Nat.zero_le _) (by omega) wa ((rowF_0 _ _).symm) _ _ (hP.sub [0, 1] rfl) (hD.sub [0, 1] (by decide) rfl) hS _ (lv_sub hl [1, 2, 0] rfl)

def rm_X1_copyOf : Room := { frames := 0, cells := 0, slots := 0, locals := 0 }
set_option maxHeartbeats 4000000 in
set_option maxRecDepth 100000 in
theorem c_X1_copyOf (l : Launch) (D : va_G) (cI cZ cJ : ClassId) (h0 a1 a2 a3 mo g0 b1 b2 b3 mo2 : Nat) (t1 t2 t3 o1 o2 o3 : Nat → Int32) (n1 n : Nat) (hn : n ≤ 4) (hz1 : ∀ j, n ≤ j → t1 j = o1 j) (hz2 : ∀ j, n ≤ j → t2 j = o2 j) (hz3 : ∀ j, n ≤ j → t3 j = o3 j) (hb3 : ∀ j, vp_nar .boolean (o3 j) = o3 j) : Mv l yX1_copyOf cX1_copyOf 3 rm_X1_copyOf D (TY cI cZ cJ) [.ref h0, .ref g0] [(h0, .inr (1, [.ref a1, .ref a2, .ref a3, .int (nI mo), .int (nI n1)])), (a1, .inl (cI, 4, .inl t1)), (a2, .inl (cI, 4, .inl t2)), (a3, .inl (cZ, 4, .inl t3)), (g0, .inr (1, [.ref b1, .ref b2, .ref b3, .int (nI mo2), .int (nI n)])), (b1, .inl (cI, 4, .inl o1)), (b2, .inl (cI, 4, .inl o2)), (b3, .inl (cZ, 4, .inl o3))] (fun (u : (Nat → Int32) × (Nat → Int32) × (Nat → Int32)) => u.1 = o1 ∧ u.2.1 = o2 ∧ u.2.2 = o3) (fun (u : (Nat → Int32) × (Nat → Int32) × (Nat → Int32)) => [(h0, .inr (1, [.ref a1, .ref a2, .ref a3, .int (nI mo), .int (nI n)])), (a1, .inl (cI, 4, .inl u.1)), (a2, .inl (cI, 4, .inl u.2.1)), (a3, .inl (cZ, 4, .inl u.2.2)), (g0, .inr (1, [.ref b1, .ref b2, .ref b3, .int (nI mo2), .int (nI n)])), (b1, .inl (cI, 4, .inl o1)), (b2, .inl (cI, 4, .inl o2)), (b3, .inl (cZ, 4, .inl o3))]) := by
  refine Mv.ofQ (by decide) (Nat.le_of_ble_eq_true rfl) ?_
  intro p e s m args below meth c A ls Q hF hK hP hD hA hl hend hin
  obtain ⟨F, hr, hlocks, hG⟩ := hF
  have hx := F.1
  have hb := F.2.1
  have hown := F.2.2.2.1
  have ht := F.2.2.2.2
  have hS : va_S A s.heap s.heap [] := va_S.rf
  have hl : lv_has ls 3 [(0, .ref h0), (1, .ref g0)] := hl
  refine lv_aload_n hx hb dX1_copyOf_0 rfl (lv_at hl 0 rfl) ?_
  refine lv_aload_n hx hb dX1_copyOf_1 rfl (lv_at hl 1 rfl) ?_
  refine va_get (D := D) (ci := 1) (v := .int (nI n)) (C := RX1) (T := TX1) (N := 5) hx hb ht inG_X1 hown hK hP 4 rfl rfl 4 (by decide) (ht _ qF_RX1_22) (fun _ h9 => h9) rfl dX1_copyOf_2 ?_
  refine va_put (D := D) (ci := 1) (v := .int (nI n)) (C := RX1) (T := TX1) (N := 5) hx hb ht inG_X1 tyX1 tyX1_ok nmX1 hown hK hP hD hS 0 rfl rfl 4 (by decide) (ht _ qF_RX1_22) (fun _ h9 => h9) rfl (tyX1_ok 4 (by decide)) rfl rfl (Nat.le_of_ble_eq_true rfl) dX1_copyOf_5 (fun H locs hP hD hS => ?_)
  have hP : va_P D vwCl [(h0, .inr (1, [.ref a1, .ref a2, .ref a3, .int (nI mo), .int (nI n)])), (a1, .inl (cI, 4, .inl t1)), (a2, .inl (cI, 4, .inl t2)), (a3, .inl (cZ, 4, .inl t3)), (g0, .inr (1, [.ref b1, .ref b2, .ref b3, .int (nI mo2), .int (nI n)])), (b1, .inl (cI, 4, .inl o1)), (b2, .inl (cI, 4, .inl o2)), (b3, .inl (cZ, 4, .inl o3))] _ := hP
  have hD : va_D A [(h0, .inr (1, [.ref a1, .ref a2, .ref a3, .int (nI mo), .int (nI n)])), (a1, .inl (cI, 4, .inl t1)), (a2, .inl (cI, 4, .inl t2)), (a3, .inl (cZ, 4, .inl t3)), (g0, .inr (1, [.ref b1, .ref b2, .ref b3, .int (nI mo2), .int (nI n)])), (b1, .inl (cI, 4, .inl o1)), (b2, .inl (cI, 4, .inl o2)), (b3, .inl (cZ, 4, .inl o3))] := hD
  refine lv_iconst (v := 0) hx hb dX1_copyOf_8 (by decide) ?_
  refine lv_istore_n (lv' := [(2, .int 0), (0, .ref h0), (1, .ref g0)]) hx hb dX1_copyOf_9 rfl hl (by decide) rfl (fun ls hl => ?_)
  have loop10 : ∀ (kf10 i : Nat), i ≤ n → n < i + kf10 → ∀ (x1 : Nat → Int32) (x2 : Nat → Int32) (x3 : Nat → Int32), x1 = rowF i o1 t1 → x2 = rowF i o2 t2 → x3 = rowF i o3 t3 → ∀ (H : Heap) (locs : List Loc), va_P D vwCl [(h0, .inr (1, [.ref a1, .ref a2, .ref a3, .int (nI mo), .int (nI n)])), (a1, .inl (cI, 4, .inl x1)), (a2, .inl (cI, 4, .inl x2)), (a3, .inl (cZ, 4, .inl x3)), (g0, .inr (1, [.ref b1, .ref b2, .ref b3, .int (nI mo2), .int (nI n)])), (b1, .inl (cI, 4, .inl o1)), (b2, .inl (cI, 4, .inl o2)), (b3, .inl (cZ, 4, .inl o3))] H → va_D A [(h0, .inr (1, [.ref a1, .ref a2, .ref a3, .int (nI mo), .int (nI n)])), (a1, .inl (cI, 4, .inl x1)), (a2, .inl (cI, 4, .inl x2)), (a3, .inl (cZ, 4, .inl x3)), (g0, .inr (1, [.ref b1, .ref b2, .ref b3, .int (nI mo2), .int (nI n)])), (b1, .inl (cI, 4, .inl o1)), (b2, .inl (cI, 4, .inl o2)), (b3, .inl (cZ, 4, .inl o3))] → va_S A s.heap H locs → ∀ (ls : Array Slot), lv_has ls 3 [(0, .ref h0), (1, .ref g0), (2, .int (nI i))] → W p l e rm_X1_copyOf s m args below meth c H locs 0 0 Q (F0 m 10 ls []) := by
    intro kf10
    induction kf10 with
    | zero =>
      intro i hle10 hlt10
      exact absurd hlt10 (by omega)
    | succ kf10 ih10 =>
      intro i hle10 hlt10 x1 x2 x3 e_x1 e_x2 e_x3 H locs hP hD hS ls hl
      refine lv_iload_n hx hb dX1_copyOf_10 rfl (lv_at hl 2 rfl) ?_
      refine lv_aload_n hx hb dX1_copyOf_11 rfl (lv_at hl 0 rfl) ?_
      refine va_get (D := D) (ci := 1) (v := .int (nI n)) (C := RX1) (T := TX1) (N := 5) hx hb ht inG_X1 hown hK hP 0 rfl rfl 4 (by decide) (ht _ qF_RX1_22) (fun _ h9 => h9) rfl dX1_copyOf_12 ?_
      refine lv_icmp_ge (tgt := 60) hx hb dX1_copyOf_15 (by decide) (fun c_1 => ?_) (fun c_1 => ?_)
      · skip
        have c_1n := Int32.not_lt.mpr c_1
        have c_1m := (nI_leI (a := n) (b := i) (by omega) (by omega)).mp c_1
        exact hend _ _ _ _ _ _ (x1, x2, x3) dX1_copyOf_60 (by rw [e_x1, e_x2, e_x3, show i = n by omega]; exact ⟨rowF_all hz1, rowF_all hz2, rowF_all hz3⟩) hP hD hS (Nat.le_of_ble_eq_true rfl) (Nat.le_of_ble_eq_true rfl)
      · skip
        have c_1n := Int32.not_le.mp c_1
        have c_1m := (nI_ltI (a := i) (b := n) (by omega) (by omega)).mp c_1n
        refine lv_aload_n hx hb dX1_copyOf_18 rfl (lv_at hl 0 rfl) ?_
        refine va_get (D := D) (ci := 1) (v := .ref a1) (C := RX1) (T := TX1) (N := 5) hx hb ht inG_X1 hown hK hP 0 rfl rfl 0 (by decide) (ht _ qF_RX1_9) (fun _ h9 => h9) rfl dX1_copyOf_19 ?_
        refine lv_iload_n hx hb dX1_copyOf_22 rfl (lv_at hl 2 rfl) ?_
        refine lv_aload_n hx hb dX1_copyOf_23 rfl (lv_at hl 1 rfl) ?_
        refine va_get (D := D) (ci := 1) (v := .ref b1) (C := RX1) (T := TX1) (N := 5) hx hb ht inG_X1 hown hK hP 4 rfl rfl 0 (by decide) (ht _ qF_RX1_9) (fun _ h9 => h9) rfl dX1_copyOf_24 ?_
        refine lv_iload_n hx hb dX1_copyOf_27 rfl (lv_at hl 2 rfl) ?_
        refine aI hx hb hK hP 5 0 rfl rfl i (rfl) (by omega) (by decide) (v := o1 i) (rfl) dX1_copyOf_28 ?_
        refine sI_ hx hb hK hP hD hS 1 0 rfl rfl i (rfl) (by omega) (by decide) (upd x1 i (o1 i)) (rfl) dX1_copyOf_29 (fun H locs hP hD hS => ?_)
        have hP : va_P D vwCl [(h0, .inr (1, [.ref a1, .ref a2, .ref a3, .int (nI mo), .int (nI n)])), (a1, .inl (cI, 4, .inl (upd x1 i (o1 i)))), (a2, .inl (cI, 4, .inl x2)), (a3, .inl (cZ, 4, .inl x3)), (g0, .inr (1, [.ref b1, .ref b2, .ref b3, .int (nI mo2), .int (nI n)])), (b1, .inl (cI, 4, .inl o1)), (b2, .inl (cI, 4, .inl o2)), (b3, .inl (cZ, 4, .inl o3))] _ := hP
        have hD : va_D A [(h0, .inr (1, [.ref a1, .ref a2, .ref a3, .int (nI mo), .int (nI n)])), (a1, .inl (cI, 4, .inl (upd x1 i (o1 i)))), (a2, .inl (cI, 4, .inl x2)), (a3, .inl (cZ, 4, .inl x3)), (g0, .inr (1, [.ref b1, .ref b2, .ref b3, .int (nI mo2), .int (nI n)])), (b1, .inl (cI, 4, .inl o1)), (b2, .inl (cI, 4, .inl o2)), (b3, .inl (cZ, 4, .inl o3))] := hD
        refine lv_aload_n hx hb dX1_copyOf_30 rfl (lv_at hl 0 rfl) ?_
        refine va_get (D := D) (ci := 1) (v := .ref a2) (C := RX1) (T := TX1) (N := 5) hx hb ht inG_X1 hown hK hP 0 rfl rfl 1 (by decide) (ht _ qF_RX1_15) (fun _ h9 => h9) rfl dX1_copyOf_31 ?_
        refine lv_iload_n hx hb dX1_copyOf_34 rfl (lv_at hl 2 rfl) ?_
        refine lv_aload_n hx hb dX1_copyOf_35 rfl (lv_at hl 1 rfl) ?_
        refine va_get (D := D) (ci := 1) (v := .ref b2) (C := RX1) (T := TX1) (N := 5) hx hb ht inG_X1 hown hK hP 4 rfl rfl 1 (by decide) (ht _ qF_RX1_15) (fun _ h9 => h9) rfl dX1_copyOf_36 ?_
        refine lv_iload_n hx hb dX1_copyOf_39 rfl (lv_at hl 2 rfl) ?_
        refine aI hx hb hK hP 6 0 rfl rfl i (rfl) (by omega) (by decide) (v := o2 i) (rfl) dX1_copyOf_40 ?_
        refine sI_ hx hb hK hP hD hS 2 0 rfl rfl i (rfl) (by omega) (by decide) (upd x2 i (o2 i)) (rfl) dX1_copyOf_41 (fun H locs hP hD hS => ?_)
        have hP : va_P D vwCl [(h0, .inr (1, [.ref a1, .ref a2, .ref a3, .int (nI mo), .int (nI n)])), (a1, .inl (cI, 4, .inl (upd x1 i (o1 i)))), (a2, .inl (cI, 4, .inl (upd x2 i (o2 i)))), (a3, .inl (cZ, 4, .inl x3)), (g0, .inr (1, [.ref b1, .ref b2, .ref b3, .int (nI mo2), .int (nI n)])), (b1, .inl (cI, 4, .inl o1)), (b2, .inl (cI, 4, .inl o2)), (b3, .inl (cZ, 4, .inl o3))] _ := hP
        have hD : va_D A [(h0, .inr (1, [.ref a1, .ref a2, .ref a3, .int (nI mo), .int (nI n)])), (a1, .inl (cI, 4, .inl (upd x1 i (o1 i)))), (a2, .inl (cI, 4, .inl (upd x2 i (o2 i)))), (a3, .inl (cZ, 4, .inl x3)), (g0, .inr (1, [.ref b1, .ref b2, .ref b3, .int (nI mo2), .int (nI n)])), (b1, .inl (cI, 4, .inl o1)), (b2, .inl (cI, 4, .inl o2)), (b3, .inl (cZ, 4, .inl o3))] := hD
        refine lv_aload_n hx hb dX1_copyOf_42 rfl (lv_at hl 0 rfl) ?_
        refine va_get (D := D) (ci := 1) (v := .ref a3) (C := RX1) (T := TX1) (N := 5) hx hb ht inG_X1 hown hK hP 0 rfl rfl 2 (by decide) (ht _ qF_RX1_18) (fun _ h9 => h9) rfl dX1_copyOf_43 ?_
        refine lv_iload_n hx hb dX1_copyOf_46 rfl (lv_at hl 2 rfl) ?_
        refine lv_aload_n hx hb dX1_copyOf_47 rfl (lv_at hl 1 rfl) ?_
        refine va_get (D := D) (ci := 1) (v := .ref b3) (C := RX1) (T := TX1) (N := 5) hx hb ht inG_X1 hown hK hP 4 rfl rfl 2 (by decide) (ht _ qF_RX1_18) (fun _ h9 => h9) rfl dX1_copyOf_48 ?_
        refine lv_iload_n hx hb dX1_copyOf_51 rfl (lv_at hl 2 rfl) ?_
        refine aZ hx hb hK hP 7 1 rfl rfl i (rfl) (by omega) (by decide) (v := o3 i) (rfl) dX1_copyOf_52 ?_
        refine sZ_ hx hb hK hP hD hS 3 1 rfl rfl i (rfl) (by omega) (by decide) (hb3 i) (upd x3 i (o3 i)) (rfl) dX1_copyOf_53 (fun H locs hP hD hS => ?_)
        have hP : va_P D vwCl [(h0, .inr (1, [.ref a1, .ref a2, .ref a3, .int (nI mo), .int (nI n)])), (a1, .inl (cI, 4, .inl (upd x1 i (o1 i)))), (a2, .inl (cI, 4, .inl (upd x2 i (o2 i)))), (a3, .inl (cZ, 4, .inl (upd x3 i (o3 i)))), (g0, .inr (1, [.ref b1, .ref b2, .ref b3, .int (nI mo2), .int (nI n)])), (b1, .inl (cI, 4, .inl o1)), (b2, .inl (cI, 4, .inl o2)), (b3, .inl (cZ, 4, .inl o3))] _ := hP
        have hD : va_D A [(h0, .inr (1, [.ref a1, .ref a2, .ref a3, .int (nI mo), .int (nI n)])), (a1, .inl (cI, 4, .inl (upd x1 i (o1 i)))), (a2, .inl (cI, 4, .inl (upd x2 i (o2 i)))), (a3, .inl (cZ, 4, .inl (upd x3 i (o3 i)))), (g0, .inr (1, [.ref b1, .ref b2, .ref b3, .int (nI mo2), .int (nI n)])), (b1, .inl (cI, 4, .inl o1)), (b2, .inl (cI, 4, .inl o2)), (b3, .inl (cZ, 4, .inl o3))] := hD
        refine lv_iinc (v := nI (i + 1)) (lv' := [(2, .int (nI (i + 1))), (0, .ref h0), (1, .ref g0)]) hx hb dX1_copyOf_54 hl (k := 2) rfl (nI_1 i) (by decide) rfl (fun ls hl => ?_)
        refine lv_goto (tgt := 10) hx hb dX1_copyOf_57 (by decide) ?_
        exact ih10 (i + 1) (by omega) (by omega) (upd x1 i (o1 i)) (upd x2 i (o2 i)) (upd x3 i (o3 i)) (by subst e_x1; exact rowF_upd _ _ _ rfl) (by subst e_x2; exact rowF_upd _ _ _ rfl) (by subst e_x3; exact rowF_upd _ _ _ rfl) _ _ (hP.sub [0, 1, 2, 3, 4, 5, 6, 7] rfl) (hD.sub [0, 1, 2, 3, 4, 5, 6, 7] (by decide) rfl) hS _ (lv_sub hl [1, 2, 0] rfl)
  exact loop10 (n + 1) 0 (Nat.zero_le _) (by omega) t1 t2 t3 ((rowF_0 _ _).symm) ((rowF_0 _ _).symm) ((rowF_0 _ _).symm) _ _ (hP.sub [0, 1, 2, 3, 4, 5, 6, 7] rfl) (hD.sub [0, 1, 2, 3, 4, 5, 6, 7] (by decide) rfl) hS _ (lv_sub hl [1, 2, 0] rfl)

def rm_X2_boilPans : Room := { frames := 1, cells := 0, slots := 0, locals := 21 }
set_option maxHeartbeats 4000000 in
set_option maxRecDepth 100000 in
theorem c_X2_boilPans (l : Launch) (D : va_G) (cI cZ cJ : ClassId) (h0 hc hp hk : Nat) (k1 k2 k3 mo n : Nat) (day : Nat) (coal bar fine crs coin ship : Int32) (kw kb : Nat → Int32) (hn : n ≤ 4) : Mv l yX2_boilPans cX2_boilPans 2 rm_X2_boilPans D (TY cI cZ cJ) [.ref h0] [(h0, .inr (2, [.ref hc, .ref hp, .ref hk, .int (nI day), .int coal, .int bar, .int fine, .int crs, .int coin, .int ship])), (hk, .inr (1, [.ref k1, .ref k2, .ref k3, .int (nI mo), .int (nI n)])), (k1, .inl (cI, 4, .inl kw)), (k3, .inl (cZ, 4, .inl kb))] (fun (u : Int32 × (Nat → Int32) × (Nat → Int32)) => u.1 = cN kw kb coal n ∧ u.2.1 = rowF n (fKw kw kb (cN kw kb coal)) kw ∧ u.2.2 = rowF n (fKb kw kb (cN kw kb coal)) kb) (fun (u : Int32 × (Nat → Int32) × (Nat → Int32)) => [(h0, .inr (2, [.ref hc, .ref hp, .ref hk, .int (nI day), .int u.1, .int bar, .int fine, .int crs, .int coin, .int ship])), (hk, .inr (1, [.ref k1, .ref k2, .ref k3, .int (nI mo), .int (nI n)])), (k1, .inl (cI, 4, .inl u.2.1)), (k3, .inl (cZ, 4, .inl u.2.2))]) := by
  refine Mv.ofQ (by decide) (Nat.le_of_ble_eq_true rfl) ?_
  intro p e s m args below meth c A ls Q hF hK hP hD hA hl hend hin
  obtain ⟨F, hr, hlocks, hG⟩ := hF
  have hx := F.1
  have hb := F.2.1
  have hown := F.2.2.2.1
  have ht := F.2.2.2.2
  have hS : va_S A s.heap s.heap [] := va_S.rf
  have hl : lv_has ls 2 [(0, .ref h0)] := hl
  refine lv_iconst (v := 0) hx hb dX2_boilPans_0 (by decide) ?_
  refine lv_istore_n (lv' := [(1, .int 0), (0, .ref h0)]) hx hb dX2_boilPans_1 rfl hl (by decide) rfl (fun ls hl => ?_)
  have loop2 : ∀ (kf2 i : Nat), i ≤ n → n < i + kf2 → ∀ (coal1 : Int32) (w1 : Nat → Int32) (b1 : Nat → Int32), coal1 = cN kw kb coal i → w1 = rowF i (fKw kw kb (cN kw kb coal)) kw → b1 = rowF i (fKb kw kb (cN kw kb coal)) kb → ∀ (H : Heap) (locs : List Loc), va_P D vwCl [(h0, .inr (2, [.ref hc, .ref hp, .ref hk, .int (nI day), .int coal1, .int bar, .int fine, .int crs, .int coin, .int ship])), (hk, .inr (1, [.ref k1, .ref k2, .ref k3, .int (nI mo), .int (nI n)])), (k1, .inl (cI, 4, .inl w1)), (k3, .inl (cZ, 4, .inl b1))] H → va_D A [(h0, .inr (2, [.ref hc, .ref hp, .ref hk, .int (nI day), .int coal1, .int bar, .int fine, .int crs, .int coin, .int ship])), (hk, .inr (1, [.ref k1, .ref k2, .ref k3, .int (nI mo), .int (nI n)])), (k1, .inl (cI, 4, .inl w1)), (k3, .inl (cZ, 4, .inl b1))] → va_S A s.heap H locs → ∀ (ls : Array Slot), lv_has ls 2 [(0, .ref h0), (1, .int (nI i))] → W p l e rm_X2_boilPans s m args below meth c H locs 0 0 Q (F0 m 2 ls []) := by
    intro kf2
    induction kf2 with
    | zero =>
      intro i hle2 hlt2
      exact absurd hlt2 (by omega)
    | succ kf2 ih2 =>
      intro i hle2 hlt2 coal1 w1 b1 e_coal1 e_w1 e_b1 H locs hP hD hS ls hl
      refine lv_iload_n hx hb dX2_boilPans_2 rfl (lv_at hl 1 rfl) ?_
      refine lv_aload_n hx hb dX2_boilPans_3 rfl (lv_at hl 0 rfl) ?_
      refine va_get (D := D) (ci := 2) (v := .ref hk) (C := RX2) (T := TX2) (N := 10) hx hb ht inG_X2 hown hK hP 0 rfl rfl 2 (by decide) (ht _ qF_RX2_27) (fun _ h9 => h9) rfl dX2_boilPans_4 ?_
      refine va_get (D := D) (ci := 1) (v := .int (nI n)) (C := RX1) (T := TX1) (N := 5) hx hb ht inG_X1 hown hK hP 1 rfl rfl 4 (by decide) (ht _ qF_RX2_71) (fun _ h9 => h9) rfl dX2_boilPans_7 ?_
      refine lv_icmp_ge (tgt := 102) hx hb dX2_boilPans_10 (by decide) (fun c_1 => ?_) (fun c_1 => ?_)
      · skip
        have c_1n := Int32.not_lt.mpr c_1
        have c_1m := (nI_leI (a := n) (b := i) (by omega) (by omega)).mp c_1
        exact hend _ _ _ _ _ _ (coal1, w1, b1) dX2_boilPans_102 (by rw [e_coal1, e_w1, e_b1, show i = n by omega]; exact ⟨rfl, rfl, rfl⟩) hP hD hS (Nat.le_of_ble_eq_true rfl) (Nat.le_of_ble_eq_true rfl)
      · skip
        have c_1n := Int32.not_le.mp c_1
        have c_1m := (nI_ltI (a := i) (b := n) (by omega) (by omega)).mp c_1n
        refine lv_aload_n hx hb dX2_boilPans_13 rfl (lv_at hl 0 rfl) ?_
        refine va_get (D := D) (ci := 2) (v := .ref hk) (C := RX2) (T := TX2) (N := 10) hx hb ht inG_X2 hown hK hP 0 rfl rfl 2 (by decide) (ht _ qF_RX2_27) (fun _ h9 => h9) rfl dX2_boilPans_14 ?_
        refine va_get (D := D) (ci := 1) (v := .ref k3) (C := RX1) (T := TX1) (N := 5) hx hb ht inG_X1 hown hK hP 1 rfl rfl 2 (by decide) (ht _ qF_RX2_74) (fun _ h9 => h9) rfl dX2_boilPans_17 ?_
        refine lv_iload_n hx hb dX2_boilPans_20 rfl (lv_at hl 1 rfl) ?_
        refine aZ hx hb hK hP 3 1 rfl rfl i (rfl) (by omega) (by decide) (v := kb i) (by rw [e_b1]; exact rowF_at _ _ _ (Nat.le_refl _)) dX2_boilPans_21 ?_
        refine lv_if_ne (tgt := 28) hx hb dX2_boilPans_22 (by decide) (fun c_2 => ?_) (fun c_2 => ?_)
        · skip
          refine lv_aload_n hx hb dX2_boilPans_28 rfl (lv_at hl 0 rfl) ?_
          refine va_get (D := D) (ci := 2) (v := .int coal1) (C := RX2) (T := TX2) (N := 10) hx hb ht inG_X2 hown hK hP 0 rfl rfl 4 (by decide) (ht _ qF_RX2_34) (fun _ h9 => h9) rfl dX2_boilPans_29 ?_
          refine lv_iconst (v := 4) hx hb dX2_boilPans_32 (by decide) ?_
          refine lv_icmp_lt (tgt := 48) hx hb dX2_boilPans_33 (by decide) (fun c_3 => ?_) (fun c_3 => ?_)
          · skip
            have c_3n := Int32.not_le.mpr c_3
            refine lv_aload_n hx hb dX2_boilPans_48 rfl (lv_at hl 0 rfl) ?_
            refine va_get (D := D) (ci := 2) (v := .ref hk) (C := RX2) (T := TX2) (N := 10) hx hb ht inG_X2 hown hK hP 0 rfl rfl 2 (by decide) (ht _ qF_RX2_27) (fun _ h9 => h9) rfl dX2_boilPans_49 ?_
            refine va_get (D := D) (ci := 1) (v := .ref k3) (C := RX1) (T := TX1) (N := 5) hx hb ht inG_X1 hown hK hP 1 rfl rfl 2 (by decide) (ht _ qF_RX2_74) (fun _ h9 => h9) rfl dX2_boilPans_52 ?_
            refine lv_iload_n hx hb dX2_boilPans_55 rfl (lv_at hl 1 rfl) ?_
            refine lv_iconst (v := 0) hx hb dX2_boilPans_56 (by decide) ?_
            refine sZ_ hx hb hK hP hD hS 3 1 rfl rfl i (rfl) (by omega) (by decide) (by decide) (upd b1 i 0) (rfl) dX2_boilPans_57 (fun H locs hP hD hS => ?_)
            have hP : va_P D vwCl [(h0, .inr (2, [.ref hc, .ref hp, .ref hk, .int (nI day), .int coal1, .int bar, .int fine, .int crs, .int coin, .int ship])), (hk, .inr (1, [.ref k1, .ref k2, .ref k3, .int (nI mo), .int (nI n)])), (k1, .inl (cI, 4, .inl w1)), (k3, .inl (cZ, 4, .inl (upd b1 i 0)))] _ := hP
            have hD : va_D A [(h0, .inr (2, [.ref hc, .ref hp, .ref hk, .int (nI day), .int coal1, .int bar, .int fine, .int crs, .int coin, .int ship])), (hk, .inr (1, [.ref k1, .ref k2, .ref k3, .int (nI mo), .int (nI n)])), (k1, .inl (cI, 4, .inl w1)), (k3, .inl (cZ, 4, .inl (upd b1 i 0)))] := hD
            refine lv_goto (tgt := 96) hx hb dX2_boilPans_58 (by decide) ?_
            refine lv_iinc (v := nI (i + 1)) (lv' := [(1, .int (nI (i + 1))), (0, .ref h0)]) hx hb dX2_boilPans_96 hl (k := 1) rfl (nI_1 i) (by decide) rfl (fun ls hl => ?_)
            refine lv_goto (tgt := 2) hx hb dX2_boilPans_99 (by decide) ?_
            exact ih2 (i + 1) (by omega) (by omega) coal1 w1 (upd b1 i 0) (by subst e_coal1; simp only [cN, eq_false c_1, eq_true c_1n, eq_false c_2, eq_true c_3, eq_false c_3n, if_true, if_false]) (by subst e_coal1 e_w1; exact (rowF_same _ _ _ (by simp only [fKw, eq_false c_1, eq_true c_1n, eq_false c_2, eq_true c_3, eq_false c_3n, if_true, if_false])).symm) (by subst e_coal1 e_b1; exact rowF_upd _ _ _ (by simp only [fKb, eq_false c_1, eq_true c_1n, eq_false c_2, eq_true c_3, eq_false c_3n, if_true, if_false])) _ _ (hP.sub [0, 1, 2, 3] rfl) (hD.sub [0, 1, 2, 3] (by decide) rfl) hS _ (lv_sub hl [1, 0] rfl)
          · skip
            have c_3n := Int32.not_lt.mp c_3
            refine lv_aload_n hx hb dX2_boilPans_36 rfl (lv_at hl 0 rfl) ?_
            refine va_get (D := D) (ci := 2) (v := .ref hk) (C := RX2) (T := TX2) (N := 10) hx hb ht inG_X2 hown hK hP 0 rfl rfl 2 (by decide) (ht _ qF_RX2_27) (fun _ h9 => h9) rfl dX2_boilPans_37 ?_
            refine va_get (D := D) (ci := 1) (v := .ref k1) (C := RX1) (T := TX1) (N := 5) hx hb ht inG_X1 hown hK hP 1 rfl rfl 0 (by decide) (ht _ qF_RX2_78) (fun _ h9 => h9) rfl dX2_boilPans_40 ?_
            refine lv_iload_n hx hb dX2_boilPans_43 rfl (lv_at hl 1 rfl) ?_
            refine aI hx hb hK hP 2 0 rfl rfl i (rfl) (by omega) (by decide) (v := kw i) (by rw [e_w1]; exact rowF_at _ _ _ (Nat.le_refl _)) dX2_boilPans_44 ?_
            refine lv_if_ne (tgt := 61) hx hb dX2_boilPans_45 (by decide) (fun c_4 => ?_) (fun c_4 => ?_)
            · skip
              refine lv_aload_n hx hb dX2_boilPans_61 rfl (lv_at hl 0 rfl) ?_
              refine lv_dup hx hb dX2_boilPans_62 rfl ?_
              refine va_get (D := D) (ci := 2) (v := .int coal1) (C := RX2) (T := TX2) (N := 10) hx hb ht inG_X2 hown hK hP 0 rfl rfl 4 (by decide) (ht _ qF_RX2_34) (fun _ h9 => h9) rfl dX2_boilPans_63 ?_
              refine lv_iconst (v := 4) hx hb dX2_boilPans_66 (by decide) ?_
              refine lv_isub hx hb dX2_boilPans_67 ?_
              refine va_put (D := D) (ci := 2) (v := .int (coal1 - 4)) (C := RX2) (T := TX2) (N := 10) hx hb ht inG_X2 tyX2 tyX2_ok nmX2 hown hK hP hD hS 0 rfl rfl 4 (by decide) (ht _ qF_RX2_34) (fun _ h9 => h9) rfl (tyX2_ok 4 (by decide)) rfl rfl (Nat.le_of_ble_eq_true rfl) dX2_boilPans_68 (fun H locs hP hD hS => ?_)
              have hP : va_P D vwCl [(h0, .inr (2, [.ref hc, .ref hp, .ref hk, .int (nI day), .int (coal1 - 4), .int bar, .int fine, .int crs, .int coin, .int ship])), (hk, .inr (1, [.ref k1, .ref k2, .ref k3, .int (nI mo), .int (nI n)])), (k1, .inl (cI, 4, .inl w1)), (k3, .inl (cZ, 4, .inl b1))] _ := hP
              have hD : va_D A [(h0, .inr (2, [.ref hc, .ref hp, .ref hk, .int (nI day), .int (coal1 - 4), .int bar, .int fine, .int crs, .int coin, .int ship])), (hk, .inr (1, [.ref k1, .ref k2, .ref k3, .int (nI mo), .int (nI n)])), (k1, .inl (cI, 4, .inl w1)), (k3, .inl (cZ, 4, .inl b1))] := hD
              refine lv_aload_n hx hb dX2_boilPans_71 rfl (lv_at hl 0 rfl) ?_
              refine va_get (D := D) (ci := 2) (v := .ref hk) (C := RX2) (T := TX2) (N := 10) hx hb ht inG_X2 hown hK hP 0 rfl rfl 2 (by decide) (ht _ qF_RX2_27) (fun _ h9 => h9) rfl dX2_boilPans_72 ?_
              refine va_get (D := D) (ci := 1) (v := .ref k1) (C := RX1) (T := TX1) (N := 5) hx hb ht inG_X1 hown hK hP 1 rfl rfl 0 (by decide) (ht _ qF_RX2_78) (fun _ h9 => h9) rfl dX2_boilPans_75 ?_
              refine lv_iload_n hx hb dX2_boilPans_78 rfl (lv_at hl 1 rfl) ?_
              refine lv_iconst (v := 0) hx hb dX2_boilPans_79 (by decide) ?_
              refine lv_aload_n hx hb dX2_boilPans_80 rfl (lv_at hl 0 rfl) ?_
              refine va_get (D := D) (ci := 2) (v := .ref hk) (C := RX2) (T := TX2) (N := 10) hx hb ht inG_X2 hown hK hP 0 rfl rfl 2 (by decide) (ht _ qF_RX2_27) (fun _ h9 => h9) rfl dX2_boilPans_81 ?_
              refine va_get (D := D) (ci := 1) (v := .ref k1) (C := RX1) (T := TX1) (N := 5) hx hb ht inG_X1 hown hK hP 1 rfl rfl 0 (by decide) (ht _ qF_RX2_78) (fun _ h9 => h9) rfl dX2_boilPans_84 ?_
              refine lv_iload_n hx hb dX2_boilPans_87 rfl (lv_at hl 1 rfl) ?_
              refine aI hx hb hK hP 2 0 rfl rfl i (rfl) (by omega) (by decide) (v := kw i) (by rw [e_w1]; exact rowF_at _ _ _ (Nat.le_refl _)) dX2_boilPans_88 ?_
              refine lv_bipush (v := 12) hx hb dX2_boilPans_89 (by decide) ?_
              refine lv_isub hx hb dX2_boilPans_91 ?_
              refine k_max F qM_RX2_82 hl.1 (Nat.le_of_ble_eq_true rfl) (Nat.le_of_ble_eq_true rfl) (Nat.le_of_ble_eq_true rfl) (Nat.le_of_ble_eq_true rfl) dX2_boilPans_92 ?_
              refine sI_ hx hb hK hP hD hS 2 0 rfl rfl i (rfl) (by omega) (by decide) (upd w1 i (mx 0 ((kw i) - 12))) (rfl) dX2_boilPans_95 (fun H locs hP hD hS => ?_)
              have hP : va_P D vwCl [(h0, .inr (2, [.ref hc, .ref hp, .ref hk, .int (nI day), .int (coal1 - 4), .int bar, .int fine, .int crs, .int coin, .int ship])), (hk, .inr (1, [.ref k1, .ref k2, .ref k3, .int (nI mo), .int (nI n)])), (k1, .inl (cI, 4, .inl (upd w1 i (mx 0 ((kw i) - 12))))), (k3, .inl (cZ, 4, .inl b1))] _ := hP
              have hD : va_D A [(h0, .inr (2, [.ref hc, .ref hp, .ref hk, .int (nI day), .int (coal1 - 4), .int bar, .int fine, .int crs, .int coin, .int ship])), (hk, .inr (1, [.ref k1, .ref k2, .ref k3, .int (nI mo), .int (nI n)])), (k1, .inl (cI, 4, .inl (upd w1 i (mx 0 ((kw i) - 12))))), (k3, .inl (cZ, 4, .inl b1))] := hD
              refine lv_iinc (v := nI (i + 1)) (lv' := [(1, .int (nI (i + 1))), (0, .ref h0)]) hx hb dX2_boilPans_96 hl (k := 1) rfl (nI_1 i) (by decide) rfl (fun ls hl => ?_)
              refine lv_goto (tgt := 2) hx hb dX2_boilPans_99 (by decide) ?_
              exact ih2 (i + 1) (by omega) (by omega) (coal1 - 4) (upd w1 i (mx 0 ((kw i) - 12))) b1 (by subst e_coal1; simp only [cN, eq_false c_1, eq_true c_1n, eq_false c_2, eq_false c_3, eq_true c_3n, eq_false c_4, if_true, if_false]) (by subst e_coal1 e_w1; exact rowF_upd _ _ _ (by simp only [fKw, eq_false c_1, eq_true c_1n, eq_false c_2, eq_false c_3, eq_true c_3n, eq_false c_4, if_true, if_false])) (by subst e_coal1 e_b1; exact (rowF_same _ _ _ (by simp only [fKb, eq_false c_1, eq_true c_1n, eq_false c_2, eq_false c_3, eq_true c_3n, eq_false c_4, if_true, if_false])).symm) _ _ (hP.sub [0, 1, 2, 3] rfl) (hD.sub [0, 1, 2, 3] (by decide) rfl) hS _ (lv_sub hl [1, 0] rfl)
            · skip
              refine lv_aload_n hx hb dX2_boilPans_48 rfl (lv_at hl 0 rfl) ?_
              refine va_get (D := D) (ci := 2) (v := .ref hk) (C := RX2) (T := TX2) (N := 10) hx hb ht inG_X2 hown hK hP 0 rfl rfl 2 (by decide) (ht _ qF_RX2_27) (fun _ h9 => h9) rfl dX2_boilPans_49 ?_
              refine va_get (D := D) (ci := 1) (v := .ref k3) (C := RX1) (T := TX1) (N := 5) hx hb ht inG_X1 hown hK hP 1 rfl rfl 2 (by decide) (ht _ qF_RX2_74) (fun _ h9 => h9) rfl dX2_boilPans_52 ?_
              refine lv_iload_n hx hb dX2_boilPans_55 rfl (lv_at hl 1 rfl) ?_
              refine lv_iconst (v := 0) hx hb dX2_boilPans_56 (by decide) ?_
              refine sZ_ hx hb hK hP hD hS 3 1 rfl rfl i (rfl) (by omega) (by decide) (by decide) (upd b1 i 0) (rfl) dX2_boilPans_57 (fun H locs hP hD hS => ?_)
              have hP : va_P D vwCl [(h0, .inr (2, [.ref hc, .ref hp, .ref hk, .int (nI day), .int coal1, .int bar, .int fine, .int crs, .int coin, .int ship])), (hk, .inr (1, [.ref k1, .ref k2, .ref k3, .int (nI mo), .int (nI n)])), (k1, .inl (cI, 4, .inl w1)), (k3, .inl (cZ, 4, .inl (upd b1 i 0)))] _ := hP
              have hD : va_D A [(h0, .inr (2, [.ref hc, .ref hp, .ref hk, .int (nI day), .int coal1, .int bar, .int fine, .int crs, .int coin, .int ship])), (hk, .inr (1, [.ref k1, .ref k2, .ref k3, .int (nI mo), .int (nI n)])), (k1, .inl (cI, 4, .inl w1)), (k3, .inl (cZ, 4, .inl (upd b1 i 0)))] := hD
              refine lv_goto (tgt := 96) hx hb dX2_boilPans_58 (by decide) ?_
              refine lv_iinc (v := nI (i + 1)) (lv' := [(1, .int (nI (i + 1))), (0, .ref h0)]) hx hb dX2_boilPans_96 hl (k := 1) rfl (nI_1 i) (by decide) rfl (fun ls hl => ?_)
              refine lv_goto (tgt := 2) hx hb dX2_boilPans_99 (by decide) ?_
              exact ih2 (i + 1) (by omega) (by omega) coal1 w1 (upd b1 i 0) (by subst e_coal1; simp only [cN, eq_false c_1, eq_true c_1n, eq_false c_2, eq_false c_3, eq_true c_3n, eq_true c_4, if_true, if_false]) (by subst e_coal1 e_w1; exact (rowF_same _ _ _ (by simp only [fKw, eq_false c_1, eq_true c_1n, eq_false c_2, eq_false c_3, eq_true c_3n, eq_true c_4, if_true, if_false])).symm) (by subst e_coal1 e_b1; exact rowF_upd _ _ _ (by simp only [fKb, eq_false c_1, eq_true c_1n, eq_false c_2, eq_false c_3, eq_true c_3n, eq_true c_4, if_true, if_false])) _ _ (hP.sub [0, 1, 2, 3] rfl) (hD.sub [0, 1, 2, 3] (by decide) rfl) hS _ (lv_sub hl [1, 0] rfl)
        · skip
          refine lv_goto (tgt := 96) hx hb dX2_boilPans_25 (by decide) ?_
          refine lv_iinc (v := nI (i + 1)) (lv' := [(1, .int (nI (i + 1))), (0, .ref h0)]) hx hb dX2_boilPans_96 hl (k := 1) rfl (nI_1 i) (by decide) rfl (fun ls hl => ?_)
          refine lv_goto (tgt := 2) hx hb dX2_boilPans_99 (by decide) ?_
          exact ih2 (i + 1) (by omega) (by omega) coal1 w1 b1 (by subst e_coal1; simp only [cN, eq_false c_1, eq_true c_1n, eq_true c_2, if_true, if_false]) (by subst e_coal1 e_w1; exact (rowF_same _ _ _ (by simp only [fKw, eq_false c_1, eq_true c_1n, eq_true c_2, if_true, if_false])).symm) (by subst e_coal1 e_b1; exact (rowF_same _ _ _ (by simp only [fKb, eq_false c_1, eq_true c_1n, eq_true c_2, if_true, if_false])).symm) _ _ (hP.sub [0, 1, 2, 3] rfl) (hD.sub [0, 1, 2, 3] (by decide) rfl) hS _ (lv_sub hl [1, 0] rfl)
  exact loop2 (n + 1) 0 (Nat.zero_le _) (by omega) coal kw kb rfl ((rowF_0 _ _).symm) ((rowF_0 _ _).symm) _ _ (hP.sub [0, 1, 2, 3] rfl) (hD.sub [0, 1, 2, 3] (by decide) rfl) hS _ (lv_sub hl [1, 0] rfl)

def rm_X2_loadShip : Room := { frames := 1, cells := 0, slots := 0, locals := 21 }
set_option maxHeartbeats 4000000 in
set_option maxRecDepth 100000 in
theorem c_X2_loadShip (l : Launch) (D : va_G) (cI cZ cJ : ClassId) (h0 hc hp hk : Nat) (day : Nat) (coal bar fine crs coin ship : Int32) (t : Int32)  : Mv l yX2_loadShip cX2_loadShip 4 rm_X2_loadShip D (TY cI cZ cJ) [.ref h0, .int t] [(h0, .inr (2, [.ref hc, .ref hp, .ref hk, .int (nI day), .int coal, .int bar, .int fine, .int crs, .int coin, .int ship]))] (fun (u : Unit) => True) (fun (u : Unit) => [(h0, .inr (2, [.ref hc, .ref hp, .ref hk, .int (nI day), .int coal, .int bar, .int (fine - mn t fine), .int (crs - mn (t - mn t fine) crs), .int (coin + (5 * mn t fine + 2 * mn (t - mn t fine) crs)), .int (ship + (mn t fine + mn (t - mn t fine) crs))]))]) := by
  refine Mv.ofQ (by decide) (Nat.le_of_ble_eq_true rfl) ?_
  intro p e s m args below meth c A ls Q hF hK hP hD hA hl hend hin
  obtain ⟨F, hr, hlocks, hG⟩ := hF
  have hx := F.1
  have hb := F.2.1
  have hown := F.2.2.2.1
  have ht := F.2.2.2.2
  have hS : va_S A s.heap s.heap [] := va_S.rf
  have hl : lv_has ls 4 [(0, .ref h0), (1, .int t)] := hl
  refine lv_iload_n hx hb dX2_loadShip_0 rfl (lv_at hl 1 rfl) ?_
  refine lv_aload_n hx hb dX2_loadShip_1 rfl (lv_at hl 0 rfl) ?_
  refine va_get (D := D) (ci := 2) (v := .int fine) (C := RX2) (T := TX2) (N := 10) hx hb ht inG_X2 hown hK hP 0 rfl rfl 6 (by decide) (ht _ qF_RX2_40) (fun _ h9 => h9) rfl dX2_loadShip_2 ?_
  refine k_min F qM_RX2_88 hl.1 (Nat.le_of_ble_eq_true rfl) (Nat.le_of_ble_eq_true rfl) (Nat.le_of_ble_eq_true rfl) (Nat.le_of_ble_eq_true rfl) dX2_loadShip_5 ?_
  refine lv_istore_n (lv' := [(2, .int (mn t fine)), (0, .ref h0), (1, .int t)]) hx hb dX2_loadShip_8 rfl hl (by decide) rfl (fun ls hl => ?_)
  refine lv_iload_n hx hb dX2_loadShip_9 rfl (lv_at hl 2 rfl) ?_
  refine lv_iload_n hx hb dX2_loadShip_10 rfl (lv_at hl 0 rfl) ?_
  refine lv_isub hx hb dX2_loadShip_11 ?_
  refine lv_aload_n hx hb dX2_loadShip_12 rfl (lv_at hl 1 rfl) ?_
  refine va_get (D := D) (ci := 2) (v := .int crs) (C := RX2) (T := TX2) (N := 10) hx hb ht inG_X2 hown hK hP 0 rfl rfl 7 (by decide) (ht _ qF_RX2_43) (fun _ h9 => h9) rfl dX2_loadShip_13 ?_
  refine k_min F qM_RX2_88 hl.1 (Nat.le_of_ble_eq_true rfl) (Nat.le_of_ble_eq_true rfl) (Nat.le_of_ble_eq_true rfl) (Nat.le_of_ble_eq_true rfl) dX2_loadShip_16 ?_
  refine lv_istore_n (lv' := [(3, .int (mn (t - (mn t fine)) crs)), (2, .int (mn t fine)), (0, .ref h0), (1, .int t)]) hx hb dX2_loadShip_19 rfl hl (by decide) rfl (fun ls hl => ?_)
  refine lv_aload_n hx hb dX2_loadShip_20 rfl (lv_at hl 2 rfl) ?_
  refine lv_dup hx hb dX2_loadShip_21 rfl ?_
  refine va_get (D := D) (ci := 2) (v := .int fine) (C := RX2) (T := TX2) (N := 10) hx hb ht inG_X2 hown hK hP 0 rfl rfl 6 (by decide) (ht _ qF_RX2_40) (fun _ h9 => h9) rfl dX2_loadShip_22 ?_
  refine lv_iload_n hx hb dX2_loadShip_25 rfl (lv_at hl 1 rfl) ?_
  refine lv_isub hx hb dX2_loadShip_26 ?_
  refine va_put (D := D) (ci := 2) (v := .int (fine - (mn t fine))) (C := RX2) (T := TX2) (N := 10) hx hb ht inG_X2 tyX2 tyX2_ok nmX2 hown hK hP hD hS 0 rfl rfl 6 (by decide) (ht _ qF_RX2_40) (fun _ h9 => h9) rfl (tyX2_ok 6 (by decide)) rfl rfl (Nat.le_of_ble_eq_true rfl) dX2_loadShip_27 (fun H locs hP hD hS => ?_)
  have hP : va_P D vwCl [(h0, .inr (2, [.ref hc, .ref hp, .ref hk, .int (nI day), .int coal, .int bar, .int (fine - (mn t fine)), .int crs, .int coin, .int ship]))] _ := hP
  have hD : va_D A [(h0, .inr (2, [.ref hc, .ref hp, .ref hk, .int (nI day), .int coal, .int bar, .int (fine - (mn t fine)), .int crs, .int coin, .int ship]))] := hD
  refine lv_aload_n hx hb dX2_loadShip_30 rfl (lv_at hl 2 rfl) ?_
  refine lv_dup hx hb dX2_loadShip_31 rfl ?_
  refine va_get (D := D) (ci := 2) (v := .int crs) (C := RX2) (T := TX2) (N := 10) hx hb ht inG_X2 hown hK hP 0 rfl rfl 7 (by decide) (ht _ qF_RX2_43) (fun _ h9 => h9) rfl dX2_loadShip_32 ?_
  refine lv_iload_n hx hb dX2_loadShip_35 rfl (lv_at hl 0 rfl) ?_
  refine lv_isub hx hb dX2_loadShip_36 ?_
  refine va_put (D := D) (ci := 2) (v := .int (crs - (mn (t - (mn t fine)) crs))) (C := RX2) (T := TX2) (N := 10) hx hb ht inG_X2 tyX2 tyX2_ok nmX2 hown hK hP hD hS 0 rfl rfl 7 (by decide) (ht _ qF_RX2_43) (fun _ h9 => h9) rfl (tyX2_ok 7 (by decide)) rfl rfl (Nat.le_of_ble_eq_true rfl) dX2_loadShip_37 (fun H locs hP hD hS => ?_)
  have hP : va_P D vwCl [(h0, .inr (2, [.ref hc, .ref hp, .ref hk, .int (nI day), .int coal, .int bar, .int (fine - (mn t fine)), .int (crs - (mn (t - (mn t fine)) crs)), .int coin, .int ship]))] _ := hP
  have hD : va_D A [(h0, .inr (2, [.ref hc, .ref hp, .ref hk, .int (nI day), .int coal, .int bar, .int (fine - (mn t fine)), .int (crs - (mn (t - (mn t fine)) crs)), .int coin, .int ship]))] := hD
  refine lv_aload_n hx hb dX2_loadShip_40 rfl (lv_at hl 2 rfl) ?_
  refine lv_dup hx hb dX2_loadShip_41 rfl ?_
  refine va_get (D := D) (ci := 2) (v := .int coin) (C := RX2) (T := TX2) (N := 10) hx hb ht inG_X2 hown hK hP 0 rfl rfl 8 (by decide) (ht _ qF_RX2_46) (fun _ h9 => h9) rfl dX2_loadShip_42 ?_
  refine lv_iconst (v := 5) hx hb dX2_loadShip_45 (by decide) ?_
  refine lv_iload_n hx hb dX2_loadShip_46 rfl (lv_at hl 1 rfl) ?_
  refine lv_imul hx hb dX2_loadShip_47 ?_
  refine lv_iconst (v := 2) hx hb dX2_loadShip_48 (by decide) ?_
  refine lv_iload_n hx hb dX2_loadShip_49 rfl (lv_at hl 0 rfl) ?_
  refine lv_imul hx hb dX2_loadShip_50 ?_
  refine lv_iadd hx hb dX2_loadShip_51 ?_
  refine lv_iadd hx hb dX2_loadShip_52 ?_
  refine va_put (D := D) (ci := 2) (v := .int (coin + ((5 * (mn t fine)) + (2 * (mn (t - (mn t fine)) crs))))) (C := RX2) (T := TX2) (N := 10) hx hb ht inG_X2 tyX2 tyX2_ok nmX2 hown hK hP hD hS 0 rfl rfl 8 (by decide) (ht _ qF_RX2_46) (fun _ h9 => h9) rfl (tyX2_ok 8 (by decide)) rfl rfl (Nat.le_of_ble_eq_true rfl) dX2_loadShip_53 (fun H locs hP hD hS => ?_)
  have hP : va_P D vwCl [(h0, .inr (2, [.ref hc, .ref hp, .ref hk, .int (nI day), .int coal, .int bar, .int (fine - (mn t fine)), .int (crs - (mn (t - (mn t fine)) crs)), .int (coin + ((5 * (mn t fine)) + (2 * (mn (t - (mn t fine)) crs)))), .int ship]))] _ := hP
  have hD : va_D A [(h0, .inr (2, [.ref hc, .ref hp, .ref hk, .int (nI day), .int coal, .int bar, .int (fine - (mn t fine)), .int (crs - (mn (t - (mn t fine)) crs)), .int (coin + ((5 * (mn t fine)) + (2 * (mn (t - (mn t fine)) crs)))), .int ship]))] := hD
  refine lv_aload_n hx hb dX2_loadShip_56 rfl (lv_at hl 2 rfl) ?_
  refine lv_dup hx hb dX2_loadShip_57 rfl ?_
  refine va_get (D := D) (ci := 2) (v := .int ship) (C := RX2) (T := TX2) (N := 10) hx hb ht inG_X2 hown hK hP 0 rfl rfl 9 (by decide) (ht _ qF_RX2_49) (fun _ h9 => h9) rfl dX2_loadShip_58 ?_
  refine lv_iload_n hx hb dX2_loadShip_61 rfl (lv_at hl 1 rfl) ?_
  refine lv_iload_n hx hb dX2_loadShip_62 rfl (lv_at hl 0 rfl) ?_
  refine lv_iadd hx hb dX2_loadShip_63 ?_
  refine lv_iadd hx hb dX2_loadShip_64 ?_
  refine va_put (D := D) (ci := 2) (v := .int (ship + ((mn t fine) + (mn (t - (mn t fine)) crs)))) (C := RX2) (T := TX2) (N := 10) hx hb ht inG_X2 tyX2 tyX2_ok nmX2 hown hK hP hD hS 0 rfl rfl 9 (by decide) (ht _ qF_RX2_49) (fun _ h9 => h9) rfl (tyX2_ok 9 (by decide)) rfl rfl (Nat.le_of_ble_eq_true rfl) dX2_loadShip_65 (fun H locs hP hD hS => ?_)
  have hP : va_P D vwCl [(h0, .inr (2, [.ref hc, .ref hp, .ref hk, .int (nI day), .int coal, .int bar, .int (fine - (mn t fine)), .int (crs - (mn (t - (mn t fine)) crs)), .int (coin + ((5 * (mn t fine)) + (2 * (mn (t - (mn t fine)) crs)))), .int (ship + ((mn t fine) + (mn (t - (mn t fine)) crs)))]))] _ := hP
  have hD : va_D A [(h0, .inr (2, [.ref hc, .ref hp, .ref hk, .int (nI day), .int coal, .int bar, .int (fine - (mn t fine)), .int (crs - (mn (t - (mn t fine)) crs)), .int (coin + ((5 * (mn t fine)) + (2 * (mn (t - (mn t fine)) crs)))), .int (ship + ((mn t fine) + (mn (t - (mn t fine)) crs)))]))] := hD
  exact hend _ _ _ _ _ _ () dX2_loadShip_68 (trivial) hP hD hS (Nat.le_of_ble_eq_true rfl) (Nat.le_of_ble_eq_true rfl)

def rm_X2_letDayGo : Room := { frames := 3, cells := 0, slots := 0, locals := 67 }
set_option maxHeartbeats 4000000 in
set_option maxRecDepth 100000 in
theorem c_X2_letDayGo (l : Launch) (D : va_G) (cI cZ cJ : ClassId) (h0 hc hp hk c1 c2 c3 c4 p1 p2 p3 mp k1 k2 k3 mk : Nat) (day : Nat) (coal bar fine crs coin ship : Int32) (sh co bu fl pw kw kb : Nat → Int32) (nC nP nK : Nat) (r t : Int32) (hC : nC ≤ 4) (hPp : nP ≤ 4) (hKk : nK ≤ 4) : Mv l yX2_letDayGo cX2_letDayGo 3 rm_X2_letDayGo D (TY cI cZ cJ) [.ref h0, .int r, .int t] [(h0, .inr (2, [.ref hc, .ref hp, .ref hk, .int (nI day), .int coal, .int bar, .int fine, .int crs, .int coin, .int ship])), (hc, .inr (0, [.ref c1, .ref c2, .ref c3, .ref c4, .int (nI nC)])), (c1, .inl (cI, 4, .inl sh)), (c2, .inl (cI, 4, .inl co)), (c3, .inl (cI, 4, .inl bu)), (c4, .inl (cZ, 4, .inl fl)), (hp, .inr (1, [.ref p1, .ref p2, .ref p3, .int (nI mp), .int (nI nP)])), (p1, .inl (cI, 4, .inl pw)), (hk, .inr (1, [.ref k1, .ref k2, .ref k3, .int (nI mk), .int (nI nK)])), (k1, .inl (cI, 4, .inl kw)), (k3, .inl (cZ, 4, .inl kb))] (fun (u : Unit) => True) (fun (u : Unit) => [(h0, .inr (2, [.ref hc, .ref hp, .ref hk, .int (nI (day + 1)), .int (cN kw kb coal nK), .int bar, .int (fine - mn t fine), .int (crs - mn (t - mn t fine) crs), .int (coin + (5 * mn t fine + 2 * mn (t - mn t fine) crs)), .int (ship + (mn t fine + mn (t - mn t fine) crs))])), (hc, .inr (0, [.ref c1, .ref c2, .ref c3, .ref c4, .int (nI nC)])), (c1, .inl (cI, 4, .inl (rowF nC (fSh r sh fl) sh))), (c2, .inl (cI, 4, .inl (rowF nC (fCo co fl) co))), (c3, .inl (cI, 4, .inl (rowF nC (fBu r sh bu fl) bu))), (c4, .inl (cZ, 4, .inl (rowF nC (fFl r sh co fl) fl))), (hp, .inr (1, [.ref p1, .ref p2, .ref p3, .int (nI mp), .int (nI nP)])), (p1, .inl (cI, 4, .inl (rowF nP (fun j => wth r (pw j)) pw))), (hk, .inr (1, [.ref k1, .ref k2, .ref k3, .int (nI mk), .int (nI nK)])), (k1, .inl (cI, 4, .inl (rowF nK (fKw kw kb (cN kw kb coal)) kw))), (k3, .inl (cZ, 4, .inl (rowF nK (fKb kw kb (cN kw kb coal)) kb)))]) := by
  refine Mv.ofQ (by decide) (Nat.le_of_ble_eq_true rfl) ?_
  intro p e s m args below meth c A ls Q hF hK hP hD hA hl hend hin
  obtain ⟨F, hr, hlocks, hG⟩ := hF
  have hx := F.1
  have hb := F.2.1
  have hown := F.2.2.2.1
  have ht := F.2.2.2.2
  have hS : va_S A s.heap s.heap [] := va_S.rf
  have hl : lv_has ls 3 [(0, .ref h0), (1, .int r), (2, .int t)] := hl
  refine lv_aload_n hx hb dX2_letDayGo_0 rfl (lv_at hl 0 rfl) ?_
  refine va_get (D := D) (ci := 2) (v := .ref hc) (C := RX2) (T := TX2) (N := 10) hx hb ht inG_X2 hown hK hP 0 rfl rfl 0 (by decide) (ht _ qF_RX2_12) (fun _ h9 => h9) rfl dX2_letDayGo_1 ?_
  refine lv_iload_n hx hb dX2_letDayGo_4 rfl (lv_at hl 1 rfl) ?_
  refine k_v (wr := [(h0, .inr (2, [.ref hc, .ref hp, .ref hk, .int (nI day), .int coal, .int bar, .int fine, .int crs, .int coin, .int ship])), (hp, .inr (1, [.ref p1, .ref p2, .ref p3, .int (nI mp), .int (nI nP)])), (p1, .inl (cI, 4, .inl pw)), (hk, .inr (1, [.ref k1, .ref k2, .ref k3, .int (nI mk), .int (nI nK)])), (k1, .inl (cI, 4, .inl kw)), (k3, .inl (cZ, 4, .inl kb))]) (rV (As := [.int r]) (rest := []) F hG hK (hP.sub (ws' := [(hc, .inr (0, [.ref c1, .ref c2, .ref c3, .ref c4, .int (nI nC)])), (c1, .inl (cI, 4, .inl sh)), (c2, .inl (cI, 4, .inl co)), (c3, .inl (cI, 4, .inl bu)), (c4, .inl (cZ, 4, .inl fl))]) [1, 2, 3, 4, 5] rfl) ((hD.sub (ws' := [(hc, .inr (0, [.ref c1, .ref c2, .ref c3, .ref c4, .int (nI nC)])), (c1, .inl (cI, 4, .inl sh)), (c2, .inl (cI, 4, .inl co)), (c3, .inl (cI, 4, .inl bu)), (c4, .inl (cZ, 4, .inl fl))]) [1, 2, 3, 4, 5] (by decide) rfl).weaken (fun _ _ _ _ => trivial)) s_RX2_59 (c_X0_burn l D cI cZ cJ hc c1 c2 c3 c4 sh co bu fl nC r (by first | assumption | omega) _) 0 0 rfl rfl rfl rfl hl.1 rfl (Nat.le_of_ble_eq_true rfl) dX2_letDayGo_5 ⟨(Nat.le_of_ble_eq_true rfl), (Nat.le_of_ble_eq_true rfl)⟩ ⟨(Nat.le_of_ble_eq_true rfl), (Nat.le_of_ble_eq_true rfl)⟩) hP hD hS hA [1, 2, 3, 4, 5] [0, 6, 7, 8, 9, 10] rfl rfl (by decide) (by decide) (fun uu H locs hw hP hD hS => ?_)
  obtain ⟨sh1_5, co1_5, bu1_5, fl1_5⟩ := uu
  try dsimp only at hw
  obtain ⟨rfl, rfl, rfl, rfl⟩ := hw
  have hP : va_P D vwCl [(h0, .inr (2, [.ref hc, .ref hp, .ref hk, .int (nI day), .int coal, .int bar, .int fine, .int crs, .int coin, .int ship])), (hp, .inr (1, [.ref p1, .ref p2, .ref p3, .int (nI mp), .int (nI nP)])), (p1, .inl (cI, 4, .inl pw)), (hk, .inr (1, [.ref k1, .ref k2, .ref k3, .int (nI mk), .int (nI nK)])), (k1, .inl (cI, 4, .inl kw)), (k3, .inl (cZ, 4, .inl kb)), (hc, .inr (0, [.ref c1, .ref c2, .ref c3, .ref c4, .int (nI nC)])), (c1, .inl (cI, 4, .inl (rowF nC (fSh r sh fl) sh))), (c2, .inl (cI, 4, .inl (rowF nC (fCo co fl) co))), (c3, .inl (cI, 4, .inl (rowF nC (fBu r sh bu fl) bu))), (c4, .inl (cZ, 4, .inl (rowF nC (fFl r sh co fl) fl)))] _ := hP
  have hD : va_D A [(h0, .inr (2, [.ref hc, .ref hp, .ref hk, .int (nI day), .int coal, .int bar, .int fine, .int crs, .int coin, .int ship])), (hp, .inr (1, [.ref p1, .ref p2, .ref p3, .int (nI mp), .int (nI nP)])), (p1, .inl (cI, 4, .inl pw)), (hk, .inr (1, [.ref k1, .ref k2, .ref k3, .int (nI mk), .int (nI nK)])), (k1, .inl (cI, 4, .inl kw)), (k3, .inl (cZ, 4, .inl kb)), (hc, .inr (0, [.ref c1, .ref c2, .ref c3, .ref c4, .int (nI nC)])), (c1, .inl (cI, 4, .inl (rowF nC (fSh r sh fl) sh))), (c2, .inl (cI, 4, .inl (rowF nC (fCo co fl) co))), (c3, .inl (cI, 4, .inl (rowF nC (fBu r sh bu fl) bu))), (c4, .inl (cZ, 4, .inl (rowF nC (fFl r sh co fl) fl)))] := hD
  refine lv_aload_n hx hb dX2_letDayGo_8 rfl (lv_at hl 0 rfl) ?_
  refine va_get (D := D) (ci := 2) (v := .ref hp) (C := RX2) (T := TX2) (N := 10) hx hb ht inG_X2 hown hK hP 0 rfl rfl 1 (by decide) (ht _ qF_RX2_23) (fun _ h9 => h9) rfl dX2_letDayGo_9 ?_
  refine lv_iload_n hx hb dX2_letDayGo_12 rfl (lv_at hl 1 rfl) ?_
  refine k_v (wr := [(h0, .inr (2, [.ref hc, .ref hp, .ref hk, .int (nI day), .int coal, .int bar, .int fine, .int crs, .int coin, .int ship])), (hk, .inr (1, [.ref k1, .ref k2, .ref k3, .int (nI mk), .int (nI nK)])), (k1, .inl (cI, 4, .inl kw)), (k3, .inl (cZ, 4, .inl kb)), (hc, .inr (0, [.ref c1, .ref c2, .ref c3, .ref c4, .int (nI nC)])), (c1, .inl (cI, 4, .inl (rowF nC (fSh r sh fl) sh))), (c2, .inl (cI, 4, .inl (rowF nC (fCo co fl) co))), (c3, .inl (cI, 4, .inl (rowF nC (fBu r sh bu fl) bu))), (c4, .inl (cZ, 4, .inl (rowF nC (fFl r sh co fl) fl)))]) (rV (As := [.int r]) (rest := []) F hG hK (hP.sub (ws' := [(hp, .inr (1, [.ref p1, .ref p2, .ref p3, .int (nI mp), .int (nI nP)])), (p1, .inl (cI, 4, .inl pw))]) [1, 2] rfl) ((hD.sub (ws' := [(hp, .inr (1, [.ref p1, .ref p2, .ref p3, .int (nI mp), .int (nI nP)])), (p1, .inl (cI, 4, .inl pw))]) [1, 2] (by decide) rfl).weaken (fun _ _ _ _ => trivial)) s_RX2_62 (c_X1_takeWeather l D cI cZ cJ hp p1 p2 p3 mp pw nP r (by first | assumption | omega) _) 1 0 rfl rfl rfl rfl hl.1 rfl (Nat.le_of_ble_eq_true rfl) dX2_letDayGo_13 ⟨(Nat.le_of_ble_eq_true rfl), (Nat.le_of_ble_eq_true rfl)⟩ ⟨(Nat.le_of_ble_eq_true rfl), (Nat.le_of_ble_eq_true rfl)⟩) hP hD hS hA [1, 2] [0, 3, 4, 5, 6, 7, 8, 9, 10] rfl rfl (by decide) (by decide) (fun uu H locs hw hP hD hS => ?_)
  obtain ⟨w1_13, rfl⟩ : ∃ z, z = uu := ⟨_, rfl⟩
  try dsimp only at hw
  subst hw
  have hP : va_P D vwCl [(h0, .inr (2, [.ref hc, .ref hp, .ref hk, .int (nI day), .int coal, .int bar, .int fine, .int crs, .int coin, .int ship])), (hk, .inr (1, [.ref k1, .ref k2, .ref k3, .int (nI mk), .int (nI nK)])), (k1, .inl (cI, 4, .inl kw)), (k3, .inl (cZ, 4, .inl kb)), (hc, .inr (0, [.ref c1, .ref c2, .ref c3, .ref c4, .int (nI nC)])), (c1, .inl (cI, 4, .inl (rowF nC (fSh r sh fl) sh))), (c2, .inl (cI, 4, .inl (rowF nC (fCo co fl) co))), (c3, .inl (cI, 4, .inl (rowF nC (fBu r sh bu fl) bu))), (c4, .inl (cZ, 4, .inl (rowF nC (fFl r sh co fl) fl))), (hp, .inr (1, [.ref p1, .ref p2, .ref p3, .int (nI mp), .int (nI nP)])), (p1, .inl (cI, 4, .inl (rowF nP (fun j => wth r (pw j)) pw)))] _ := hP
  have hD : va_D A [(h0, .inr (2, [.ref hc, .ref hp, .ref hk, .int (nI day), .int coal, .int bar, .int fine, .int crs, .int coin, .int ship])), (hk, .inr (1, [.ref k1, .ref k2, .ref k3, .int (nI mk), .int (nI nK)])), (k1, .inl (cI, 4, .inl kw)), (k3, .inl (cZ, 4, .inl kb)), (hc, .inr (0, [.ref c1, .ref c2, .ref c3, .ref c4, .int (nI nC)])), (c1, .inl (cI, 4, .inl (rowF nC (fSh r sh fl) sh))), (c2, .inl (cI, 4, .inl (rowF nC (fCo co fl) co))), (c3, .inl (cI, 4, .inl (rowF nC (fBu r sh bu fl) bu))), (c4, .inl (cZ, 4, .inl (rowF nC (fFl r sh co fl) fl))), (hp, .inr (1, [.ref p1, .ref p2, .ref p3, .int (nI mp), .int (nI nP)])), (p1, .inl (cI, 4, .inl (rowF nP (fun j => wth r (pw j)) pw)))] := hD
  refine lv_aload_n hx hb dX2_letDayGo_16 rfl (lv_at hl 0 rfl) ?_
  refine k_v (wr := [(hc, .inr (0, [.ref c1, .ref c2, .ref c3, .ref c4, .int (nI nC)])), (c1, .inl (cI, 4, .inl (rowF nC (fSh r sh fl) sh))), (c2, .inl (cI, 4, .inl (rowF nC (fCo co fl) co))), (c3, .inl (cI, 4, .inl (rowF nC (fBu r sh bu fl) bu))), (c4, .inl (cZ, 4, .inl (rowF nC (fFl r sh co fl) fl))), (hp, .inr (1, [.ref p1, .ref p2, .ref p3, .int (nI mp), .int (nI nP)])), (p1, .inl (cI, 4, .inl (rowF nP (fun j => wth r (pw j)) pw)))]) (rV (As := []) (rest := []) F hG hK (hP.sub (ws' := [(h0, .inr (2, [.ref hc, .ref hp, .ref hk, .int (nI day), .int coal, .int bar, .int fine, .int crs, .int coin, .int ship])), (hk, .inr (1, [.ref k1, .ref k2, .ref k3, .int (nI mk), .int (nI nK)])), (k1, .inl (cI, 4, .inl kw)), (k3, .inl (cZ, 4, .inl kb))]) [0, 1, 2, 3] rfl) ((hD.sub (ws' := [(h0, .inr (2, [.ref hc, .ref hp, .ref hk, .int (nI day), .int coal, .int bar, .int fine, .int crs, .int coin, .int ship])), (hk, .inr (1, [.ref k1, .ref k2, .ref k3, .int (nI mk), .int (nI nK)])), (k1, .inl (cI, 4, .inl kw)), (k3, .inl (cZ, 4, .inl kb))]) [0, 1, 2, 3] (by decide) rfl).weaken (fun _ _ _ _ => trivial)) s_RX2_65 (c_X2_boilPans l D cI cZ cJ h0 hc hp hk k1 k2 k3 mk nK day coal bar fine crs coin ship kw kb (by first | assumption | omega) _) 2 0 rfl rfl rfl rfl hl.1 rfl (Nat.le_of_ble_eq_true rfl) dX2_letDayGo_17 ⟨(Nat.le_of_ble_eq_true rfl), (Nat.le_of_ble_eq_true rfl)⟩ ⟨(Nat.le_of_ble_eq_true rfl), (Nat.le_of_ble_eq_true rfl)⟩) hP hD hS hA [0, 1, 2, 3] [4, 5, 6, 7, 8, 9, 10] rfl rfl (by decide) (by decide) (fun uu H locs hw hP hD hS => ?_)
  obtain ⟨coal1_17, w1_17, b1_17⟩ := uu
  try dsimp only at hw
  obtain ⟨rfl, rfl, rfl⟩ := hw
  have hP : va_P D vwCl [(hc, .inr (0, [.ref c1, .ref c2, .ref c3, .ref c4, .int (nI nC)])), (c1, .inl (cI, 4, .inl (rowF nC (fSh r sh fl) sh))), (c2, .inl (cI, 4, .inl (rowF nC (fCo co fl) co))), (c3, .inl (cI, 4, .inl (rowF nC (fBu r sh bu fl) bu))), (c4, .inl (cZ, 4, .inl (rowF nC (fFl r sh co fl) fl))), (hp, .inr (1, [.ref p1, .ref p2, .ref p3, .int (nI mp), .int (nI nP)])), (p1, .inl (cI, 4, .inl (rowF nP (fun j => wth r (pw j)) pw))), (h0, .inr (2, [.ref hc, .ref hp, .ref hk, .int (nI day), .int (cN kw kb coal nK), .int bar, .int fine, .int crs, .int coin, .int ship])), (hk, .inr (1, [.ref k1, .ref k2, .ref k3, .int (nI mk), .int (nI nK)])), (k1, .inl (cI, 4, .inl (rowF nK (fKw kw kb (cN kw kb coal)) kw))), (k3, .inl (cZ, 4, .inl (rowF nK (fKb kw kb (cN kw kb coal)) kb)))] _ := hP
  have hD : va_D A [(hc, .inr (0, [.ref c1, .ref c2, .ref c3, .ref c4, .int (nI nC)])), (c1, .inl (cI, 4, .inl (rowF nC (fSh r sh fl) sh))), (c2, .inl (cI, 4, .inl (rowF nC (fCo co fl) co))), (c3, .inl (cI, 4, .inl (rowF nC (fBu r sh bu fl) bu))), (c4, .inl (cZ, 4, .inl (rowF nC (fFl r sh co fl) fl))), (hp, .inr (1, [.ref p1, .ref p2, .ref p3, .int (nI mp), .int (nI nP)])), (p1, .inl (cI, 4, .inl (rowF nP (fun j => wth r (pw j)) pw))), (h0, .inr (2, [.ref hc, .ref hp, .ref hk, .int (nI day), .int (cN kw kb coal nK), .int bar, .int fine, .int crs, .int coin, .int ship])), (hk, .inr (1, [.ref k1, .ref k2, .ref k3, .int (nI mk), .int (nI nK)])), (k1, .inl (cI, 4, .inl (rowF nK (fKw kw kb (cN kw kb coal)) kw))), (k3, .inl (cZ, 4, .inl (rowF nK (fKb kw kb (cN kw kb coal)) kb)))] := hD
  refine lv_aload_n hx hb dX2_letDayGo_20 rfl (lv_at hl 0 rfl) ?_
  refine lv_iload_n hx hb dX2_letDayGo_21 rfl (lv_at hl 2 rfl) ?_
  refine k_v (wr := [(hc, .inr (0, [.ref c1, .ref c2, .ref c3, .ref c4, .int (nI nC)])), (c1, .inl (cI, 4, .inl (rowF nC (fSh r sh fl) sh))), (c2, .inl (cI, 4, .inl (rowF nC (fCo co fl) co))), (c3, .inl (cI, 4, .inl (rowF nC (fBu r sh bu fl) bu))), (c4, .inl (cZ, 4, .inl (rowF nC (fFl r sh co fl) fl))), (hp, .inr (1, [.ref p1, .ref p2, .ref p3, .int (nI mp), .int (nI nP)])), (p1, .inl (cI, 4, .inl (rowF nP (fun j => wth r (pw j)) pw))), (hk, .inr (1, [.ref k1, .ref k2, .ref k3, .int (nI mk), .int (nI nK)])), (k1, .inl (cI, 4, .inl (rowF nK (fKw kw kb (cN kw kb coal)) kw))), (k3, .inl (cZ, 4, .inl (rowF nK (fKb kw kb (cN kw kb coal)) kb)))]) (rV (As := [.int t]) (rest := []) F hG hK (hP.sub (ws' := [(h0, .inr (2, [.ref hc, .ref hp, .ref hk, .int (nI day), .int (cN kw kb coal nK), .int bar, .int fine, .int crs, .int coin, .int ship]))]) [7] rfl) ((hD.sub (ws' := [(h0, .inr (2, [.ref hc, .ref hp, .ref hk, .int (nI day), .int (cN kw kb coal nK), .int bar, .int fine, .int crs, .int coin, .int ship]))]) [7] (by decide) rfl).weaken (fun _ _ _ _ => trivial)) s_RX2_68 (c_X2_loadShip l D cI cZ cJ h0 hc hp hk day (cN kw kb coal nK) bar fine crs coin ship t _) 2 0 rfl rfl rfl rfl hl.1 rfl (Nat.le_of_ble_eq_true rfl) dX2_letDayGo_22 ⟨(Nat.le_of_ble_eq_true rfl), (Nat.le_of_ble_eq_true rfl)⟩ ⟨(Nat.le_of_ble_eq_true rfl), (Nat.le_of_ble_eq_true rfl)⟩) hP hD hS hA [7] [0, 1, 2, 3, 4, 5, 6, 8, 9, 10] rfl rfl (by decide) (by decide) (fun uu H locs hw hP hD hS => ?_)
  try dsimp only at hw
  have hP : va_P D vwCl [(hc, .inr (0, [.ref c1, .ref c2, .ref c3, .ref c4, .int (nI nC)])), (c1, .inl (cI, 4, .inl (rowF nC (fSh r sh fl) sh))), (c2, .inl (cI, 4, .inl (rowF nC (fCo co fl) co))), (c3, .inl (cI, 4, .inl (rowF nC (fBu r sh bu fl) bu))), (c4, .inl (cZ, 4, .inl (rowF nC (fFl r sh co fl) fl))), (hp, .inr (1, [.ref p1, .ref p2, .ref p3, .int (nI mp), .int (nI nP)])), (p1, .inl (cI, 4, .inl (rowF nP (fun j => wth r (pw j)) pw))), (hk, .inr (1, [.ref k1, .ref k2, .ref k3, .int (nI mk), .int (nI nK)])), (k1, .inl (cI, 4, .inl (rowF nK (fKw kw kb (cN kw kb coal)) kw))), (k3, .inl (cZ, 4, .inl (rowF nK (fKb kw kb (cN kw kb coal)) kb))), (h0, .inr (2, [.ref hc, .ref hp, .ref hk, .int (nI day), .int (cN kw kb coal nK), .int bar, .int (fine - mn t fine), .int (crs - mn (t - mn t fine) crs), .int (coin + (5 * mn t fine + 2 * mn (t - mn t fine) crs)), .int (ship + (mn t fine + mn (t - mn t fine) crs))]))] _ := hP
  have hD : va_D A [(hc, .inr (0, [.ref c1, .ref c2, .ref c3, .ref c4, .int (nI nC)])), (c1, .inl (cI, 4, .inl (rowF nC (fSh r sh fl) sh))), (c2, .inl (cI, 4, .inl (rowF nC (fCo co fl) co))), (c3, .inl (cI, 4, .inl (rowF nC (fBu r sh bu fl) bu))), (c4, .inl (cZ, 4, .inl (rowF nC (fFl r sh co fl) fl))), (hp, .inr (1, [.ref p1, .ref p2, .ref p3, .int (nI mp), .int (nI nP)])), (p1, .inl (cI, 4, .inl (rowF nP (fun j => wth r (pw j)) pw))), (hk, .inr (1, [.ref k1, .ref k2, .ref k3, .int (nI mk), .int (nI nK)])), (k1, .inl (cI, 4, .inl (rowF nK (fKw kw kb (cN kw kb coal)) kw))), (k3, .inl (cZ, 4, .inl (rowF nK (fKb kw kb (cN kw kb coal)) kb))), (h0, .inr (2, [.ref hc, .ref hp, .ref hk, .int (nI day), .int (cN kw kb coal nK), .int bar, .int (fine - mn t fine), .int (crs - mn (t - mn t fine) crs), .int (coin + (5 * mn t fine + 2 * mn (t - mn t fine) crs)), .int (ship + (mn t fine + mn (t - mn t fine) crs))]))] := hD
  refine lv_aload_n hx hb dX2_letDayGo_25 rfl (lv_at hl 0 rfl) ?_
  refine lv_dup hx hb dX2_letDayGo_26 rfl ?_
  refine va_get (D := D) (ci := 2) (v := .int (nI day)) (C := RX2) (T := TX2) (N := 10) hx hb ht inG_X2 hown hK hP 10 rfl rfl 3 (by decide) (ht _ qF_RX2_30) (fun _ h9 => h9) rfl dX2_letDayGo_27 ?_
  refine lv_iconst (v := 1) hx hb dX2_letDayGo_30 (by decide) ?_
  refine lv_iadd hx hb dX2_letDayGo_31 ?_
  refine t_i (nI (day + 1)) (nI_1 day) ?_
  refine va_put (D := D) (ci := 2) (v := .int (nI (day + 1))) (C := RX2) (T := TX2) (N := 10) hx hb ht inG_X2 tyX2 tyX2_ok nmX2 hown hK hP hD hS 10 rfl rfl 3 (by decide) (ht _ qF_RX2_30) (fun _ h9 => h9) rfl (tyX2_ok 3 (by decide)) rfl rfl (Nat.le_of_ble_eq_true rfl) dX2_letDayGo_32 (fun H locs hP hD hS => ?_)
  have hP : va_P D vwCl [(hc, .inr (0, [.ref c1, .ref c2, .ref c3, .ref c4, .int (nI nC)])), (c1, .inl (cI, 4, .inl (rowF nC (fSh r sh fl) sh))), (c2, .inl (cI, 4, .inl (rowF nC (fCo co fl) co))), (c3, .inl (cI, 4, .inl (rowF nC (fBu r sh bu fl) bu))), (c4, .inl (cZ, 4, .inl (rowF nC (fFl r sh co fl) fl))), (hp, .inr (1, [.ref p1, .ref p2, .ref p3, .int (nI mp), .int (nI nP)])), (p1, .inl (cI, 4, .inl (rowF nP (fun j => wth r (pw j)) pw))), (hk, .inr (1, [.ref k1, .ref k2, .ref k3, .int (nI mk), .int (nI nK)])), (k1, .inl (cI, 4, .inl (rowF nK (fKw kw kb (cN kw kb coal)) kw))), (k3, .inl (cZ, 4, .inl (rowF nK (fKb kw kb (cN kw kb coal)) kb))), (h0, .inr (2, [.ref hc, .ref hp, .ref hk, .int (nI (day + 1)), .int (cN kw kb coal nK), .int bar, .int (fine - mn t fine), .int (crs - mn (t - mn t fine) crs), .int (coin + (5 * mn t fine + 2 * mn (t - mn t fine) crs)), .int (ship + (mn t fine + mn (t - mn t fine) crs))]))] _ := hP
  have hD : va_D A [(hc, .inr (0, [.ref c1, .ref c2, .ref c3, .ref c4, .int (nI nC)])), (c1, .inl (cI, 4, .inl (rowF nC (fSh r sh fl) sh))), (c2, .inl (cI, 4, .inl (rowF nC (fCo co fl) co))), (c3, .inl (cI, 4, .inl (rowF nC (fBu r sh bu fl) bu))), (c4, .inl (cZ, 4, .inl (rowF nC (fFl r sh co fl) fl))), (hp, .inr (1, [.ref p1, .ref p2, .ref p3, .int (nI mp), .int (nI nP)])), (p1, .inl (cI, 4, .inl (rowF nP (fun j => wth r (pw j)) pw))), (hk, .inr (1, [.ref k1, .ref k2, .ref k3, .int (nI mk), .int (nI nK)])), (k1, .inl (cI, 4, .inl (rowF nK (fKw kw kb (cN kw kb coal)) kw))), (k3, .inl (cZ, 4, .inl (rowF nK (fKb kw kb (cN kw kb coal)) kb))), (h0, .inr (2, [.ref hc, .ref hp, .ref hk, .int (nI (day + 1)), .int (cN kw kb coal nK), .int bar, .int (fine - mn t fine), .int (crs - mn (t - mn t fine) crs), .int (coin + (5 * mn t fine + 2 * mn (t - mn t fine) crs)), .int (ship + (mn t fine + mn (t - mn t fine) crs))]))] := hD
  exact hend _ _ _ _ _ _ () dX2_letDayGo_35 (trivial) (hP.sub [10, 0, 1, 2, 3, 4, 5, 6, 7, 8, 9] rfl) (hD.sub [10, 0, 1, 2, 3, 4, 5, 6, 7, 8, 9] (by decide) rfl) hS (Nat.le_of_ble_eq_true rfl) (Nat.le_of_ble_eq_true rfl)

def rm_X2_copyOf : Room := { frames := 1, cells := 0, slots := 0, locals := 22 }
set_option maxHeartbeats 4000000 in
set_option maxRecDepth 100000 in
theorem c_X2_copyOf (l : Launch) (D : va_G) (cI cZ cJ : ClassId) (h0 ac ap ak ac1 ac2 ac3 ac4 ap1 ap2 ap3 ak1 ak2 ak3 : Nat) (g0 bc bp bk bc1 bc2 bc3 bc4 bp1 bp2 bp3 bk1 bk2 bk3 : Nat) (mp mk mp2 mk2 tday oday tC tP tK nC nP nK : Nat) (tcoal tbar tfine tcrs tcoin tship ocoal obar ofine ocrs ocoin oship : Int32) (tsh tco tbu tfl tpw tpa tpb tkw tka tkb osh oco obu ofl opw opa opb okw oka okb : Nat → Int32) (hC : nC ≤ 4) (hPp : nP ≤ 4) (hKk : nK ≤ 4) (z_osh : ∀ j, nC ≤ j → tsh j = osh j) (z_oco : ∀ j, nC ≤ j → tco j = oco j) (z_obu : ∀ j, nC ≤ j → tbu j = obu j) (z_ofl : ∀ j, nC ≤ j → tfl j = ofl j) (z_opw : ∀ j, nP ≤ j → tpw j = opw j) (z_opa : ∀ j, nP ≤ j → tpa j = opa j) (z_opb : ∀ j, nP ≤ j → tpb j = opb j) (z_okw : ∀ j, nK ≤ j → tkw j = okw j) (z_oka : ∀ j, nK ≤ j → tka j = oka j) (z_okb : ∀ j, nK ≤ j → tkb j = okb j) (hbC : ∀ j, vp_nar .boolean (ofl j) = ofl j) (hbP : ∀ j, vp_nar .boolean (opb j) = opb j) (hbK : ∀ j, vp_nar .boolean (okb j) = okb j) : Mv l yX2_copyOf cX2_copyOf 2 rm_X2_copyOf D (TY cI cZ cJ) [.ref h0, .ref g0] [(h0, .inr (2, [.ref ac, .ref ap, .ref ak, .int (nI tday), .int tcoal, .int tbar, .int tfine, .int tcrs, .int tcoin, .int tship])), (ac, .inr (0, [.ref ac1, .ref ac2, .ref ac3, .ref ac4, .int (nI tC)])), (ac1, .inl (cI, 4, .inl tsh)), (ac2, .inl (cI, 4, .inl tco)), (ac3, .inl (cI, 4, .inl tbu)), (ac4, .inl (cZ, 4, .inl tfl)), (ap, .inr (1, [.ref ap1, .ref ap2, .ref ap3, .int (nI mp), .int (nI tP)])), (ap1, .inl (cI, 4, .inl tpw)), (ap2, .inl (cI, 4, .inl tpa)), (ap3, .inl (cZ, 4, .inl tpb)), (ak, .inr (1, [.ref ak1, .ref ak2, .ref ak3, .int (nI mk), .int (nI tK)])), (ak1, .inl (cI, 4, .inl tkw)), (ak2, .inl (cI, 4, .inl tka)), (ak3, .inl (cZ, 4, .inl tkb)), (g0, .inr (2, [.ref bc, .ref bp, .ref bk, .int (nI oday), .int ocoal, .int obar, .int ofine, .int ocrs, .int ocoin, .int oship])), (bc, .inr (0, [.ref bc1, .ref bc2, .ref bc3, .ref bc4, .int (nI nC)])), (bc1, .inl (cI, 4, .inl osh)), (bc2, .inl (cI, 4, .inl oco)), (bc3, .inl (cI, 4, .inl obu)), (bc4, .inl (cZ, 4, .inl ofl)), (bp, .inr (1, [.ref bp1, .ref bp2, .ref bp3, .int (nI mp2), .int (nI nP)])), (bp1, .inl (cI, 4, .inl opw)), (bp2, .inl (cI, 4, .inl opa)), (bp3, .inl (cZ, 4, .inl opb)), (bk, .inr (1, [.ref bk1, .ref bk2, .ref bk3, .int (nI mk2), .int (nI nK)])), (bk1, .inl (cI, 4, .inl okw)), (bk2, .inl (cI, 4, .inl oka)), (bk3, .inl (cZ, 4, .inl okb))] (fun (u : Unit) => True) (fun (u : Unit) => [(h0, .inr (2, [.ref ac, .ref ap, .ref ak, .int (nI oday), .int ocoal, .int obar, .int ofine, .int ocrs, .int ocoin, .int oship])), (ac, .inr (0, [.ref ac1, .ref ac2, .ref ac3, .ref ac4, .int (nI nC)])), (ac1, .inl (cI, 4, .inl osh)), (ac2, .inl (cI, 4, .inl oco)), (ac3, .inl (cI, 4, .inl obu)), (ac4, .inl (cZ, 4, .inl ofl)), (ap, .inr (1, [.ref ap1, .ref ap2, .ref ap3, .int (nI mp), .int (nI nP)])), (ap1, .inl (cI, 4, .inl opw)), (ap2, .inl (cI, 4, .inl opa)), (ap3, .inl (cZ, 4, .inl opb)), (ak, .inr (1, [.ref ak1, .ref ak2, .ref ak3, .int (nI mk), .int (nI nK)])), (ak1, .inl (cI, 4, .inl okw)), (ak2, .inl (cI, 4, .inl oka)), (ak3, .inl (cZ, 4, .inl okb)), (g0, .inr (2, [.ref bc, .ref bp, .ref bk, .int (nI oday), .int ocoal, .int obar, .int ofine, .int ocrs, .int ocoin, .int oship])), (bc, .inr (0, [.ref bc1, .ref bc2, .ref bc3, .ref bc4, .int (nI nC)])), (bc1, .inl (cI, 4, .inl osh)), (bc2, .inl (cI, 4, .inl oco)), (bc3, .inl (cI, 4, .inl obu)), (bc4, .inl (cZ, 4, .inl ofl)), (bp, .inr (1, [.ref bp1, .ref bp2, .ref bp3, .int (nI mp2), .int (nI nP)])), (bp1, .inl (cI, 4, .inl opw)), (bp2, .inl (cI, 4, .inl opa)), (bp3, .inl (cZ, 4, .inl opb)), (bk, .inr (1, [.ref bk1, .ref bk2, .ref bk3, .int (nI mk2), .int (nI nK)])), (bk1, .inl (cI, 4, .inl okw)), (bk2, .inl (cI, 4, .inl oka)), (bk3, .inl (cZ, 4, .inl okb))]) := by
  refine Mv.ofQ (by decide) (Nat.le_of_ble_eq_true rfl) ?_
  intro p e s m args below meth c A ls Q hF hK hP hD hA hl hend hin
  obtain ⟨F, hr, hlocks, hG⟩ := hF
  have hx := F.1
  have hb := F.2.1
  have hown := F.2.2.2.1
  have ht := F.2.2.2.2
  have hS : va_S A s.heap s.heap [] := va_S.rf
  have hl : lv_has ls 2 [(0, .ref h0), (1, .ref g0)] := hl
  refine lv_aload_n hx hb dX2_copyOf_0 rfl (lv_at hl 0 rfl) ?_
  refine va_get (D := D) (ci := 2) (v := .ref ac) (C := RX2) (T := TX2) (N := 10) hx hb ht inG_X2 hown hK hP 0 rfl rfl 0 (by decide) (ht _ qF_RX2_12) (fun _ h9 => h9) rfl dX2_copyOf_1 ?_
  refine lv_aload_n hx hb dX2_copyOf_4 rfl (lv_at hl 1 rfl) ?_
  refine va_get (D := D) (ci := 2) (v := .ref bc) (C := RX2) (T := TX2) (N := 10) hx hb ht inG_X2 hown hK hP 14 rfl rfl 0 (by decide) (ht _ qF_RX2_12) (fun _ h9 => h9) rfl dX2_copyOf_5 ?_
  refine k_v (wr := [(h0, .inr (2, [.ref ac, .ref ap, .ref ak, .int (nI tday), .int tcoal, .int tbar, .int tfine, .int tcrs, .int tcoin, .int tship])), (ap, .inr (1, [.ref ap1, .ref ap2, .ref ap3, .int (nI mp), .int (nI tP)])), (ap1, .inl (cI, 4, .inl tpw)), (ap2, .inl (cI, 4, .inl tpa)), (ap3, .inl (cZ, 4, .inl tpb)), (ak, .inr (1, [.ref ak1, .ref ak2, .ref ak3, .int (nI mk), .int (nI tK)])), (ak1, .inl (cI, 4, .inl tkw)), (ak2, .inl (cI, 4, .inl tka)), (ak3, .inl (cZ, 4, .inl tkb)), (g0, .inr (2, [.ref bc, .ref bp, .ref bk, .int (nI oday), .int ocoal, .int obar, .int ofine, .int ocrs, .int ocoin, .int oship])), (bp, .inr (1, [.ref bp1, .ref bp2, .ref bp3, .int (nI mp2), .int (nI nP)])), (bp1, .inl (cI, 4, .inl opw)), (bp2, .inl (cI, 4, .inl opa)), (bp3, .inl (cZ, 4, .inl opb)), (bk, .inr (1, [.ref bk1, .ref bk2, .ref bk3, .int (nI mk2), .int (nI nK)])), (bk1, .inl (cI, 4, .inl okw)), (bk2, .inl (cI, 4, .inl oka)), (bk3, .inl (cZ, 4, .inl okb))]) (rV (As := [.ref bc]) (rest := []) F hG hK (hP.sub (ws' := [(ac, .inr (0, [.ref ac1, .ref ac2, .ref ac3, .ref ac4, .int (nI tC)])), (ac1, .inl (cI, 4, .inl tsh)), (ac2, .inl (cI, 4, .inl tco)), (ac3, .inl (cI, 4, .inl tbu)), (ac4, .inl (cZ, 4, .inl tfl)), (bc, .inr (0, [.ref bc1, .ref bc2, .ref bc3, .ref bc4, .int (nI nC)])), (bc1, .inl (cI, 4, .inl osh)), (bc2, .inl (cI, 4, .inl oco)), (bc3, .inl (cI, 4, .inl obu)), (bc4, .inl (cZ, 4, .inl ofl))]) [1, 2, 3, 4, 5, 15, 16, 17, 18, 19] rfl) ((hD.sub (ws' := [(ac, .inr (0, [.ref ac1, .ref ac2, .ref ac3, .ref ac4, .int (nI tC)])), (ac1, .inl (cI, 4, .inl tsh)), (ac2, .inl (cI, 4, .inl tco)), (ac3, .inl (cI, 4, .inl tbu)), (ac4, .inl (cZ, 4, .inl tfl)), (bc, .inr (0, [.ref bc1, .ref bc2, .ref bc3, .ref bc4, .int (nI nC)])), (bc1, .inl (cI, 4, .inl osh)), (bc2, .inl (cI, 4, .inl oco)), (bc3, .inl (cI, 4, .inl obu)), (bc4, .inl (cZ, 4, .inl ofl))]) [1, 2, 3, 4, 5, 15, 16, 17, 18, 19] (by decide) rfl).weaken (fun _ _ _ _ => trivial)) s_RX2_52 (c_X0_copyOf l D cI cZ cJ ac ac1 ac2 ac3 ac4 bc bc1 bc2 bc3 bc4 tsh tco tbu tfl osh oco obu ofl tC nC (by first | assumption | omega) z_osh z_oco z_obu z_ofl hbC _) 0 0 rfl rfl rfl rfl hl.1 rfl (Nat.le_of_ble_eq_true rfl) dX2_copyOf_8 ⟨(Nat.le_of_ble_eq_true rfl), (Nat.le_of_ble_eq_true rfl)⟩ ⟨(Nat.le_of_ble_eq_true rfl), (Nat.le_of_ble_eq_true rfl)⟩) hP hD hS hA [1, 2, 3, 4, 5, 15, 16, 17, 18, 19] [0, 6, 7, 8, 9, 10, 11, 12, 13, 14, 20, 21, 22, 23, 24, 25, 26, 27] rfl rfl (by decide) (by decide) (fun uu H locs hw hP hD hS => ?_)
  obtain ⟨x1_8, x2_8, x3_8, x4_8⟩ := uu
  try dsimp only at hw
  obtain ⟨q_0, q_1, q_2, q_3⟩ := hw
  have q_0 := q_0.symm
  subst q_0
  have q_1 := q_1.symm
  subst q_1
  have q_2 := q_2.symm
  subst q_2
  have q_3 := q_3.symm
  subst q_3
  have hP : va_P D vwCl [(h0, .inr (2, [.ref ac, .ref ap, .ref ak, .int (nI tday), .int tcoal, .int tbar, .int tfine, .int tcrs, .int tcoin, .int tship])), (ap, .inr (1, [.ref ap1, .ref ap2, .ref ap3, .int (nI mp), .int (nI tP)])), (ap1, .inl (cI, 4, .inl tpw)), (ap2, .inl (cI, 4, .inl tpa)), (ap3, .inl (cZ, 4, .inl tpb)), (ak, .inr (1, [.ref ak1, .ref ak2, .ref ak3, .int (nI mk), .int (nI tK)])), (ak1, .inl (cI, 4, .inl tkw)), (ak2, .inl (cI, 4, .inl tka)), (ak3, .inl (cZ, 4, .inl tkb)), (g0, .inr (2, [.ref bc, .ref bp, .ref bk, .int (nI oday), .int ocoal, .int obar, .int ofine, .int ocrs, .int ocoin, .int oship])), (bp, .inr (1, [.ref bp1, .ref bp2, .ref bp3, .int (nI mp2), .int (nI nP)])), (bp1, .inl (cI, 4, .inl opw)), (bp2, .inl (cI, 4, .inl opa)), (bp3, .inl (cZ, 4, .inl opb)), (bk, .inr (1, [.ref bk1, .ref bk2, .ref bk3, .int (nI mk2), .int (nI nK)])), (bk1, .inl (cI, 4, .inl okw)), (bk2, .inl (cI, 4, .inl oka)), (bk3, .inl (cZ, 4, .inl okb)), (ac, .inr (0, [.ref ac1, .ref ac2, .ref ac3, .ref ac4, .int (nI nC)])), (ac1, .inl (cI, 4, .inl osh)), (ac2, .inl (cI, 4, .inl oco)), (ac3, .inl (cI, 4, .inl obu)), (ac4, .inl (cZ, 4, .inl ofl)), (bc, .inr (0, [.ref bc1, .ref bc2, .ref bc3, .ref bc4, .int (nI nC)])), (bc1, .inl (cI, 4, .inl osh)), (bc2, .inl (cI, 4, .inl oco)), (bc3, .inl (cI, 4, .inl obu)), (bc4, .inl (cZ, 4, .inl ofl))] _ := hP
  have hD : va_D A [(h0, .inr (2, [.ref ac, .ref ap, .ref ak, .int (nI tday), .int tcoal, .int tbar, .int tfine, .int tcrs, .int tcoin, .int tship])), (ap, .inr (1, [.ref ap1, .ref ap2, .ref ap3, .int (nI mp), .int (nI tP)])), (ap1, .inl (cI, 4, .inl tpw)), (ap2, .inl (cI, 4, .inl tpa)), (ap3, .inl (cZ, 4, .inl tpb)), (ak, .inr (1, [.ref ak1, .ref ak2, .ref ak3, .int (nI mk), .int (nI tK)])), (ak1, .inl (cI, 4, .inl tkw)), (ak2, .inl (cI, 4, .inl tka)), (ak3, .inl (cZ, 4, .inl tkb)), (g0, .inr (2, [.ref bc, .ref bp, .ref bk, .int (nI oday), .int ocoal, .int obar, .int ofine, .int ocrs, .int ocoin, .int oship])), (bp, .inr (1, [.ref bp1, .ref bp2, .ref bp3, .int (nI mp2), .int (nI nP)])), (bp1, .inl (cI, 4, .inl opw)), (bp2, .inl (cI, 4, .inl opa)), (bp3, .inl (cZ, 4, .inl opb)), (bk, .inr (1, [.ref bk1, .ref bk2, .ref bk3, .int (nI mk2), .int (nI nK)])), (bk1, .inl (cI, 4, .inl okw)), (bk2, .inl (cI, 4, .inl oka)), (bk3, .inl (cZ, 4, .inl okb)), (ac, .inr (0, [.ref ac1, .ref ac2, .ref ac3, .ref ac4, .int (nI nC)])), (ac1, .inl (cI, 4, .inl osh)), (ac2, .inl (cI, 4, .inl oco)), (ac3, .inl (cI, 4, .inl obu)), (ac4, .inl (cZ, 4, .inl ofl)), (bc, .inr (0, [.ref bc1, .ref bc2, .ref bc3, .ref bc4, .int (nI nC)])), (bc1, .inl (cI, 4, .inl osh)), (bc2, .inl (cI, 4, .inl oco)), (bc3, .inl (cI, 4, .inl obu)), (bc4, .inl (cZ, 4, .inl ofl))] := hD
  refine lv_aload_n hx hb dX2_copyOf_11 rfl (lv_at hl 0 rfl) ?_
  refine va_get (D := D) (ci := 2) (v := .ref ap) (C := RX2) (T := TX2) (N := 10) hx hb ht inG_X2 hown hK hP 0 rfl rfl 1 (by decide) (ht _ qF_RX2_23) (fun _ h9 => h9) rfl dX2_copyOf_12 ?_
  refine lv_aload_n hx hb dX2_copyOf_15 rfl (lv_at hl 1 rfl) ?_
  refine va_get (D := D) (ci := 2) (v := .ref bp) (C := RX2) (T := TX2) (N := 10) hx hb ht inG_X2 hown hK hP 9 rfl rfl 1 (by decide) (ht _ qF_RX2_23) (fun _ h9 => h9) rfl dX2_copyOf_16 ?_
  refine k_v (wr := [(h0, .inr (2, [.ref ac, .ref ap, .ref ak, .int (nI tday), .int tcoal, .int tbar, .int tfine, .int tcrs, .int tcoin, .int tship])), (ak, .inr (1, [.ref ak1, .ref ak2, .ref ak3, .int (nI mk), .int (nI tK)])), (ak1, .inl (cI, 4, .inl tkw)), (ak2, .inl (cI, 4, .inl tka)), (ak3, .inl (cZ, 4, .inl tkb)), (g0, .inr (2, [.ref bc, .ref bp, .ref bk, .int (nI oday), .int ocoal, .int obar, .int ofine, .int ocrs, .int ocoin, .int oship])), (bk, .inr (1, [.ref bk1, .ref bk2, .ref bk3, .int (nI mk2), .int (nI nK)])), (bk1, .inl (cI, 4, .inl okw)), (bk2, .inl (cI, 4, .inl oka)), (bk3, .inl (cZ, 4, .inl okb)), (ac, .inr (0, [.ref ac1, .ref ac2, .ref ac3, .ref ac4, .int (nI nC)])), (ac1, .inl (cI, 4, .inl osh)), (ac2, .inl (cI, 4, .inl oco)), (ac3, .inl (cI, 4, .inl obu)), (ac4, .inl (cZ, 4, .inl ofl)), (bc, .inr (0, [.ref bc1, .ref bc2, .ref bc3, .ref bc4, .int (nI nC)])), (bc1, .inl (cI, 4, .inl osh)), (bc2, .inl (cI, 4, .inl oco)), (bc3, .inl (cI, 4, .inl obu)), (bc4, .inl (cZ, 4, .inl ofl))]) (rV (As := [.ref bp]) (rest := []) F hG hK (hP.sub (ws' := [(ap, .inr (1, [.ref ap1, .ref ap2, .ref ap3, .int (nI mp), .int (nI tP)])), (ap1, .inl (cI, 4, .inl tpw)), (ap2, .inl (cI, 4, .inl tpa)), (ap3, .inl (cZ, 4, .inl tpb)), (bp, .inr (1, [.ref bp1, .ref bp2, .ref bp3, .int (nI mp2), .int (nI nP)])), (bp1, .inl (cI, 4, .inl opw)), (bp2, .inl (cI, 4, .inl opa)), (bp3, .inl (cZ, 4, .inl opb))]) [1, 2, 3, 4, 10, 11, 12, 13] rfl) ((hD.sub (ws' := [(ap, .inr (1, [.ref ap1, .ref ap2, .ref ap3, .int (nI mp), .int (nI tP)])), (ap1, .inl (cI, 4, .inl tpw)), (ap2, .inl (cI, 4, .inl tpa)), (ap3, .inl (cZ, 4, .inl tpb)), (bp, .inr (1, [.ref bp1, .ref bp2, .ref bp3, .int (nI mp2), .int (nI nP)])), (bp1, .inl (cI, 4, .inl opw)), (bp2, .inl (cI, 4, .inl opa)), (bp3, .inl (cZ, 4, .inl opb))]) [1, 2, 3, 4, 10, 11, 12, 13] (by decide) rfl).weaken (fun _ _ _ _ => trivial)) s_RX2_56 (c_X1_copyOf l D cI cZ cJ ap ap1 ap2 ap3 mp bp bp1 bp2 bp3 mp2 tpw tpa tpb opw opa opb tP nP (by first | assumption | omega) z_opw z_opa z_opb hbP _) 1 0 rfl rfl rfl rfl hl.1 rfl (Nat.le_of_ble_eq_true rfl) dX2_copyOf_19 ⟨(Nat.le_of_ble_eq_true rfl), (Nat.le_of_ble_eq_true rfl)⟩ ⟨(Nat.le_of_ble_eq_true rfl), (Nat.le_of_ble_eq_true rfl)⟩) hP hD hS hA [1, 2, 3, 4, 10, 11, 12, 13] [0, 5, 6, 7, 8, 9, 14, 15, 16, 17, 18, 19, 20, 21, 22, 23, 24, 25, 26, 27] rfl rfl (by decide) (by decide) (fun uu H locs hw hP hD hS => ?_)
  obtain ⟨x1_19, x2_19, x3_19⟩ := uu
  try dsimp only at hw
  obtain ⟨q_0, q_1, q_2⟩ := hw
  have q_0 := q_0.symm
  subst q_0
  have q_1 := q_1.symm
  subst q_1
  have q_2 := q_2.symm
  subst q_2
  have hP : va_P D vwCl [(h0, .inr (2, [.ref ac, .ref ap, .ref ak, .int (nI tday), .int tcoal, .int tbar, .int tfine, .int tcrs, .int tcoin, .int tship])), (ak, .inr (1, [.ref ak1, .ref ak2, .ref ak3, .int (nI mk), .int (nI tK)])), (ak1, .inl (cI, 4, .inl tkw)), (ak2, .inl (cI, 4, .inl tka)), (ak3, .inl (cZ, 4, .inl tkb)), (g0, .inr (2, [.ref bc, .ref bp, .ref bk, .int (nI oday), .int ocoal, .int obar, .int ofine, .int ocrs, .int ocoin, .int oship])), (bk, .inr (1, [.ref bk1, .ref bk2, .ref bk3, .int (nI mk2), .int (nI nK)])), (bk1, .inl (cI, 4, .inl okw)), (bk2, .inl (cI, 4, .inl oka)), (bk3, .inl (cZ, 4, .inl okb)), (ac, .inr (0, [.ref ac1, .ref ac2, .ref ac3, .ref ac4, .int (nI nC)])), (ac1, .inl (cI, 4, .inl osh)), (ac2, .inl (cI, 4, .inl oco)), (ac3, .inl (cI, 4, .inl obu)), (ac4, .inl (cZ, 4, .inl ofl)), (bc, .inr (0, [.ref bc1, .ref bc2, .ref bc3, .ref bc4, .int (nI nC)])), (bc1, .inl (cI, 4, .inl osh)), (bc2, .inl (cI, 4, .inl oco)), (bc3, .inl (cI, 4, .inl obu)), (bc4, .inl (cZ, 4, .inl ofl)), (ap, .inr (1, [.ref ap1, .ref ap2, .ref ap3, .int (nI mp), .int (nI nP)])), (ap1, .inl (cI, 4, .inl opw)), (ap2, .inl (cI, 4, .inl opa)), (ap3, .inl (cZ, 4, .inl opb)), (bp, .inr (1, [.ref bp1, .ref bp2, .ref bp3, .int (nI mp2), .int (nI nP)])), (bp1, .inl (cI, 4, .inl opw)), (bp2, .inl (cI, 4, .inl opa)), (bp3, .inl (cZ, 4, .inl opb))] _ := hP
  have hD : va_D A [(h0, .inr (2, [.ref ac, .ref ap, .ref ak, .int (nI tday), .int tcoal, .int tbar, .int tfine, .int tcrs, .int tcoin, .int tship])), (ak, .inr (1, [.ref ak1, .ref ak2, .ref ak3, .int (nI mk), .int (nI tK)])), (ak1, .inl (cI, 4, .inl tkw)), (ak2, .inl (cI, 4, .inl tka)), (ak3, .inl (cZ, 4, .inl tkb)), (g0, .inr (2, [.ref bc, .ref bp, .ref bk, .int (nI oday), .int ocoal, .int obar, .int ofine, .int ocrs, .int ocoin, .int oship])), (bk, .inr (1, [.ref bk1, .ref bk2, .ref bk3, .int (nI mk2), .int (nI nK)])), (bk1, .inl (cI, 4, .inl okw)), (bk2, .inl (cI, 4, .inl oka)), (bk3, .inl (cZ, 4, .inl okb)), (ac, .inr (0, [.ref ac1, .ref ac2, .ref ac3, .ref ac4, .int (nI nC)])), (ac1, .inl (cI, 4, .inl osh)), (ac2, .inl (cI, 4, .inl oco)), (ac3, .inl (cI, 4, .inl obu)), (ac4, .inl (cZ, 4, .inl ofl)), (bc, .inr (0, [.ref bc1, .ref bc2, .ref bc3, .ref bc4, .int (nI nC)])), (bc1, .inl (cI, 4, .inl osh)), (bc2, .inl (cI, 4, .inl oco)), (bc3, .inl (cI, 4, .inl obu)), (bc4, .inl (cZ, 4, .inl ofl)), (ap, .inr (1, [.ref ap1, .ref ap2, .ref ap3, .int (nI mp), .int (nI nP)])), (ap1, .inl (cI, 4, .inl opw)), (ap2, .inl (cI, 4, .inl opa)), (ap3, .inl (cZ, 4, .inl opb)), (bp, .inr (1, [.ref bp1, .ref bp2, .ref bp3, .int (nI mp2), .int (nI nP)])), (bp1, .inl (cI, 4, .inl opw)), (bp2, .inl (cI, 4, .inl opa)), (bp3, .inl (cZ, 4, .inl opb))] := hD
  refine lv_aload_n hx hb dX2_copyOf_22 rfl (lv_at hl 0 rfl) ?_
  refine va_get (D := D) (ci := 2) (v := .ref ak) (C := RX2) (T := TX2) (N := 10) hx hb ht inG_X2 hown hK hP 0 rfl rfl 2 (by decide) (ht _ qF_RX2_27) (fun _ h9 => h9) rfl dX2_copyOf_23 ?_
  refine lv_aload_n hx hb dX2_copyOf_26 rfl (lv_at hl 1 rfl) ?_
  refine va_get (D := D) (ci := 2) (v := .ref bk) (C := RX2) (T := TX2) (N := 10) hx hb ht inG_X2 hown hK hP 5 rfl rfl 2 (by decide) (ht _ qF_RX2_27) (fun _ h9 => h9) rfl dX2_copyOf_27 ?_
  refine k_v (wr := [(h0, .inr (2, [.ref ac, .ref ap, .ref ak, .int (nI tday), .int tcoal, .int tbar, .int tfine, .int tcrs, .int tcoin, .int tship])), (g0, .inr (2, [.ref bc, .ref bp, .ref bk, .int (nI oday), .int ocoal, .int obar, .int ofine, .int ocrs, .int ocoin, .int oship])), (ac, .inr (0, [.ref ac1, .ref ac2, .ref ac3, .ref ac4, .int (nI nC)])), (ac1, .inl (cI, 4, .inl osh)), (ac2, .inl (cI, 4, .inl oco)), (ac3, .inl (cI, 4, .inl obu)), (ac4, .inl (cZ, 4, .inl ofl)), (bc, .inr (0, [.ref bc1, .ref bc2, .ref bc3, .ref bc4, .int (nI nC)])), (bc1, .inl (cI, 4, .inl osh)), (bc2, .inl (cI, 4, .inl oco)), (bc3, .inl (cI, 4, .inl obu)), (bc4, .inl (cZ, 4, .inl ofl)), (ap, .inr (1, [.ref ap1, .ref ap2, .ref ap3, .int (nI mp), .int (nI nP)])), (ap1, .inl (cI, 4, .inl opw)), (ap2, .inl (cI, 4, .inl opa)), (ap3, .inl (cZ, 4, .inl opb)), (bp, .inr (1, [.ref bp1, .ref bp2, .ref bp3, .int (nI mp2), .int (nI nP)])), (bp1, .inl (cI, 4, .inl opw)), (bp2, .inl (cI, 4, .inl opa)), (bp3, .inl (cZ, 4, .inl opb))]) (rV (As := [.ref bk]) (rest := []) F hG hK (hP.sub (ws' := [(ak, .inr (1, [.ref ak1, .ref ak2, .ref ak3, .int (nI mk), .int (nI tK)])), (ak1, .inl (cI, 4, .inl tkw)), (ak2, .inl (cI, 4, .inl tka)), (ak3, .inl (cZ, 4, .inl tkb)), (bk, .inr (1, [.ref bk1, .ref bk2, .ref bk3, .int (nI mk2), .int (nI nK)])), (bk1, .inl (cI, 4, .inl okw)), (bk2, .inl (cI, 4, .inl oka)), (bk3, .inl (cZ, 4, .inl okb))]) [1, 2, 3, 4, 6, 7, 8, 9] rfl) ((hD.sub (ws' := [(ak, .inr (1, [.ref ak1, .ref ak2, .ref ak3, .int (nI mk), .int (nI tK)])), (ak1, .inl (cI, 4, .inl tkw)), (ak2, .inl (cI, 4, .inl tka)), (ak3, .inl (cZ, 4, .inl tkb)), (bk, .inr (1, [.ref bk1, .ref bk2, .ref bk3, .int (nI mk2), .int (nI nK)])), (bk1, .inl (cI, 4, .inl okw)), (bk2, .inl (cI, 4, .inl oka)), (bk3, .inl (cZ, 4, .inl okb))]) [1, 2, 3, 4, 6, 7, 8, 9] (by decide) rfl).weaken (fun _ _ _ _ => trivial)) s_RX2_56 (c_X1_copyOf l D cI cZ cJ ak ak1 ak2 ak3 mk bk bk1 bk2 bk3 mk2 tkw tka tkb okw oka okb tK nK (by first | assumption | omega) z_okw z_oka z_okb hbK _) 1 0 rfl rfl rfl rfl hl.1 rfl (Nat.le_of_ble_eq_true rfl) dX2_copyOf_30 ⟨(Nat.le_of_ble_eq_true rfl), (Nat.le_of_ble_eq_true rfl)⟩ ⟨(Nat.le_of_ble_eq_true rfl), (Nat.le_of_ble_eq_true rfl)⟩) hP hD hS hA [1, 2, 3, 4, 6, 7, 8, 9] [0, 5, 10, 11, 12, 13, 14, 15, 16, 17, 18, 19, 20, 21, 22, 23, 24, 25, 26, 27] rfl rfl (by decide) (by decide) (fun uu H locs hw hP hD hS => ?_)
  obtain ⟨x1_30, x2_30, x3_30⟩ := uu
  try dsimp only at hw
  obtain ⟨q_0, q_1, q_2⟩ := hw
  have q_0 := q_0.symm
  subst q_0
  have q_1 := q_1.symm
  subst q_1
  have q_2 := q_2.symm
  subst q_2
  have hP : va_P D vwCl [(h0, .inr (2, [.ref ac, .ref ap, .ref ak, .int (nI tday), .int tcoal, .int tbar, .int tfine, .int tcrs, .int tcoin, .int tship])), (g0, .inr (2, [.ref bc, .ref bp, .ref bk, .int (nI oday), .int ocoal, .int obar, .int ofine, .int ocrs, .int ocoin, .int oship])), (ac, .inr (0, [.ref ac1, .ref ac2, .ref ac3, .ref ac4, .int (nI nC)])), (ac1, .inl (cI, 4, .inl osh)), (ac2, .inl (cI, 4, .inl oco)), (ac3, .inl (cI, 4, .inl obu)), (ac4, .inl (cZ, 4, .inl ofl)), (bc, .inr (0, [.ref bc1, .ref bc2, .ref bc3, .ref bc4, .int (nI nC)])), (bc1, .inl (cI, 4, .inl osh)), (bc2, .inl (cI, 4, .inl oco)), (bc3, .inl (cI, 4, .inl obu)), (bc4, .inl (cZ, 4, .inl ofl)), (ap, .inr (1, [.ref ap1, .ref ap2, .ref ap3, .int (nI mp), .int (nI nP)])), (ap1, .inl (cI, 4, .inl opw)), (ap2, .inl (cI, 4, .inl opa)), (ap3, .inl (cZ, 4, .inl opb)), (bp, .inr (1, [.ref bp1, .ref bp2, .ref bp3, .int (nI mp2), .int (nI nP)])), (bp1, .inl (cI, 4, .inl opw)), (bp2, .inl (cI, 4, .inl opa)), (bp3, .inl (cZ, 4, .inl opb)), (ak, .inr (1, [.ref ak1, .ref ak2, .ref ak3, .int (nI mk), .int (nI nK)])), (ak1, .inl (cI, 4, .inl okw)), (ak2, .inl (cI, 4, .inl oka)), (ak3, .inl (cZ, 4, .inl okb)), (bk, .inr (1, [.ref bk1, .ref bk2, .ref bk3, .int (nI mk2), .int (nI nK)])), (bk1, .inl (cI, 4, .inl okw)), (bk2, .inl (cI, 4, .inl oka)), (bk3, .inl (cZ, 4, .inl okb))] _ := hP
  have hD : va_D A [(h0, .inr (2, [.ref ac, .ref ap, .ref ak, .int (nI tday), .int tcoal, .int tbar, .int tfine, .int tcrs, .int tcoin, .int tship])), (g0, .inr (2, [.ref bc, .ref bp, .ref bk, .int (nI oday), .int ocoal, .int obar, .int ofine, .int ocrs, .int ocoin, .int oship])), (ac, .inr (0, [.ref ac1, .ref ac2, .ref ac3, .ref ac4, .int (nI nC)])), (ac1, .inl (cI, 4, .inl osh)), (ac2, .inl (cI, 4, .inl oco)), (ac3, .inl (cI, 4, .inl obu)), (ac4, .inl (cZ, 4, .inl ofl)), (bc, .inr (0, [.ref bc1, .ref bc2, .ref bc3, .ref bc4, .int (nI nC)])), (bc1, .inl (cI, 4, .inl osh)), (bc2, .inl (cI, 4, .inl oco)), (bc3, .inl (cI, 4, .inl obu)), (bc4, .inl (cZ, 4, .inl ofl)), (ap, .inr (1, [.ref ap1, .ref ap2, .ref ap3, .int (nI mp), .int (nI nP)])), (ap1, .inl (cI, 4, .inl opw)), (ap2, .inl (cI, 4, .inl opa)), (ap3, .inl (cZ, 4, .inl opb)), (bp, .inr (1, [.ref bp1, .ref bp2, .ref bp3, .int (nI mp2), .int (nI nP)])), (bp1, .inl (cI, 4, .inl opw)), (bp2, .inl (cI, 4, .inl opa)), (bp3, .inl (cZ, 4, .inl opb)), (ak, .inr (1, [.ref ak1, .ref ak2, .ref ak3, .int (nI mk), .int (nI nK)])), (ak1, .inl (cI, 4, .inl okw)), (ak2, .inl (cI, 4, .inl oka)), (ak3, .inl (cZ, 4, .inl okb)), (bk, .inr (1, [.ref bk1, .ref bk2, .ref bk3, .int (nI mk2), .int (nI nK)])), (bk1, .inl (cI, 4, .inl okw)), (bk2, .inl (cI, 4, .inl oka)), (bk3, .inl (cZ, 4, .inl okb))] := hD
  refine lv_aload_n hx hb dX2_copyOf_33 rfl (lv_at hl 0 rfl) ?_
  refine lv_aload_n hx hb dX2_copyOf_34 rfl (lv_at hl 1 rfl) ?_
  refine va_get (D := D) (ci := 2) (v := .int (nI oday)) (C := RX2) (T := TX2) (N := 10) hx hb ht inG_X2 hown hK hP 1 rfl rfl 3 (by decide) (ht _ qF_RX2_30) (fun _ h9 => h9) rfl dX2_copyOf_35 ?_
  refine va_put (D := D) (ci := 2) (v := .int (nI oday)) (C := RX2) (T := TX2) (N := 10) hx hb ht inG_X2 tyX2 tyX2_ok nmX2 hown hK hP hD hS 0 rfl rfl 3 (by decide) (ht _ qF_RX2_30) (fun _ h9 => h9) rfl (tyX2_ok 3 (by decide)) rfl rfl (Nat.le_of_ble_eq_true rfl) dX2_copyOf_38 (fun H locs hP hD hS => ?_)
  have hP : va_P D vwCl [(h0, .inr (2, [.ref ac, .ref ap, .ref ak, .int (nI oday), .int tcoal, .int tbar, .int tfine, .int tcrs, .int tcoin, .int tship])), (g0, .inr (2, [.ref bc, .ref bp, .ref bk, .int (nI oday), .int ocoal, .int obar, .int ofine, .int ocrs, .int ocoin, .int oship])), (ac, .inr (0, [.ref ac1, .ref ac2, .ref ac3, .ref ac4, .int (nI nC)])), (ac1, .inl (cI, 4, .inl osh)), (ac2, .inl (cI, 4, .inl oco)), (ac3, .inl (cI, 4, .inl obu)), (ac4, .inl (cZ, 4, .inl ofl)), (bc, .inr (0, [.ref bc1, .ref bc2, .ref bc3, .ref bc4, .int (nI nC)])), (bc1, .inl (cI, 4, .inl osh)), (bc2, .inl (cI, 4, .inl oco)), (bc3, .inl (cI, 4, .inl obu)), (bc4, .inl (cZ, 4, .inl ofl)), (ap, .inr (1, [.ref ap1, .ref ap2, .ref ap3, .int (nI mp), .int (nI nP)])), (ap1, .inl (cI, 4, .inl opw)), (ap2, .inl (cI, 4, .inl opa)), (ap3, .inl (cZ, 4, .inl opb)), (bp, .inr (1, [.ref bp1, .ref bp2, .ref bp3, .int (nI mp2), .int (nI nP)])), (bp1, .inl (cI, 4, .inl opw)), (bp2, .inl (cI, 4, .inl opa)), (bp3, .inl (cZ, 4, .inl opb)), (ak, .inr (1, [.ref ak1, .ref ak2, .ref ak3, .int (nI mk), .int (nI nK)])), (ak1, .inl (cI, 4, .inl okw)), (ak2, .inl (cI, 4, .inl oka)), (ak3, .inl (cZ, 4, .inl okb)), (bk, .inr (1, [.ref bk1, .ref bk2, .ref bk3, .int (nI mk2), .int (nI nK)])), (bk1, .inl (cI, 4, .inl okw)), (bk2, .inl (cI, 4, .inl oka)), (bk3, .inl (cZ, 4, .inl okb))] _ := hP
  have hD : va_D A [(h0, .inr (2, [.ref ac, .ref ap, .ref ak, .int (nI oday), .int tcoal, .int tbar, .int tfine, .int tcrs, .int tcoin, .int tship])), (g0, .inr (2, [.ref bc, .ref bp, .ref bk, .int (nI oday), .int ocoal, .int obar, .int ofine, .int ocrs, .int ocoin, .int oship])), (ac, .inr (0, [.ref ac1, .ref ac2, .ref ac3, .ref ac4, .int (nI nC)])), (ac1, .inl (cI, 4, .inl osh)), (ac2, .inl (cI, 4, .inl oco)), (ac3, .inl (cI, 4, .inl obu)), (ac4, .inl (cZ, 4, .inl ofl)), (bc, .inr (0, [.ref bc1, .ref bc2, .ref bc3, .ref bc4, .int (nI nC)])), (bc1, .inl (cI, 4, .inl osh)), (bc2, .inl (cI, 4, .inl oco)), (bc3, .inl (cI, 4, .inl obu)), (bc4, .inl (cZ, 4, .inl ofl)), (ap, .inr (1, [.ref ap1, .ref ap2, .ref ap3, .int (nI mp), .int (nI nP)])), (ap1, .inl (cI, 4, .inl opw)), (ap2, .inl (cI, 4, .inl opa)), (ap3, .inl (cZ, 4, .inl opb)), (bp, .inr (1, [.ref bp1, .ref bp2, .ref bp3, .int (nI mp2), .int (nI nP)])), (bp1, .inl (cI, 4, .inl opw)), (bp2, .inl (cI, 4, .inl opa)), (bp3, .inl (cZ, 4, .inl opb)), (ak, .inr (1, [.ref ak1, .ref ak2, .ref ak3, .int (nI mk), .int (nI nK)])), (ak1, .inl (cI, 4, .inl okw)), (ak2, .inl (cI, 4, .inl oka)), (ak3, .inl (cZ, 4, .inl okb)), (bk, .inr (1, [.ref bk1, .ref bk2, .ref bk3, .int (nI mk2), .int (nI nK)])), (bk1, .inl (cI, 4, .inl okw)), (bk2, .inl (cI, 4, .inl oka)), (bk3, .inl (cZ, 4, .inl okb))] := hD
  refine lv_aload_n hx hb dX2_copyOf_41 rfl (lv_at hl 0 rfl) ?_
  refine lv_aload_n hx hb dX2_copyOf_42 rfl (lv_at hl 1 rfl) ?_
  refine va_get (D := D) (ci := 2) (v := .int ocoal) (C := RX2) (T := TX2) (N := 10) hx hb ht inG_X2 hown hK hP 1 rfl rfl 4 (by decide) (ht _ qF_RX2_34) (fun _ h9 => h9) rfl dX2_copyOf_43 ?_
  refine va_put (D := D) (ci := 2) (v := .int ocoal) (C := RX2) (T := TX2) (N := 10) hx hb ht inG_X2 tyX2 tyX2_ok nmX2 hown hK hP hD hS 0 rfl rfl 4 (by decide) (ht _ qF_RX2_34) (fun _ h9 => h9) rfl (tyX2_ok 4 (by decide)) rfl rfl (Nat.le_of_ble_eq_true rfl) dX2_copyOf_46 (fun H locs hP hD hS => ?_)
  have hP : va_P D vwCl [(h0, .inr (2, [.ref ac, .ref ap, .ref ak, .int (nI oday), .int ocoal, .int tbar, .int tfine, .int tcrs, .int tcoin, .int tship])), (g0, .inr (2, [.ref bc, .ref bp, .ref bk, .int (nI oday), .int ocoal, .int obar, .int ofine, .int ocrs, .int ocoin, .int oship])), (ac, .inr (0, [.ref ac1, .ref ac2, .ref ac3, .ref ac4, .int (nI nC)])), (ac1, .inl (cI, 4, .inl osh)), (ac2, .inl (cI, 4, .inl oco)), (ac3, .inl (cI, 4, .inl obu)), (ac4, .inl (cZ, 4, .inl ofl)), (bc, .inr (0, [.ref bc1, .ref bc2, .ref bc3, .ref bc4, .int (nI nC)])), (bc1, .inl (cI, 4, .inl osh)), (bc2, .inl (cI, 4, .inl oco)), (bc3, .inl (cI, 4, .inl obu)), (bc4, .inl (cZ, 4, .inl ofl)), (ap, .inr (1, [.ref ap1, .ref ap2, .ref ap3, .int (nI mp), .int (nI nP)])), (ap1, .inl (cI, 4, .inl opw)), (ap2, .inl (cI, 4, .inl opa)), (ap3, .inl (cZ, 4, .inl opb)), (bp, .inr (1, [.ref bp1, .ref bp2, .ref bp3, .int (nI mp2), .int (nI nP)])), (bp1, .inl (cI, 4, .inl opw)), (bp2, .inl (cI, 4, .inl opa)), (bp3, .inl (cZ, 4, .inl opb)), (ak, .inr (1, [.ref ak1, .ref ak2, .ref ak3, .int (nI mk), .int (nI nK)])), (ak1, .inl (cI, 4, .inl okw)), (ak2, .inl (cI, 4, .inl oka)), (ak3, .inl (cZ, 4, .inl okb)), (bk, .inr (1, [.ref bk1, .ref bk2, .ref bk3, .int (nI mk2), .int (nI nK)])), (bk1, .inl (cI, 4, .inl okw)), (bk2, .inl (cI, 4, .inl oka)), (bk3, .inl (cZ, 4, .inl okb))] _ := hP
  have hD : va_D A [(h0, .inr (2, [.ref ac, .ref ap, .ref ak, .int (nI oday), .int ocoal, .int tbar, .int tfine, .int tcrs, .int tcoin, .int tship])), (g0, .inr (2, [.ref bc, .ref bp, .ref bk, .int (nI oday), .int ocoal, .int obar, .int ofine, .int ocrs, .int ocoin, .int oship])), (ac, .inr (0, [.ref ac1, .ref ac2, .ref ac3, .ref ac4, .int (nI nC)])), (ac1, .inl (cI, 4, .inl osh)), (ac2, .inl (cI, 4, .inl oco)), (ac3, .inl (cI, 4, .inl obu)), (ac4, .inl (cZ, 4, .inl ofl)), (bc, .inr (0, [.ref bc1, .ref bc2, .ref bc3, .ref bc4, .int (nI nC)])), (bc1, .inl (cI, 4, .inl osh)), (bc2, .inl (cI, 4, .inl oco)), (bc3, .inl (cI, 4, .inl obu)), (bc4, .inl (cZ, 4, .inl ofl)), (ap, .inr (1, [.ref ap1, .ref ap2, .ref ap3, .int (nI mp), .int (nI nP)])), (ap1, .inl (cI, 4, .inl opw)), (ap2, .inl (cI, 4, .inl opa)), (ap3, .inl (cZ, 4, .inl opb)), (bp, .inr (1, [.ref bp1, .ref bp2, .ref bp3, .int (nI mp2), .int (nI nP)])), (bp1, .inl (cI, 4, .inl opw)), (bp2, .inl (cI, 4, .inl opa)), (bp3, .inl (cZ, 4, .inl opb)), (ak, .inr (1, [.ref ak1, .ref ak2, .ref ak3, .int (nI mk), .int (nI nK)])), (ak1, .inl (cI, 4, .inl okw)), (ak2, .inl (cI, 4, .inl oka)), (ak3, .inl (cZ, 4, .inl okb)), (bk, .inr (1, [.ref bk1, .ref bk2, .ref bk3, .int (nI mk2), .int (nI nK)])), (bk1, .inl (cI, 4, .inl okw)), (bk2, .inl (cI, 4, .inl oka)), (bk3, .inl (cZ, 4, .inl okb))] := hD
  refine lv_aload_n hx hb dX2_copyOf_49 rfl (lv_at hl 0 rfl) ?_
  refine lv_aload_n hx hb dX2_copyOf_50 rfl (lv_at hl 1 rfl) ?_
  refine va_get (D := D) (ci := 2) (v := .int obar) (C := RX2) (T := TX2) (N := 10) hx hb ht inG_X2 hown hK hP 1 rfl rfl 5 (by decide) (ht _ qF_RX2_37) (fun _ h9 => h9) rfl dX2_copyOf_51 ?_
  refine va_put (D := D) (ci := 2) (v := .int obar) (C := RX2) (T := TX2) (N := 10) hx hb ht inG_X2 tyX2 tyX2_ok nmX2 hown hK hP hD hS 0 rfl rfl 5 (by decide) (ht _ qF_RX2_37) (fun _ h9 => h9) rfl (tyX2_ok 5 (by decide)) rfl rfl (Nat.le_of_ble_eq_true rfl) dX2_copyOf_54 (fun H locs hP hD hS => ?_)
  have hP : va_P D vwCl [(h0, .inr (2, [.ref ac, .ref ap, .ref ak, .int (nI oday), .int ocoal, .int obar, .int tfine, .int tcrs, .int tcoin, .int tship])), (g0, .inr (2, [.ref bc, .ref bp, .ref bk, .int (nI oday), .int ocoal, .int obar, .int ofine, .int ocrs, .int ocoin, .int oship])), (ac, .inr (0, [.ref ac1, .ref ac2, .ref ac3, .ref ac4, .int (nI nC)])), (ac1, .inl (cI, 4, .inl osh)), (ac2, .inl (cI, 4, .inl oco)), (ac3, .inl (cI, 4, .inl obu)), (ac4, .inl (cZ, 4, .inl ofl)), (bc, .inr (0, [.ref bc1, .ref bc2, .ref bc3, .ref bc4, .int (nI nC)])), (bc1, .inl (cI, 4, .inl osh)), (bc2, .inl (cI, 4, .inl oco)), (bc3, .inl (cI, 4, .inl obu)), (bc4, .inl (cZ, 4, .inl ofl)), (ap, .inr (1, [.ref ap1, .ref ap2, .ref ap3, .int (nI mp), .int (nI nP)])), (ap1, .inl (cI, 4, .inl opw)), (ap2, .inl (cI, 4, .inl opa)), (ap3, .inl (cZ, 4, .inl opb)), (bp, .inr (1, [.ref bp1, .ref bp2, .ref bp3, .int (nI mp2), .int (nI nP)])), (bp1, .inl (cI, 4, .inl opw)), (bp2, .inl (cI, 4, .inl opa)), (bp3, .inl (cZ, 4, .inl opb)), (ak, .inr (1, [.ref ak1, .ref ak2, .ref ak3, .int (nI mk), .int (nI nK)])), (ak1, .inl (cI, 4, .inl okw)), (ak2, .inl (cI, 4, .inl oka)), (ak3, .inl (cZ, 4, .inl okb)), (bk, .inr (1, [.ref bk1, .ref bk2, .ref bk3, .int (nI mk2), .int (nI nK)])), (bk1, .inl (cI, 4, .inl okw)), (bk2, .inl (cI, 4, .inl oka)), (bk3, .inl (cZ, 4, .inl okb))] _ := hP
  have hD : va_D A [(h0, .inr (2, [.ref ac, .ref ap, .ref ak, .int (nI oday), .int ocoal, .int obar, .int tfine, .int tcrs, .int tcoin, .int tship])), (g0, .inr (2, [.ref bc, .ref bp, .ref bk, .int (nI oday), .int ocoal, .int obar, .int ofine, .int ocrs, .int ocoin, .int oship])), (ac, .inr (0, [.ref ac1, .ref ac2, .ref ac3, .ref ac4, .int (nI nC)])), (ac1, .inl (cI, 4, .inl osh)), (ac2, .inl (cI, 4, .inl oco)), (ac3, .inl (cI, 4, .inl obu)), (ac4, .inl (cZ, 4, .inl ofl)), (bc, .inr (0, [.ref bc1, .ref bc2, .ref bc3, .ref bc4, .int (nI nC)])), (bc1, .inl (cI, 4, .inl osh)), (bc2, .inl (cI, 4, .inl oco)), (bc3, .inl (cI, 4, .inl obu)), (bc4, .inl (cZ, 4, .inl ofl)), (ap, .inr (1, [.ref ap1, .ref ap2, .ref ap3, .int (nI mp), .int (nI nP)])), (ap1, .inl (cI, 4, .inl opw)), (ap2, .inl (cI, 4, .inl opa)), (ap3, .inl (cZ, 4, .inl opb)), (bp, .inr (1, [.ref bp1, .ref bp2, .ref bp3, .int (nI mp2), .int (nI nP)])), (bp1, .inl (cI, 4, .inl opw)), (bp2, .inl (cI, 4, .inl opa)), (bp3, .inl (cZ, 4, .inl opb)), (ak, .inr (1, [.ref ak1, .ref ak2, .ref ak3, .int (nI mk), .int (nI nK)])), (ak1, .inl (cI, 4, .inl okw)), (ak2, .inl (cI, 4, .inl oka)), (ak3, .inl (cZ, 4, .inl okb)), (bk, .inr (1, [.ref bk1, .ref bk2, .ref bk3, .int (nI mk2), .int (nI nK)])), (bk1, .inl (cI, 4, .inl okw)), (bk2, .inl (cI, 4, .inl oka)), (bk3, .inl (cZ, 4, .inl okb))] := hD
  refine lv_aload_n hx hb dX2_copyOf_57 rfl (lv_at hl 0 rfl) ?_
  refine lv_aload_n hx hb dX2_copyOf_58 rfl (lv_at hl 1 rfl) ?_
  refine va_get (D := D) (ci := 2) (v := .int ofine) (C := RX2) (T := TX2) (N := 10) hx hb ht inG_X2 hown hK hP 1 rfl rfl 6 (by decide) (ht _ qF_RX2_40) (fun _ h9 => h9) rfl dX2_copyOf_59 ?_
  refine va_put (D := D) (ci := 2) (v := .int ofine) (C := RX2) (T := TX2) (N := 10) hx hb ht inG_X2 tyX2 tyX2_ok nmX2 hown hK hP hD hS 0 rfl rfl 6 (by decide) (ht _ qF_RX2_40) (fun _ h9 => h9) rfl (tyX2_ok 6 (by decide)) rfl rfl (Nat.le_of_ble_eq_true rfl) dX2_copyOf_62 (fun H locs hP hD hS => ?_)
  have hP : va_P D vwCl [(h0, .inr (2, [.ref ac, .ref ap, .ref ak, .int (nI oday), .int ocoal, .int obar, .int ofine, .int tcrs, .int tcoin, .int tship])), (g0, .inr (2, [.ref bc, .ref bp, .ref bk, .int (nI oday), .int ocoal, .int obar, .int ofine, .int ocrs, .int ocoin, .int oship])), (ac, .inr (0, [.ref ac1, .ref ac2, .ref ac3, .ref ac4, .int (nI nC)])), (ac1, .inl (cI, 4, .inl osh)), (ac2, .inl (cI, 4, .inl oco)), (ac3, .inl (cI, 4, .inl obu)), (ac4, .inl (cZ, 4, .inl ofl)), (bc, .inr (0, [.ref bc1, .ref bc2, .ref bc3, .ref bc4, .int (nI nC)])), (bc1, .inl (cI, 4, .inl osh)), (bc2, .inl (cI, 4, .inl oco)), (bc3, .inl (cI, 4, .inl obu)), (bc4, .inl (cZ, 4, .inl ofl)), (ap, .inr (1, [.ref ap1, .ref ap2, .ref ap3, .int (nI mp), .int (nI nP)])), (ap1, .inl (cI, 4, .inl opw)), (ap2, .inl (cI, 4, .inl opa)), (ap3, .inl (cZ, 4, .inl opb)), (bp, .inr (1, [.ref bp1, .ref bp2, .ref bp3, .int (nI mp2), .int (nI nP)])), (bp1, .inl (cI, 4, .inl opw)), (bp2, .inl (cI, 4, .inl opa)), (bp3, .inl (cZ, 4, .inl opb)), (ak, .inr (1, [.ref ak1, .ref ak2, .ref ak3, .int (nI mk), .int (nI nK)])), (ak1, .inl (cI, 4, .inl okw)), (ak2, .inl (cI, 4, .inl oka)), (ak3, .inl (cZ, 4, .inl okb)), (bk, .inr (1, [.ref bk1, .ref bk2, .ref bk3, .int (nI mk2), .int (nI nK)])), (bk1, .inl (cI, 4, .inl okw)), (bk2, .inl (cI, 4, .inl oka)), (bk3, .inl (cZ, 4, .inl okb))] _ := hP
  have hD : va_D A [(h0, .inr (2, [.ref ac, .ref ap, .ref ak, .int (nI oday), .int ocoal, .int obar, .int ofine, .int tcrs, .int tcoin, .int tship])), (g0, .inr (2, [.ref bc, .ref bp, .ref bk, .int (nI oday), .int ocoal, .int obar, .int ofine, .int ocrs, .int ocoin, .int oship])), (ac, .inr (0, [.ref ac1, .ref ac2, .ref ac3, .ref ac4, .int (nI nC)])), (ac1, .inl (cI, 4, .inl osh)), (ac2, .inl (cI, 4, .inl oco)), (ac3, .inl (cI, 4, .inl obu)), (ac4, .inl (cZ, 4, .inl ofl)), (bc, .inr (0, [.ref bc1, .ref bc2, .ref bc3, .ref bc4, .int (nI nC)])), (bc1, .inl (cI, 4, .inl osh)), (bc2, .inl (cI, 4, .inl oco)), (bc3, .inl (cI, 4, .inl obu)), (bc4, .inl (cZ, 4, .inl ofl)), (ap, .inr (1, [.ref ap1, .ref ap2, .ref ap3, .int (nI mp), .int (nI nP)])), (ap1, .inl (cI, 4, .inl opw)), (ap2, .inl (cI, 4, .inl opa)), (ap3, .inl (cZ, 4, .inl opb)), (bp, .inr (1, [.ref bp1, .ref bp2, .ref bp3, .int (nI mp2), .int (nI nP)])), (bp1, .inl (cI, 4, .inl opw)), (bp2, .inl (cI, 4, .inl opa)), (bp3, .inl (cZ, 4, .inl opb)), (ak, .inr (1, [.ref ak1, .ref ak2, .ref ak3, .int (nI mk), .int (nI nK)])), (ak1, .inl (cI, 4, .inl okw)), (ak2, .inl (cI, 4, .inl oka)), (ak3, .inl (cZ, 4, .inl okb)), (bk, .inr (1, [.ref bk1, .ref bk2, .ref bk3, .int (nI mk2), .int (nI nK)])), (bk1, .inl (cI, 4, .inl okw)), (bk2, .inl (cI, 4, .inl oka)), (bk3, .inl (cZ, 4, .inl okb))] := hD
  refine lv_aload_n hx hb dX2_copyOf_65 rfl (lv_at hl 0 rfl) ?_
  refine lv_aload_n hx hb dX2_copyOf_66 rfl (lv_at hl 1 rfl) ?_
  refine va_get (D := D) (ci := 2) (v := .int ocrs) (C := RX2) (T := TX2) (N := 10) hx hb ht inG_X2 hown hK hP 1 rfl rfl 7 (by decide) (ht _ qF_RX2_43) (fun _ h9 => h9) rfl dX2_copyOf_67 ?_
  refine va_put (D := D) (ci := 2) (v := .int ocrs) (C := RX2) (T := TX2) (N := 10) hx hb ht inG_X2 tyX2 tyX2_ok nmX2 hown hK hP hD hS 0 rfl rfl 7 (by decide) (ht _ qF_RX2_43) (fun _ h9 => h9) rfl (tyX2_ok 7 (by decide)) rfl rfl (Nat.le_of_ble_eq_true rfl) dX2_copyOf_70 (fun H locs hP hD hS => ?_)
  have hP : va_P D vwCl [(h0, .inr (2, [.ref ac, .ref ap, .ref ak, .int (nI oday), .int ocoal, .int obar, .int ofine, .int ocrs, .int tcoin, .int tship])), (g0, .inr (2, [.ref bc, .ref bp, .ref bk, .int (nI oday), .int ocoal, .int obar, .int ofine, .int ocrs, .int ocoin, .int oship])), (ac, .inr (0, [.ref ac1, .ref ac2, .ref ac3, .ref ac4, .int (nI nC)])), (ac1, .inl (cI, 4, .inl osh)), (ac2, .inl (cI, 4, .inl oco)), (ac3, .inl (cI, 4, .inl obu)), (ac4, .inl (cZ, 4, .inl ofl)), (bc, .inr (0, [.ref bc1, .ref bc2, .ref bc3, .ref bc4, .int (nI nC)])), (bc1, .inl (cI, 4, .inl osh)), (bc2, .inl (cI, 4, .inl oco)), (bc3, .inl (cI, 4, .inl obu)), (bc4, .inl (cZ, 4, .inl ofl)), (ap, .inr (1, [.ref ap1, .ref ap2, .ref ap3, .int (nI mp), .int (nI nP)])), (ap1, .inl (cI, 4, .inl opw)), (ap2, .inl (cI, 4, .inl opa)), (ap3, .inl (cZ, 4, .inl opb)), (bp, .inr (1, [.ref bp1, .ref bp2, .ref bp3, .int (nI mp2), .int (nI nP)])), (bp1, .inl (cI, 4, .inl opw)), (bp2, .inl (cI, 4, .inl opa)), (bp3, .inl (cZ, 4, .inl opb)), (ak, .inr (1, [.ref ak1, .ref ak2, .ref ak3, .int (nI mk), .int (nI nK)])), (ak1, .inl (cI, 4, .inl okw)), (ak2, .inl (cI, 4, .inl oka)), (ak3, .inl (cZ, 4, .inl okb)), (bk, .inr (1, [.ref bk1, .ref bk2, .ref bk3, .int (nI mk2), .int (nI nK)])), (bk1, .inl (cI, 4, .inl okw)), (bk2, .inl (cI, 4, .inl oka)), (bk3, .inl (cZ, 4, .inl okb))] _ := hP
  have hD : va_D A [(h0, .inr (2, [.ref ac, .ref ap, .ref ak, .int (nI oday), .int ocoal, .int obar, .int ofine, .int ocrs, .int tcoin, .int tship])), (g0, .inr (2, [.ref bc, .ref bp, .ref bk, .int (nI oday), .int ocoal, .int obar, .int ofine, .int ocrs, .int ocoin, .int oship])), (ac, .inr (0, [.ref ac1, .ref ac2, .ref ac3, .ref ac4, .int (nI nC)])), (ac1, .inl (cI, 4, .inl osh)), (ac2, .inl (cI, 4, .inl oco)), (ac3, .inl (cI, 4, .inl obu)), (ac4, .inl (cZ, 4, .inl ofl)), (bc, .inr (0, [.ref bc1, .ref bc2, .ref bc3, .ref bc4, .int (nI nC)])), (bc1, .inl (cI, 4, .inl osh)), (bc2, .inl (cI, 4, .inl oco)), (bc3, .inl (cI, 4, .inl obu)), (bc4, .inl (cZ, 4, .inl ofl)), (ap, .inr (1, [.ref ap1, .ref ap2, .ref ap3, .int (nI mp), .int (nI nP)])), (ap1, .inl (cI, 4, .inl opw)), (ap2, .inl (cI, 4, .inl opa)), (ap3, .inl (cZ, 4, .inl opb)), (bp, .inr (1, [.ref bp1, .ref bp2, .ref bp3, .int (nI mp2), .int (nI nP)])), (bp1, .inl (cI, 4, .inl opw)), (bp2, .inl (cI, 4, .inl opa)), (bp3, .inl (cZ, 4, .inl opb)), (ak, .inr (1, [.ref ak1, .ref ak2, .ref ak3, .int (nI mk), .int (nI nK)])), (ak1, .inl (cI, 4, .inl okw)), (ak2, .inl (cI, 4, .inl oka)), (ak3, .inl (cZ, 4, .inl okb)), (bk, .inr (1, [.ref bk1, .ref bk2, .ref bk3, .int (nI mk2), .int (nI nK)])), (bk1, .inl (cI, 4, .inl okw)), (bk2, .inl (cI, 4, .inl oka)), (bk3, .inl (cZ, 4, .inl okb))] := hD
  refine lv_aload_n hx hb dX2_copyOf_73 rfl (lv_at hl 0 rfl) ?_
  refine lv_aload_n hx hb dX2_copyOf_74 rfl (lv_at hl 1 rfl) ?_
  refine va_get (D := D) (ci := 2) (v := .int ocoin) (C := RX2) (T := TX2) (N := 10) hx hb ht inG_X2 hown hK hP 1 rfl rfl 8 (by decide) (ht _ qF_RX2_46) (fun _ h9 => h9) rfl dX2_copyOf_75 ?_
  refine va_put (D := D) (ci := 2) (v := .int ocoin) (C := RX2) (T := TX2) (N := 10) hx hb ht inG_X2 tyX2 tyX2_ok nmX2 hown hK hP hD hS 0 rfl rfl 8 (by decide) (ht _ qF_RX2_46) (fun _ h9 => h9) rfl (tyX2_ok 8 (by decide)) rfl rfl (Nat.le_of_ble_eq_true rfl) dX2_copyOf_78 (fun H locs hP hD hS => ?_)
  have hP : va_P D vwCl [(h0, .inr (2, [.ref ac, .ref ap, .ref ak, .int (nI oday), .int ocoal, .int obar, .int ofine, .int ocrs, .int ocoin, .int tship])), (g0, .inr (2, [.ref bc, .ref bp, .ref bk, .int (nI oday), .int ocoal, .int obar, .int ofine, .int ocrs, .int ocoin, .int oship])), (ac, .inr (0, [.ref ac1, .ref ac2, .ref ac3, .ref ac4, .int (nI nC)])), (ac1, .inl (cI, 4, .inl osh)), (ac2, .inl (cI, 4, .inl oco)), (ac3, .inl (cI, 4, .inl obu)), (ac4, .inl (cZ, 4, .inl ofl)), (bc, .inr (0, [.ref bc1, .ref bc2, .ref bc3, .ref bc4, .int (nI nC)])), (bc1, .inl (cI, 4, .inl osh)), (bc2, .inl (cI, 4, .inl oco)), (bc3, .inl (cI, 4, .inl obu)), (bc4, .inl (cZ, 4, .inl ofl)), (ap, .inr (1, [.ref ap1, .ref ap2, .ref ap3, .int (nI mp), .int (nI nP)])), (ap1, .inl (cI, 4, .inl opw)), (ap2, .inl (cI, 4, .inl opa)), (ap3, .inl (cZ, 4, .inl opb)), (bp, .inr (1, [.ref bp1, .ref bp2, .ref bp3, .int (nI mp2), .int (nI nP)])), (bp1, .inl (cI, 4, .inl opw)), (bp2, .inl (cI, 4, .inl opa)), (bp3, .inl (cZ, 4, .inl opb)), (ak, .inr (1, [.ref ak1, .ref ak2, .ref ak3, .int (nI mk), .int (nI nK)])), (ak1, .inl (cI, 4, .inl okw)), (ak2, .inl (cI, 4, .inl oka)), (ak3, .inl (cZ, 4, .inl okb)), (bk, .inr (1, [.ref bk1, .ref bk2, .ref bk3, .int (nI mk2), .int (nI nK)])), (bk1, .inl (cI, 4, .inl okw)), (bk2, .inl (cI, 4, .inl oka)), (bk3, .inl (cZ, 4, .inl okb))] _ := hP
  have hD : va_D A [(h0, .inr (2, [.ref ac, .ref ap, .ref ak, .int (nI oday), .int ocoal, .int obar, .int ofine, .int ocrs, .int ocoin, .int tship])), (g0, .inr (2, [.ref bc, .ref bp, .ref bk, .int (nI oday), .int ocoal, .int obar, .int ofine, .int ocrs, .int ocoin, .int oship])), (ac, .inr (0, [.ref ac1, .ref ac2, .ref ac3, .ref ac4, .int (nI nC)])), (ac1, .inl (cI, 4, .inl osh)), (ac2, .inl (cI, 4, .inl oco)), (ac3, .inl (cI, 4, .inl obu)), (ac4, .inl (cZ, 4, .inl ofl)), (bc, .inr (0, [.ref bc1, .ref bc2, .ref bc3, .ref bc4, .int (nI nC)])), (bc1, .inl (cI, 4, .inl osh)), (bc2, .inl (cI, 4, .inl oco)), (bc3, .inl (cI, 4, .inl obu)), (bc4, .inl (cZ, 4, .inl ofl)), (ap, .inr (1, [.ref ap1, .ref ap2, .ref ap3, .int (nI mp), .int (nI nP)])), (ap1, .inl (cI, 4, .inl opw)), (ap2, .inl (cI, 4, .inl opa)), (ap3, .inl (cZ, 4, .inl opb)), (bp, .inr (1, [.ref bp1, .ref bp2, .ref bp3, .int (nI mp2), .int (nI nP)])), (bp1, .inl (cI, 4, .inl opw)), (bp2, .inl (cI, 4, .inl opa)), (bp3, .inl (cZ, 4, .inl opb)), (ak, .inr (1, [.ref ak1, .ref ak2, .ref ak3, .int (nI mk), .int (nI nK)])), (ak1, .inl (cI, 4, .inl okw)), (ak2, .inl (cI, 4, .inl oka)), (ak3, .inl (cZ, 4, .inl okb)), (bk, .inr (1, [.ref bk1, .ref bk2, .ref bk3, .int (nI mk2), .int (nI nK)])), (bk1, .inl (cI, 4, .inl okw)), (bk2, .inl (cI, 4, .inl oka)), (bk3, .inl (cZ, 4, .inl okb))] := hD
  refine lv_aload_n hx hb dX2_copyOf_81 rfl (lv_at hl 0 rfl) ?_
  refine lv_aload_n hx hb dX2_copyOf_82 rfl (lv_at hl 1 rfl) ?_
  refine va_get (D := D) (ci := 2) (v := .int oship) (C := RX2) (T := TX2) (N := 10) hx hb ht inG_X2 hown hK hP 1 rfl rfl 9 (by decide) (ht _ qF_RX2_49) (fun _ h9 => h9) rfl dX2_copyOf_83 ?_
  refine va_put (D := D) (ci := 2) (v := .int oship) (C := RX2) (T := TX2) (N := 10) hx hb ht inG_X2 tyX2 tyX2_ok nmX2 hown hK hP hD hS 0 rfl rfl 9 (by decide) (ht _ qF_RX2_49) (fun _ h9 => h9) rfl (tyX2_ok 9 (by decide)) rfl rfl (Nat.le_of_ble_eq_true rfl) dX2_copyOf_86 (fun H locs hP hD hS => ?_)
  have hP : va_P D vwCl [(h0, .inr (2, [.ref ac, .ref ap, .ref ak, .int (nI oday), .int ocoal, .int obar, .int ofine, .int ocrs, .int ocoin, .int oship])), (g0, .inr (2, [.ref bc, .ref bp, .ref bk, .int (nI oday), .int ocoal, .int obar, .int ofine, .int ocrs, .int ocoin, .int oship])), (ac, .inr (0, [.ref ac1, .ref ac2, .ref ac3, .ref ac4, .int (nI nC)])), (ac1, .inl (cI, 4, .inl osh)), (ac2, .inl (cI, 4, .inl oco)), (ac3, .inl (cI, 4, .inl obu)), (ac4, .inl (cZ, 4, .inl ofl)), (bc, .inr (0, [.ref bc1, .ref bc2, .ref bc3, .ref bc4, .int (nI nC)])), (bc1, .inl (cI, 4, .inl osh)), (bc2, .inl (cI, 4, .inl oco)), (bc3, .inl (cI, 4, .inl obu)), (bc4, .inl (cZ, 4, .inl ofl)), (ap, .inr (1, [.ref ap1, .ref ap2, .ref ap3, .int (nI mp), .int (nI nP)])), (ap1, .inl (cI, 4, .inl opw)), (ap2, .inl (cI, 4, .inl opa)), (ap3, .inl (cZ, 4, .inl opb)), (bp, .inr (1, [.ref bp1, .ref bp2, .ref bp3, .int (nI mp2), .int (nI nP)])), (bp1, .inl (cI, 4, .inl opw)), (bp2, .inl (cI, 4, .inl opa)), (bp3, .inl (cZ, 4, .inl opb)), (ak, .inr (1, [.ref ak1, .ref ak2, .ref ak3, .int (nI mk), .int (nI nK)])), (ak1, .inl (cI, 4, .inl okw)), (ak2, .inl (cI, 4, .inl oka)), (ak3, .inl (cZ, 4, .inl okb)), (bk, .inr (1, [.ref bk1, .ref bk2, .ref bk3, .int (nI mk2), .int (nI nK)])), (bk1, .inl (cI, 4, .inl okw)), (bk2, .inl (cI, 4, .inl oka)), (bk3, .inl (cZ, 4, .inl okb))] _ := hP
  have hD : va_D A [(h0, .inr (2, [.ref ac, .ref ap, .ref ak, .int (nI oday), .int ocoal, .int obar, .int ofine, .int ocrs, .int ocoin, .int oship])), (g0, .inr (2, [.ref bc, .ref bp, .ref bk, .int (nI oday), .int ocoal, .int obar, .int ofine, .int ocrs, .int ocoin, .int oship])), (ac, .inr (0, [.ref ac1, .ref ac2, .ref ac3, .ref ac4, .int (nI nC)])), (ac1, .inl (cI, 4, .inl osh)), (ac2, .inl (cI, 4, .inl oco)), (ac3, .inl (cI, 4, .inl obu)), (ac4, .inl (cZ, 4, .inl ofl)), (bc, .inr (0, [.ref bc1, .ref bc2, .ref bc3, .ref bc4, .int (nI nC)])), (bc1, .inl (cI, 4, .inl osh)), (bc2, .inl (cI, 4, .inl oco)), (bc3, .inl (cI, 4, .inl obu)), (bc4, .inl (cZ, 4, .inl ofl)), (ap, .inr (1, [.ref ap1, .ref ap2, .ref ap3, .int (nI mp), .int (nI nP)])), (ap1, .inl (cI, 4, .inl opw)), (ap2, .inl (cI, 4, .inl opa)), (ap3, .inl (cZ, 4, .inl opb)), (bp, .inr (1, [.ref bp1, .ref bp2, .ref bp3, .int (nI mp2), .int (nI nP)])), (bp1, .inl (cI, 4, .inl opw)), (bp2, .inl (cI, 4, .inl opa)), (bp3, .inl (cZ, 4, .inl opb)), (ak, .inr (1, [.ref ak1, .ref ak2, .ref ak3, .int (nI mk), .int (nI nK)])), (ak1, .inl (cI, 4, .inl okw)), (ak2, .inl (cI, 4, .inl oka)), (ak3, .inl (cZ, 4, .inl okb)), (bk, .inr (1, [.ref bk1, .ref bk2, .ref bk3, .int (nI mk2), .int (nI nK)])), (bk1, .inl (cI, 4, .inl okw)), (bk2, .inl (cI, 4, .inl oka)), (bk3, .inl (cZ, 4, .inl okb))] := hD
  exact hend _ _ _ _ _ _ () dX2_copyOf_89 (trivial) (hP.sub [0, 2, 3, 4, 5, 6, 12, 13, 14, 15, 20, 21, 22, 23, 1, 7, 8, 9, 10, 11, 16, 17, 18, 19, 24, 25, 26, 27] rfl) (hD.sub [0, 2, 3, 4, 5, 6, 12, 13, 14, 15, 20, 21, 22, 23, 1, 7, 8, 9, 10, 11, 16, 17, 18, 19, 24, 25, 26, 27] (by decide) rfl) hS (Nat.le_of_ble_eq_true rfl) (Nat.le_of_ble_eq_true rfl)
