/-- the class's calls that return or throw -/
theorem AH_dIt {v : VT} (h : AH v v) (n : Nat) : AH v (dIt n v) := by
  induction n with
  | zero => exact h
  | succ n ih =>
    obtain ⟨h1, h2, h3⟩ := ih
    have eC := vnC_dIt n v
    have eP := vnP_dIt n v
    have eK := vnK_dIt n v
    refine ⟨fun j hj => ?_, fun j hj => ?_, fun j hj => ?_⟩
    · obtain ⟨a, b, c, d⟩ := h1 j hj
      refine ⟨?_, ?_, ?_, ?_⟩
      · show rowF (vnC (dIt n v)) _ (vsh (dIt n v)) j = 0
        rw [eC, rowF_at _ _ _ hj]; exact a
      · show rowF (vnC (dIt n v)) _ (vco (dIt n v)) j = 0
        rw [eC, rowF_at _ _ _ hj]; exact b
      · show rowF (vnC (dIt n v)) _ (vbu (dIt n v)) j = 0
        rw [eC, rowF_at _ _ _ hj]; exact c
      · show rowF (vnC (dIt n v)) _ (vfl (dIt n v)) j = 0
        rw [eC, rowF_at _ _ _ hj]; exact d
    · obtain ⟨a, b, c⟩ := h2 j hj
      refine ⟨?_, b, c⟩
      show rowF (vnP (dIt n v)) (fun j => wth (vR (dIt n v) (vday (dIt n v) % 6)) (vpw (dIt n v) j)) (vpw (dIt n v)) j = 0
      rw [eP, rowF_at _ _ _ hj]; exact a
    · obtain ⟨a, b, c⟩ := h3 j hj
      refine ⟨?_, b, ?_⟩
      · show rowF (vnK (dIt n v)) _ (vkw (dIt n v)) j = 0
        rw [eK, rowF_at _ _ _ hj]; exact a
      · show rowF (vnK (dIt n v)) _ (vkb (dIt n v)) j = 0
        rw [eK, rowF_at _ _ _ hj]; exact c
theorem s_RX3_26 : sS RX3 26 yX3_within cX3_within 3 (some .boolean) 3 := sS.mk qM_RX3_26 qS_yX3_within qN_RX3 qC_yX3_within ⟨by decide +kernel, by decide +kernel, by decide +kernel⟩
theorem s_RX3_69 : sV RX3 69 RX0 yX0_full cX0_full 1 (some .boolean) 0 := sV.mk qM_RX3_69 qI_yX0_full qV_yX0_full qN_RX0 qC_yX0_full ⟨rfl, by decide +kernel, by decide +kernel, by decide +kernel⟩
theorem s_RX3_80 : sV RX3 80 RX0 yX0_add cX0_add 3 (some .int) 1 := sV.mk qM_RX3_80 qI_yX0_add qV_yX0_add qN_RX0 qC_yX0_add ⟨rfl, by decide +kernel, by decide +kernel, by decide +kernel⟩
theorem s_RX3_84 : sV RX3 84 RX0 yX0_has cX0_has 2 (some .boolean) 1 := sV.mk qM_RX3_84 qI_yX0_has qV_yX0_has qN_RX0 qC_yX0_has ⟨rfl, by decide +kernel, by decide +kernel, by decide +kernel⟩
theorem s_RX3_109 : sV RX3 109 RX1 yX1_full cX1_full 1 (some .boolean) 0 := sV.mk qM_RX3_109 qI_yX1_full qV_yX1_full qN_RX1 qC_yX1_full ⟨rfl, by decide +kernel, by decide +kernel, by decide +kernel⟩
theorem s_RX3_114 : sV RX3 114 RX1 yX1_add cX1_add 3 (some .int) 1 := sV.mk qM_RX3_114 qI_yX1_add qV_yX1_add qN_RX1 qC_yX1_add ⟨rfl, by decide +kernel, by decide +kernel, by decide +kernel⟩
theorem s_RX3_115 : sV RX3 115 RX1 yX1_has cX1_has 2 (some .boolean) 1 := sV.mk qM_RX3_115 qI_yX1_has qV_yX1_has qN_RX1 qC_yX1_has ⟨rfl, by decide +kernel, by decide +kernel, by decide +kernel⟩
theorem s_RX3_149 : sV RX3 149 RX3 yX3_crystalsOf cX3_crystalsOf 3 (some .int) 2 := sV.mk qM_RX3_149 qI_yX3_crystalsOf qV_yX3_crystalsOf qN_RX3 qC_yX3_crystalsOf ⟨rfl, by decide +kernel, by decide +kernel, by decide +kernel⟩
theorem s_RX3_161 : sV RX3 161 RX1 yX1_empty cX1_empty 2 none 1 := sV.mk qM_RX3_161 qI_yX1_empty qV_yX1_empty qN_RX1 qC_yX1_empty ⟨rfl, by decide +kernel, by decide +kernel, by decide +kernel⟩
theorem s_RX3_167 : sV RX3 167 RX0 yX0_tell cX0_tell 3 (some .int) 2 := sV.mk qM_RX3_167 qI_yX0_tell qV_yX0_tell qN_RX0 qC_yX0_tell ⟨rfl, by decide +kernel, by decide +kernel, by decide +kernel⟩
theorem s_RX3_172 : sV RX3 172 RX1 yX1_tell cX1_tell 3 (some .int) 2 := sV.mk qM_RX3_172 qI_yX1_tell qV_yX1_tell qN_RX1 qC_yX1_tell ⟨rfl, by decide +kernel, by decide +kernel, by decide +kernel⟩
theorem s_RX3_177 : sV RX3 177 RX3 yX3_countIn cX3_countIn 3 (some .int) 2 := sV.mk qM_RX3_177 qI_yX3_countIn qV_yX3_countIn qN_RX3 qC_yX3_countIn ⟨rfl, by decide +kernel, by decide +kernel, by decide +kernel⟩
def rm_X3_bring : Room := { frames := 6, cells := 1, slots := 6, locals := 90 }
set_option maxHeartbeats 4000000 in
set_option maxRecDepth 100000 in
theorem c_X3_bring (l : Launch) (D : va_G) (cI cZ cJ : ClassId) (x0 xr xs n0 b0 : Nat) (nc np nk : Nat) (v : VT) (y1 y2 : Int32) (hI : IS v) (hst : l.stackTraces = false) : Xi l yX3_bring cX3_bring 3 (some .int) rm_X3_bring D (TY cI cZ cJ) [.ref x0, .int y1, .int y2] [(x0, .inr (3, [.ref xr, .ref xs, .ref n0, .ref b0])), (n0, .inr (2, [.ref nc, .ref np, .ref nk, .int (nI (vday v)), .int (vcoal v), .int (vbar v), .int (vfine v), .int (vcrs v), .int (vcoin v), .int (vship v)]))] (fun (r : Int32) (u : VT) => kBring v y1 y2 = 0 ∧ r = rBring v y1 y2 ∧ u = nBring v y1 y2) (fun (u : VT) => [(x0, .inr (3, [.ref xr, .ref xs, .ref n0, .ref b0])), (n0, .inr (2, [.ref nc, .ref np, .ref nk, .int (nI (vday u)), .int (vcoal u), .int (vbar u), .int (vfine u), .int (vcrs u), .int (vcoin u), .int (vship u)]))]) (fun (E : String) => (E = iIO ∧ kBring v y1 y2 = 1) ∨ (E = iIA ∧ kBring v y1 y2 = 2)) := by
  refine Xi.of (by decide) rfl (Nat.le_of_ble_eq_true rfl) hst ⟨by decide, by decide, by decide, by decide⟩ ?_
  intro p e s m args below meth c A ls Q hF hK hP hD hA hl hend hthr
  obtain ⟨F, hr, hlocks, hG⟩ := hF
  have hx := F.1
  have hb := F.2.1
  have hown := F.2.2.2.1
  have ht := F.2.2.2.2
  have hS : va_S A s.heap s.heap [] := va_S.rf
  have hl : lv_has ls 3 [(0, .ref x0), (1, .int y1), (2, .int y2)] := hl
  obtain ⟨hC4, hP4, hK3, hAH, hf1, hf2, hf3, hdy⟩ := hI
  refine lv_iload_n hx hb dX3_bring_0 rfl (lv_at hl 1 rfl) ?_
  refine lv_iconst (v := 0) hx hb dX3_bring_1 (by decide) ?_
  refine lv_iconst (v := 1) hx hb dX3_bring_2 (by decide) ?_
  refine k_i (wr := [(x0, .inr (3, [.ref xr, .ref xs, .ref n0, .ref b0])), (n0, .inr (2, [.ref nc, .ref np, .ref nk, .int (nI (vday v)), .int (vcoal v), .int (vbar v), .int (vfine v), .int (vcrs v), .int (vcoin v), .int (vship v)]))]) (rS (As := [.int y1, .int 0, .int 1]) (rest := []) F hG hK (hP.sub (ws' := []) [] rfl) ((hD.sub (ws' := []) [] (by decide) rfl).weaken (fun _ _ _ _ => trivial)) s_RX3_26 (c_X3_within l D cI cZ cJ y1 0 1 _) rfl hl.1 rfl (Nat.le_of_ble_eq_true rfl) dX3_bring_3 ⟨(Nat.le_of_ble_eq_true rfl), (Nat.le_of_ble_eq_true rfl)⟩ ⟨(Nat.le_of_ble_eq_true rfl), (Nat.le_of_ble_eq_true rfl)⟩) hP hD hS hA [] [0, 1] rfl rfl (by decide) (by decide) (fun r_3 uu H locs hw hP hD hS => ?_)
  try dsimp only at hw
  have hP : va_P D vwCl [(x0, .inr (3, [.ref xr, .ref xs, .ref n0, .ref b0])), (n0, .inr (2, [.ref nc, .ref np, .ref nk, .int (nI (vday v)), .int (vcoal v), .int (vbar v), .int (vfine v), .int (vcrs v), .int (vcoin v), .int (vship v)]))] _ := hP
  have hD : va_D A [(x0, .inr (3, [.ref xr, .ref xs, .ref n0, .ref b0])), (n0, .inr (2, [.ref nc, .ref np, .ref nk, .int (nI (vday v)), .int (vcoal v), .int (vbar v), .int (vfine v), .int (vcrs v), .int (vcoin v), .int (vship v)]))] := hD
  rcases hw with ⟨rfl, b_1⟩ | ⟨rfl, b_1⟩
  · skip
    refine lv_if_ne (tgt := 19) hx hb dX3_bring_6 (by decide) (fun _ => ?_) (fun h => absurd h (by decide))
    refine lv_iload_n hx hb dX3_bring_19 rfl (lv_at hl 2 rfl) ?_
    refine lv_iconst (v := 1) hx hb dX3_bring_20 (by decide) ?_
    refine lv_sipush (v := 500) hx hb dX3_bring_21 (by decide) ?_
    refine k_i (wr := [(x0, .inr (3, [.ref xr, .ref xs, .ref n0, .ref b0])), (n0, .inr (2, [.ref nc, .ref np, .ref nk, .int (nI (vday v)), .int (vcoal v), .int (vbar v), .int (vfine v), .int (vcrs v), .int (vcoin v), .int (vship v)]))]) (rS (As := [.int y2, .int 1, .int 500]) (rest := []) F hG hK (hP.sub (ws' := []) [] rfl) ((hD.sub (ws' := []) [] (by decide) rfl).weaken (fun _ _ _ _ => trivial)) s_RX3_26 (c_X3_within l D cI cZ cJ y2 1 500 _) rfl hl.1 rfl (Nat.le_of_ble_eq_true rfl) dX3_bring_24 ⟨(Nat.le_of_ble_eq_true rfl), (Nat.le_of_ble_eq_true rfl)⟩ ⟨(Nat.le_of_ble_eq_true rfl), (Nat.le_of_ble_eq_true rfl)⟩) hP hD hS hA [] [0, 1] rfl rfl (by decide) (by decide) (fun r_24 uu H locs hw hP hD hS => ?_)
    try dsimp only at hw
    have hP : va_P D vwCl [(x0, .inr (3, [.ref xr, .ref xs, .ref n0, .ref b0])), (n0, .inr (2, [.ref nc, .ref np, .ref nk, .int (nI (vday v)), .int (vcoal v), .int (vbar v), .int (vfine v), .int (vcrs v), .int (vcoin v), .int (vship v)]))] _ := hP
    have hD : va_D A [(x0, .inr (3, [.ref xr, .ref xs, .ref n0, .ref b0])), (n0, .inr (2, [.ref nc, .ref np, .ref nk, .int (nI (vday v)), .int (vcoal v), .int (vbar v), .int (vfine v), .int (vcrs v), .int (vcoin v), .int (vship v)]))] := hD
    rcases hw with ⟨rfl, b_2⟩ | ⟨rfl, b_2⟩
    · skip
      refine lv_if_ne (tgt := 40) hx hb dX3_bring_27 (by decide) (fun _ => ?_) (fun h => absurd h (by decide))
      refine lv_iload_n hx hb dX3_bring_40 rfl (lv_at hl 1 rfl) ?_
      refine lv_if_ne (tgt := 74) hx hb dX3_bring_41 (by decide) (fun c_3 => ?_) (fun c_3 => ?_)
      · skip
        refine lv_aload_n hx hb dX3_bring_74 rfl (lv_at hl 0 rfl) ?_
        refine va_get (D := D) (ci := 3) (v := .ref n0) (C := RX3) (T := TX3) (N := 4) hx hb ht inG_X3 hown hK hP 0 rfl rfl 2 (by decide) (ht _ qF_RX3_19) (fun _ h9 => h9) rfl dX3_bring_75 ?_
        refine lv_bipush (v := 99) hx hb dX3_bring_78 (by decide) ?_
        refine lv_aload_n hx hb dX3_bring_80 rfl (lv_at hl 0 rfl) ?_
        refine va_get (D := D) (ci := 3) (v := .ref n0) (C := RX3) (T := TX3) (N := 4) hx hb ht inG_X3 hown hK hP 0 rfl rfl 2 (by decide) (ht _ qF_RX3_19) (fun _ h9 => h9) rfl dX3_bring_81 ?_
        refine va_get (D := D) (ci := 2) (v := .int (vbar v)) (C := RX2) (T := TX2) (N := 10) hx hb ht inG_X2 hown hK hP 1 rfl rfl 5 (by decide) (ht _ qF_RX3_52) (fun _ h9 => h9) rfl dX3_bring_84 ?_
        refine lv_iload_n hx hb dX3_bring_87 rfl (lv_at hl 2 rfl) ?_
        refine lv_iadd hx hb dX3_bring_88 ?_
        refine k_min F qM_RX3_46 hl.1 (Nat.le_of_ble_eq_true rfl) (Nat.le_of_ble_eq_true rfl) (Nat.le_of_ble_eq_true rfl) (Nat.le_of_ble_eq_true rfl) dX3_bring_89 ?_
        refine va_put (D := D) (ci := 2) (v := .int (mn 99 ((vbar v) + y2))) (C := RX2) (T := TX2) (N := 10) hx hb ht inG_X2 tyX2 tyX2_ok nmX2 hown hK hP hD hS 1 rfl rfl 5 (by decide) (ht _ qF_RX3_52) (fun _ h9 => h9) rfl (tyX2_ok 5 (by decide)) rfl rfl (Nat.le_of_ble_eq_true rfl) dX3_bring_92 (fun H locs hP hD hS => ?_)
        have hP : va_P D vwCl [(x0, .inr (3, [.ref xr, .ref xs, .ref n0, .ref b0])), (n0, .inr (2, [.ref nc, .ref np, .ref nk, .int (nI (vday v)), .int (vcoal v), .int (mn 99 ((vbar v) + y2)), .int (vfine v), .int (vcrs v), .int (vcoin v), .int (vship v)]))] _ := hP
        have hD : va_D A [(x0, .inr (3, [.ref xr, .ref xs, .ref n0, .ref b0])), (n0, .inr (2, [.ref nc, .ref np, .ref nk, .int (nI (vday v)), .int (vcoal v), .int (mn 99 ((vbar v) + y2)), .int (vfine v), .int (vcrs v), .int (vcoin v), .int (vship v)]))] := hD
        refine lv_aload_n hx hb dX3_bring_95 rfl (lv_at hl 0 rfl) ?_
        refine va_get (D := D) (ci := 3) (v := .ref n0) (C := RX3) (T := TX3) (N := 4) hx hb ht inG_X3 hown hK hP 0 rfl rfl 2 (by decide) (ht _ qF_RX3_19) (fun _ h9 => h9) rfl dX3_bring_96 ?_
        refine va_get (D := D) (ci := 2) (v := .int (mn 99 ((vbar v) + y2))) (C := RX2) (T := TX2) (N := 10) hx hb ht inG_X2 hown hK hP 1 rfl rfl 5 (by decide) (ht _ qF_RX3_52) (fun _ h9 => h9) rfl dX3_bring_99 ?_
        exact hend _ _ _ _ _ _ (mn 99 ((vbar v) + y2)) (mkV (vsh v) (vco v) (vbu v) (vfl v) (vnC v) (vpw v) (vpa v) (vpb v) (vnP v) (vkw v) (vka v) (vkb v) (vnK v) (vday v) (vcoal v) (mn 99 ((vbar v) + y2)) (vfine v) (vcrs v) (vcoin v) (vship v) (vR v) (vS v)) dX3_bring_102 (⟨by simp only [kBring, eq_true b_1, eq_true b_2, eq_false c_3, if_true, if_false, eq_self], by simp only [rBring, eq_true b_1, eq_true b_2, eq_false c_3, if_true, if_false], by simp only [nBring, kBring, eq_true b_1, eq_true b_2, eq_false c_3, if_true, if_false, eq_self]⟩) hP hD hS rfl (Nat.le_of_ble_eq_true rfl) (Nat.le_of_ble_eq_true rfl)
      · skip
        refine lv_aload_n hx hb dX3_bring_44 rfl (lv_at hl 0 rfl) ?_
        refine va_get (D := D) (ci := 3) (v := .ref n0) (C := RX3) (T := TX3) (N := 4) hx hb ht inG_X3 hown hK hP 0 rfl rfl 2 (by decide) (ht _ qF_RX3_19) (fun _ h9 => h9) rfl dX3_bring_45 ?_
        refine lv_sipush (v := 500) hx hb dX3_bring_48 (by decide) ?_
        refine lv_aload_n hx hb dX3_bring_51 rfl (lv_at hl 0 rfl) ?_
        refine va_get (D := D) (ci := 3) (v := .ref n0) (C := RX3) (T := TX3) (N := 4) hx hb ht inG_X3 hown hK hP 0 rfl rfl 2 (by decide) (ht _ qF_RX3_19) (fun _ h9 => h9) rfl dX3_bring_52 ?_
        refine va_get (D := D) (ci := 2) (v := .int (vcoal v)) (C := RX2) (T := TX2) (N := 10) hx hb ht inG_X2 hown hK hP 1 rfl rfl 4 (by decide) (ht _ qF_RX3_42) (fun _ h9 => h9) rfl dX3_bring_55 ?_
        refine lv_iload_n hx hb dX3_bring_58 rfl (lv_at hl 2 rfl) ?_
        refine lv_iadd hx hb dX3_bring_59 ?_
        refine k_min F qM_RX3_46 hl.1 (Nat.le_of_ble_eq_true rfl) (Nat.le_of_ble_eq_true rfl) (Nat.le_of_ble_eq_true rfl) (Nat.le_of_ble_eq_true rfl) dX3_bring_60 ?_
        refine va_put (D := D) (ci := 2) (v := .int (mn 500 ((vcoal v) + y2))) (C := RX2) (T := TX2) (N := 10) hx hb ht inG_X2 tyX2 tyX2_ok nmX2 hown hK hP hD hS 1 rfl rfl 4 (by decide) (ht _ qF_RX3_42) (fun _ h9 => h9) rfl (tyX2_ok 4 (by decide)) rfl rfl (Nat.le_of_ble_eq_true rfl) dX3_bring_63 (fun H locs hP hD hS => ?_)
        have hP : va_P D vwCl [(x0, .inr (3, [.ref xr, .ref xs, .ref n0, .ref b0])), (n0, .inr (2, [.ref nc, .ref np, .ref nk, .int (nI (vday v)), .int (mn 500 ((vcoal v) + y2)), .int (vbar v), .int (vfine v), .int (vcrs v), .int (vcoin v), .int (vship v)]))] _ := hP
        have hD : va_D A [(x0, .inr (3, [.ref xr, .ref xs, .ref n0, .ref b0])), (n0, .inr (2, [.ref nc, .ref np, .ref nk, .int (nI (vday v)), .int (mn 500 ((vcoal v) + y2)), .int (vbar v), .int (vfine v), .int (vcrs v), .int (vcoin v), .int (vship v)]))] := hD
        refine lv_aload_n hx hb dX3_bring_66 rfl (lv_at hl 0 rfl) ?_
        refine va_get (D := D) (ci := 3) (v := .ref n0) (C := RX3) (T := TX3) (N := 4) hx hb ht inG_X3 hown hK hP 0 rfl rfl 2 (by decide) (ht _ qF_RX3_19) (fun _ h9 => h9) rfl dX3_bring_67 ?_
        refine va_get (D := D) (ci := 2) (v := .int (mn 500 ((vcoal v) + y2))) (C := RX2) (T := TX2) (N := 10) hx hb ht inG_X2 hown hK hP 1 rfl rfl 4 (by decide) (ht _ qF_RX3_42) (fun _ h9 => h9) rfl dX3_bring_70 ?_
        exact hend _ _ _ _ _ _ (mn 500 ((vcoal v) + y2)) (mkV (vsh v) (vco v) (vbu v) (vfl v) (vnC v) (vpw v) (vpa v) (vpb v) (vnP v) (vkw v) (vka v) (vkb v) (vnK v) (vday v) (mn 500 ((vcoal v) + y2)) (vbar v) (vfine v) (vcrs v) (vcoin v) (vship v) (vR v) (vS v)) dX3_bring_73 (⟨by simp only [kBring, eq_true b_1, eq_true b_2, eq_true c_3, if_true, if_false, eq_self], by simp only [rBring, eq_true b_1, eq_true b_2, eq_true c_3, if_true, if_false], by simp only [nBring, kBring, eq_true b_1, eq_true b_2, eq_true c_3, if_true, if_false, eq_self]⟩) hP hD hS rfl (Nat.le_of_ble_eq_true rfl) (Nat.le_of_ble_eq_true rfl)
    · skip
      refine lv_if_ne (tgt := 40) hx hb dX3_bring_27 (by decide) (fun h => absurd (by decide) h) (fun _ => ?_)
      exact hthr _ _ _ _ _ 39 _ "many is not 1 to 500" _ thr_IA (by decide +kernel) dX3_bring_30 dX3_bring_33 dX3_bring_34 dX3_bring_36 dX3_bring_39 (Or.inr (⟨rfl, by simp only [kBring, eq_true b_1, eq_false b_2, if_true, if_false]⟩)) (hP.sub [0, 1] rfl) hS hl.1
  · skip
    refine lv_if_ne (tgt := 19) hx hb dX3_bring_6 (by decide) (fun h => absurd (by decide) h) (fun _ => ?_)
    exact hthr _ _ _ _ _ 32 _ "what is not 0 or 1" _ thr_IO (by decide +kernel) dX3_bring_9 dX3_bring_12 dX3_bring_13 dX3_bring_15 dX3_bring_18 (Or.inl ⟨rfl, by simp only [kBring, eq_false b_1, if_true, if_false]⟩) (hP.sub [0, 1] rfl) hS hl.1

def rm_X3_setRain : Room := { frames := 6, cells := 1, slots := 6, locals := 90 }
set_option maxHeartbeats 4000000 in
set_option maxRecDepth 100000 in
theorem c_X3_setRain (l : Launch) (D : va_G) (cI cZ cJ : ClassId) (x0 xr xs n0 b0 : Nat) (v : VT) (y1 y2 : Int32) (hI : IS v) (hst : l.stackTraces = false) : Xi l yX3_setRain cX3_setRain 4 (some .int) rm_X3_setRain D (TY cI cZ cJ) [.ref x0, .int y1, .int y2] [(x0, .inr (3, [.ref xr, .ref xs, .ref n0, .ref b0])), (xr, .inl (cI, 6, .inl (vR v)))] (fun (r : Int32) (u : VT) => kRain v y1 y2 = 0 ∧ r = rRain v y1 y2 ∧ u = nRain v y1 y2) (fun (u : VT) => [(x0, .inr (3, [.ref xr, .ref xs, .ref n0, .ref b0])), (xr, .inl (cI, 6, .inl (vR u)))]) (fun (E : String) => (E = iIO ∧ kRain v y1 y2 = 1) ∨ (E = iIA ∧ kRain v y1 y2 = 2)) := by
  refine Xi.of (by decide) rfl (Nat.le_of_ble_eq_true rfl) hst ⟨by decide, by decide, by decide, by decide⟩ ?_
  intro p e s m args below meth c A ls Q hF hK hP hD hA hl hend hthr
  obtain ⟨F, hr, hlocks, hG⟩ := hF
  have hx := F.1
  have hb := F.2.1
  have hown := F.2.2.2.1
  have ht := F.2.2.2.2
  have hS : va_S A s.heap s.heap [] := va_S.rf
  have hl : lv_has ls 4 [(0, .ref x0), (1, .int y1), (2, .int y2)] := hl
  obtain ⟨hC4, hP4, hK3, hAH, hf1, hf2, hf3, hdy⟩ := hI
  refine lv_iload_n hx hb dX3_setRain_0 rfl (lv_at hl 1 rfl) ?_
  refine lv_iconst (v := 0) hx hb dX3_setRain_1 (by decide) ?_
  refine lv_iconst (v := 5) hx hb dX3_setRain_2 (by decide) ?_
  refine k_i (wr := [(x0, .inr (3, [.ref xr, .ref xs, .ref n0, .ref b0])), (xr, .inl (cI, 6, .inl (vR v)))]) (rS (As := [.int y1, .int 0, .int 5]) (rest := []) F hG hK (hP.sub (ws' := []) [] rfl) ((hD.sub (ws' := []) [] (by decide) rfl).weaken (fun _ _ _ _ => trivial)) s_RX3_26 (c_X3_within l D cI cZ cJ y1 0 5 _) rfl hl.1 rfl (Nat.le_of_ble_eq_true rfl) dX3_setRain_3 ⟨(Nat.le_of_ble_eq_true rfl), (Nat.le_of_ble_eq_true rfl)⟩ ⟨(Nat.le_of_ble_eq_true rfl), (Nat.le_of_ble_eq_true rfl)⟩) hP hD hS hA [] [0, 1] rfl rfl (by decide) (by decide) (fun r_3 uu H locs hw hP hD hS => ?_)
  try dsimp only at hw
  have hP : va_P D vwCl [(x0, .inr (3, [.ref xr, .ref xs, .ref n0, .ref b0])), (xr, .inl (cI, 6, .inl (vR v)))] _ := hP
  have hD : va_D A [(x0, .inr (3, [.ref xr, .ref xs, .ref n0, .ref b0])), (xr, .inl (cI, 6, .inl (vR v)))] := hD
  rcases hw with ⟨rfl, b_1⟩ | ⟨rfl, b_1⟩
  · skip
    obtain ⟨j_3, hj_3, rfl⟩ := inP (n := 5) (by decide) b_1
    have ix_3 : ix (nI j_3) = j_3 := ix_nI (by omega)
    have hP : va_P D vwCl [(x0, .inr (3, [.ref xr, .ref xs, .ref n0, .ref b0])), (xr, .inl (cI, 6, .inl (vR v)))] _ := hP
    have hD : va_D A [(x0, .inr (3, [.ref xr, .ref xs, .ref n0, .ref b0])), (xr, .inl (cI, 6, .inl (vR v)))] := hD
    have hl : lv_has ls 4 [(0, .ref x0), (1, .int (nI j_3)), (2, .int y2)] := hl
    refine lv_if_ne (tgt := 19) hx hb dX3_setRain_6 (by decide) (fun _ => ?_) (fun h => absurd h (by decide))
    refine lv_iload_n hx hb dX3_setRain_19 rfl (lv_at hl 2 rfl) ?_
    refine lv_iconst (v := 0) hx hb dX3_setRain_20 (by decide) ?_
    refine lv_bipush (v := 9) hx hb dX3_setRain_21 (by decide) ?_
    refine k_i (wr := [(x0, .inr (3, [.ref xr, .ref xs, .ref n0, .ref b0])), (xr, .inl (cI, 6, .inl (vR v)))]) (rS (As := [.int y2, .int 0, .int 9]) (rest := []) F hG hK (hP.sub (ws' := []) [] rfl) ((hD.sub (ws' := []) [] (by decide) rfl).weaken (fun _ _ _ _ => trivial)) s_RX3_26 (c_X3_within l D cI cZ cJ y2 0 9 _) rfl hl.1 rfl (Nat.le_of_ble_eq_true rfl) dX3_setRain_23 ⟨(Nat.le_of_ble_eq_true rfl), (Nat.le_of_ble_eq_true rfl)⟩ ⟨(Nat.le_of_ble_eq_true rfl), (Nat.le_of_ble_eq_true rfl)⟩) hP hD hS hA [] [0, 1] rfl rfl (by decide) (by decide) (fun r_23 uu H locs hw hP hD hS => ?_)
    try dsimp only at hw
    have hP : va_P D vwCl [(x0, .inr (3, [.ref xr, .ref xs, .ref n0, .ref b0])), (xr, .inl (cI, 6, .inl (vR v)))] _ := hP
    have hD : va_D A [(x0, .inr (3, [.ref xr, .ref xs, .ref n0, .ref b0])), (xr, .inl (cI, 6, .inl (vR v)))] := hD
    rcases hw with ⟨rfl, b_2⟩ | ⟨rfl, b_2⟩
    · skip
      refine lv_if_ne (tgt := 39) hx hb dX3_setRain_26 (by decide) (fun _ => ?_) (fun h => absurd h (by decide))
      refine lv_aload_n hx hb dX3_setRain_39 rfl (lv_at hl 0 rfl) ?_
      refine va_get (D := D) (ci := 3) (v := .ref xr) (C := RX3) (T := TX3) (N := 4) hx hb ht inG_X3 hown hK hP 0 rfl rfl 0 (by decide) (ht _ qF_RX3_9) (fun _ h9 => h9) rfl dX3_setRain_40 ?_
      refine lv_iload_n hx hb dX3_setRain_43 rfl (lv_at hl 1 rfl) ?_
      refine aI hx hb hK hP 1 0 rfl rfl j_3 (rfl) (by omega) (by decide) (v := (vR v) j_3) (rfl) dX3_setRain_44 ?_
      refine lv_istore_n (lv' := [(3, .int ((vR v) j_3)), (0, .ref x0), (1, .int (nI j_3)), (2, .int y2)]) hx hb dX3_setRain_45 rfl hl (by decide) rfl (fun ls hl => ?_)
      refine lv_aload_n hx hb dX3_setRain_46 rfl (lv_at hl 1 rfl) ?_
      refine va_get (D := D) (ci := 3) (v := .ref xr) (C := RX3) (T := TX3) (N := 4) hx hb ht inG_X3 hown hK hP 0 rfl rfl 0 (by decide) (ht _ qF_RX3_9) (fun _ h9 => h9) rfl dX3_setRain_47 ?_
      refine lv_iload_n hx hb dX3_setRain_50 rfl (lv_at hl 2 rfl) ?_
      refine lv_iload_n hx hb dX3_setRain_51 rfl (lv_at hl 3 rfl) ?_
      refine sI_ hx hb hK hP hD hS 1 0 rfl rfl j_3 (rfl) (by omega) (by decide) (upd (vR v) j_3 y2) (rfl) dX3_setRain_52 (fun H locs hP hD hS => ?_)
      have hP : va_P D vwCl [(x0, .inr (3, [.ref xr, .ref xs, .ref n0, .ref b0])), (xr, .inl (cI, 6, .inl (upd (vR v) j_3 y2)))] _ := hP
      have hD : va_D A [(x0, .inr (3, [.ref xr, .ref xs, .ref n0, .ref b0])), (xr, .inl (cI, 6, .inl (upd (vR v) j_3 y2)))] := hD
      refine lv_iload_n hx hb dX3_setRain_53 rfl (lv_at hl 0 rfl) ?_
      exact hend _ _ _ _ _ _ ((vR v) j_3) (mkV (vsh v) (vco v) (vbu v) (vfl v) (vnC v) (vpw v) (vpa v) (vpb v) (vnP v) (vkw v) (vka v) (vkb v) (vnK v) (vday v) (vcoal v) (vbar v) (vfine v) (vcrs v) (vcoin v) (vship v) (upd (vR v) j_3 y2) (vS v)) dX3_setRain_54 (⟨by simp only [kRain, eq_true b_1, ix_3, eq_true b_2, if_true, if_false, eq_self], by simp only [rRain, eq_true b_1, ix_3, eq_true b_2, if_true, if_false], by simp only [nRain, kRain, eq_true b_1, ix_3, eq_true b_2, if_true, if_false, eq_self]⟩) hP hD hS rfl (Nat.le_of_ble_eq_true rfl) (Nat.le_of_ble_eq_true rfl)
    · skip
      refine lv_if_ne (tgt := 39) hx hb dX3_setRain_26 (by decide) (fun h => absurd (by decide) h) (fun _ => ?_)
      exact hthr _ _ _ _ _ 57 _ "rain is not 0 to 9" _ thr_IA (by decide +kernel) dX3_setRain_29 dX3_setRain_32 dX3_setRain_33 dX3_setRain_35 dX3_setRain_38 (Or.inr (⟨rfl, by simp only [kRain, eq_true b_1, ix_3, eq_false b_2, if_true, if_false]⟩)) (hP.sub [0, 1] rfl) hS hl.1
  · skip
    refine lv_if_ne (tgt := 19) hx hb dX3_setRain_6 (by decide) (fun h => absurd (by decide) h) (fun _ => ?_)
    exact hthr _ _ _ _ _ 55 _ "day is not 0 to 5" _ thr_IO (by decide +kernel) dX3_setRain_9 dX3_setRain_12 dX3_setRain_13 dX3_setRain_15 dX3_setRain_18 (Or.inl ⟨rfl, by simp only [kRain, eq_false b_1, if_true, if_false]⟩) (hP.sub [0, 1] rfl) hS hl.1

def rm_X3_setShip : Room := { frames := 6, cells := 1, slots := 6, locals := 90 }
set_option maxHeartbeats 4000000 in
set_option maxRecDepth 100000 in
theorem c_X3_setShip (l : Launch) (D : va_G) (cI cZ cJ : ClassId) (x0 xr xs n0 b0 : Nat) (v : VT) (y1 y2 : Int32) (hI : IS v) (hst : l.stackTraces = false) : Xi l yX3_setShip cX3_setShip 4 (some .int) rm_X3_setShip D (TY cI cZ cJ) [.ref x0, .int y1, .int y2] [(x0, .inr (3, [.ref xr, .ref xs, .ref n0, .ref b0])), (xs, .inl (cI, 7, .inl (vS v)))] (fun (r : Int32) (u : VT) => kShip v y1 y2 = 0 ∧ r = rShip v y1 y2 ∧ u = nShip v y1 y2) (fun (u : VT) => [(x0, .inr (3, [.ref xr, .ref xs, .ref n0, .ref b0])), (xs, .inl (cI, 7, .inl (vS u)))]) (fun (E : String) => (E = iIO ∧ kShip v y1 y2 = 1) ∨ (E = iIA ∧ kShip v y1 y2 = 2)) := by
  refine Xi.of (by decide) rfl (Nat.le_of_ble_eq_true rfl) hst ⟨by decide, by decide, by decide, by decide⟩ ?_
  intro p e s m args below meth c A ls Q hF hK hP hD hA hl hend hthr
  obtain ⟨F, hr, hlocks, hG⟩ := hF
  have hx := F.1
  have hb := F.2.1
  have hown := F.2.2.2.1
  have ht := F.2.2.2.2
  have hS : va_S A s.heap s.heap [] := va_S.rf
  have hl : lv_has ls 4 [(0, .ref x0), (1, .int y1), (2, .int y2)] := hl
  obtain ⟨hC4, hP4, hK3, hAH, hf1, hf2, hf3, hdy⟩ := hI
  refine lv_iload_n hx hb dX3_setShip_0 rfl (lv_at hl 1 rfl) ?_
  refine lv_iconst (v := 0) hx hb dX3_setShip_1 (by decide) ?_
  refine lv_bipush (v := 6) hx hb dX3_setShip_2 (by decide) ?_
  refine k_i (wr := [(x0, .inr (3, [.ref xr, .ref xs, .ref n0, .ref b0])), (xs, .inl (cI, 7, .inl (vS v)))]) (rS (As := [.int y1, .int 0, .int 6]) (rest := []) F hG hK (hP.sub (ws' := []) [] rfl) ((hD.sub (ws' := []) [] (by decide) rfl).weaken (fun _ _ _ _ => trivial)) s_RX3_26 (c_X3_within l D cI cZ cJ y1 0 6 _) rfl hl.1 rfl (Nat.le_of_ble_eq_true rfl) dX3_setShip_4 ⟨(Nat.le_of_ble_eq_true rfl), (Nat.le_of_ble_eq_true rfl)⟩ ⟨(Nat.le_of_ble_eq_true rfl), (Nat.le_of_ble_eq_true rfl)⟩) hP hD hS hA [] [0, 1] rfl rfl (by decide) (by decide) (fun r_4 uu H locs hw hP hD hS => ?_)
  try dsimp only at hw
  have hP : va_P D vwCl [(x0, .inr (3, [.ref xr, .ref xs, .ref n0, .ref b0])), (xs, .inl (cI, 7, .inl (vS v)))] _ := hP
  have hD : va_D A [(x0, .inr (3, [.ref xr, .ref xs, .ref n0, .ref b0])), (xs, .inl (cI, 7, .inl (vS v)))] := hD
  rcases hw with ⟨rfl, b_1⟩ | ⟨rfl, b_1⟩
  · skip
    obtain ⟨j_4, hj_4, rfl⟩ := inP (n := 6) (by decide) b_1
    have ix_4 : ix (nI j_4) = j_4 := ix_nI (by omega)
    have hP : va_P D vwCl [(x0, .inr (3, [.ref xr, .ref xs, .ref n0, .ref b0])), (xs, .inl (cI, 7, .inl (vS v)))] _ := hP
    have hD : va_D A [(x0, .inr (3, [.ref xr, .ref xs, .ref n0, .ref b0])), (xs, .inl (cI, 7, .inl (vS v)))] := hD
    have hl : lv_has ls 4 [(0, .ref x0), (1, .int (nI j_4)), (2, .int y2)] := hl
    refine lv_if_ne (tgt := 20) hx hb dX3_setShip_7 (by decide) (fun _ => ?_) (fun h => absurd h (by decide))
    refine lv_iload_n hx hb dX3_setShip_20 rfl (lv_at hl 2 rfl) ?_
    refine lv_iconst (v := 0) hx hb dX3_setShip_21 (by decide) ?_
    refine lv_bipush (v := 60) hx hb dX3_setShip_22 (by decide) ?_
    refine k_i (wr := [(x0, .inr (3, [.ref xr, .ref xs, .ref n0, .ref b0])), (xs, .inl (cI, 7, .inl (vS v)))]) (rS (As := [.int y2, .int 0, .int 60]) (rest := []) F hG hK (hP.sub (ws' := []) [] rfl) ((hD.sub (ws' := []) [] (by decide) rfl).weaken (fun _ _ _ _ => trivial)) s_RX3_26 (c_X3_within l D cI cZ cJ y2 0 60 _) rfl hl.1 rfl (Nat.le_of_ble_eq_true rfl) dX3_setShip_24 ⟨(Nat.le_of_ble_eq_true rfl), (Nat.le_of_ble_eq_true rfl)⟩ ⟨(Nat.le_of_ble_eq_true rfl), (Nat.le_of_ble_eq_true rfl)⟩) hP hD hS hA [] [0, 1] rfl rfl (by decide) (by decide) (fun r_24 uu H locs hw hP hD hS => ?_)
    try dsimp only at hw
    have hP : va_P D vwCl [(x0, .inr (3, [.ref xr, .ref xs, .ref n0, .ref b0])), (xs, .inl (cI, 7, .inl (vS v)))] _ := hP
    have hD : va_D A [(x0, .inr (3, [.ref xr, .ref xs, .ref n0, .ref b0])), (xs, .inl (cI, 7, .inl (vS v)))] := hD
    rcases hw with ⟨rfl, b_2⟩ | ⟨rfl, b_2⟩
    · skip
      refine lv_if_ne (tgt := 40) hx hb dX3_setShip_27 (by decide) (fun _ => ?_) (fun h => absurd h (by decide))
      refine lv_aload_n hx hb dX3_setShip_40 rfl (lv_at hl 0 rfl) ?_
      refine va_get (D := D) (ci := 3) (v := .ref xs) (C := RX3) (T := TX3) (N := 4) hx hb ht inG_X3 hown hK hP 0 rfl rfl 1 (by decide) (ht _ qF_RX3_13) (fun _ h9 => h9) rfl dX3_setShip_41 ?_
      refine lv_iload_n hx hb dX3_setShip_44 rfl (lv_at hl 1 rfl) ?_
      refine aI hx hb hK hP 1 0 rfl rfl j_4 (rfl) (by omega) (by decide) (v := (vS v) j_4) (rfl) dX3_setShip_45 ?_
      refine lv_istore_n (lv' := [(3, .int ((vS v) j_4)), (0, .ref x0), (1, .int (nI j_4)), (2, .int y2)]) hx hb dX3_setShip_46 rfl hl (by decide) rfl (fun ls hl => ?_)
      refine lv_aload_n hx hb dX3_setShip_47 rfl (lv_at hl 1 rfl) ?_
      refine va_get (D := D) (ci := 3) (v := .ref xs) (C := RX3) (T := TX3) (N := 4) hx hb ht inG_X3 hown hK hP 0 rfl rfl 1 (by decide) (ht _ qF_RX3_13) (fun _ h9 => h9) rfl dX3_setShip_48 ?_
      refine lv_iload_n hx hb dX3_setShip_51 rfl (lv_at hl 2 rfl) ?_
      refine lv_iload_n hx hb dX3_setShip_52 rfl (lv_at hl 3 rfl) ?_
      refine sI_ hx hb hK hP hD hS 1 0 rfl rfl j_4 (rfl) (by omega) (by decide) (upd (vS v) j_4 y2) (rfl) dX3_setShip_53 (fun H locs hP hD hS => ?_)
      have hP : va_P D vwCl [(x0, .inr (3, [.ref xr, .ref xs, .ref n0, .ref b0])), (xs, .inl (cI, 7, .inl (upd (vS v) j_4 y2)))] _ := hP
      have hD : va_D A [(x0, .inr (3, [.ref xr, .ref xs, .ref n0, .ref b0])), (xs, .inl (cI, 7, .inl (upd (vS v) j_4 y2)))] := hD
      refine lv_iload_n hx hb dX3_setShip_54 rfl (lv_at hl 0 rfl) ?_
      exact hend _ _ _ _ _ _ ((vS v) j_4) (mkV (vsh v) (vco v) (vbu v) (vfl v) (vnC v) (vpw v) (vpa v) (vpb v) (vnP v) (vkw v) (vka v) (vkb v) (vnK v) (vday v) (vcoal v) (vbar v) (vfine v) (vcrs v) (vcoin v) (vship v) (vR v) (upd (vS v) j_4 y2)) dX3_setShip_55 (⟨by simp only [kShip, eq_true b_1, ix_4, eq_true b_2, if_true, if_false, eq_self], by simp only [rShip, eq_true b_1, ix_4, eq_true b_2, if_true, if_false], by simp only [nShip, kShip, eq_true b_1, ix_4, eq_true b_2, if_true, if_false, eq_self]⟩) hP hD hS rfl (Nat.le_of_ble_eq_true rfl) (Nat.le_of_ble_eq_true rfl)
    · skip
      refine lv_if_ne (tgt := 40) hx hb dX3_setShip_27 (by decide) (fun h => absurd (by decide) h) (fun _ => ?_)
      exact hthr _ _ _ _ _ 61 _ "takes is not 0 to 60" _ thr_IA (by decide +kernel) dX3_setShip_30 dX3_setShip_33 dX3_setShip_34 dX3_setShip_36 dX3_setShip_39 (Or.inr (⟨rfl, by simp only [kShip, eq_true b_1, ix_4, eq_false b_2, if_true, if_false]⟩)) (hP.sub [0, 1] rfl) hS hl.1
  · skip
    refine lv_if_ne (tgt := 20) hx hb dX3_setShip_7 (by decide) (fun h => absurd (by decide) h) (fun _ => ?_)
    exact hthr _ _ _ _ _ 59 _ "day is not 0 to 6" _ thr_IO (by decide +kernel) dX3_setShip_10 dX3_setShip_13 dX3_setShip_14 dX3_setShip_16 dX3_setShip_19 (Or.inl ⟨rfl, by simp only [kShip, eq_false b_1, if_true, if_false]⟩) (hP.sub [0, 1] rfl) hS hl.1

def rm_X3_pile : Room := { frames := 6, cells := 1, slots := 6, locals := 90 }
set_option maxHeartbeats 4000000 in
set_option maxRecDepth 100000 in
theorem c_X3_pile (l : Launch) (D : va_G) (cI cZ cJ : ClassId) (x0 xr xs n0 b0 : Nat) (nc np nk nc1 nc2 nc3 nc4 : Nat) (v : VT) (y1 : Int32) (hI : IS v) (hst : l.stackTraces = false) : Xi l yX3_pile cX3_pile 2 (some .int) rm_X3_pile D (TY cI cZ cJ) [.ref x0, .int y1] [(x0, .inr (3, [.ref xr, .ref xs, .ref n0, .ref b0])), (n0, .inr (2, [.ref nc, .ref np, .ref nk, .int (nI (vday v)), .int (vcoal v), .int (vbar v), .int (vfine v), .int (vcrs v), .int (vcoin v), .int (vship v)])), (nc, .inr (0, [.ref nc1, .ref nc2, .ref nc3, .ref nc4, .int (nI (vnC v))])), (nc1, .inl (cI, 4, .inl (vsh v)))] (fun (r : Int32) (u : VT) => kPile v y1 = 0 ∧ r = rPile v y1 ∧ u = nPile v y1) (fun (u : VT) => [(x0, .inr (3, [.ref xr, .ref xs, .ref n0, .ref b0])), (n0, .inr (2, [.ref nc, .ref np, .ref nk, .int (nI (vday u)), .int (vcoal u), .int (vbar u), .int (vfine u), .int (vcrs u), .int (vcoin u), .int (vship u)])), (nc, .inr (0, [.ref nc1, .ref nc2, .ref nc3, .ref nc4, .int (nI (vnC u))])), (nc1, .inl (cI, 4, .inl (vsh u)))]) (fun (E : String) => (E = iIA ∧ kPile v y1 = 1) ∨ (E = iIS ∧ kPile v y1 = 2)) := by
  refine Xi.of (by decide) rfl (Nat.le_of_ble_eq_true rfl) hst ⟨by decide, by decide, by decide, by decide⟩ ?_
  intro p e s m args below meth c A ls Q hF hK hP hD hA hl hend hthr
  obtain ⟨F, hr, hlocks, hG⟩ := hF
  have hx := F.1
  have hb := F.2.1
  have hown := F.2.2.2.1
  have ht := F.2.2.2.2
  have hS : va_S A s.heap s.heap [] := va_S.rf
  have hl : lv_has ls 2 [(0, .ref x0), (1, .int y1)] := hl
  obtain ⟨hC4, hP4, hK3, hAH, hf1, hf2, hf3, hdy⟩ := hI
  refine lv_iload_n hx hb dX3_pile_0 rfl (lv_at hl 1 rfl) ?_
  refine lv_iconst (v := 1) hx hb dX3_pile_1 (by decide) ?_
  refine lv_sipush (v := 200) hx hb dX3_pile_2 (by decide) ?_
  refine k_i (wr := [(x0, .inr (3, [.ref xr, .ref xs, .ref n0, .ref b0])), (n0, .inr (2, [.ref nc, .ref np, .ref nk, .int (nI (vday v)), .int (vcoal v), .int (vbar v), .int (vfine v), .int (vcrs v), .int (vcoin v), .int (vship v)])), (nc, .inr (0, [.ref nc1, .ref nc2, .ref nc3, .ref nc4, .int (nI (vnC v))])), (nc1, .inl (cI, 4, .inl (vsh v)))]) (rS (As := [.int y1, .int 1, .int 200]) (rest := []) F hG hK (hP.sub (ws' := []) [] rfl) ((hD.sub (ws' := []) [] (by decide) rfl).weaken (fun _ _ _ _ => trivial)) s_RX3_26 (c_X3_within l D cI cZ cJ y1 1 200 _) rfl hl.1 rfl (Nat.le_of_ble_eq_true rfl) dX3_pile_5 ⟨(Nat.le_of_ble_eq_true rfl), (Nat.le_of_ble_eq_true rfl)⟩ ⟨(Nat.le_of_ble_eq_true rfl), (Nat.le_of_ble_eq_true rfl)⟩) hP hD hS hA [] [0, 1, 2, 3] rfl rfl (by decide) (by decide) (fun r_5 uu H locs hw hP hD hS => ?_)
  try dsimp only at hw
  have hP : va_P D vwCl [(x0, .inr (3, [.ref xr, .ref xs, .ref n0, .ref b0])), (n0, .inr (2, [.ref nc, .ref np, .ref nk, .int (nI (vday v)), .int (vcoal v), .int (vbar v), .int (vfine v), .int (vcrs v), .int (vcoin v), .int (vship v)])), (nc, .inr (0, [.ref nc1, .ref nc2, .ref nc3, .ref nc4, .int (nI (vnC v))])), (nc1, .inl (cI, 4, .inl (vsh v)))] _ := hP
  have hD : va_D A [(x0, .inr (3, [.ref xr, .ref xs, .ref n0, .ref b0])), (n0, .inr (2, [.ref nc, .ref np, .ref nk, .int (nI (vday v)), .int (vcoal v), .int (vbar v), .int (vfine v), .int (vcrs v), .int (vcoin v), .int (vship v)])), (nc, .inr (0, [.ref nc1, .ref nc2, .ref nc3, .ref nc4, .int (nI (vnC v))])), (nc1, .inl (cI, 4, .inl (vsh v)))] := hD
  rcases hw with ⟨rfl, b_1⟩ | ⟨rfl, b_1⟩
  · skip
    refine lv_if_ne (tgt := 21) hx hb dX3_pile_8 (by decide) (fun _ => ?_) (fun h => absurd h (by decide))
    refine lv_aload_n hx hb dX3_pile_21 rfl (lv_at hl 0 rfl) ?_
    refine va_get (D := D) (ci := 3) (v := .ref n0) (C := RX3) (T := TX3) (N := 4) hx hb ht inG_X3 hown hK hP 0 rfl rfl 2 (by decide) (ht _ qF_RX3_19) (fun _ h9 => h9) rfl dX3_pile_22 ?_
    refine va_get (D := D) (ci := 2) (v := .ref nc) (C := RX2) (T := TX2) (N := 10) hx hb ht inG_X2 hown hK hP 1 rfl rfl 0 (by decide) (ht _ qF_RX3_65) (fun _ h9 => h9) rfl dX3_pile_25 ?_
    refine k_i (wr := [(x0, .inr (3, [.ref xr, .ref xs, .ref n0, .ref b0])), (n0, .inr (2, [.ref nc, .ref np, .ref nk, .int (nI (vday v)), .int (vcoal v), .int (vbar v), .int (vfine v), .int (vcrs v), .int (vcoin v), .int (vship v)])), (nc1, .inl (cI, 4, .inl (vsh v)))]) (rV (As := []) (rest := []) F hG hK (hP.sub (ws' := [(nc, .inr (0, [.ref nc1, .ref nc2, .ref nc3, .ref nc4, .int (nI (vnC v))]))]) [2] rfl) ((hD.sub (ws' := [(nc, .inr (0, [.ref nc1, .ref nc2, .ref nc3, .ref nc4, .int (nI (vnC v))]))]) [2] (by decide) rfl).weaken (fun _ _ _ _ => trivial)) s_RX3_69 (c_X0_full l D cI cZ cJ nc nc1 nc2 nc3 nc4 (vnC v) (by first | assumption | omega) _) 0 0 rfl rfl rfl rfl hl.1 rfl (Nat.le_of_ble_eq_true rfl) dX3_pile_28 ⟨(Nat.le_of_ble_eq_true rfl), (Nat.le_of_ble_eq_true rfl)⟩ ⟨(Nat.le_of_ble_eq_true rfl), (Nat.le_of_ble_eq_true rfl)⟩) hP hD hS hA [2] [0, 1, 3] rfl rfl (by decide) (by decide) (fun r_28 uu H locs hw hP hD hS => ?_)
    try dsimp only at hw
    have hP : va_P D vwCl [(x0, .inr (3, [.ref xr, .ref xs, .ref n0, .ref b0])), (n0, .inr (2, [.ref nc, .ref np, .ref nk, .int (nI (vday v)), .int (vcoal v), .int (vbar v), .int (vfine v), .int (vcrs v), .int (vcoin v), .int (vship v)])), (nc1, .inl (cI, 4, .inl (vsh v))), (nc, .inr (0, [.ref nc1, .ref nc2, .ref nc3, .ref nc4, .int (nI (vnC v))]))] _ := hP
    have hD : va_D A [(x0, .inr (3, [.ref xr, .ref xs, .ref n0, .ref b0])), (n0, .inr (2, [.ref nc, .ref np, .ref nk, .int (nI (vday v)), .int (vcoal v), .int (vbar v), .int (vfine v), .int (vcrs v), .int (vcoin v), .int (vship v)])), (nc1, .inl (cI, 4, .inl (vsh v))), (nc, .inr (0, [.ref nc1, .ref nc2, .ref nc3, .ref nc4, .int (nI (vnC v))]))] := hD
    rcases hw with ⟨rfl, b_2⟩ | ⟨rfl, b_2⟩
    · skip
      refine lv_if_eq (tgt := 44) hx hb dX3_pile_31 (by decide) (fun h => absurd h (by decide)) (fun _ => ?_)
      exact hthr _ _ _ _ _ 77 _ "there are 4 clamps" _ thr_IS (by decide +kernel) dX3_pile_34 dX3_pile_37 dX3_pile_38 dX3_pile_40 dX3_pile_43 (Or.inr (⟨rfl, by simp only [kPile, eq_true b_1, eq_true b_2, if_true, if_false]⟩)) (hP.sub [0, 1, 3, 2] rfl) hS hl.1
    · skip
      have b_2n := Nat.not_le.mpr b_2
      refine lv_if_eq (tgt := 44) hx hb dX3_pile_31 (by decide) (fun _ => ?_) (fun h => absurd (by decide) h)
      refine lv_aload_n hx hb dX3_pile_44 rfl (lv_at hl 0 rfl) ?_
      refine va_get (D := D) (ci := 3) (v := .ref n0) (C := RX3) (T := TX3) (N := 4) hx hb ht inG_X3 hown hK hP 0 rfl rfl 2 (by decide) (ht _ qF_RX3_19) (fun _ h9 => h9) rfl dX3_pile_45 ?_
      refine va_get (D := D) (ci := 2) (v := .ref nc) (C := RX2) (T := TX2) (N := 10) hx hb ht inG_X2 hown hK hP 1 rfl rfl 0 (by decide) (ht _ qF_RX3_65) (fun _ h9 => h9) rfl dX3_pile_48 ?_
      refine lv_iload_n hx hb dX3_pile_51 rfl (lv_at hl 1 rfl) ?_
      refine k_i (wr := [(x0, .inr (3, [.ref xr, .ref xs, .ref n0, .ref b0])), (n0, .inr (2, [.ref nc, .ref np, .ref nk, .int (nI (vday v)), .int (vcoal v), .int (vbar v), .int (vfine v), .int (vcrs v), .int (vcoin v), .int (vship v)]))]) (rV (As := [.int y1]) (rest := []) F hG hK (hP.sub (ws' := [(nc, .inr (0, [.ref nc1, .ref nc2, .ref nc3, .ref nc4, .int (nI (vnC v))])), (nc1, .inl (cI, 4, .inl (vsh v)))]) [3, 2] rfl) ((hD.sub (ws' := [(nc, .inr (0, [.ref nc1, .ref nc2, .ref nc3, .ref nc4, .int (nI (vnC v))])), (nc1, .inl (cI, 4, .inl (vsh v)))]) [3, 2] (by decide) rfl).weaken (fun _ _ _ _ => trivial)) s_RX3_80 (c_X0_add l D cI cZ cJ nc nc1 nc2 nc3 nc4 (vsh v) (vnC v) y1 (by first | assumption | omega) _) 0 0 rfl rfl rfl rfl hl.1 rfl (Nat.le_of_ble_eq_true rfl) dX3_pile_52 ⟨(Nat.le_of_ble_eq_true rfl), (Nat.le_of_ble_eq_true rfl)⟩ ⟨(Nat.le_of_ble_eq_true rfl), (Nat.le_of_ble_eq_true rfl)⟩) hP hD hS hA [3, 2] [0, 1] rfl rfl (by decide) (by decide) (fun r_52 uu H locs hw hP hD hS => ?_)
      obtain ⟨sh1_52, rfl⟩ : ∃ z, z = uu := ⟨_, rfl⟩
      try dsimp only at hw
      obtain ⟨rfl, rfl⟩ := hw
      have hP : va_P D vwCl [(x0, .inr (3, [.ref xr, .ref xs, .ref n0, .ref b0])), (n0, .inr (2, [.ref nc, .ref np, .ref nk, .int (nI (vday v)), .int (vcoal v), .int (vbar v), .int (vfine v), .int (vcrs v), .int (vcoin v), .int (vship v)])), (nc, .inr (0, [.ref nc1, .ref nc2, .ref nc3, .ref nc4, .int (nI ((vnC v) + 1))])), (nc1, .inl (cI, 4, .inl (upd (vsh v) (vnC v) y1)))] _ := hP
      have hD : va_D A [(x0, .inr (3, [.ref xr, .ref xs, .ref n0, .ref b0])), (n0, .inr (2, [.ref nc, .ref np, .ref nk, .int (nI (vday v)), .int (vcoal v), .int (vbar v), .int (vfine v), .int (vcrs v), .int (vcoin v), .int (vship v)])), (nc, .inr (0, [.ref nc1, .ref nc2, .ref nc3, .ref nc4, .int (nI ((vnC v) + 1))])), (nc1, .inl (cI, 4, .inl (upd (vsh v) (vnC v) y1)))] := hD
      exact hend _ _ _ _ _ _ (nI (vnC v)) (mkV (upd (vsh v) (vnC v) y1) (vco v) (vbu v) (vfl v) ((vnC v) + 1) (vpw v) (vpa v) (vpb v) (vnP v) (vkw v) (vka v) (vkb v) (vnK v) (vday v) (vcoal v) (vbar v) (vfine v) (vcrs v) (vcoin v) (vship v) (vR v) (vS v)) dX3_pile_55 (⟨by simp only [kPile, eq_true b_1, eq_false b_2n, if_true, if_false, eq_self], by simp only [rPile, eq_true b_1, eq_false b_2n, if_true, if_false], by simp only [nPile, kPile, eq_true b_1, eq_false b_2n, if_true, if_false, eq_self]⟩) hP hD hS rfl (Nat.le_of_ble_eq_true rfl) (Nat.le_of_ble_eq_true rfl)
  · skip
    refine lv_if_ne (tgt := 21) hx hb dX3_pile_8 (by decide) (fun h => absurd (by decide) h) (fun _ => ?_)
    exact hthr _ _ _ _ _ 63 _ "shale is not 1 to 200" _ thr_IA (by decide +kernel) dX3_pile_11 dX3_pile_14 dX3_pile_15 dX3_pile_17 dX3_pile_20 (Or.inl ⟨rfl, by simp only [kPile, eq_false b_1, if_true, if_false]⟩) (hP.sub [0, 1, 2, 3] rfl) hS hl.1

def rm_X3_light : Room := { frames := 6, cells := 1, slots := 6, locals := 90 }
set_option maxHeartbeats 4000000 in
set_option maxRecDepth 100000 in
theorem c_X3_light (l : Launch) (D : va_G) (cI cZ cJ : ClassId) (x0 xr xs n0 b0 : Nat) (nc np nk nc1 nc2 nc3 nc4 : Nat) (v : VT) (y1 y2 : Int32) (hI : IS v) (hst : l.stackTraces = false) : Xi l yX3_light cX3_light 4 (some .int) rm_X3_light D (TY cI cZ cJ) [.ref x0, .int y1, .int y2] [(x0, .inr (3, [.ref xr, .ref xs, .ref n0, .ref b0])), (n0, .inr (2, [.ref nc, .ref np, .ref nk, .int (nI (vday v)), .int (vcoal v), .int (vbar v), .int (vfine v), .int (vcrs v), .int (vcoin v), .int (vship v)])), (nc, .inr (0, [.ref nc1, .ref nc2, .ref nc3, .ref nc4, .int (nI (vnC v))])), (nc1, .inl (cI, 4, .inl (vsh v))), (nc2, .inl (cI, 4, .inl (vco v))), (nc4, .inl (cZ, 4, .inl (vfl v)))] (fun (r : Int32) (u : VT) => kLight v y1 y2 = 0 ∧ r = rLight v y1 y2 ∧ u = nLight v y1 y2) (fun (u : VT) => [(x0, .inr (3, [.ref xr, .ref xs, .ref n0, .ref b0])), (n0, .inr (2, [.ref nc, .ref np, .ref nk, .int (nI (vday u)), .int (vcoal u), .int (vbar u), .int (vfine u), .int (vcrs u), .int (vcoin u), .int (vship u)])), (nc, .inr (0, [.ref nc1, .ref nc2, .ref nc3, .ref nc4, .int (nI (vnC u))])), (nc1, .inl (cI, 4, .inl (vsh u))), (nc2, .inl (cI, 4, .inl (vco u))), (nc4, .inl (cZ, 4, .inl (vfl u)))]) (fun (E : String) => (E = iIO ∧ kLight v y1 y2 = 1) ∨ (E = iIA ∧ kLight v y1 y2 = 2) ∨ (E = iIS ∧ kLight v y1 y2 = 3)) := by
  refine Xi.of (by decide) rfl (Nat.le_of_ble_eq_true rfl) hst ⟨by decide, by decide, by decide, by decide⟩ ?_
  intro p e s m args below meth c A ls Q hF hK hP hD hA hl hend hthr
  obtain ⟨F, hr, hlocks, hG⟩ := hF
  have hx := F.1
  have hb := F.2.1
  have hown := F.2.2.2.1
  have ht := F.2.2.2.2
  have hS : va_S A s.heap s.heap [] := va_S.rf
  have hl : lv_has ls 4 [(0, .ref x0), (1, .int y1), (2, .int y2)] := hl
  obtain ⟨hC4, hP4, hK3, hAH, hf1, hf2, hf3, hdy⟩ := hI
  refine lv_aload_n hx hb dX3_light_0 rfl (lv_at hl 0 rfl) ?_
  refine va_get (D := D) (ci := 3) (v := .ref n0) (C := RX3) (T := TX3) (N := 4) hx hb ht inG_X3 hown hK hP 0 rfl rfl 2 (by decide) (ht _ qF_RX3_19) (fun _ h9 => h9) rfl dX3_light_1 ?_
  refine va_get (D := D) (ci := 2) (v := .ref nc) (C := RX2) (T := TX2) (N := 10) hx hb ht inG_X2 hown hK hP 1 rfl rfl 0 (by decide) (ht _ qF_RX3_65) (fun _ h9 => h9) rfl dX3_light_4 ?_
  refine lv_astore_n (lv' := [(3, .ref nc), (0, .ref x0), (1, .int y1), (2, .int y2)]) hx hb dX3_light_7 rfl hl (by decide) rfl (fun ls hl => ?_)
  refine lv_aload_n hx hb dX3_light_8 rfl (lv_at hl 0 rfl) ?_
  refine lv_iload_n hx hb dX3_light_9 rfl (lv_at hl 2 rfl) ?_
  refine k_i (wr := [(x0, .inr (3, [.ref xr, .ref xs, .ref n0, .ref b0])), (n0, .inr (2, [.ref nc, .ref np, .ref nk, .int (nI (vday v)), .int (vcoal v), .int (vbar v), .int (vfine v), .int (vcrs v), .int (vcoin v), .int (vship v)])), (nc1, .inl (cI, 4, .inl (vsh v))), (nc2, .inl (cI, 4, .inl (vco v))), (nc4, .inl (cZ, 4, .inl (vfl v)))]) (rV (As := [.int y1]) (rest := []) F hG hK (hP.sub (ws' := [(nc, .inr (0, [.ref nc1, .ref nc2, .ref nc3, .ref nc4, .int (nI (vnC v))]))]) [2] rfl) ((hD.sub (ws' := [(nc, .inr (0, [.ref nc1, .ref nc2, .ref nc3, .ref nc4, .int (nI (vnC v))]))]) [2] (by decide) rfl).weaken (fun _ _ _ _ => trivial)) s_RX3_84 (c_X0_has l D cI cZ cJ nc nc1 nc2 nc3 nc4 (vnC v) y1 (by first | assumption | omega) _) 0 0 rfl rfl rfl rfl hl.1 rfl (Nat.le_of_ble_eq_true rfl) dX3_light_10 ⟨(Nat.le_of_ble_eq_true rfl), (Nat.le_of_ble_eq_true rfl)⟩ ⟨(Nat.le_of_ble_eq_true rfl), (Nat.le_of_ble_eq_true rfl)⟩) hP hD hS hA [2] [0, 1, 3, 4, 5] rfl rfl (by decide) (by decide) (fun r_10 uu H locs hw hP hD hS => ?_)
  try dsimp only at hw
  have hP : va_P D vwCl [(x0, .inr (3, [.ref xr, .ref xs, .ref n0, .ref b0])), (n0, .inr (2, [.ref nc, .ref np, .ref nk, .int (nI (vday v)), .int (vcoal v), .int (vbar v), .int (vfine v), .int (vcrs v), .int (vcoin v), .int (vship v)])), (nc1, .inl (cI, 4, .inl (vsh v))), (nc2, .inl (cI, 4, .inl (vco v))), (nc4, .inl (cZ, 4, .inl (vfl v))), (nc, .inr (0, [.ref nc1, .ref nc2, .ref nc3, .ref nc4, .int (nI (vnC v))]))] _ := hP
  have hD : va_D A [(x0, .inr (3, [.ref xr, .ref xs, .ref n0, .ref b0])), (n0, .inr (2, [.ref nc, .ref np, .ref nk, .int (nI (vday v)), .int (vcoal v), .int (vbar v), .int (vfine v), .int (vcrs v), .int (vcoin v), .int (vship v)])), (nc1, .inl (cI, 4, .inl (vsh v))), (nc2, .inl (cI, 4, .inl (vco v))), (nc4, .inl (cZ, 4, .inl (vfl v))), (nc, .inr (0, [.ref nc1, .ref nc2, .ref nc3, .ref nc4, .int (nI (vnC v))]))] := hD
  rcases hw with ⟨rfl, b_1⟩ | ⟨rfl, b_1⟩
  · skip
    obtain ⟨j_10, hj_10, rfl⟩ := b_1
    have ht_10 := hasT (n := (vnC v)) (by omega) hj_10
    have ix_10 : ix (nI j_10) = j_10 := ix_nI (by omega)
    have hP : va_P D vwCl [(x0, .inr (3, [.ref xr, .ref xs, .ref n0, .ref b0])), (n0, .inr (2, [.ref nc, .ref np, .ref nk, .int (nI (vday v)), .int (vcoal v), .int (vbar v), .int (vfine v), .int (vcrs v), .int (vcoin v), .int (vship v)])), (nc1, .inl (cI, 4, .inl (vsh v))), (nc2, .inl (cI, 4, .inl (vco v))), (nc4, .inl (cZ, 4, .inl (vfl v))), (nc, .inr (0, [.ref nc1, .ref nc2, .ref nc3, .ref nc4, .int (nI (vnC v))]))] _ := hP
    have hD : va_D A [(x0, .inr (3, [.ref xr, .ref xs, .ref n0, .ref b0])), (n0, .inr (2, [.ref nc, .ref np, .ref nk, .int (nI (vday v)), .int (vcoal v), .int (vbar v), .int (vfine v), .int (vcrs v), .int (vcoin v), .int (vship v)])), (nc1, .inl (cI, 4, .inl (vsh v))), (nc2, .inl (cI, 4, .inl (vco v))), (nc4, .inl (cZ, 4, .inl (vfl v))), (nc, .inr (0, [.ref nc1, .ref nc2, .ref nc3, .ref nc4, .int (nI (vnC v))]))] := hD
    have hl : lv_has ls 4 [(3, .ref nc), (0, .ref x0), (1, .int (nI j_10)), (2, .int y2)] := hl
    refine lv_if_ne (tgt := 26) hx hb dX3_light_13 (by decide) (fun _ => ?_) (fun h => absurd h (by decide))
    refine lv_iload_n hx hb dX3_light_26 rfl (lv_at hl 3 rfl) ?_
    refine lv_iconst (v := 1) hx hb dX3_light_27 (by decide) ?_
    refine lv_bipush (v := 60) hx hb dX3_light_28 (by decide) ?_
    refine k_i (wr := [(x0, .inr (3, [.ref xr, .ref xs, .ref n0, .ref b0])), (n0, .inr (2, [.ref nc, .ref np, .ref nk, .int (nI (vday v)), .int (vcoal v), .int (vbar v), .int (vfine v), .int (vcrs v), .int (vcoin v), .int (vship v)])), (nc1, .inl (cI, 4, .inl (vsh v))), (nc2, .inl (cI, 4, .inl (vco v))), (nc4, .inl (cZ, 4, .inl (vfl v))), (nc, .inr (0, [.ref nc1, .ref nc2, .ref nc3, .ref nc4, .int (nI (vnC v))]))]) (rS (As := [.int y2, .int 1, .int 60]) (rest := []) F hG hK (hP.sub (ws' := []) [] rfl) ((hD.sub (ws' := []) [] (by decide) rfl).weaken (fun _ _ _ _ => trivial)) s_RX3_26 (c_X3_within l D cI cZ cJ y2 1 60 _) rfl hl.1 rfl (Nat.le_of_ble_eq_true rfl) dX3_light_30 ⟨(Nat.le_of_ble_eq_true rfl), (Nat.le_of_ble_eq_true rfl)⟩ ⟨(Nat.le_of_ble_eq_true rfl), (Nat.le_of_ble_eq_true rfl)⟩) hP hD hS hA [] [0, 1, 2, 3, 4, 5] rfl rfl (by decide) (by decide) (fun r_30 uu H locs hw hP hD hS => ?_)
    try dsimp only at hw
    have hP : va_P D vwCl [(x0, .inr (3, [.ref xr, .ref xs, .ref n0, .ref b0])), (n0, .inr (2, [.ref nc, .ref np, .ref nk, .int (nI (vday v)), .int (vcoal v), .int (vbar v), .int (vfine v), .int (vcrs v), .int (vcoin v), .int (vship v)])), (nc1, .inl (cI, 4, .inl (vsh v))), (nc2, .inl (cI, 4, .inl (vco v))), (nc4, .inl (cZ, 4, .inl (vfl v))), (nc, .inr (0, [.ref nc1, .ref nc2, .ref nc3, .ref nc4, .int (nI (vnC v))]))] _ := hP
    have hD : va_D A [(x0, .inr (3, [.ref xr, .ref xs, .ref n0, .ref b0])), (n0, .inr (2, [.ref nc, .ref np, .ref nk, .int (nI (vday v)), .int (vcoal v), .int (vbar v), .int (vfine v), .int (vcrs v), .int (vcoin v), .int (vship v)])), (nc1, .inl (cI, 4, .inl (vsh v))), (nc2, .inl (cI, 4, .inl (vco v))), (nc4, .inl (cZ, 4, .inl (vfl v))), (nc, .inr (0, [.ref nc1, .ref nc2, .ref nc3, .ref nc4, .int (nI (vnC v))]))] := hD
    rcases hw with ⟨rfl, b_2⟩ | ⟨rfl, b_2⟩
    · skip
      refine lv_if_ne (tgt := 46) hx hb dX3_light_33 (by decide) (fun _ => ?_) (fun h => absurd h (by decide))
      refine lv_aload_n hx hb dX3_light_46 rfl (lv_at hl 1 rfl) ?_
      refine va_get (D := D) (ci := 3) (v := .ref n0) (C := RX3) (T := TX3) (N := 4) hx hb ht inG_X3 hown hK hP 0 rfl rfl 2 (by decide) (ht _ qF_RX3_19) (fun _ h9 => h9) rfl dX3_light_47 ?_
      refine va_get (D := D) (ci := 2) (v := .int (vcoal v)) (C := RX2) (T := TX2) (N := 10) hx hb ht inG_X2 hown hK hP 1 rfl rfl 4 (by decide) (ht _ qF_RX3_42) (fun _ h9 => h9) rfl dX3_light_50 ?_
      refine lv_iload_n hx hb dX3_light_53 rfl (lv_at hl 3 rfl) ?_
      refine lv_icmp_lt (tgt := 66) hx hb dX3_light_54 (by decide) (fun c_3 => ?_) (fun c_3 => ?_)
      · skip
        have c_3n := Int32.not_le.mpr c_3
        exact hthr _ _ _ _ _ 95 _ "there is not so much coal, or the clamp has no shale" _ thr_IS (by decide +kernel) dX3_light_66 dX3_light_69 dX3_light_70 dX3_light_72 dX3_light_75 (Or.inr (Or.inr (⟨rfl, by simp only [kLight, eq_true ht_10, ix_10, eq_true b_2, eq_true c_3, eq_false c_3n, if_true, if_false]⟩))) (hP.sub [0, 1, 5, 2, 3, 4] rfl) hS hl.1
      · skip
        have c_3n := Int32.not_lt.mp c_3
        refine lv_aload_n hx hb dX3_light_57 rfl (lv_at hl 0 rfl) ?_
        refine va_get (D := D) (ci := 0) (v := .ref nc1) (C := RX0) (T := TX0) (N := 5) hx hb ht inG_X0 hown hK hP 5 rfl rfl 0 (by decide) (ht _ qF_RX3_92) (fun _ h9 => h9) rfl dX3_light_58 ?_
        refine lv_iload_n hx hb dX3_light_61 rfl (lv_at hl 2 rfl) ?_
        refine aI hx hb hK hP 2 0 rfl rfl j_10 (rfl) (by omega) (by decide) (v := (vsh v) j_10) (rfl) dX3_light_62 ?_
        refine lv_if_ne (tgt := 76) hx hb dX3_light_63 (by decide) (fun c_4 => ?_) (fun c_4 => ?_)
        · skip
          refine lv_aload_n hx hb dX3_light_76 rfl (lv_at hl 1 rfl) ?_
          refine va_get (D := D) (ci := 3) (v := .ref n0) (C := RX3) (T := TX3) (N := 4) hx hb ht inG_X3 hown hK hP 0 rfl rfl 2 (by decide) (ht _ qF_RX3_19) (fun _ h9 => h9) rfl dX3_light_77 ?_
          refine lv_dup hx hb dX3_light_80 rfl ?_
          refine va_get (D := D) (ci := 2) (v := .int (vcoal v)) (C := RX2) (T := TX2) (N := 10) hx hb ht inG_X2 hown hK hP 1 rfl rfl 4 (by decide) (ht _ qF_RX3_42) (fun _ h9 => h9) rfl dX3_light_81 ?_
          refine lv_iload_n hx hb dX3_light_84 rfl (lv_at hl 3 rfl) ?_
          refine lv_isub hx hb dX3_light_85 ?_
          refine va_put (D := D) (ci := 2) (v := .int ((vcoal v) - y2)) (C := RX2) (T := TX2) (N := 10) hx hb ht inG_X2 tyX2 tyX2_ok nmX2 hown hK hP hD hS 1 rfl rfl 4 (by decide) (ht _ qF_RX3_42) (fun _ h9 => h9) rfl (tyX2_ok 4 (by decide)) rfl rfl (Nat.le_of_ble_eq_true rfl) dX3_light_86 (fun H locs hP hD hS => ?_)
          have hP : va_P D vwCl [(x0, .inr (3, [.ref xr, .ref xs, .ref n0, .ref b0])), (n0, .inr (2, [.ref nc, .ref np, .ref nk, .int (nI (vday v)), .int ((vcoal v) - y2), .int (vbar v), .int (vfine v), .int (vcrs v), .int (vcoin v), .int (vship v)])), (nc1, .inl (cI, 4, .inl (vsh v))), (nc2, .inl (cI, 4, .inl (vco v))), (nc4, .inl (cZ, 4, .inl (vfl v))), (nc, .inr (0, [.ref nc1, .ref nc2, .ref nc3, .ref nc4, .int (nI (vnC v))]))] _ := hP
          have hD : va_D A [(x0, .inr (3, [.ref xr, .ref xs, .ref n0, .ref b0])), (n0, .inr (2, [.ref nc, .ref np, .ref nk, .int (nI (vday v)), .int ((vcoal v) - y2), .int (vbar v), .int (vfine v), .int (vcrs v), .int (vcoin v), .int (vship v)])), (nc1, .inl (cI, 4, .inl (vsh v))), (nc2, .inl (cI, 4, .inl (vco v))), (nc4, .inl (cZ, 4, .inl (vfl v))), (nc, .inr (0, [.ref nc1, .ref nc2, .ref nc3, .ref nc4, .int (nI (vnC v))]))] := hD
          refine lv_aload_n hx hb dX3_light_89 rfl (lv_at hl 0 rfl) ?_
          refine va_get (D := D) (ci := 0) (v := .ref nc2) (C := RX0) (T := TX0) (N := 5) hx hb ht inG_X0 hown hK hP 5 rfl rfl 1 (by decide) (ht _ qF_RX3_97) (fun _ h9 => h9) rfl dX3_light_90 ?_
          refine lv_iload_n hx hb dX3_light_93 rfl (lv_at hl 2 rfl) ?_
          refine lv_bipush (v := 60) hx hb dX3_light_94 (by decide) ?_
          refine lv_aload_n hx hb dX3_light_96 rfl (lv_at hl 0 rfl) ?_
          refine va_get (D := D) (ci := 0) (v := .ref nc2) (C := RX0) (T := TX0) (N := 5) hx hb ht inG_X0 hown hK hP 5 rfl rfl 1 (by decide) (ht _ qF_RX3_97) (fun _ h9 => h9) rfl dX3_light_97 ?_
          refine lv_iload_n hx hb dX3_light_100 rfl (lv_at hl 2 rfl) ?_
          refine aI hx hb hK hP 3 0 rfl rfl j_10 (rfl) (by omega) (by decide) (v := (vco v) j_10) (rfl) dX3_light_101 ?_
          refine lv_iload_n hx hb dX3_light_102 rfl (lv_at hl 3 rfl) ?_
          refine lv_iadd hx hb dX3_light_103 ?_
          refine k_min F qM_RX3_46 hl.1 (Nat.le_of_ble_eq_true rfl) (Nat.le_of_ble_eq_true rfl) (Nat.le_of_ble_eq_true rfl) (Nat.le_of_ble_eq_true rfl) dX3_light_104 ?_
          refine sI_ hx hb hK hP hD hS 3 0 rfl rfl j_10 (rfl) (by omega) (by decide) (upd (vco v) j_10 (mn 60 (((vco v) j_10) + y2))) (rfl) dX3_light_107 (fun H locs hP hD hS => ?_)
          have hP : va_P D vwCl [(x0, .inr (3, [.ref xr, .ref xs, .ref n0, .ref b0])), (n0, .inr (2, [.ref nc, .ref np, .ref nk, .int (nI (vday v)), .int ((vcoal v) - y2), .int (vbar v), .int (vfine v), .int (vcrs v), .int (vcoin v), .int (vship v)])), (nc1, .inl (cI, 4, .inl (vsh v))), (nc2, .inl (cI, 4, .inl (upd (vco v) j_10 (mn 60 (((vco v) j_10) + y2))))), (nc4, .inl (cZ, 4, .inl (vfl v))), (nc, .inr (0, [.ref nc1, .ref nc2, .ref nc3, .ref nc4, .int (nI (vnC v))]))] _ := hP
          have hD : va_D A [(x0, .inr (3, [.ref xr, .ref xs, .ref n0, .ref b0])), (n0, .inr (2, [.ref nc, .ref np, .ref nk, .int (nI (vday v)), .int ((vcoal v) - y2), .int (vbar v), .int (vfine v), .int (vcrs v), .int (vcoin v), .int (vship v)])), (nc1, .inl (cI, 4, .inl (vsh v))), (nc2, .inl (cI, 4, .inl (upd (vco v) j_10 (mn 60 (((vco v) j_10) + y2))))), (nc4, .inl (cZ, 4, .inl (vfl v))), (nc, .inr (0, [.ref nc1, .ref nc2, .ref nc3, .ref nc4, .int (nI (vnC v))]))] := hD
          refine lv_aload_n hx hb dX3_light_108 rfl (lv_at hl 0 rfl) ?_
          refine va_get (D := D) (ci := 0) (v := .ref nc4) (C := RX0) (T := TX0) (N := 5) hx hb ht inG_X0 hown hK hP 5 rfl rfl 3 (by decide) (ht _ qF_RX3_99) (fun _ h9 => h9) rfl dX3_light_109 ?_
          refine lv_iload_n hx hb dX3_light_112 rfl (lv_at hl 2 rfl) ?_
          refine lv_iconst (v := 1) hx hb dX3_light_113 (by decide) ?_
          refine sZ_ hx hb hK hP hD hS 4 1 rfl rfl j_10 (rfl) (by omega) (by decide) (by decide) (upd (vfl v) j_10 1) (rfl) dX3_light_114 (fun H locs hP hD hS => ?_)
          have hP : va_P D vwCl [(x0, .inr (3, [.ref xr, .ref xs, .ref n0, .ref b0])), (n0, .inr (2, [.ref nc, .ref np, .ref nk, .int (nI (vday v)), .int ((vcoal v) - y2), .int (vbar v), .int (vfine v), .int (vcrs v), .int (vcoin v), .int (vship v)])), (nc1, .inl (cI, 4, .inl (vsh v))), (nc2, .inl (cI, 4, .inl (upd (vco v) j_10 (mn 60 (((vco v) j_10) + y2))))), (nc4, .inl (cZ, 4, .inl (upd (vfl v) j_10 1))), (nc, .inr (0, [.ref nc1, .ref nc2, .ref nc3, .ref nc4, .int (nI (vnC v))]))] _ := hP
          have hD : va_D A [(x0, .inr (3, [.ref xr, .ref xs, .ref n0, .ref b0])), (n0, .inr (2, [.ref nc, .ref np, .ref nk, .int (nI (vday v)), .int ((vcoal v) - y2), .int (vbar v), .int (vfine v), .int (vcrs v), .int (vcoin v), .int (vship v)])), (nc1, .inl (cI, 4, .inl (vsh v))), (nc2, .inl (cI, 4, .inl (upd (vco v) j_10 (mn 60 (((vco v) j_10) + y2))))), (nc4, .inl (cZ, 4, .inl (upd (vfl v) j_10 1))), (nc, .inr (0, [.ref nc1, .ref nc2, .ref nc3, .ref nc4, .int (nI (vnC v))]))] := hD
          refine lv_aload_n hx hb dX3_light_115 rfl (lv_at hl 0 rfl) ?_
          refine va_get (D := D) (ci := 0) (v := .ref nc2) (C := RX0) (T := TX0) (N := 5) hx hb ht inG_X0 hown hK hP 5 rfl rfl 1 (by decide) (ht _ qF_RX3_97) (fun _ h9 => h9) rfl dX3_light_116 ?_
          refine lv_iload_n hx hb dX3_light_119 rfl (lv_at hl 2 rfl) ?_
          refine aI hx hb hK hP 3 0 rfl rfl j_10 (rfl) (by omega) (by decide) (v := mn 60 (((vco v) j_10) + y2)) (pk_us) dX3_light_120 ?_
          exact hend _ _ _ _ _ _ (mn 60 (((vco v) j_10) + y2)) (mkV (vsh v) (upd (vco v) j_10 (mn 60 (((vco v) j_10) + y2))) (vbu v) (upd (vfl v) j_10 1) (vnC v) (vpw v) (vpa v) (vpb v) (vnP v) (vkw v) (vka v) (vkb v) (vnK v) (vday v) ((vcoal v) - y2) (vbar v) (vfine v) (vcrs v) (vcoin v) (vship v) (vR v) (vS v)) dX3_light_121 (⟨by simp only [kLight, eq_true ht_10, ix_10, eq_true b_2, eq_false c_3, eq_true c_3n, eq_false c_4, if_true, if_false, eq_self], by simp only [rLight, eq_true ht_10, ix_10, eq_true b_2, eq_false c_3, eq_true c_3n, eq_false c_4, if_true, if_false], by simp only [nLight, kLight, eq_true ht_10, ix_10, eq_true b_2, eq_false c_3, eq_true c_3n, eq_false c_4, if_true, if_false, eq_self]⟩) (hP.sub [0, 1, 5, 2, 3, 4] rfl) (hD.sub [0, 1, 5, 2, 3, 4] (by decide) rfl) hS rfl (Nat.le_of_ble_eq_true rfl) (Nat.le_of_ble_eq_true rfl)
        · skip
          exact hthr _ _ _ _ _ 95 _ "there is not so much coal, or the clamp has no shale" _ thr_IS (by decide +kernel) dX3_light_66 dX3_light_69 dX3_light_70 dX3_light_72 dX3_light_75 (Or.inr (Or.inr (⟨rfl, by simp only [kLight, eq_true ht_10, ix_10, eq_true b_2, eq_false c_3, eq_true c_3n, eq_true c_4, if_true, if_false]⟩))) (hP.sub [0, 1, 5, 2, 3, 4] rfl) hS hl.1
    · skip
      refine lv_if_ne (tgt := 46) hx hb dX3_light_33 (by decide) (fun h => absurd (by decide) h) (fun _ => ?_)
      exact hthr _ _ _ _ _ 90 _ "coal is not 1 to 60" _ thr_IA (by decide +kernel) dX3_light_36 dX3_light_39 dX3_light_40 dX3_light_42 dX3_light_45 (Or.inr (Or.inl ⟨rfl, by simp only [kLight, eq_true ht_10, ix_10, eq_false b_2, if_true, if_false]⟩)) (hP.sub [0, 1, 5, 2, 3, 4] rfl) hS hl.1
  · skip
    refine lv_if_ne (tgt := 26) hx hb dX3_light_13 (by decide) (fun h => absurd (by decide) h) (fun _ => ?_)
    exact hthr _ _ _ _ _ 88 _ "there is no such clamp" _ thr_IO (by decide +kernel) dX3_light_16 dX3_light_19 dX3_light_20 dX3_light_22 dX3_light_25 (Or.inl ⟨rfl, by simp only [kLight, eq_false b_1, if_true, if_false]⟩) (hP.sub [0, 1, 5, 2, 3, 4] rfl) hS hl.1

def rm_X3_dig : Room := { frames := 6, cells := 1, slots := 6, locals := 90 }
set_option maxHeartbeats 4000000 in
set_option maxRecDepth 100000 in
theorem c_X3_dig (l : Launch) (D : va_G) (cI cZ cJ : ClassId) (x0 xr xs n0 b0 : Nat) (nc np nk np1 np2 np3 : Nat) (v : VT) (y1 : Int32) (hI : IS v) (hst : l.stackTraces = false) : Xi l yX3_dig cX3_dig 2 (some .int) rm_X3_dig D (TY cI cZ cJ) [.ref x0, .int y1] [(x0, .inr (3, [.ref xr, .ref xs, .ref n0, .ref b0])), (n0, .inr (2, [.ref nc, .ref np, .ref nk, .int (nI (vday v)), .int (vcoal v), .int (vbar v), .int (vfine v), .int (vcrs v), .int (vcoin v), .int (vship v)])), (np, .inr (1, [.ref np1, .ref np2, .ref np3, .int (nI 4), .int (nI (vnP v))])), (np1, .inl (cI, 4, .inl (vpw v)))] (fun (r : Int32) (u : VT) => kDig v y1 = 0 ∧ r = rDig v y1 ∧ u = nDig v y1) (fun (u : VT) => [(x0, .inr (3, [.ref xr, .ref xs, .ref n0, .ref b0])), (n0, .inr (2, [.ref nc, .ref np, .ref nk, .int (nI (vday u)), .int (vcoal u), .int (vbar u), .int (vfine u), .int (vcrs u), .int (vcoin u), .int (vship u)])), (np, .inr (1, [.ref np1, .ref np2, .ref np3, .int (nI 4), .int (nI (vnP u))])), (np1, .inl (cI, 4, .inl (vpw u)))]) (fun (E : String) => (E = iIA ∧ kDig v y1 = 1) ∨ (E = iIS ∧ kDig v y1 = 2)) := by
  refine Xi.of (by decide) rfl (Nat.le_of_ble_eq_true rfl) hst ⟨by decide, by decide, by decide, by decide⟩ ?_
  intro p e s m args below meth c A ls Q hF hK hP hD hA hl hend hthr
  obtain ⟨F, hr, hlocks, hG⟩ := hF
  have hx := F.1
  have hb := F.2.1
  have hown := F.2.2.2.1
  have ht := F.2.2.2.2
  have hS : va_S A s.heap s.heap [] := va_S.rf
  have hl : lv_has ls 2 [(0, .ref x0), (1, .int y1)] := hl
  obtain ⟨hC4, hP4, hK3, hAH, hf1, hf2, hf3, hdy⟩ := hI
  refine lv_iload_n hx hb dX3_dig_0 rfl (lv_at hl 1 rfl) ?_
  refine lv_iconst (v := 0) hx hb dX3_dig_1 (by decide) ?_
  refine lv_sipush (v := 400) hx hb dX3_dig_2 (by decide) ?_
  refine k_i (wr := [(x0, .inr (3, [.ref xr, .ref xs, .ref n0, .ref b0])), (n0, .inr (2, [.ref nc, .ref np, .ref nk, .int (nI (vday v)), .int (vcoal v), .int (vbar v), .int (vfine v), .int (vcrs v), .int (vcoin v), .int (vship v)])), (np, .inr (1, [.ref np1, .ref np2, .ref np3, .int (nI 4), .int (nI (vnP v))])), (np1, .inl (cI, 4, .inl (vpw v)))]) (rS (As := [.int y1, .int 0, .int 400]) (rest := []) F hG hK (hP.sub (ws' := []) [] rfl) ((hD.sub (ws' := []) [] (by decide) rfl).weaken (fun _ _ _ _ => trivial)) s_RX3_26 (c_X3_within l D cI cZ cJ y1 0 400 _) rfl hl.1 rfl (Nat.le_of_ble_eq_true rfl) dX3_dig_5 ⟨(Nat.le_of_ble_eq_true rfl), (Nat.le_of_ble_eq_true rfl)⟩ ⟨(Nat.le_of_ble_eq_true rfl), (Nat.le_of_ble_eq_true rfl)⟩) hP hD hS hA [] [0, 1, 2, 3] rfl rfl (by decide) (by decide) (fun r_5 uu H locs hw hP hD hS => ?_)
  try dsimp only at hw
  have hP : va_P D vwCl [(x0, .inr (3, [.ref xr, .ref xs, .ref n0, .ref b0])), (n0, .inr (2, [.ref nc, .ref np, .ref nk, .int (nI (vday v)), .int (vcoal v), .int (vbar v), .int (vfine v), .int (vcrs v), .int (vcoin v), .int (vship v)])), (np, .inr (1, [.ref np1, .ref np2, .ref np3, .int (nI 4), .int (nI (vnP v))])), (np1, .inl (cI, 4, .inl (vpw v)))] _ := hP
  have hD : va_D A [(x0, .inr (3, [.ref xr, .ref xs, .ref n0, .ref b0])), (n0, .inr (2, [.ref nc, .ref np, .ref nk, .int (nI (vday v)), .int (vcoal v), .int (vbar v), .int (vfine v), .int (vcrs v), .int (vcoin v), .int (vship v)])), (np, .inr (1, [.ref np1, .ref np2, .ref np3, .int (nI 4), .int (nI (vnP v))])), (np1, .inl (cI, 4, .inl (vpw v)))] := hD
  rcases hw with ⟨rfl, b_1⟩ | ⟨rfl, b_1⟩
  · skip
    refine lv_if_ne (tgt := 21) hx hb dX3_dig_8 (by decide) (fun _ => ?_) (fun h => absurd h (by decide))
    refine lv_aload_n hx hb dX3_dig_21 rfl (lv_at hl 0 rfl) ?_
    refine va_get (D := D) (ci := 3) (v := .ref n0) (C := RX3) (T := TX3) (N := 4) hx hb ht inG_X3 hown hK hP 0 rfl rfl 2 (by decide) (ht _ qF_RX3_19) (fun _ h9 => h9) rfl dX3_dig_22 ?_
    refine va_get (D := D) (ci := 2) (v := .ref np) (C := RX2) (T := TX2) (N := 10) hx hb ht inG_X2 hown hK hP 1 rfl rfl 1 (by decide) (ht _ qF_RX3_105) (fun _ h9 => h9) rfl dX3_dig_25 ?_
    refine k_i (wr := [(x0, .inr (3, [.ref xr, .ref xs, .ref n0, .ref b0])), (n0, .inr (2, [.ref nc, .ref np, .ref nk, .int (nI (vday v)), .int (vcoal v), .int (vbar v), .int (vfine v), .int (vcrs v), .int (vcoin v), .int (vship v)])), (np1, .inl (cI, 4, .inl (vpw v)))]) (rV (As := []) (rest := []) F hG hK (hP.sub (ws' := [(np, .inr (1, [.ref np1, .ref np2, .ref np3, .int (nI 4), .int (nI (vnP v))]))]) [2] rfl) ((hD.sub (ws' := [(np, .inr (1, [.ref np1, .ref np2, .ref np3, .int (nI 4), .int (nI (vnP v))]))]) [2] (by decide) rfl).weaken (fun _ _ _ _ => trivial)) s_RX3_109 (c_X1_full l D cI cZ cJ np np1 np2 np3 4 (vnP v) (by first | assumption | omega) (by first | assumption | omega) _) 1 0 rfl rfl rfl rfl hl.1 rfl (Nat.le_of_ble_eq_true rfl) dX3_dig_28 ⟨(Nat.le_of_ble_eq_true rfl), (Nat.le_of_ble_eq_true rfl)⟩ ⟨(Nat.le_of_ble_eq_true rfl), (Nat.le_of_ble_eq_true rfl)⟩) hP hD hS hA [2] [0, 1, 3] rfl rfl (by decide) (by decide) (fun r_28 uu H locs hw hP hD hS => ?_)
    try dsimp only at hw
    have hP : va_P D vwCl [(x0, .inr (3, [.ref xr, .ref xs, .ref n0, .ref b0])), (n0, .inr (2, [.ref nc, .ref np, .ref nk, .int (nI (vday v)), .int (vcoal v), .int (vbar v), .int (vfine v), .int (vcrs v), .int (vcoin v), .int (vship v)])), (np1, .inl (cI, 4, .inl (vpw v))), (np, .inr (1, [.ref np1, .ref np2, .ref np3, .int (nI 4), .int (nI (vnP v))]))] _ := hP
    have hD : va_D A [(x0, .inr (3, [.ref xr, .ref xs, .ref n0, .ref b0])), (n0, .inr (2, [.ref nc, .ref np, .ref nk, .int (nI (vday v)), .int (vcoal v), .int (vbar v), .int (vfine v), .int (vcrs v), .int (vcoin v), .int (vship v)])), (np1, .inl (cI, 4, .inl (vpw v))), (np, .inr (1, [.ref np1, .ref np2, .ref np3, .int (nI 4), .int (nI (vnP v))]))] := hD
    rcases hw with ⟨rfl, b_2⟩ | ⟨rfl, b_2⟩
    · skip
      refine lv_if_eq (tgt := 44) hx hb dX3_dig_31 (by decide) (fun h => absurd h (by decide)) (fun _ => ?_)
      exact hthr _ _ _ _ _ 112 _ "there are 4 pits" _ thr_IS (by decide +kernel) dX3_dig_34 dX3_dig_37 dX3_dig_38 dX3_dig_40 dX3_dig_43 (Or.inr (⟨rfl, by simp only [kDig, eq_true b_1, eq_true b_2, if_true, if_false]⟩)) (hP.sub [0, 1, 3, 2] rfl) hS hl.1
    · skip
      have b_2n := Nat.not_le.mpr b_2
      refine lv_if_eq (tgt := 44) hx hb dX3_dig_31 (by decide) (fun _ => ?_) (fun h => absurd (by decide) h)
      refine lv_aload_n hx hb dX3_dig_44 rfl (lv_at hl 0 rfl) ?_
      refine va_get (D := D) (ci := 3) (v := .ref n0) (C := RX3) (T := TX3) (N := 4) hx hb ht inG_X3 hown hK hP 0 rfl rfl 2 (by decide) (ht _ qF_RX3_19) (fun _ h9 => h9) rfl dX3_dig_45 ?_
      refine va_get (D := D) (ci := 2) (v := .ref np) (C := RX2) (T := TX2) (N := 10) hx hb ht inG_X2 hown hK hP 1 rfl rfl 1 (by decide) (ht _ qF_RX3_105) (fun _ h9 => h9) rfl dX3_dig_48 ?_
      refine lv_iload_n hx hb dX3_dig_51 rfl (lv_at hl 1 rfl) ?_
      refine k_i (wr := [(x0, .inr (3, [.ref xr, .ref xs, .ref n0, .ref b0])), (n0, .inr (2, [.ref nc, .ref np, .ref nk, .int (nI (vday v)), .int (vcoal v), .int (vbar v), .int (vfine v), .int (vcrs v), .int (vcoin v), .int (vship v)]))]) (rV (As := [.int y1]) (rest := []) F hG hK (hP.sub (ws' := [(np, .inr (1, [.ref np1, .ref np2, .ref np3, .int (nI 4), .int (nI (vnP v))])), (np1, .inl (cI, 4, .inl (vpw v)))]) [3, 2] rfl) ((hD.sub (ws' := [(np, .inr (1, [.ref np1, .ref np2, .ref np3, .int (nI 4), .int (nI (vnP v))])), (np1, .inl (cI, 4, .inl (vpw v)))]) [3, 2] (by decide) rfl).weaken (fun _ _ _ _ => trivial)) s_RX3_114 (c_X1_add l D cI cZ cJ np np1 np2 np3 4 (vpw v) (vnP v) y1 (by first | assumption | omega) _) 1 0 rfl rfl rfl rfl hl.1 rfl (Nat.le_of_ble_eq_true rfl) dX3_dig_52 ⟨(Nat.le_of_ble_eq_true rfl), (Nat.le_of_ble_eq_true rfl)⟩ ⟨(Nat.le_of_ble_eq_true rfl), (Nat.le_of_ble_eq_true rfl)⟩) hP hD hS hA [3, 2] [0, 1] rfl rfl (by decide) (by decide) (fun r_52 uu H locs hw hP hD hS => ?_)
      obtain ⟨wa1_52, rfl⟩ : ∃ z, z = uu := ⟨_, rfl⟩
      try dsimp only at hw
      obtain ⟨rfl, rfl⟩ := hw
      have hP : va_P D vwCl [(x0, .inr (3, [.ref xr, .ref xs, .ref n0, .ref b0])), (n0, .inr (2, [.ref nc, .ref np, .ref nk, .int (nI (vday v)), .int (vcoal v), .int (vbar v), .int (vfine v), .int (vcrs v), .int (vcoin v), .int (vship v)])), (np, .inr (1, [.ref np1, .ref np2, .ref np3, .int (nI 4), .int (nI ((vnP v) + 1))])), (np1, .inl (cI, 4, .inl (upd (vpw v) (vnP v) y1)))] _ := hP
      have hD : va_D A [(x0, .inr (3, [.ref xr, .ref xs, .ref n0, .ref b0])), (n0, .inr (2, [.ref nc, .ref np, .ref nk, .int (nI (vday v)), .int (vcoal v), .int (vbar v), .int (vfine v), .int (vcrs v), .int (vcoin v), .int (vship v)])), (np, .inr (1, [.ref np1, .ref np2, .ref np3, .int (nI 4), .int (nI ((vnP v) + 1))])), (np1, .inl (cI, 4, .inl (upd (vpw v) (vnP v) y1)))] := hD
      exact hend _ _ _ _ _ _ (nI (vnP v)) (mkV (vsh v) (vco v) (vbu v) (vfl v) (vnC v) (upd (vpw v) (vnP v) y1) (vpa v) (vpb v) ((vnP v) + 1) (vkw v) (vka v) (vkb v) (vnK v) (vday v) (vcoal v) (vbar v) (vfine v) (vcrs v) (vcoin v) (vship v) (vR v) (vS v)) dX3_dig_55 (⟨by simp only [kDig, eq_true b_1, eq_false b_2n, if_true, if_false, eq_self], by simp only [rDig, eq_true b_1, eq_false b_2n, if_true, if_false], by simp only [nDig, kDig, eq_true b_1, eq_false b_2n, if_true, if_false, eq_self]⟩) hP hD hS rfl (Nat.le_of_ble_eq_true rfl) (Nat.le_of_ble_eq_true rfl)
  · skip
    refine lv_if_ne (tgt := 21) hx hb dX3_dig_8 (by decide) (fun h => absurd (by decide) h) (fun _ => ?_)
    exact hthr _ _ _ _ _ 103 _ "water is not 0 to 400" _ thr_IA (by decide +kernel) dX3_dig_11 dX3_dig_14 dX3_dig_15 dX3_dig_17 dX3_dig_20 (Or.inl ⟨rfl, by simp only [kDig, eq_false b_1, if_true, if_false]⟩) (hP.sub [0, 1, 2, 3] rfl) hS hl.1

def rm_X3_steep : Room := { frames := 6, cells := 1, slots := 6, locals := 90 }
set_option maxHeartbeats 4000000 in
set_option maxRecDepth 100000 in
theorem c_X3_steep (l : Launch) (D : va_G) (cI cZ cJ : ClassId) (x0 xr xs n0 b0 : Nat) (nc np nk nc1 nc2 nc3 nc4 np1 np2 np3 : Nat) (v : VT) (y1 y2 : Int32) (hI : IS v) (hst : l.stackTraces = false) : Xi l yX3_steep cX3_steep 5 (some .int) rm_X3_steep D (TY cI cZ cJ) [.ref x0, .int y1, .int y2] [(x0, .inr (3, [.ref xr, .ref xs, .ref n0, .ref b0])), (n0, .inr (2, [.ref nc, .ref np, .ref nk, .int (nI (vday v)), .int (vcoal v), .int (vbar v), .int (vfine v), .int (vcrs v), .int (vcoin v), .int (vship v)])), (nc, .inr (0, [.ref nc1, .ref nc2, .ref nc3, .ref nc4, .int (nI (vnC v))])), (nc3, .inl (cI, 4, .inl (vbu v))), (nc4, .inl (cZ, 4, .inl (vfl v))), (np, .inr (1, [.ref np1, .ref np2, .ref np3, .int (nI 4), .int (nI (vnP v))])), (np1, .inl (cI, 4, .inl (vpw v))), (np2, .inl (cI, 4, .inl (vpa v)))] (fun (r : Int32) (u : VT) => kSteep v y1 y2 = 0 ∧ r = rSteep v y1 y2 ∧ u = nSteep v y1 y2) (fun (u : VT) => [(x0, .inr (3, [.ref xr, .ref xs, .ref n0, .ref b0])), (n0, .inr (2, [.ref nc, .ref np, .ref nk, .int (nI (vday u)), .int (vcoal u), .int (vbar u), .int (vfine u), .int (vcrs u), .int (vcoin u), .int (vship u)])), (nc, .inr (0, [.ref nc1, .ref nc2, .ref nc3, .ref nc4, .int (nI (vnC u))])), (nc3, .inl (cI, 4, .inl (vbu u))), (nc4, .inl (cZ, 4, .inl (vfl u))), (np, .inr (1, [.ref np1, .ref np2, .ref np3, .int (nI 4), .int (nI (vnP u))])), (np1, .inl (cI, 4, .inl (vpw u))), (np2, .inl (cI, 4, .inl (vpa u)))]) (fun (E : String) => (E = iIO ∧ kSteep v y1 y2 = 1) ∨ (E = iIS ∧ kSteep v y1 y2 = 2)) := by
  refine Xi.of (by decide) rfl (Nat.le_of_ble_eq_true rfl) hst ⟨by decide, by decide, by decide, by decide⟩ ?_
  intro p e s m args below meth c A ls Q hF hK hP hD hA hl hend hthr
  obtain ⟨F, hr, hlocks, hG⟩ := hF
  have hx := F.1
  have hb := F.2.1
  have hown := F.2.2.2.1
  have ht := F.2.2.2.2
  have hS : va_S A s.heap s.heap [] := va_S.rf
  have hl : lv_has ls 5 [(0, .ref x0), (1, .int y1), (2, .int y2)] := hl
  obtain ⟨hC4, hP4, hK3, hAH, hf1, hf2, hf3, hdy⟩ := hI
  refine lv_aload_n hx hb dX3_steep_0 rfl (lv_at hl 0 rfl) ?_
  refine va_get (D := D) (ci := 3) (v := .ref n0) (C := RX3) (T := TX3) (N := 4) hx hb ht inG_X3 hown hK hP 0 rfl rfl 2 (by decide) (ht _ qF_RX3_19) (fun _ h9 => h9) rfl dX3_steep_1 ?_
  refine va_get (D := D) (ci := 2) (v := .ref nc) (C := RX2) (T := TX2) (N := 10) hx hb ht inG_X2 hown hK hP 1 rfl rfl 0 (by decide) (ht _ qF_RX3_65) (fun _ h9 => h9) rfl dX3_steep_4 ?_
  refine lv_astore_n (lv' := [(3, .ref nc), (0, .ref x0), (1, .int y1), (2, .int y2)]) hx hb dX3_steep_7 rfl hl (by decide) rfl (fun ls hl => ?_)
  refine lv_aload_n hx hb dX3_steep_8 rfl (lv_at hl 1 rfl) ?_
  refine va_get (D := D) (ci := 3) (v := .ref n0) (C := RX3) (T := TX3) (N := 4) hx hb ht inG_X3 hown hK hP 0 rfl rfl 2 (by decide) (ht _ qF_RX3_19) (fun _ h9 => h9) rfl dX3_steep_9 ?_
  refine va_get (D := D) (ci := 2) (v := .ref np) (C := RX2) (T := TX2) (N := 10) hx hb ht inG_X2 hown hK hP 1 rfl rfl 1 (by decide) (ht _ qF_RX3_105) (fun _ h9 => h9) rfl dX3_steep_12 ?_
  refine lv_astore (lv' := [(4, .ref np), (3, .ref nc), (0, .ref x0), (1, .int y1), (2, .int y2)]) hx hb dX3_steep_15 hl (by decide) rfl (fun ls hl => ?_)
  refine lv_aload_n hx hb dX3_steep_17 rfl (lv_at hl 1 rfl) ?_
  refine lv_iload_n hx hb dX3_steep_18 rfl (lv_at hl 3 rfl) ?_
  refine k_i (wr := [(x0, .inr (3, [.ref xr, .ref xs, .ref n0, .ref b0])), (n0, .inr (2, [.ref nc, .ref np, .ref nk, .int (nI (vday v)), .int (vcoal v), .int (vbar v), .int (vfine v), .int (vcrs v), .int (vcoin v), .int (vship v)])), (nc3, .inl (cI, 4, .inl (vbu v))), (nc4, .inl (cZ, 4, .inl (vfl v))), (np, .inr (1, [.ref np1, .ref np2, .ref np3, .int (nI 4), .int (nI (vnP v))])), (np1, .inl (cI, 4, .inl (vpw v))), (np2, .inl (cI, 4, .inl (vpa v)))]) (rV (As := [.int y1]) (rest := []) F hG hK (hP.sub (ws' := [(nc, .inr (0, [.ref nc1, .ref nc2, .ref nc3, .ref nc4, .int (nI (vnC v))]))]) [2] rfl) ((hD.sub (ws' := [(nc, .inr (0, [.ref nc1, .ref nc2, .ref nc3, .ref nc4, .int (nI (vnC v))]))]) [2] (by decide) rfl).weaken (fun _ _ _ _ => trivial)) s_RX3_84 (c_X0_has l D cI cZ cJ nc nc1 nc2 nc3 nc4 (vnC v) y1 (by first | assumption | omega) _) 0 0 rfl rfl rfl rfl hl.1 rfl (Nat.le_of_ble_eq_true rfl) dX3_steep_19 ⟨(Nat.le_of_ble_eq_true rfl), (Nat.le_of_ble_eq_true rfl)⟩ ⟨(Nat.le_of_ble_eq_true rfl), (Nat.le_of_ble_eq_true rfl)⟩) hP hD hS hA [2] [0, 1, 3, 4, 5, 6, 7] rfl rfl (by decide) (by decide) (fun r_19 uu H locs hw hP hD hS => ?_)
  try dsimp only at hw
  have hP : va_P D vwCl [(x0, .inr (3, [.ref xr, .ref xs, .ref n0, .ref b0])), (n0, .inr (2, [.ref nc, .ref np, .ref nk, .int (nI (vday v)), .int (vcoal v), .int (vbar v), .int (vfine v), .int (vcrs v), .int (vcoin v), .int (vship v)])), (nc3, .inl (cI, 4, .inl (vbu v))), (nc4, .inl (cZ, 4, .inl (vfl v))), (np, .inr (1, [.ref np1, .ref np2, .ref np3, .int (nI 4), .int (nI (vnP v))])), (np1, .inl (cI, 4, .inl (vpw v))), (np2, .inl (cI, 4, .inl (vpa v))), (nc, .inr (0, [.ref nc1, .ref nc2, .ref nc3, .ref nc4, .int (nI (vnC v))]))] _ := hP
  have hD : va_D A [(x0, .inr (3, [.ref xr, .ref xs, .ref n0, .ref b0])), (n0, .inr (2, [.ref nc, .ref np, .ref nk, .int (nI (vday v)), .int (vcoal v), .int (vbar v), .int (vfine v), .int (vcrs v), .int (vcoin v), .int (vship v)])), (nc3, .inl (cI, 4, .inl (vbu v))), (nc4, .inl (cZ, 4, .inl (vfl v))), (np, .inr (1, [.ref np1, .ref np2, .ref np3, .int (nI 4), .int (nI (vnP v))])), (np1, .inl (cI, 4, .inl (vpw v))), (np2, .inl (cI, 4, .inl (vpa v))), (nc, .inr (0, [.ref nc1, .ref nc2, .ref nc3, .ref nc4, .int (nI (vnC v))]))] := hD
  rcases hw with ⟨rfl, b_1⟩ | ⟨rfl, b_1⟩
  · skip
    obtain ⟨j_19, hj_19, rfl⟩ := b_1
    have ht_19 := hasT (n := (vnC v)) (by omega) hj_19
    have ix_19 : ix (nI j_19) = j_19 := ix_nI (by omega)
    have hP : va_P D vwCl [(x0, .inr (3, [.ref xr, .ref xs, .ref n0, .ref b0])), (n0, .inr (2, [.ref nc, .ref np, .ref nk, .int (nI (vday v)), .int (vcoal v), .int (vbar v), .int (vfine v), .int (vcrs v), .int (vcoin v), .int (vship v)])), (nc3, .inl (cI, 4, .inl (vbu v))), (nc4, .inl (cZ, 4, .inl (vfl v))), (np, .inr (1, [.ref np1, .ref np2, .ref np3, .int (nI 4), .int (nI (vnP v))])), (np1, .inl (cI, 4, .inl (vpw v))), (np2, .inl (cI, 4, .inl (vpa v))), (nc, .inr (0, [.ref nc1, .ref nc2, .ref nc3, .ref nc4, .int (nI (vnC v))]))] _ := hP
    have hD : va_D A [(x0, .inr (3, [.ref xr, .ref xs, .ref n0, .ref b0])), (n0, .inr (2, [.ref nc, .ref np, .ref nk, .int (nI (vday v)), .int (vcoal v), .int (vbar v), .int (vfine v), .int (vcrs v), .int (vcoin v), .int (vship v)])), (nc3, .inl (cI, 4, .inl (vbu v))), (nc4, .inl (cZ, 4, .inl (vfl v))), (np, .inr (1, [.ref np1, .ref np2, .ref np3, .int (nI 4), .int (nI (vnP v))])), (np1, .inl (cI, 4, .inl (vpw v))), (np2, .inl (cI, 4, .inl (vpa v))), (nc, .inr (0, [.ref nc1, .ref nc2, .ref nc3, .ref nc4, .int (nI (vnC v))]))] := hD
    have hl : lv_has ls 5 [(4, .ref np), (3, .ref nc), (0, .ref x0), (1, .int (nI j_19)), (2, .int y2)] := hl
    refine lv_if_eq (tgt := 34) hx hb dX3_steep_22 (by decide) (fun h => absurd h (by decide)) (fun _ => ?_)
    refine lv_aload hx hb dX3_steep_25 (lv_at hl 0 rfl) ?_
    refine lv_iload_n hx hb dX3_steep_27 rfl (lv_at hl 4 rfl) ?_
    refine k_i (wr := [(x0, .inr (3, [.ref xr, .ref xs, .ref n0, .ref b0])), (n0, .inr (2, [.ref nc, .ref np, .ref nk, .int (nI (vday v)), .int (vcoal v), .int (vbar v), .int (vfine v), .int (vcrs v), .int (vcoin v), .int (vship v)])), (nc3, .inl (cI, 4, .inl (vbu v))), (nc4, .inl (cZ, 4, .inl (vfl v))), (np1, .inl (cI, 4, .inl (vpw v))), (np2, .inl (cI, 4, .inl (vpa v))), (nc, .inr (0, [.ref nc1, .ref nc2, .ref nc3, .ref nc4, .int (nI (vnC v))]))]) (rV (As := [.int y2]) (rest := []) F hG hK (hP.sub (ws' := [(np, .inr (1, [.ref np1, .ref np2, .ref np3, .int (nI 4), .int (nI (vnP v))]))]) [4] rfl) ((hD.sub (ws' := [(np, .inr (1, [.ref np1, .ref np2, .ref np3, .int (nI 4), .int (nI (vnP v))]))]) [4] (by decide) rfl).weaken (fun _ _ _ _ => trivial)) s_RX3_115 (c_X1_has l D cI cZ cJ np np1 np2 np3 4 (vnP v) y2 (by first | assumption | omega) _) 1 0 rfl rfl rfl rfl hl.1 rfl (Nat.le_of_ble_eq_true rfl) dX3_steep_28 ⟨(Nat.le_of_ble_eq_true rfl), (Nat.le_of_ble_eq_true rfl)⟩ ⟨(Nat.le_of_ble_eq_true rfl), (Nat.le_of_ble_eq_true rfl)⟩) hP hD hS hA [4] [0, 1, 2, 3, 5, 6, 7] rfl rfl (by decide) (by decide) (fun r_28 uu H locs hw hP hD hS => ?_)
    try dsimp only at hw
    have hP : va_P D vwCl [(x0, .inr (3, [.ref xr, .ref xs, .ref n0, .ref b0])), (n0, .inr (2, [.ref nc, .ref np, .ref nk, .int (nI (vday v)), .int (vcoal v), .int (vbar v), .int (vfine v), .int (vcrs v), .int (vcoin v), .int (vship v)])), (nc3, .inl (cI, 4, .inl (vbu v))), (nc4, .inl (cZ, 4, .inl (vfl v))), (np1, .inl (cI, 4, .inl (vpw v))), (np2, .inl (cI, 4, .inl (vpa v))), (nc, .inr (0, [.ref nc1, .ref nc2, .ref nc3, .ref nc4, .int (nI (vnC v))])), (np, .inr (1, [.ref np1, .ref np2, .ref np3, .int (nI 4), .int (nI (vnP v))]))] _ := hP
    have hD : va_D A [(x0, .inr (3, [.ref xr, .ref xs, .ref n0, .ref b0])), (n0, .inr (2, [.ref nc, .ref np, .ref nk, .int (nI (vday v)), .int (vcoal v), .int (vbar v), .int (vfine v), .int (vcrs v), .int (vcoin v), .int (vship v)])), (nc3, .inl (cI, 4, .inl (vbu v))), (nc4, .inl (cZ, 4, .inl (vfl v))), (np1, .inl (cI, 4, .inl (vpw v))), (np2, .inl (cI, 4, .inl (vpa v))), (nc, .inr (0, [.ref nc1, .ref nc2, .ref nc3, .ref nc4, .int (nI (vnC v))])), (np, .inr (1, [.ref np1, .ref np2, .ref np3, .int (nI 4), .int (nI (vnP v))]))] := hD
    rcases hw with ⟨rfl, b_2⟩ | ⟨rfl, b_2⟩
    · skip
      obtain ⟨j_28, hj_28, rfl⟩ := b_2
      have ht_28 := hasT (n := (vnP v)) (by omega) hj_28
      have ix_28 : ix (nI j_28) = j_28 := ix_nI (by omega)
      have hP : va_P D vwCl [(x0, .inr (3, [.ref xr, .ref xs, .ref n0, .ref b0])), (n0, .inr (2, [.ref nc, .ref np, .ref nk, .int (nI (vday v)), .int (vcoal v), .int (vbar v), .int (vfine v), .int (vcrs v), .int (vcoin v), .int (vship v)])), (nc3, .inl (cI, 4, .inl (vbu v))), (nc4, .inl (cZ, 4, .inl (vfl v))), (np1, .inl (cI, 4, .inl (vpw v))), (np2, .inl (cI, 4, .inl (vpa v))), (nc, .inr (0, [.ref nc1, .ref nc2, .ref nc3, .ref nc4, .int (nI (vnC v))])), (np, .inr (1, [.ref np1, .ref np2, .ref np3, .int (nI 4), .int (nI (vnP v))]))] _ := hP
      have hD : va_D A [(x0, .inr (3, [.ref xr, .ref xs, .ref n0, .ref b0])), (n0, .inr (2, [.ref nc, .ref np, .ref nk, .int (nI (vday v)), .int (vcoal v), .int (vbar v), .int (vfine v), .int (vcrs v), .int (vcoin v), .int (vship v)])), (nc3, .inl (cI, 4, .inl (vbu v))), (nc4, .inl (cZ, 4, .inl (vfl v))), (np1, .inl (cI, 4, .inl (vpw v))), (np2, .inl (cI, 4, .inl (vpa v))), (nc, .inr (0, [.ref nc1, .ref nc2, .ref nc3, .ref nc4, .int (nI (vnC v))])), (np, .inr (1, [.ref np1, .ref np2, .ref np3, .int (nI 4), .int (nI (vnP v))]))] := hD
      have hl : lv_has ls 5 [(4, .ref np), (3, .ref nc), (0, .ref x0), (1, .int (nI j_19)), (2, .int (nI j_28))] := hl
      refine lv_if_ne (tgt := 44) hx hb dX3_steep_31 (by decide) (fun _ => ?_) (fun h => absurd h (by decide))
      refine lv_aload_n hx hb dX3_steep_44 rfl (lv_at hl 1 rfl) ?_
      refine va_get (D := D) (ci := 0) (v := .ref nc3) (C := RX0) (T := TX0) (N := 5) hx hb ht inG_X0 hown hK hP 6 rfl rfl 2 (by decide) (ht _ qF_RX3_118) (fun _ h9 => h9) rfl dX3_steep_45 ?_
      refine lv_iload_n hx hb dX3_steep_48 rfl (lv_at hl 3 rfl) ?_
      refine aI hx hb hK hP 2 0 rfl rfl j_19 (rfl) (by omega) (by decide) (v := (vbu v) j_19) (rfl) dX3_steep_49 ?_
      refine lv_if_eq (tgt := 72) hx hb dX3_steep_50 (by decide) (fun c_3 => ?_) (fun c_3 => ?_)
      · skip
        exact hthr _ _ _ _ _ 124 _ "nothing is burnt, the clamp burns, or the pit has no water" _ thr_IS (by decide +kernel) dX3_steep_72 dX3_steep_75 dX3_steep_76 dX3_steep_78 dX3_steep_81 (Or.inr (⟨rfl, by simp only [kSteep, eq_true ht_19, ix_19, eq_true ht_28, ix_28, eq_true c_3, if_true, if_false]⟩)) (hP.sub [0, 1, 6, 2, 3, 7, 4, 5] rfl) hS hl.1
      · skip
        refine lv_aload_n hx hb dX3_steep_53 rfl (lv_at hl 1 rfl) ?_
        refine va_get (D := D) (ci := 0) (v := .ref nc4) (C := RX0) (T := TX0) (N := 5) hx hb ht inG_X0 hown hK hP 6 rfl rfl 3 (by decide) (ht _ qF_RX3_99) (fun _ h9 => h9) rfl dX3_steep_54 ?_
        refine lv_iload_n hx hb dX3_steep_57 rfl (lv_at hl 3 rfl) ?_
        refine aZ hx hb hK hP 3 1 rfl rfl j_19 (rfl) (by omega) (by decide) (v := (vfl v) j_19) (rfl) dX3_steep_58 ?_
        refine lv_if_ne (tgt := 72) hx hb dX3_steep_59 (by decide) (fun c_4 => ?_) (fun c_4 => ?_)
        · skip
          exact hthr _ _ _ _ _ 124 _ "nothing is burnt, the clamp burns, or the pit has no water" _ thr_IS (by decide +kernel) dX3_steep_72 dX3_steep_75 dX3_steep_76 dX3_steep_78 dX3_steep_81 (Or.inr (⟨rfl, by simp only [kSteep, eq_true ht_19, ix_19, eq_true ht_28, ix_28, eq_false c_3, eq_false c_4, if_true, if_false]⟩)) (hP.sub [0, 1, 6, 2, 3, 7, 4, 5] rfl) hS hl.1
        · skip
          refine lv_aload hx hb dX3_steep_62 (lv_at hl 0 rfl) ?_
          refine va_get (D := D) (ci := 1) (v := .ref np1) (C := RX1) (T := TX1) (N := 5) hx hb ht inG_X1 hown hK hP 7 rfl rfl 0 (by decide) (ht _ qF_RX3_121) (fun _ h9 => h9) rfl dX3_steep_64 ?_
          refine lv_iload_n hx hb dX3_steep_67 rfl (lv_at hl 4 rfl) ?_
          refine aI hx hb hK hP 4 0 rfl rfl j_28 (rfl) (by omega) (by decide) (v := (vpw v) j_28) (rfl) dX3_steep_68 ?_
          refine lv_if_ne (tgt := 82) hx hb dX3_steep_69 (by decide) (fun c_5 => ?_) (fun c_5 => ?_)
          · skip
            refine lv_aload hx hb dX3_steep_82 (lv_at hl 0 rfl) ?_
            refine va_get (D := D) (ci := 1) (v := .ref np2) (C := RX1) (T := TX1) (N := 5) hx hb ht inG_X1 hown hK hP 7 rfl rfl 1 (by decide) (ht _ qF_RX3_126) (fun _ h9 => h9) rfl dX3_steep_84 ?_
            refine lv_iload_n hx hb dX3_steep_87 rfl (lv_at hl 4 rfl) ?_
            refine lv_dup2_11 hx hb dX3_steep_88 rfl rfl ?_
            refine aI hx hb hK hP 5 0 rfl rfl j_28 (rfl) (by omega) (by decide) (v := (vpa v) j_28) (rfl) dX3_steep_89 ?_
            refine lv_aload_n hx hb dX3_steep_90 rfl (lv_at hl 1 rfl) ?_
            refine va_get (D := D) (ci := 0) (v := .ref nc3) (C := RX0) (T := TX0) (N := 5) hx hb ht inG_X0 hown hK hP 6 rfl rfl 2 (by decide) (ht _ qF_RX3_118) (fun _ h9 => h9) rfl dX3_steep_91 ?_
            refine lv_iload_n hx hb dX3_steep_94 rfl (lv_at hl 3 rfl) ?_
            refine aI hx hb hK hP 2 0 rfl rfl j_19 (rfl) (by omega) (by decide) (v := (vbu v) j_19) (rfl) dX3_steep_95 ?_
            refine lv_iconst (v := 2) hx hb dX3_steep_96 (by decide) ?_
            refine lv_idiv hx hb dX3_steep_97 (by decide) ?_
            refine lv_iadd hx hb dX3_steep_98 ?_
            refine sI_ hx hb hK hP hD hS 5 0 rfl rfl j_28 (rfl) (by omega) (by decide) (upd (vpa v) j_28 (((vpa v) j_28) + (((vbu v) j_19) / 2))) (rfl) dX3_steep_99 (fun H locs hP hD hS => ?_)
            have hP : va_P D vwCl [(x0, .inr (3, [.ref xr, .ref xs, .ref n0, .ref b0])), (n0, .inr (2, [.ref nc, .ref np, .ref nk, .int (nI (vday v)), .int (vcoal v), .int (vbar v), .int (vfine v), .int (vcrs v), .int (vcoin v), .int (vship v)])), (nc3, .inl (cI, 4, .inl (vbu v))), (nc4, .inl (cZ, 4, .inl (vfl v))), (np1, .inl (cI, 4, .inl (vpw v))), (np2, .inl (cI, 4, .inl (upd (vpa v) j_28 (((vpa v) j_28) + (((vbu v) j_19) / 2))))), (nc, .inr (0, [.ref nc1, .ref nc2, .ref nc3, .ref nc4, .int (nI (vnC v))])), (np, .inr (1, [.ref np1, .ref np2, .ref np3, .int (nI 4), .int (nI (vnP v))]))] _ := hP
            have hD : va_D A [(x0, .inr (3, [.ref xr, .ref xs, .ref n0, .ref b0])), (n0, .inr (2, [.ref nc, .ref np, .ref nk, .int (nI (vday v)), .int (vcoal v), .int (vbar v), .int (vfine v), .int (vcrs v), .int (vcoin v), .int (vship v)])), (nc3, .inl (cI, 4, .inl (vbu v))), (nc4, .inl (cZ, 4, .inl (vfl v))), (np1, .inl (cI, 4, .inl (vpw v))), (np2, .inl (cI, 4, .inl (upd (vpa v) j_28 (((vpa v) j_28) + (((vbu v) j_19) / 2))))), (nc, .inr (0, [.ref nc1, .ref nc2, .ref nc3, .ref nc4, .int (nI (vnC v))])), (np, .inr (1, [.ref np1, .ref np2, .ref np3, .int (nI 4), .int (nI (vnP v))]))] := hD
            refine lv_aload_n hx hb dX3_steep_100 rfl (lv_at hl 1 rfl) ?_
            refine va_get (D := D) (ci := 0) (v := .ref nc3) (C := RX0) (T := TX0) (N := 5) hx hb ht inG_X0 hown hK hP 6 rfl rfl 2 (by decide) (ht _ qF_RX3_118) (fun _ h9 => h9) rfl dX3_steep_101 ?_
            refine lv_iload_n hx hb dX3_steep_104 rfl (lv_at hl 3 rfl) ?_
            refine lv_iconst (v := 0) hx hb dX3_steep_105 (by decide) ?_
            refine sI_ hx hb hK hP hD hS 2 0 rfl rfl j_19 (rfl) (by omega) (by decide) (upd (vbu v) j_19 0) (rfl) dX3_steep_106 (fun H locs hP hD hS => ?_)
            have hP : va_P D vwCl [(x0, .inr (3, [.ref xr, .ref xs, .ref n0, .ref b0])), (n0, .inr (2, [.ref nc, .ref np, .ref nk, .int (nI (vday v)), .int (vcoal v), .int (vbar v), .int (vfine v), .int (vcrs v), .int (vcoin v), .int (vship v)])), (nc3, .inl (cI, 4, .inl (upd (vbu v) j_19 0))), (nc4, .inl (cZ, 4, .inl (vfl v))), (np1, .inl (cI, 4, .inl (vpw v))), (np2, .inl (cI, 4, .inl (upd (vpa v) j_28 (((vpa v) j_28) + (((vbu v) j_19) / 2))))), (nc, .inr (0, [.ref nc1, .ref nc2, .ref nc3, .ref nc4, .int (nI (vnC v))])), (np, .inr (1, [.ref np1, .ref np2, .ref np3, .int (nI 4), .int (nI (vnP v))]))] _ := hP
            have hD : va_D A [(x0, .inr (3, [.ref xr, .ref xs, .ref n0, .ref b0])), (n0, .inr (2, [.ref nc, .ref np, .ref nk, .int (nI (vday v)), .int (vcoal v), .int (vbar v), .int (vfine v), .int (vcrs v), .int (vcoin v), .int (vship v)])), (nc3, .inl (cI, 4, .inl (upd (vbu v) j_19 0))), (nc4, .inl (cZ, 4, .inl (vfl v))), (np1, .inl (cI, 4, .inl (vpw v))), (np2, .inl (cI, 4, .inl (upd (vpa v) j_28 (((vpa v) j_28) + (((vbu v) j_19) / 2))))), (nc, .inr (0, [.ref nc1, .ref nc2, .ref nc3, .ref nc4, .int (nI (vnC v))])), (np, .inr (1, [.ref np1, .ref np2, .ref np3, .int (nI 4), .int (nI (vnP v))]))] := hD
            refine lv_aload hx hb dX3_steep_107 (lv_at hl 0 rfl) ?_
            refine va_get (D := D) (ci := 1) (v := .ref np2) (C := RX1) (T := TX1) (N := 5) hx hb ht inG_X1 hown hK hP 7 rfl rfl 1 (by decide) (ht _ qF_RX3_126) (fun _ h9 => h9) rfl dX3_steep_109 ?_
            refine lv_iload_n hx hb dX3_steep_112 rfl (lv_at hl 4 rfl) ?_
            refine aI hx hb hK hP 5 0 rfl rfl j_28 (rfl) (by omega) (by decide) (v := ((vpa v) j_28) + (((vbu v) j_19) / 2)) (pk_us) dX3_steep_113 ?_
            exact hend _ _ _ _ _ _ (((vpa v) j_28) + (((vbu v) j_19) / 2)) (mkV (vsh v) (vco v) (upd (vbu v) j_19 0) (vfl v) (vnC v) (vpw v) (upd (vpa v) j_28 (((vpa v) j_28) + (((vbu v) j_19) / 2))) (vpb v) (vnP v) (vkw v) (vka v) (vkb v) (vnK v) (vday v) (vcoal v) (vbar v) (vfine v) (vcrs v) (vcoin v) (vship v) (vR v) (vS v)) dX3_steep_114 (⟨by simp only [kSteep, eq_true ht_19, ix_19, eq_true ht_28, ix_28, eq_false c_3, eq_true c_4, eq_false c_5, if_true, if_false, eq_self], by simp only [rSteep, eq_true ht_19, ix_19, eq_true ht_28, ix_28, eq_false c_3, eq_true c_4, eq_false c_5, if_true, if_false], by simp only [nSteep, kSteep, eq_true ht_19, ix_19, eq_true ht_28, ix_28, eq_false c_3, eq_true c_4, eq_false c_5, if_true, if_false, eq_self]⟩) (hP.sub [0, 1, 6, 2, 3, 7, 4, 5] rfl) (hD.sub [0, 1, 6, 2, 3, 7, 4, 5] (by decide) rfl) hS rfl (Nat.le_of_ble_eq_true rfl) (Nat.le_of_ble_eq_true rfl)
          · skip
            exact hthr _ _ _ _ _ 124 _ "nothing is burnt, the clamp burns, or the pit has no water" _ thr_IS (by decide +kernel) dX3_steep_72 dX3_steep_75 dX3_steep_76 dX3_steep_78 dX3_steep_81 (Or.inr (⟨rfl, by simp only [kSteep, eq_true ht_19, ix_19, eq_true ht_28, ix_28, eq_false c_3, eq_true c_4, eq_true c_5, if_true, if_false]⟩)) (hP.sub [0, 1, 6, 2, 3, 7, 4, 5] rfl) hS hl.1
    · skip
      refine lv_if_ne (tgt := 44) hx hb dX3_steep_31 (by decide) (fun h => absurd (by decide) h) (fun _ => ?_)
      exact hthr _ _ _ _ _ 116 _ "there is no such clamp or pit" _ thr_IO (by decide +kernel) dX3_steep_34 dX3_steep_37 dX3_steep_38 dX3_steep_40 dX3_steep_43 (Or.inl ⟨rfl, by simp only [kSteep, eq_true ht_19, ix_19, eq_false b_2, if_true, if_false]⟩) (hP.sub [0, 1, 6, 2, 3, 7, 4, 5] rfl) hS hl.1
  · skip
    refine lv_if_eq (tgt := 34) hx hb dX3_steep_22 (by decide) (fun _ => ?_) (fun h => absurd (by decide) h)
    exact hthr _ _ _ _ _ 116 _ "there is no such clamp or pit" _ thr_IO (by decide +kernel) dX3_steep_34 dX3_steep_37 dX3_steep_38 dX3_steep_40 dX3_steep_43 (Or.inl ⟨rfl, by simp only [kSteep, eq_false b_1, if_true, if_false]⟩) (hP.sub [0, 1, 7, 2, 3, 4, 5, 6] rfl) hS hl.1

def rm_X3_pan : Room := { frames := 6, cells := 1, slots := 6, locals := 90 }
set_option maxHeartbeats 4000000 in
set_option maxRecDepth 100000 in
theorem c_X3_pan (l : Launch) (D : va_G) (cI cZ cJ : ClassId) (x0 xr xs n0 b0 : Nat) (nc np nk nk1 nk2 nk3 : Nat) (v : VT) (hI : IS v) (hst : l.stackTraces = false) : Xi l yX3_pan cX3_pan 1 (some .int) rm_X3_pan D (TY cI cZ cJ) [.ref x0] [(x0, .inr (3, [.ref xr, .ref xs, .ref n0, .ref b0])), (n0, .inr (2, [.ref nc, .ref np, .ref nk, .int (nI (vday v)), .int (vcoal v), .int (vbar v), .int (vfine v), .int (vcrs v), .int (vcoin v), .int (vship v)])), (nk, .inr (1, [.ref nk1, .ref nk2, .ref nk3, .int (nI 3), .int (nI (vnK v))])), (nk1, .inl (cI, 4, .inl (vkw v)))] (fun (r : Int32) (u : VT) => kPan v = 0 ∧ r = rPan v ∧ u = nPan v) (fun (u : VT) => [(x0, .inr (3, [.ref xr, .ref xs, .ref n0, .ref b0])), (n0, .inr (2, [.ref nc, .ref np, .ref nk, .int (nI (vday u)), .int (vcoal u), .int (vbar u), .int (vfine u), .int (vcrs u), .int (vcoin u), .int (vship u)])), (nk, .inr (1, [.ref nk1, .ref nk2, .ref nk3, .int (nI 3), .int (nI (vnK u))])), (nk1, .inl (cI, 4, .inl (vkw u)))]) (fun (E : String) => (E = iIS ∧ kPan v = 1)) := by
  refine Xi.of (by decide) rfl (Nat.le_of_ble_eq_true rfl) hst ⟨by decide, by decide, by decide, by decide⟩ ?_
  intro p e s m args below meth c A ls Q hF hK hP hD hA hl hend hthr
  obtain ⟨F, hr, hlocks, hG⟩ := hF
  have hx := F.1
  have hb := F.2.1
  have hown := F.2.2.2.1
  have ht := F.2.2.2.2
  have hS : va_S A s.heap s.heap [] := va_S.rf
  have hl : lv_has ls 1 [(0, .ref x0)] := hl
  obtain ⟨hC4, hP4, hK3, hAH, hf1, hf2, hf3, hdy⟩ := hI
  refine lv_aload_n hx hb dX3_pan_0 rfl (lv_at hl 0 rfl) ?_
  refine va_get (D := D) (ci := 3) (v := .ref n0) (C := RX3) (T := TX3) (N := 4) hx hb ht inG_X3 hown hK hP 0 rfl rfl 2 (by decide) (ht _ qF_RX3_19) (fun _ h9 => h9) rfl dX3_pan_1 ?_
  refine va_get (D := D) (ci := 2) (v := .ref nk) (C := RX2) (T := TX2) (N := 10) hx hb ht inG_X2 hown hK hP 1 rfl rfl 2 (by decide) (ht _ qF_RX3_129) (fun _ h9 => h9) rfl dX3_pan_4 ?_
  refine k_i (wr := [(x0, .inr (3, [.ref xr, .ref xs, .ref n0, .ref b0])), (n0, .inr (2, [.ref nc, .ref np, .ref nk, .int (nI (vday v)), .int (vcoal v), .int (vbar v), .int (vfine v), .int (vcrs v), .int (vcoin v), .int (vship v)])), (nk1, .inl (cI, 4, .inl (vkw v)))]) (rV (As := []) (rest := []) F hG hK (hP.sub (ws' := [(nk, .inr (1, [.ref nk1, .ref nk2, .ref nk3, .int (nI 3), .int (nI (vnK v))]))]) [2] rfl) ((hD.sub (ws' := [(nk, .inr (1, [.ref nk1, .ref nk2, .ref nk3, .int (nI 3), .int (nI (vnK v))]))]) [2] (by decide) rfl).weaken (fun _ _ _ _ => trivial)) s_RX3_109 (c_X1_full l D cI cZ cJ nk nk1 nk2 nk3 3 (vnK v) (by first | assumption | omega) (by first | assumption | omega) _) 1 0 rfl rfl rfl rfl hl.1 rfl (Nat.le_of_ble_eq_true rfl) dX3_pan_7 ⟨(Nat.le_of_ble_eq_true rfl), (Nat.le_of_ble_eq_true rfl)⟩ ⟨(Nat.le_of_ble_eq_true rfl), (Nat.le_of_ble_eq_true rfl)⟩) hP hD hS hA [2] [0, 1, 3] rfl rfl (by decide) (by decide) (fun r_7 uu H locs hw hP hD hS => ?_)
  try dsimp only at hw
  have hP : va_P D vwCl [(x0, .inr (3, [.ref xr, .ref xs, .ref n0, .ref b0])), (n0, .inr (2, [.ref nc, .ref np, .ref nk, .int (nI (vday v)), .int (vcoal v), .int (vbar v), .int (vfine v), .int (vcrs v), .int (vcoin v), .int (vship v)])), (nk1, .inl (cI, 4, .inl (vkw v))), (nk, .inr (1, [.ref nk1, .ref nk2, .ref nk3, .int (nI 3), .int (nI (vnK v))]))] _ := hP
  have hD : va_D A [(x0, .inr (3, [.ref xr, .ref xs, .ref n0, .ref b0])), (n0, .inr (2, [.ref nc, .ref np, .ref nk, .int (nI (vday v)), .int (vcoal v), .int (vbar v), .int (vfine v), .int (vcrs v), .int (vcoin v), .int (vship v)])), (nk1, .inl (cI, 4, .inl (vkw v))), (nk, .inr (1, [.ref nk1, .ref nk2, .ref nk3, .int (nI 3), .int (nI (vnK v))]))] := hD
  rcases hw with ⟨rfl, b_1⟩ | ⟨rfl, b_1⟩
  · skip
    refine lv_if_eq (tgt := 23) hx hb dX3_pan_10 (by decide) (fun h => absurd h (by decide)) (fun _ => ?_)
    exact hthr _ _ _ _ _ 132 _ "there are 3 pans" _ thr_IS (by decide +kernel) dX3_pan_13 dX3_pan_16 dX3_pan_17 dX3_pan_19 dX3_pan_22 (⟨rfl, by simp only [kPan, eq_true b_1, if_true, if_false]⟩) (hP.sub [0, 1, 3, 2] rfl) hS hl.1
  · skip
    have b_1n := Nat.not_le.mpr b_1
    refine lv_if_eq (tgt := 23) hx hb dX3_pan_10 (by decide) (fun _ => ?_) (fun h => absurd (by decide) h)
    refine lv_aload_n hx hb dX3_pan_23 rfl (lv_at hl 0 rfl) ?_
    refine va_get (D := D) (ci := 3) (v := .ref n0) (C := RX3) (T := TX3) (N := 4) hx hb ht inG_X3 hown hK hP 0 rfl rfl 2 (by decide) (ht _ qF_RX3_19) (fun _ h9 => h9) rfl dX3_pan_24 ?_
    refine va_get (D := D) (ci := 2) (v := .ref nk) (C := RX2) (T := TX2) (N := 10) hx hb ht inG_X2 hown hK hP 1 rfl rfl 2 (by decide) (ht _ qF_RX3_129) (fun _ h9 => h9) rfl dX3_pan_27 ?_
    refine lv_iconst (v := 0) hx hb dX3_pan_30 (by decide) ?_
    refine k_i (wr := [(x0, .inr (3, [.ref xr, .ref xs, .ref n0, .ref b0])), (n0, .inr (2, [.ref nc, .ref np, .ref nk, .int (nI (vday v)), .int (vcoal v), .int (vbar v), .int (vfine v), .int (vcrs v), .int (vcoin v), .int (vship v)]))]) (rV (As := [.int 0]) (rest := []) F hG hK (hP.sub (ws' := [(nk, .inr (1, [.ref nk1, .ref nk2, .ref nk3, .int (nI 3), .int (nI (vnK v))])), (nk1, .inl (cI, 4, .inl (vkw v)))]) [3, 2] rfl) ((hD.sub (ws' := [(nk, .inr (1, [.ref nk1, .ref nk2, .ref nk3, .int (nI 3), .int (nI (vnK v))])), (nk1, .inl (cI, 4, .inl (vkw v)))]) [3, 2] (by decide) rfl).weaken (fun _ _ _ _ => trivial)) s_RX3_114 (c_X1_add l D cI cZ cJ nk nk1 nk2 nk3 3 (vkw v) (vnK v) 0 (by first | assumption | omega) _) 1 0 rfl rfl rfl rfl hl.1 rfl (Nat.le_of_ble_eq_true rfl) dX3_pan_31 ⟨(Nat.le_of_ble_eq_true rfl), (Nat.le_of_ble_eq_true rfl)⟩ ⟨(Nat.le_of_ble_eq_true rfl), (Nat.le_of_ble_eq_true rfl)⟩) hP hD hS hA [3, 2] [0, 1] rfl rfl (by decide) (by decide) (fun r_31 uu H locs hw hP hD hS => ?_)
    obtain ⟨wa1_31, rfl⟩ : ∃ z, z = uu := ⟨_, rfl⟩
    try dsimp only at hw
    obtain ⟨rfl, rfl⟩ := hw
    have hP : va_P D vwCl [(x0, .inr (3, [.ref xr, .ref xs, .ref n0, .ref b0])), (n0, .inr (2, [.ref nc, .ref np, .ref nk, .int (nI (vday v)), .int (vcoal v), .int (vbar v), .int (vfine v), .int (vcrs v), .int (vcoin v), .int (vship v)])), (nk, .inr (1, [.ref nk1, .ref nk2, .ref nk3, .int (nI 3), .int (nI ((vnK v) + 1))])), (nk1, .inl (cI, 4, .inl (upd (vkw v) (vnK v) 0)))] _ := hP
    have hD : va_D A [(x0, .inr (3, [.ref xr, .ref xs, .ref n0, .ref b0])), (n0, .inr (2, [.ref nc, .ref np, .ref nk, .int (nI (vday v)), .int (vcoal v), .int (vbar v), .int (vfine v), .int (vcrs v), .int (vcoin v), .int (vship v)])), (nk, .inr (1, [.ref nk1, .ref nk2, .ref nk3, .int (nI 3), .int (nI ((vnK v) + 1))])), (nk1, .inl (cI, 4, .inl (upd (vkw v) (vnK v) 0)))] := hD
    exact hend _ _ _ _ _ _ (nI (vnK v)) (mkV (vsh v) (vco v) (vbu v) (vfl v) (vnC v) (vpw v) (vpa v) (vpb v) (vnP v) (upd (vkw v) (vnK v) 0) (vka v) (vkb v) ((vnK v) + 1) (vday v) (vcoal v) (vbar v) (vfine v) (vcrs v) (vcoin v) (vship v) (vR v) (vS v)) dX3_pan_34 (⟨by simp only [kPan, eq_false b_1n, if_true, if_false, eq_self], by simp only [rPan, eq_false b_1n, if_true, if_false], by simp only [nPan, kPan, eq_false b_1n, if_true, if_false, eq_self]⟩) hP hD hS rfl (Nat.le_of_ble_eq_true rfl) (Nat.le_of_ble_eq_true rfl)

def rm_X3_draw : Room := { frames := 6, cells := 1, slots := 6, locals := 90 }
set_option maxHeartbeats 4000000 in
set_option maxRecDepth 100000 in
theorem c_X3_draw (l : Launch) (D : va_G) (cI cZ cJ : ClassId) (x0 xr xs n0 b0 : Nat) (nc np nk np1 np2 np3 nk1 nk2 nk3 : Nat) (v : VT) (y1 y2 y3 : Int32) (hI : IS v) (hst : l.stackTraces = false) : Xi l yX3_draw cX3_draw 8 (some .int) rm_X3_draw D (TY cI cZ cJ) [.ref x0, .int y1, .int y2, .int y3] [(x0, .inr (3, [.ref xr, .ref xs, .ref n0, .ref b0])), (n0, .inr (2, [.ref nc, .ref np, .ref nk, .int (nI (vday v)), .int (vcoal v), .int (vbar v), .int (vfine v), .int (vcrs v), .int (vcoin v), .int (vship v)])), (np, .inr (1, [.ref np1, .ref np2, .ref np3, .int (nI 4), .int (nI (vnP v))])), (np1, .inl (cI, 4, .inl (vpw v))), (np2, .inl (cI, 4, .inl (vpa v))), (nk, .inr (1, [.ref nk1, .ref nk2, .ref nk3, .int (nI 3), .int (nI (vnK v))])), (nk1, .inl (cI, 4, .inl (vkw v))), (nk2, .inl (cI, 4, .inl (vka v)))] (fun (r : Int32) (u : VT) => kDraw v y1 y2 y3 = 0 ∧ r = rDraw v y1 y2 y3 ∧ u = nDraw v y1 y2 y3) (fun (u : VT) => [(x0, .inr (3, [.ref xr, .ref xs, .ref n0, .ref b0])), (n0, .inr (2, [.ref nc, .ref np, .ref nk, .int (nI (vday u)), .int (vcoal u), .int (vbar u), .int (vfine u), .int (vcrs u), .int (vcoin u), .int (vship u)])), (np, .inr (1, [.ref np1, .ref np2, .ref np3, .int (nI 4), .int (nI (vnP u))])), (np1, .inl (cI, 4, .inl (vpw u))), (np2, .inl (cI, 4, .inl (vpa u))), (nk, .inr (1, [.ref nk1, .ref nk2, .ref nk3, .int (nI 3), .int (nI (vnK u))])), (nk1, .inl (cI, 4, .inl (vkw u))), (nk2, .inl (cI, 4, .inl (vka u)))]) (fun (E : String) => (E = iIO ∧ kDraw v y1 y2 y3 = 1) ∨ (E = iIA ∧ kDraw v y1 y2 y3 = 2) ∨ (E = iIS ∧ kDraw v y1 y2 y3 = 3)) := by
  refine Xi.of (by decide) rfl (Nat.le_of_ble_eq_true rfl) hst ⟨by decide, by decide, by decide, by decide⟩ ?_
  intro p e s m args below meth c A ls Q hF hK hP hD hA hl hend hthr
  obtain ⟨F, hr, hlocks, hG⟩ := hF
  have hx := F.1
  have hb := F.2.1
  have hown := F.2.2.2.1
  have ht := F.2.2.2.2
  have hS : va_S A s.heap s.heap [] := va_S.rf
  have hl : lv_has ls 8 [(0, .ref x0), (1, .int y1), (2, .int y2), (3, .int y3)] := hl
  obtain ⟨hC4, hP4, hK3, hAH, hf1, hf2, hf3, hdy⟩ := hI
  refine lv_aload_n hx hb dX3_draw_0 rfl (lv_at hl 0 rfl) ?_
  refine va_get (D := D) (ci := 3) (v := .ref n0) (C := RX3) (T := TX3) (N := 4) hx hb ht inG_X3 hown hK hP 0 rfl rfl 2 (by decide) (ht _ qF_RX3_19) (fun _ h9 => h9) rfl dX3_draw_1 ?_
  refine va_get (D := D) (ci := 2) (v := .ref np) (C := RX2) (T := TX2) (N := 10) hx hb ht inG_X2 hown hK hP 1 rfl rfl 1 (by decide) (ht _ qF_RX3_105) (fun _ h9 => h9) rfl dX3_draw_4 ?_
  refine lv_astore (lv' := [(4, .ref np), (0, .ref x0), (1, .int y1), (2, .int y2), (3, .int y3)]) hx hb dX3_draw_7 hl (by decide) rfl (fun ls hl => ?_)
  refine lv_aload_n hx hb dX3_draw_9 rfl (lv_at hl 1 rfl) ?_
  refine va_get (D := D) (ci := 3) (v := .ref n0) (C := RX3) (T := TX3) (N := 4) hx hb ht inG_X3 hown hK hP 0 rfl rfl 2 (by decide) (ht _ qF_RX3_19) (fun _ h9 => h9) rfl dX3_draw_10 ?_
  refine va_get (D := D) (ci := 2) (v := .ref nk) (C := RX2) (T := TX2) (N := 10) hx hb ht inG_X2 hown hK hP 1 rfl rfl 2 (by decide) (ht _ qF_RX3_129) (fun _ h9 => h9) rfl dX3_draw_13 ?_
  refine lv_astore (lv' := [(5, .ref nk), (4, .ref np), (0, .ref x0), (1, .int y1), (2, .int y2), (3, .int y3)]) hx hb dX3_draw_16 hl (by decide) rfl (fun ls hl => ?_)
  refine lv_aload hx hb dX3_draw_18 (lv_at hl 1 rfl) ?_
  refine lv_iload_n hx hb dX3_draw_20 rfl (lv_at hl 3 rfl) ?_
  refine k_i (wr := [(x0, .inr (3, [.ref xr, .ref xs, .ref n0, .ref b0])), (n0, .inr (2, [.ref nc, .ref np, .ref nk, .int (nI (vday v)), .int (vcoal v), .int (vbar v), .int (vfine v), .int (vcrs v), .int (vcoin v), .int (vship v)])), (np1, .inl (cI, 4, .inl (vpw v))), (np2, .inl (cI, 4, .inl (vpa v))), (nk, .inr (1, [.ref nk1, .ref nk2, .ref nk3, .int (nI 3), .int (nI (vnK v))])), (nk1, .inl (cI, 4, .inl (vkw v))), (nk2, .inl (cI, 4, .inl (vka v)))]) (rV (As := [.int y1]) (rest := []) F hG hK (hP.sub (ws' := [(np, .inr (1, [.ref np1, .ref np2, .ref np3, .int (nI 4), .int (nI (vnP v))]))]) [2] rfl) ((hD.sub (ws' := [(np, .inr (1, [.ref np1, .ref np2, .ref np3, .int (nI 4), .int (nI (vnP v))]))]) [2] (by decide) rfl).weaken (fun _ _ _ _ => trivial)) s_RX3_115 (c_X1_has l D cI cZ cJ np np1 np2 np3 4 (vnP v) y1 (by first | assumption | omega) _) 1 0 rfl rfl rfl rfl hl.1 rfl (Nat.le_of_ble_eq_true rfl) dX3_draw_21 ⟨(Nat.le_of_ble_eq_true rfl), (Nat.le_of_ble_eq_true rfl)⟩ ⟨(Nat.le_of_ble_eq_true rfl), (Nat.le_of_ble_eq_true rfl)⟩) hP hD hS hA [2] [0, 1, 3, 4, 5, 6, 7] rfl rfl (by decide) (by decide) (fun r_21 uu H locs hw hP hD hS => ?_)
  try dsimp only at hw
  have hP : va_P D vwCl [(x0, .inr (3, [.ref xr, .ref xs, .ref n0, .ref b0])), (n0, .inr (2, [.ref nc, .ref np, .ref nk, .int (nI (vday v)), .int (vcoal v), .int (vbar v), .int (vfine v), .int (vcrs v), .int (vcoin v), .int (vship v)])), (np1, .inl (cI, 4, .inl (vpw v))), (np2, .inl (cI, 4, .inl (vpa v))), (nk, .inr (1, [.ref nk1, .ref nk2, .ref nk3, .int (nI 3), .int (nI (vnK v))])), (nk1, .inl (cI, 4, .inl (vkw v))), (nk2, .inl (cI, 4, .inl (vka v))), (np, .inr (1, [.ref np1, .ref np2, .ref np3, .int (nI 4), .int (nI (vnP v))]))] _ := hP
  have hD : va_D A [(x0, .inr (3, [.ref xr, .ref xs, .ref n0, .ref b0])), (n0, .inr (2, [.ref nc, .ref np, .ref nk, .int (nI (vday v)), .int (vcoal v), .int (vbar v), .int (vfine v), .int (vcrs v), .int (vcoin v), .int (vship v)])), (np1, .inl (cI, 4, .inl (vpw v))), (np2, .inl (cI, 4, .inl (vpa v))), (nk, .inr (1, [.ref nk1, .ref nk2, .ref nk3, .int (nI 3), .int (nI (vnK v))])), (nk1, .inl (cI, 4, .inl (vkw v))), (nk2, .inl (cI, 4, .inl (vka v))), (np, .inr (1, [.ref np1, .ref np2, .ref np3, .int (nI 4), .int (nI (vnP v))]))] := hD
  rcases hw with ⟨rfl, b_1⟩ | ⟨rfl, b_1⟩
  · skip
    obtain ⟨j_21, hj_21, rfl⟩ := b_1
    have ht_21 := hasT (n := (vnP v)) (by omega) hj_21
    have ix_21 : ix (nI j_21) = j_21 := ix_nI (by omega)
    have hP : va_P D vwCl [(x0, .inr (3, [.ref xr, .ref xs, .ref n0, .ref b0])), (n0, .inr (2, [.ref nc, .ref np, .ref nk, .int (nI (vday v)), .int (vcoal v), .int (vbar v), .int (vfine v), .int (vcrs v), .int (vcoin v), .int (vship v)])), (np1, .inl (cI, 4, .inl (vpw v))), (np2, .inl (cI, 4, .inl (vpa v))), (nk, .inr (1, [.ref nk1, .ref nk2, .ref nk3, .int (nI 3), .int (nI (vnK v))])), (nk1, .inl (cI, 4, .inl (vkw v))), (nk2, .inl (cI, 4, .inl (vka v))), (np, .inr (1, [.ref np1, .ref np2, .ref np3, .int (nI 4), .int (nI (vnP v))]))] _ := hP
    have hD : va_D A [(x0, .inr (3, [.ref xr, .ref xs, .ref n0, .ref b0])), (n0, .inr (2, [.ref nc, .ref np, .ref nk, .int (nI (vday v)), .int (vcoal v), .int (vbar v), .int (vfine v), .int (vcrs v), .int (vcoin v), .int (vship v)])), (np1, .inl (cI, 4, .inl (vpw v))), (np2, .inl (cI, 4, .inl (vpa v))), (nk, .inr (1, [.ref nk1, .ref nk2, .ref nk3, .int (nI 3), .int (nI (vnK v))])), (nk1, .inl (cI, 4, .inl (vkw v))), (nk2, .inl (cI, 4, .inl (vka v))), (np, .inr (1, [.ref np1, .ref np2, .ref np3, .int (nI 4), .int (nI (vnP v))]))] := hD
    have hl : lv_has ls 8 [(5, .ref nk), (4, .ref np), (0, .ref x0), (1, .int (nI j_21)), (2, .int y2), (3, .int y3)] := hl
    refine lv_if_eq (tgt := 36) hx hb dX3_draw_24 (by decide) (fun h => absurd h (by decide)) (fun _ => ?_)
    refine lv_aload hx hb dX3_draw_27 (lv_at hl 0 rfl) ?_
    refine lv_iload_n hx hb dX3_draw_29 rfl (lv_at hl 4 rfl) ?_
    refine k_i (wr := [(x0, .inr (3, [.ref xr, .ref xs, .ref n0, .ref b0])), (n0, .inr (2, [.ref nc, .ref np, .ref nk, .int (nI (vday v)), .int (vcoal v), .int (vbar v), .int (vfine v), .int (vcrs v), .int (vcoin v), .int (vship v)])), (np1, .inl (cI, 4, .inl (vpw v))), (np2, .inl (cI, 4, .inl (vpa v))), (nk1, .inl (cI, 4, .inl (vkw v))), (nk2, .inl (cI, 4, .inl (vka v))), (np, .inr (1, [.ref np1, .ref np2, .ref np3, .int (nI 4), .int (nI (vnP v))]))]) (rV (As := [.int y2]) (rest := []) F hG hK (hP.sub (ws' := [(nk, .inr (1, [.ref nk1, .ref nk2, .ref nk3, .int (nI 3), .int (nI (vnK v))]))]) [4] rfl) ((hD.sub (ws' := [(nk, .inr (1, [.ref nk1, .ref nk2, .ref nk3, .int (nI 3), .int (nI (vnK v))]))]) [4] (by decide) rfl).weaken (fun _ _ _ _ => trivial)) s_RX3_115 (c_X1_has l D cI cZ cJ nk nk1 nk2 nk3 3 (vnK v) y2 (by first | assumption | omega) _) 1 0 rfl rfl rfl rfl hl.1 rfl (Nat.le_of_ble_eq_true rfl) dX3_draw_30 ⟨(Nat.le_of_ble_eq_true rfl), (Nat.le_of_ble_eq_true rfl)⟩ ⟨(Nat.le_of_ble_eq_true rfl), (Nat.le_of_ble_eq_true rfl)⟩) hP hD hS hA [4] [0, 1, 2, 3, 5, 6, 7] rfl rfl (by decide) (by decide) (fun r_30 uu H locs hw hP hD hS => ?_)
    try dsimp only at hw
    have hP : va_P D vwCl [(x0, .inr (3, [.ref xr, .ref xs, .ref n0, .ref b0])), (n0, .inr (2, [.ref nc, .ref np, .ref nk, .int (nI (vday v)), .int (vcoal v), .int (vbar v), .int (vfine v), .int (vcrs v), .int (vcoin v), .int (vship v)])), (np1, .inl (cI, 4, .inl (vpw v))), (np2, .inl (cI, 4, .inl (vpa v))), (nk1, .inl (cI, 4, .inl (vkw v))), (nk2, .inl (cI, 4, .inl (vka v))), (np, .inr (1, [.ref np1, .ref np2, .ref np3, .int (nI 4), .int (nI (vnP v))])), (nk, .inr (1, [.ref nk1, .ref nk2, .ref nk3, .int (nI 3), .int (nI (vnK v))]))] _ := hP
    have hD : va_D A [(x0, .inr (3, [.ref xr, .ref xs, .ref n0, .ref b0])), (n0, .inr (2, [.ref nc, .ref np, .ref nk, .int (nI (vday v)), .int (vcoal v), .int (vbar v), .int (vfine v), .int (vcrs v), .int (vcoin v), .int (vship v)])), (np1, .inl (cI, 4, .inl (vpw v))), (np2, .inl (cI, 4, .inl (vpa v))), (nk1, .inl (cI, 4, .inl (vkw v))), (nk2, .inl (cI, 4, .inl (vka v))), (np, .inr (1, [.ref np1, .ref np2, .ref np3, .int (nI 4), .int (nI (vnP v))])), (nk, .inr (1, [.ref nk1, .ref nk2, .ref nk3, .int (nI 3), .int (nI (vnK v))]))] := hD
    rcases hw with ⟨rfl, b_2⟩ | ⟨rfl, b_2⟩
    · skip
      obtain ⟨j_30, hj_30, rfl⟩ := b_2
      have ht_30 := hasT (n := (vnK v)) (by omega) hj_30
      have ix_30 : ix (nI j_30) = j_30 := ix_nI (by omega)
      have hP : va_P D vwCl [(x0, .inr (3, [.ref xr, .ref xs, .ref n0, .ref b0])), (n0, .inr (2, [.ref nc, .ref np, .ref nk, .int (nI (vday v)), .int (vcoal v), .int (vbar v), .int (vfine v), .int (vcrs v), .int (vcoin v), .int (vship v)])), (np1, .inl (cI, 4, .inl (vpw v))), (np2, .inl (cI, 4, .inl (vpa v))), (nk1, .inl (cI, 4, .inl (vkw v))), (nk2, .inl (cI, 4, .inl (vka v))), (np, .inr (1, [.ref np1, .ref np2, .ref np3, .int (nI 4), .int (nI (vnP v))])), (nk, .inr (1, [.ref nk1, .ref nk2, .ref nk3, .int (nI 3), .int (nI (vnK v))]))] _ := hP
      have hD : va_D A [(x0, .inr (3, [.ref xr, .ref xs, .ref n0, .ref b0])), (n0, .inr (2, [.ref nc, .ref np, .ref nk, .int (nI (vday v)), .int (vcoal v), .int (vbar v), .int (vfine v), .int (vcrs v), .int (vcoin v), .int (vship v)])), (np1, .inl (cI, 4, .inl (vpw v))), (np2, .inl (cI, 4, .inl (vpa v))), (nk1, .inl (cI, 4, .inl (vkw v))), (nk2, .inl (cI, 4, .inl (vka v))), (np, .inr (1, [.ref np1, .ref np2, .ref np3, .int (nI 4), .int (nI (vnP v))])), (nk, .inr (1, [.ref nk1, .ref nk2, .ref nk3, .int (nI 3), .int (nI (vnK v))]))] := hD
      have hl : lv_has ls 8 [(5, .ref nk), (4, .ref np), (0, .ref x0), (1, .int (nI j_21)), (2, .int (nI j_30)), (3, .int y3)] := hl
      refine lv_if_ne (tgt := 46) hx hb dX3_draw_33 (by decide) (fun _ => ?_) (fun h => absurd h (by decide))
      refine lv_iload_n hx hb dX3_draw_46 rfl (lv_at hl 5 rfl) ?_
      refine lv_iconst (v := 1) hx hb dX3_draw_47 (by decide) ?_
      refine lv_sipush (v := 150) hx hb dX3_draw_48 (by decide) ?_
      refine k_i (wr := [(x0, .inr (3, [.ref xr, .ref xs, .ref n0, .ref b0])), (n0, .inr (2, [.ref nc, .ref np, .ref nk, .int (nI (vday v)), .int (vcoal v), .int (vbar v), .int (vfine v), .int (vcrs v), .int (vcoin v), .int (vship v)])), (np1, .inl (cI, 4, .inl (vpw v))), (np2, .inl (cI, 4, .inl (vpa v))), (nk1, .inl (cI, 4, .inl (vkw v))), (nk2, .inl (cI, 4, .inl (vka v))), (np, .inr (1, [.ref np1, .ref np2, .ref np3, .int (nI 4), .int (nI (vnP v))])), (nk, .inr (1, [.ref nk1, .ref nk2, .ref nk3, .int (nI 3), .int (nI (vnK v))]))]) (rS (As := [.int y3, .int 1, .int 150]) (rest := []) F hG hK (hP.sub (ws' := []) [] rfl) ((hD.sub (ws' := []) [] (by decide) rfl).weaken (fun _ _ _ _ => trivial)) s_RX3_26 (c_X3_within l D cI cZ cJ y3 1 150 _) rfl hl.1 rfl (Nat.le_of_ble_eq_true rfl) dX3_draw_51 ⟨(Nat.le_of_ble_eq_true rfl), (Nat.le_of_ble_eq_true rfl)⟩ ⟨(Nat.le_of_ble_eq_true rfl), (Nat.le_of_ble_eq_true rfl)⟩) hP hD hS hA [] [0, 1, 2, 3, 4, 5, 6, 7] rfl rfl (by decide) (by decide) (fun r_51 uu H locs hw hP hD hS => ?_)
      try dsimp only at hw
      have hP : va_P D vwCl [(x0, .inr (3, [.ref xr, .ref xs, .ref n0, .ref b0])), (n0, .inr (2, [.ref nc, .ref np, .ref nk, .int (nI (vday v)), .int (vcoal v), .int (vbar v), .int (vfine v), .int (vcrs v), .int (vcoin v), .int (vship v)])), (np1, .inl (cI, 4, .inl (vpw v))), (np2, .inl (cI, 4, .inl (vpa v))), (nk1, .inl (cI, 4, .inl (vkw v))), (nk2, .inl (cI, 4, .inl (vka v))), (np, .inr (1, [.ref np1, .ref np2, .ref np3, .int (nI 4), .int (nI (vnP v))])), (nk, .inr (1, [.ref nk1, .ref nk2, .ref nk3, .int (nI 3), .int (nI (vnK v))]))] _ := hP
      have hD : va_D A [(x0, .inr (3, [.ref xr, .ref xs, .ref n0, .ref b0])), (n0, .inr (2, [.ref nc, .ref np, .ref nk, .int (nI (vday v)), .int (vcoal v), .int (vbar v), .int (vfine v), .int (vcrs v), .int (vcoin v), .int (vship v)])), (np1, .inl (cI, 4, .inl (vpw v))), (np2, .inl (cI, 4, .inl (vpa v))), (nk1, .inl (cI, 4, .inl (vkw v))), (nk2, .inl (cI, 4, .inl (vka v))), (np, .inr (1, [.ref np1, .ref np2, .ref np3, .int (nI 4), .int (nI (vnP v))])), (nk, .inr (1, [.ref nk1, .ref nk2, .ref nk3, .int (nI 3), .int (nI (vnK v))]))] := hD
      rcases hw with ⟨rfl, b_3⟩ | ⟨rfl, b_3⟩
      · skip
        refine lv_if_ne (tgt := 67) hx hb dX3_draw_54 (by decide) (fun _ => ?_) (fun h => absurd h (by decide))
        refine lv_aload hx hb dX3_draw_67 (lv_at hl 1 rfl) ?_
        refine va_get (D := D) (ci := 1) (v := .ref np1) (C := RX1) (T := TX1) (N := 5) hx hb ht inG_X1 hown hK hP 6 rfl rfl 0 (by decide) (ht _ qF_RX3_121) (fun _ h9 => h9) rfl dX3_draw_69 ?_
        refine lv_iload_n hx hb dX3_draw_72 rfl (lv_at hl 3 rfl) ?_
        refine aI hx hb hK hP 2 0 rfl rfl j_21 (rfl) (by omega) (by decide) (v := (vpw v) j_21) (rfl) dX3_draw_73 ?_
        refine lv_istore (lv' := [(6, .int ((vpw v) j_21)), (5, .ref nk), (4, .ref np), (0, .ref x0), (1, .int (nI j_21)), (2, .int (nI j_30)), (3, .int y3)]) hx hb dX3_draw_74 hl (by decide) rfl (fun ls hl => ?_)
        refine lv_iload hx hb dX3_draw_76 (lv_at hl 0 rfl) ?_
        refine lv_iload_n hx hb dX3_draw_78 rfl (lv_at hl 6 rfl) ?_
        refine lv_icmp_lt (tgt := 97) hx hb dX3_draw_79 (by decide) (fun c_4 => ?_) (fun c_4 => ?_)
        · skip
          have c_4n := Int32.not_le.mpr c_4
          exact hthr _ _ _ _ _ 138 _ "the pit has not so much water, or the pan no room for it" _ thr_IS (by decide +kernel) dX3_draw_97 dX3_draw_100 dX3_draw_101 dX3_draw_103 dX3_draw_106 (Or.inr (Or.inr (⟨rfl, by simp only [kDraw, eq_true ht_21, ix_21, eq_true ht_30, ix_30, eq_true b_3, eq_true c_4, eq_false c_4n, if_true, if_false]⟩))) (hP.sub [0, 1, 6, 2, 3, 7, 4, 5] rfl) hS hl.1
        · skip
          have c_4n := Int32.not_lt.mp c_4
          refine lv_aload hx hb dX3_draw_82 (lv_at hl 1 rfl) ?_
          refine va_get (D := D) (ci := 1) (v := .ref nk1) (C := RX1) (T := TX1) (N := 5) hx hb ht inG_X1 hown hK hP 7 rfl rfl 0 (by decide) (ht _ qF_RX3_121) (fun _ h9 => h9) rfl dX3_draw_84 ?_
          refine lv_iload_n hx hb dX3_draw_87 rfl (lv_at hl 5 rfl) ?_
          refine aI hx hb hK hP 4 0 rfl rfl j_30 (rfl) (by omega) (by decide) (v := (vkw v) j_30) (rfl) dX3_draw_88 ?_
          refine lv_iload_n hx hb dX3_draw_89 rfl (lv_at hl 6 rfl) ?_
          refine lv_iadd hx hb dX3_draw_90 ?_
          refine lv_sipush (v := 150) hx hb dX3_draw_91 (by decide) ?_
          refine lv_icmp_le (tgt := 107) hx hb dX3_draw_94 (by decide) (fun c_5 => ?_) (fun c_5 => ?_)
          · skip
            have c_5n := Int32.not_lt.mpr c_5
            refine lv_aload hx hb dX3_draw_107 (lv_at hl 2 rfl) ?_
            refine va_get (D := D) (ci := 1) (v := .ref np2) (C := RX1) (T := TX1) (N := 5) hx hb ht inG_X1 hown hK hP 6 rfl rfl 1 (by decide) (ht _ qF_RX3_126) (fun _ h9 => h9) rfl dX3_draw_109 ?_
            refine lv_iload_n hx hb dX3_draw_112 rfl (lv_at hl 4 rfl) ?_
            refine aI hx hb hK hP 3 0 rfl rfl j_21 (rfl) (by omega) (by decide) (v := (vpa v) j_21) (rfl) dX3_draw_113 ?_
            refine lv_iload_n hx hb dX3_draw_114 rfl (lv_at hl 6 rfl) ?_
            refine lv_imul hx hb dX3_draw_115 ?_
            refine lv_iload hx hb dX3_draw_116 (lv_at hl 0 rfl) ?_
            refine lv_idiv hx hb dX3_draw_118 (by intro q; rw [q] at c_4; exact absurd (Int32.le_trans b_3.1 (Int32.not_lt.mp c_4)) (by decide)) ?_
            refine lv_istore (lv' := [(7, .int ((((vpa v) j_21) * y3) / ((vpw v) j_21))), (6, .int ((vpw v) j_21)), (5, .ref nk), (4, .ref np), (0, .ref x0), (1, .int (nI j_21)), (2, .int (nI j_30)), (3, .int y3)]) hx hb dX3_draw_119 hl (by decide) rfl (fun ls hl => ?_)
            refine lv_aload hx hb dX3_draw_121 (lv_at hl 3 rfl) ?_
            refine va_get (D := D) (ci := 1) (v := .ref np1) (C := RX1) (T := TX1) (N := 5) hx hb ht inG_X1 hown hK hP 6 rfl rfl 0 (by decide) (ht _ qF_RX3_121) (fun _ h9 => h9) rfl dX3_draw_123 ?_
            refine lv_iload_n hx hb dX3_draw_126 rfl (lv_at hl 5 rfl) ?_
            refine lv_dup2_11 hx hb dX3_draw_127 rfl rfl ?_
            refine aI hx hb hK hP 2 0 rfl rfl j_21 (rfl) (by omega) (by decide) (v := (vpw v) j_21) (rfl) dX3_draw_128 ?_
            refine lv_iload_n hx hb dX3_draw_129 rfl (lv_at hl 7 rfl) ?_
            refine lv_isub hx hb dX3_draw_130 ?_
            refine sI_ hx hb hK hP hD hS 2 0 rfl rfl j_21 (rfl) (by omega) (by decide) (upd (vpw v) j_21 (((vpw v) j_21) - y3)) (rfl) dX3_draw_131 (fun H locs hP hD hS => ?_)
            have hP : va_P D vwCl [(x0, .inr (3, [.ref xr, .ref xs, .ref n0, .ref b0])), (n0, .inr (2, [.ref nc, .ref np, .ref nk, .int (nI (vday v)), .int (vcoal v), .int (vbar v), .int (vfine v), .int (vcrs v), .int (vcoin v), .int (vship v)])), (np1, .inl (cI, 4, .inl (upd (vpw v) j_21 (((vpw v) j_21) - y3)))), (np2, .inl (cI, 4, .inl (vpa v))), (nk1, .inl (cI, 4, .inl (vkw v))), (nk2, .inl (cI, 4, .inl (vka v))), (np, .inr (1, [.ref np1, .ref np2, .ref np3, .int (nI 4), .int (nI (vnP v))])), (nk, .inr (1, [.ref nk1, .ref nk2, .ref nk3, .int (nI 3), .int (nI (vnK v))]))] _ := hP
            have hD : va_D A [(x0, .inr (3, [.ref xr, .ref xs, .ref n0, .ref b0])), (n0, .inr (2, [.ref nc, .ref np, .ref nk, .int (nI (vday v)), .int (vcoal v), .int (vbar v), .int (vfine v), .int (vcrs v), .int (vcoin v), .int (vship v)])), (np1, .inl (cI, 4, .inl (upd (vpw v) j_21 (((vpw v) j_21) - y3)))), (np2, .inl (cI, 4, .inl (vpa v))), (nk1, .inl (cI, 4, .inl (vkw v))), (nk2, .inl (cI, 4, .inl (vka v))), (np, .inr (1, [.ref np1, .ref np2, .ref np3, .int (nI 4), .int (nI (vnP v))])), (nk, .inr (1, [.ref nk1, .ref nk2, .ref nk3, .int (nI 3), .int (nI (vnK v))]))] := hD
            refine lv_aload hx hb dX3_draw_132 (lv_at hl 3 rfl) ?_
            refine va_get (D := D) (ci := 1) (v := .ref np2) (C := RX1) (T := TX1) (N := 5) hx hb ht inG_X1 hown hK hP 6 rfl rfl 1 (by decide) (ht _ qF_RX3_126) (fun _ h9 => h9) rfl dX3_draw_134 ?_
            refine lv_iload_n hx hb dX3_draw_137 rfl (lv_at hl 5 rfl) ?_
            refine lv_dup2_11 hx hb dX3_draw_138 rfl rfl ?_
            refine aI hx hb hK hP 3 0 rfl rfl j_21 (rfl) (by omega) (by decide) (v := (vpa v) j_21) (rfl) dX3_draw_139 ?_
            refine lv_iload hx hb dX3_draw_140 (lv_at hl 0 rfl) ?_
            refine lv_isub hx hb dX3_draw_142 ?_
            refine sI_ hx hb hK hP hD hS 3 0 rfl rfl j_21 (rfl) (by omega) (by decide) (upd (vpa v) j_21 (((vpa v) j_21) - ((((vpa v) j_21) * y3) / ((vpw v) j_21)))) (rfl) dX3_draw_143 (fun H locs hP hD hS => ?_)
            have hP : va_P D vwCl [(x0, .inr (3, [.ref xr, .ref xs, .ref n0, .ref b0])), (n0, .inr (2, [.ref nc, .ref np, .ref nk, .int (nI (vday v)), .int (vcoal v), .int (vbar v), .int (vfine v), .int (vcrs v), .int (vcoin v), .int (vship v)])), (np1, .inl (cI, 4, .inl (upd (vpw v) j_21 (((vpw v) j_21) - y3)))), (np2, .inl (cI, 4, .inl (upd (vpa v) j_21 (((vpa v) j_21) - ((((vpa v) j_21) * y3) / ((vpw v) j_21)))))), (nk1, .inl (cI, 4, .inl (vkw v))), (nk2, .inl (cI, 4, .inl (vka v))), (np, .inr (1, [.ref np1, .ref np2, .ref np3, .int (nI 4), .int (nI (vnP v))])), (nk, .inr (1, [.ref nk1, .ref nk2, .ref nk3, .int (nI 3), .int (nI (vnK v))]))] _ := hP
            have hD : va_D A [(x0, .inr (3, [.ref xr, .ref xs, .ref n0, .ref b0])), (n0, .inr (2, [.ref nc, .ref np, .ref nk, .int (nI (vday v)), .int (vcoal v), .int (vbar v), .int (vfine v), .int (vcrs v), .int (vcoin v), .int (vship v)])), (np1, .inl (cI, 4, .inl (upd (vpw v) j_21 (((vpw v) j_21) - y3)))), (np2, .inl (cI, 4, .inl (upd (vpa v) j_21 (((vpa v) j_21) - ((((vpa v) j_21) * y3) / ((vpw v) j_21)))))), (nk1, .inl (cI, 4, .inl (vkw v))), (nk2, .inl (cI, 4, .inl (vka v))), (np, .inr (1, [.ref np1, .ref np2, .ref np3, .int (nI 4), .int (nI (vnP v))])), (nk, .inr (1, [.ref nk1, .ref nk2, .ref nk3, .int (nI 3), .int (nI (vnK v))]))] := hD
            refine lv_aload hx hb dX3_draw_144 (lv_at hl 2 rfl) ?_
            refine va_get (D := D) (ci := 1) (v := .ref nk1) (C := RX1) (T := TX1) (N := 5) hx hb ht inG_X1 hown hK hP 7 rfl rfl 0 (by decide) (ht _ qF_RX3_121) (fun _ h9 => h9) rfl dX3_draw_146 ?_
            refine lv_iload_n hx hb dX3_draw_149 rfl (lv_at hl 6 rfl) ?_
            refine lv_dup2_11 hx hb dX3_draw_150 rfl rfl ?_
            refine aI hx hb hK hP 4 0 rfl rfl j_30 (rfl) (by omega) (by decide) (v := (vkw v) j_30) (rfl) dX3_draw_151 ?_
            refine lv_iload_n hx hb dX3_draw_152 rfl (lv_at hl 7 rfl) ?_
            refine lv_iadd hx hb dX3_draw_153 ?_
            refine sI_ hx hb hK hP hD hS 4 0 rfl rfl j_30 (rfl) (by omega) (by decide) (upd (vkw v) j_30 (((vkw v) j_30) + y3)) (rfl) dX3_draw_154 (fun H locs hP hD hS => ?_)
            have hP : va_P D vwCl [(x0, .inr (3, [.ref xr, .ref xs, .ref n0, .ref b0])), (n0, .inr (2, [.ref nc, .ref np, .ref nk, .int (nI (vday v)), .int (vcoal v), .int (vbar v), .int (vfine v), .int (vcrs v), .int (vcoin v), .int (vship v)])), (np1, .inl (cI, 4, .inl (upd (vpw v) j_21 (((vpw v) j_21) - y3)))), (np2, .inl (cI, 4, .inl (upd (vpa v) j_21 (((vpa v) j_21) - ((((vpa v) j_21) * y3) / ((vpw v) j_21)))))), (nk1, .inl (cI, 4, .inl (upd (vkw v) j_30 (((vkw v) j_30) + y3)))), (nk2, .inl (cI, 4, .inl (vka v))), (np, .inr (1, [.ref np1, .ref np2, .ref np3, .int (nI 4), .int (nI (vnP v))])), (nk, .inr (1, [.ref nk1, .ref nk2, .ref nk3, .int (nI 3), .int (nI (vnK v))]))] _ := hP
            have hD : va_D A [(x0, .inr (3, [.ref xr, .ref xs, .ref n0, .ref b0])), (n0, .inr (2, [.ref nc, .ref np, .ref nk, .int (nI (vday v)), .int (vcoal v), .int (vbar v), .int (vfine v), .int (vcrs v), .int (vcoin v), .int (vship v)])), (np1, .inl (cI, 4, .inl (upd (vpw v) j_21 (((vpw v) j_21) - y3)))), (np2, .inl (cI, 4, .inl (upd (vpa v) j_21 (((vpa v) j_21) - ((((vpa v) j_21) * y3) / ((vpw v) j_21)))))), (nk1, .inl (cI, 4, .inl (upd (vkw v) j_30 (((vkw v) j_30) + y3)))), (nk2, .inl (cI, 4, .inl (vka v))), (np, .inr (1, [.ref np1, .ref np2, .ref np3, .int (nI 4), .int (nI (vnP v))])), (nk, .inr (1, [.ref nk1, .ref nk2, .ref nk3, .int (nI 3), .int (nI (vnK v))]))] := hD
            refine lv_aload hx hb dX3_draw_155 (lv_at hl 2 rfl) ?_
            refine va_get (D := D) (ci := 1) (v := .ref nk2) (C := RX1) (T := TX1) (N := 5) hx hb ht inG_X1 hown hK hP 7 rfl rfl 1 (by decide) (ht _ qF_RX3_126) (fun _ h9 => h9) rfl dX3_draw_157 ?_
            refine lv_iload_n hx hb dX3_draw_160 rfl (lv_at hl 6 rfl) ?_
            refine lv_dup2_11 hx hb dX3_draw_161 rfl rfl ?_
            refine aI hx hb hK hP 5 0 rfl rfl j_30 (rfl) (by omega) (by decide) (v := (vka v) j_30) (rfl) dX3_draw_162 ?_
            refine lv_iload hx hb dX3_draw_163 (lv_at hl 0 rfl) ?_
            refine lv_iadd hx hb dX3_draw_165 ?_
            refine sI_ hx hb hK hP hD hS 5 0 rfl rfl j_30 (rfl) (by omega) (by decide) (upd (vka v) j_30 (((vka v) j_30) + ((((vpa v) j_21) * y3) / ((vpw v) j_21)))) (rfl) dX3_draw_166 (fun H locs hP hD hS => ?_)
            have hP : va_P D vwCl [(x0, .inr (3, [.ref xr, .ref xs, .ref n0, .ref b0])), (n0, .inr (2, [.ref nc, .ref np, .ref nk, .int (nI (vday v)), .int (vcoal v), .int (vbar v), .int (vfine v), .int (vcrs v), .int (vcoin v), .int (vship v)])), (np1, .inl (cI, 4, .inl (upd (vpw v) j_21 (((vpw v) j_21) - y3)))), (np2, .inl (cI, 4, .inl (upd (vpa v) j_21 (((vpa v) j_21) - ((((vpa v) j_21) * y3) / ((vpw v) j_21)))))), (nk1, .inl (cI, 4, .inl (upd (vkw v) j_30 (((vkw v) j_30) + y3)))), (nk2, .inl (cI, 4, .inl (upd (vka v) j_30 (((vka v) j_30) + ((((vpa v) j_21) * y3) / ((vpw v) j_21)))))), (np, .inr (1, [.ref np1, .ref np2, .ref np3, .int (nI 4), .int (nI (vnP v))])), (nk, .inr (1, [.ref nk1, .ref nk2, .ref nk3, .int (nI 3), .int (nI (vnK v))]))] _ := hP
            have hD : va_D A [(x0, .inr (3, [.ref xr, .ref xs, .ref n0, .ref b0])), (n0, .inr (2, [.ref nc, .ref np, .ref nk, .int (nI (vday v)), .int (vcoal v), .int (vbar v), .int (vfine v), .int (vcrs v), .int (vcoin v), .int (vship v)])), (np1, .inl (cI, 4, .inl (upd (vpw v) j_21 (((vpw v) j_21) - y3)))), (np2, .inl (cI, 4, .inl (upd (vpa v) j_21 (((vpa v) j_21) - ((((vpa v) j_21) * y3) / ((vpw v) j_21)))))), (nk1, .inl (cI, 4, .inl (upd (vkw v) j_30 (((vkw v) j_30) + y3)))), (nk2, .inl (cI, 4, .inl (upd (vka v) j_30 (((vka v) j_30) + ((((vpa v) j_21) * y3) / ((vpw v) j_21)))))), (np, .inr (1, [.ref np1, .ref np2, .ref np3, .int (nI 4), .int (nI (vnP v))])), (nk, .inr (1, [.ref nk1, .ref nk2, .ref nk3, .int (nI 3), .int (nI (vnK v))]))] := hD
            refine lv_iload hx hb dX3_draw_167 (lv_at hl 0 rfl) ?_
            exact hend _ _ _ _ _ _ ((((vpa v) j_21) * y3) / ((vpw v) j_21)) (mkV (vsh v) (vco v) (vbu v) (vfl v) (vnC v) (upd (vpw v) j_21 (((vpw v) j_21) - y3)) (upd (vpa v) j_21 (((vpa v) j_21) - ((((vpa v) j_21) * y3) / ((vpw v) j_21)))) (vpb v) (vnP v) (upd (vkw v) j_30 (((vkw v) j_30) + y3)) (upd (vka v) j_30 (((vka v) j_30) + ((((vpa v) j_21) * y3) / ((vpw v) j_21)))) (vkb v) (vnK v) (vday v) (vcoal v) (vbar v) (vfine v) (vcrs v) (vcoin v) (vship v) (vR v) (vS v)) dX3_draw_169 (⟨by simp only [kDraw, eq_true ht_21, ix_21, eq_true ht_30, ix_30, eq_true b_3, eq_false c_4, eq_true c_4n, eq_true c_5, eq_false c_5n, if_true, if_false, eq_self], by simp only [rDraw, eq_true ht_21, ix_21, eq_true ht_30, ix_30, eq_true b_3, eq_false c_4, eq_true c_4n, eq_true c_5, eq_false c_5n, if_true, if_false], by simp only [nDraw, kDraw, eq_true ht_21, ix_21, eq_true ht_30, ix_30, eq_true b_3, eq_false c_4, eq_true c_4n, eq_true c_5, eq_false c_5n, if_true, if_false, eq_self]⟩) (hP.sub [0, 1, 6, 2, 3, 7, 4, 5] rfl) (hD.sub [0, 1, 6, 2, 3, 7, 4, 5] (by decide) rfl) hS rfl (Nat.le_of_ble_eq_true rfl) (Nat.le_of_ble_eq_true rfl)
          · skip
            have c_5n := Int32.not_le.mp c_5
            exact hthr _ _ _ _ _ 138 _ "the pit has not so much water, or the pan no room for it" _ thr_IS (by decide +kernel) dX3_draw_97 dX3_draw_100 dX3_draw_101 dX3_draw_103 dX3_draw_106 (Or.inr (Or.inr (⟨rfl, by simp only [kDraw, eq_true ht_21, ix_21, eq_true ht_30, ix_30, eq_true b_3, eq_false c_4, eq_true c_4n, eq_false c_5, eq_true c_5n, if_true, if_false]⟩))) (hP.sub [0, 1, 6, 2, 3, 7, 4, 5] rfl) hS hl.1
      · skip
        refine lv_if_ne (tgt := 67) hx hb dX3_draw_54 (by decide) (fun h => absurd (by decide) h) (fun _ => ?_)
        exact hthr _ _ _ _ _ 136 _ "water is not 1 to 150" _ thr_IA (by decide +kernel) dX3_draw_57 dX3_draw_60 dX3_draw_61 dX3_draw_63 dX3_draw_66 (Or.inr (Or.inl ⟨rfl, by simp only [kDraw, eq_true ht_21, ix_21, eq_true ht_30, ix_30, eq_false b_3, if_true, if_false]⟩)) (hP.sub [0, 1, 6, 2, 3, 7, 4, 5] rfl) hS hl.1
    · skip
      refine lv_if_ne (tgt := 46) hx hb dX3_draw_33 (by decide) (fun h => absurd (by decide) h) (fun _ => ?_)
      exact hthr _ _ _ _ _ 134 _ "there is no such pit or pan" _ thr_IO (by decide +kernel) dX3_draw_36 dX3_draw_39 dX3_draw_40 dX3_draw_42 dX3_draw_45 (Or.inl ⟨rfl, by simp only [kDraw, eq_true ht_21, ix_21, eq_false b_2, if_true, if_false]⟩) (hP.sub [0, 1, 6, 2, 3, 7, 4, 5] rfl) hS hl.1
  · skip
    refine lv_if_eq (tgt := 36) hx hb dX3_draw_24 (by decide) (fun _ => ?_) (fun h => absurd (by decide) h)
    exact hthr _ _ _ _ _ 134 _ "there is no such pit or pan" _ thr_IO (by decide +kernel) dX3_draw_36 dX3_draw_39 dX3_draw_40 dX3_draw_42 dX3_draw_45 (Or.inl ⟨rfl, by simp only [kDraw, eq_false b_1, if_true, if_false]⟩) (hP.sub [0, 1, 7, 2, 3, 4, 5, 6] rfl) hS hl.1

def rm_X3_boil : Room := { frames := 6, cells := 1, slots := 6, locals := 90 }
set_option maxHeartbeats 4000000 in
set_option maxRecDepth 100000 in
theorem c_X3_boil (l : Launch) (D : va_G) (cI cZ cJ : ClassId) (x0 xr xs n0 b0 : Nat) (nc np nk nk1 nk2 nk3 : Nat) (v : VT) (y1 : Int32) (hI : IS v) (hst : l.stackTraces = false) : Xi l yX3_boil cX3_boil 2 (some .boolean) rm_X3_boil D (TY cI cZ cJ) [.ref x0, .int y1] [(x0, .inr (3, [.ref xr, .ref xs, .ref n0, .ref b0])), (n0, .inr (2, [.ref nc, .ref np, .ref nk, .int (nI (vday v)), .int (vcoal v), .int (vbar v), .int (vfine v), .int (vcrs v), .int (vcoin v), .int (vship v)])), (nk, .inr (1, [.ref nk1, .ref nk2, .ref nk3, .int (nI 3), .int (nI (vnK v))])), (nk3, .inl (cZ, 4, .inl (vkb v)))] (fun (r : Int32) (u : VT) => kBoil v y1 = 0 ∧ r = rBoil v y1 ∧ u = nBoil v y1) (fun (u : VT) => [(x0, .inr (3, [.ref xr, .ref xs, .ref n0, .ref b0])), (n0, .inr (2, [.ref nc, .ref np, .ref nk, .int (nI (vday u)), .int (vcoal u), .int (vbar u), .int (vfine u), .int (vcrs u), .int (vcoin u), .int (vship u)])), (nk, .inr (1, [.ref nk1, .ref nk2, .ref nk3, .int (nI 3), .int (nI (vnK u))])), (nk3, .inl (cZ, 4, .inl (vkb u)))]) (fun (E : String) => (E = iIO ∧ kBoil v y1 = 1)) := by
  refine Xi.of (by decide) rfl (Nat.le_of_ble_eq_true rfl) hst ⟨by decide, by decide, by decide, by decide⟩ ?_
  intro p e s m args below meth c A ls Q hF hK hP hD hA hl hend hthr
  obtain ⟨F, hr, hlocks, hG⟩ := hF
  have hx := F.1
  have hb := F.2.1
  have hown := F.2.2.2.1
  have ht := F.2.2.2.2
  have hS : va_S A s.heap s.heap [] := va_S.rf
  have hl : lv_has ls 2 [(0, .ref x0), (1, .int y1)] := hl
  obtain ⟨hC4, hP4, hK3, hAH, hf1, hf2, hf3, hdy⟩ := hI
  refine lv_aload_n hx hb dX3_boil_0 rfl (lv_at hl 0 rfl) ?_
  refine va_get (D := D) (ci := 3) (v := .ref n0) (C := RX3) (T := TX3) (N := 4) hx hb ht inG_X3 hown hK hP 0 rfl rfl 2 (by decide) (ht _ qF_RX3_19) (fun _ h9 => h9) rfl dX3_boil_1 ?_
  refine va_get (D := D) (ci := 2) (v := .ref nk) (C := RX2) (T := TX2) (N := 10) hx hb ht inG_X2 hown hK hP 1 rfl rfl 2 (by decide) (ht _ qF_RX3_129) (fun _ h9 => h9) rfl dX3_boil_4 ?_
  refine lv_iload_n hx hb dX3_boil_7 rfl (lv_at hl 1 rfl) ?_
  refine k_i (wr := [(x0, .inr (3, [.ref xr, .ref xs, .ref n0, .ref b0])), (n0, .inr (2, [.ref nc, .ref np, .ref nk, .int (nI (vday v)), .int (vcoal v), .int (vbar v), .int (vfine v), .int (vcrs v), .int (vcoin v), .int (vship v)])), (nk3, .inl (cZ, 4, .inl (vkb v)))]) (rV (As := [.int y1]) (rest := []) F hG hK (hP.sub (ws' := [(nk, .inr (1, [.ref nk1, .ref nk2, .ref nk3, .int (nI 3), .int (nI (vnK v))]))]) [2] rfl) ((hD.sub (ws' := [(nk, .inr (1, [.ref nk1, .ref nk2, .ref nk3, .int (nI 3), .int (nI (vnK v))]))]) [2] (by decide) rfl).weaken (fun _ _ _ _ => trivial)) s_RX3_115 (c_X1_has l D cI cZ cJ nk nk1 nk2 nk3 3 (vnK v) y1 (by first | assumption | omega) _) 1 0 rfl rfl rfl rfl hl.1 rfl (Nat.le_of_ble_eq_true rfl) dX3_boil_8 ⟨(Nat.le_of_ble_eq_true rfl), (Nat.le_of_ble_eq_true rfl)⟩ ⟨(Nat.le_of_ble_eq_true rfl), (Nat.le_of_ble_eq_true rfl)⟩) hP hD hS hA [2] [0, 1, 3] rfl rfl (by decide) (by decide) (fun r_8 uu H locs hw hP hD hS => ?_)
  try dsimp only at hw
  have hP : va_P D vwCl [(x0, .inr (3, [.ref xr, .ref xs, .ref n0, .ref b0])), (n0, .inr (2, [.ref nc, .ref np, .ref nk, .int (nI (vday v)), .int (vcoal v), .int (vbar v), .int (vfine v), .int (vcrs v), .int (vcoin v), .int (vship v)])), (nk3, .inl (cZ, 4, .inl (vkb v))), (nk, .inr (1, [.ref nk1, .ref nk2, .ref nk3, .int (nI 3), .int (nI (vnK v))]))] _ := hP
  have hD : va_D A [(x0, .inr (3, [.ref xr, .ref xs, .ref n0, .ref b0])), (n0, .inr (2, [.ref nc, .ref np, .ref nk, .int (nI (vday v)), .int (vcoal v), .int (vbar v), .int (vfine v), .int (vcrs v), .int (vcoin v), .int (vship v)])), (nk3, .inl (cZ, 4, .inl (vkb v))), (nk, .inr (1, [.ref nk1, .ref nk2, .ref nk3, .int (nI 3), .int (nI (vnK v))]))] := hD
  rcases hw with ⟨rfl, b_1⟩ | ⟨rfl, b_1⟩
  · skip
    obtain ⟨j_8, hj_8, rfl⟩ := b_1
    have ht_8 := hasT (n := (vnK v)) (by omega) hj_8
    have ix_8 : ix (nI j_8) = j_8 := ix_nI (by omega)
    have hP : va_P D vwCl [(x0, .inr (3, [.ref xr, .ref xs, .ref n0, .ref b0])), (n0, .inr (2, [.ref nc, .ref np, .ref nk, .int (nI (vday v)), .int (vcoal v), .int (vbar v), .int (vfine v), .int (vcrs v), .int (vcoin v), .int (vship v)])), (nk3, .inl (cZ, 4, .inl (vkb v))), (nk, .inr (1, [.ref nk1, .ref nk2, .ref nk3, .int (nI 3), .int (nI (vnK v))]))] _ := hP
    have hD : va_D A [(x0, .inr (3, [.ref xr, .ref xs, .ref n0, .ref b0])), (n0, .inr (2, [.ref nc, .ref np, .ref nk, .int (nI (vday v)), .int (vcoal v), .int (vbar v), .int (vfine v), .int (vcrs v), .int (vcoin v), .int (vship v)])), (nk3, .inl (cZ, 4, .inl (vkb v))), (nk, .inr (1, [.ref nk1, .ref nk2, .ref nk3, .int (nI 3), .int (nI (vnK v))]))] := hD
    have hl : lv_has ls 2 [(0, .ref x0), (1, .int (nI j_8))] := hl
    refine lv_if_ne (tgt := 24) hx hb dX3_boil_11 (by decide) (fun _ => ?_) (fun h => absurd h (by decide))
    refine lv_aload_n hx hb dX3_boil_24 rfl (lv_at hl 0 rfl) ?_
    refine va_get (D := D) (ci := 3) (v := .ref n0) (C := RX3) (T := TX3) (N := 4) hx hb ht inG_X3 hown hK hP 0 rfl rfl 2 (by decide) (ht _ qF_RX3_19) (fun _ h9 => h9) rfl dX3_boil_25 ?_
    refine va_get (D := D) (ci := 2) (v := .ref nk) (C := RX2) (T := TX2) (N := 10) hx hb ht inG_X2 hown hK hP 1 rfl rfl 2 (by decide) (ht _ qF_RX3_129) (fun _ h9 => h9) rfl dX3_boil_28 ?_
    refine va_get (D := D) (ci := 1) (v := .ref nk3) (C := RX1) (T := TX1) (N := 5) hx hb ht inG_X1 hown hK hP 3 rfl rfl 2 (by decide) (ht _ qF_RX3_142) (fun _ h9 => h9) rfl dX3_boil_31 ?_
    refine lv_iload_n hx hb dX3_boil_34 rfl (lv_at hl 1 rfl) ?_
    refine lv_aload_n hx hb dX3_boil_35 rfl (lv_at hl 0 rfl) ?_
    refine va_get (D := D) (ci := 3) (v := .ref n0) (C := RX3) (T := TX3) (N := 4) hx hb ht inG_X3 hown hK hP 0 rfl rfl 2 (by decide) (ht _ qF_RX3_19) (fun _ h9 => h9) rfl dX3_boil_36 ?_
    refine va_get (D := D) (ci := 2) (v := .ref nk) (C := RX2) (T := TX2) (N := 10) hx hb ht inG_X2 hown hK hP 1 rfl rfl 2 (by decide) (ht _ qF_RX3_129) (fun _ h9 => h9) rfl dX3_boil_39 ?_
    refine va_get (D := D) (ci := 1) (v := .ref nk3) (C := RX1) (T := TX1) (N := 5) hx hb ht inG_X1 hown hK hP 3 rfl rfl 2 (by decide) (ht _ qF_RX3_142) (fun _ h9 => h9) rfl dX3_boil_42 ?_
    refine lv_iload_n hx hb dX3_boil_45 rfl (lv_at hl 1 rfl) ?_
    refine aZ hx hb hK hP 2 1 rfl rfl j_8 (rfl) (by omega) (by decide) (v := (vkb v) j_8) (rfl) dX3_boil_46 ?_
    refine lv_if_ne (tgt := 54) hx hb dX3_boil_47 (by decide) (fun c_2 => ?_) (fun c_2 => ?_)
    · skip
      refine lv_iconst (v := 0) hx hb dX3_boil_54 (by decide) ?_
      refine sZ_ hx hb hK hP hD hS 2 1 rfl rfl j_8 (rfl) (by omega) (by decide) (by decide) (upd (vkb v) j_8 0) (rfl) dX3_boil_55 (fun H locs hP hD hS => ?_)
      have hP : va_P D vwCl [(x0, .inr (3, [.ref xr, .ref xs, .ref n0, .ref b0])), (n0, .inr (2, [.ref nc, .ref np, .ref nk, .int (nI (vday v)), .int (vcoal v), .int (vbar v), .int (vfine v), .int (vcrs v), .int (vcoin v), .int (vship v)])), (nk3, .inl (cZ, 4, .inl (upd (vkb v) j_8 0))), (nk, .inr (1, [.ref nk1, .ref nk2, .ref nk3, .int (nI 3), .int (nI (vnK v))]))] _ := hP
      have hD : va_D A [(x0, .inr (3, [.ref xr, .ref xs, .ref n0, .ref b0])), (n0, .inr (2, [.ref nc, .ref np, .ref nk, .int (nI (vday v)), .int (vcoal v), .int (vbar v), .int (vfine v), .int (vcrs v), .int (vcoin v), .int (vship v)])), (nk3, .inl (cZ, 4, .inl (upd (vkb v) j_8 0))), (nk, .inr (1, [.ref nk1, .ref nk2, .ref nk3, .int (nI 3), .int (nI (vnK v))]))] := hD
      refine lv_aload_n hx hb dX3_boil_56 rfl (lv_at hl 0 rfl) ?_
      refine va_get (D := D) (ci := 3) (v := .ref n0) (C := RX3) (T := TX3) (N := 4) hx hb ht inG_X3 hown hK hP 0 rfl rfl 2 (by decide) (ht _ qF_RX3_19) (fun _ h9 => h9) rfl dX3_boil_57 ?_
      refine va_get (D := D) (ci := 2) (v := .ref nk) (C := RX2) (T := TX2) (N := 10) hx hb ht inG_X2 hown hK hP 1 rfl rfl 2 (by decide) (ht _ qF_RX3_129) (fun _ h9 => h9) rfl dX3_boil_60 ?_
      refine va_get (D := D) (ci := 1) (v := .ref nk3) (C := RX1) (T := TX1) (N := 5) hx hb ht inG_X1 hown hK hP 3 rfl rfl 2 (by decide) (ht _ qF_RX3_142) (fun _ h9 => h9) rfl dX3_boil_63 ?_
      refine lv_iload_n hx hb dX3_boil_66 rfl (lv_at hl 1 rfl) ?_
      refine aZ hx hb hK hP 2 1 rfl rfl j_8 (rfl) (by omega) (by decide) (v := 0) (pk_us) dX3_boil_67 ?_
      exact hend _ _ _ _ _ _ 0 (mkV (vsh v) (vco v) (vbu v) (vfl v) (vnC v) (vpw v) (vpa v) (vpb v) (vnP v) (vkw v) (vka v) (upd (vkb v) j_8 0) (vnK v) (vday v) (vcoal v) (vbar v) (vfine v) (vcrs v) (vcoin v) (vship v) (vR v) (vS v)) dX3_boil_68 (⟨by simp only [kBoil, eq_true ht_8, ix_8, eq_false c_2, if_true, if_false, eq_self], by simp only [rBoil, tog, eq_true ht_8, ix_8, eq_false c_2, if_true, if_false], by simp only [nBoil, kBoil, tog, eq_true ht_8, ix_8, eq_false c_2, if_true, if_false, eq_self]⟩) (hP.sub [0, 1, 3, 2] rfl) (hD.sub [0, 1, 3, 2] (by decide) rfl) hS rfl (Nat.le_of_ble_eq_true rfl) (Nat.le_of_ble_eq_true rfl)
    · skip
      refine lv_iconst (v := 1) hx hb dX3_boil_50 (by decide) ?_
      refine lv_goto (tgt := 55) hx hb dX3_boil_51 (by decide) ?_
      refine sZ_ hx hb hK hP hD hS 2 1 rfl rfl j_8 (rfl) (by omega) (by decide) (by decide) (upd (vkb v) j_8 1) (rfl) dX3_boil_55 (fun H locs hP hD hS => ?_)
      have hP : va_P D vwCl [(x0, .inr (3, [.ref xr, .ref xs, .ref n0, .ref b0])), (n0, .inr (2, [.ref nc, .ref np, .ref nk, .int (nI (vday v)), .int (vcoal v), .int (vbar v), .int (vfine v), .int (vcrs v), .int (vcoin v), .int (vship v)])), (nk3, .inl (cZ, 4, .inl (upd (vkb v) j_8 1))), (nk, .inr (1, [.ref nk1, .ref nk2, .ref nk3, .int (nI 3), .int (nI (vnK v))]))] _ := hP
      have hD : va_D A [(x0, .inr (3, [.ref xr, .ref xs, .ref n0, .ref b0])), (n0, .inr (2, [.ref nc, .ref np, .ref nk, .int (nI (vday v)), .int (vcoal v), .int (vbar v), .int (vfine v), .int (vcrs v), .int (vcoin v), .int (vship v)])), (nk3, .inl (cZ, 4, .inl (upd (vkb v) j_8 1))), (nk, .inr (1, [.ref nk1, .ref nk2, .ref nk3, .int (nI 3), .int (nI (vnK v))]))] := hD
      refine lv_aload_n hx hb dX3_boil_56 rfl (lv_at hl 0 rfl) ?_
      refine va_get (D := D) (ci := 3) (v := .ref n0) (C := RX3) (T := TX3) (N := 4) hx hb ht inG_X3 hown hK hP 0 rfl rfl 2 (by decide) (ht _ qF_RX3_19) (fun _ h9 => h9) rfl dX3_boil_57 ?_
      refine va_get (D := D) (ci := 2) (v := .ref nk) (C := RX2) (T := TX2) (N := 10) hx hb ht inG_X2 hown hK hP 1 rfl rfl 2 (by decide) (ht _ qF_RX3_129) (fun _ h9 => h9) rfl dX3_boil_60 ?_
      refine va_get (D := D) (ci := 1) (v := .ref nk3) (C := RX1) (T := TX1) (N := 5) hx hb ht inG_X1 hown hK hP 3 rfl rfl 2 (by decide) (ht _ qF_RX3_142) (fun _ h9 => h9) rfl dX3_boil_63 ?_
      refine lv_iload_n hx hb dX3_boil_66 rfl (lv_at hl 1 rfl) ?_
      refine aZ hx hb hK hP 2 1 rfl rfl j_8 (rfl) (by omega) (by decide) (v := 1) (pk_us) dX3_boil_67 ?_
      exact hend _ _ _ _ _ _ 1 (mkV (vsh v) (vco v) (vbu v) (vfl v) (vnC v) (vpw v) (vpa v) (vpb v) (vnP v) (vkw v) (vka v) (upd (vkb v) j_8 1) (vnK v) (vday v) (vcoal v) (vbar v) (vfine v) (vcrs v) (vcoin v) (vship v) (vR v) (vS v)) dX3_boil_68 (⟨by simp only [kBoil, eq_true ht_8, ix_8, eq_true c_2, if_true, if_false, eq_self], by simp only [rBoil, tog, eq_true ht_8, ix_8, eq_true c_2, if_true, if_false], by simp only [nBoil, kBoil, tog, eq_true ht_8, ix_8, eq_true c_2, if_true, if_false, eq_self]⟩) (hP.sub [0, 1, 3, 2] rfl) (hD.sub [0, 1, 3, 2] (by decide) rfl) hS rfl (Nat.le_of_ble_eq_true rfl) (Nat.le_of_ble_eq_true rfl)
  · skip
    refine lv_if_ne (tgt := 24) hx hb dX3_boil_11 (by decide) (fun h => absurd (by decide) h) (fun _ => ?_)
    exact hthr _ _ _ _ _ 140 _ "there is no such pan" _ thr_IO (by decide +kernel) dX3_boil_14 dX3_boil_17 dX3_boil_18 dX3_boil_20 dX3_boil_23 (⟨rfl, by simp only [kBoil, eq_false b_1, if_true, if_false]⟩) (hP.sub [0, 1, 3, 2] rfl) hS hl.1

def rm_X3_pour : Room := { frames := 6, cells := 1, slots := 6, locals := 90 }
set_option maxHeartbeats 4000000 in
set_option maxRecDepth 100000 in
theorem c_X3_pour (l : Launch) (D : va_G) (cI cZ cJ : ClassId) (x0 xr xs n0 b0 : Nat) (nc np nk nk1 nk2 nk3 : Nat) (v : VT) (y1 y2 : Int32) (hI : IS v) (hst : l.stackTraces = false) : Xi l yX3_pour cX3_pour 4 (some .int) rm_X3_pour D (TY cI cZ cJ) [.ref x0, .int y1, .int y2] [(x0, .inr (3, [.ref xr, .ref xs, .ref n0, .ref b0])), (n0, .inr (2, [.ref nc, .ref np, .ref nk, .int (nI (vday v)), .int (vcoal v), .int (vbar v), .int (vfine v), .int (vcrs v), .int (vcoin v), .int (vship v)])), (nk, .inr (1, [.ref nk1, .ref nk2, .ref nk3, .int (nI 3), .int (nI (vnK v))])), (nk1, .inl (cI, 4, .inl (vkw v))), (nk2, .inl (cI, 4, .inl (vka v))), (nk3, .inl (cZ, 4, .inl (vkb v)))] (fun (r : Int32) (u : VT) => kPour v y1 y2 = 0 ∧ r = rPour v y1 y2 ∧ u = nPour v y1 y2) (fun (u : VT) => [(x0, .inr (3, [.ref xr, .ref xs, .ref n0, .ref b0])), (n0, .inr (2, [.ref nc, .ref np, .ref nk, .int (nI (vday u)), .int (vcoal u), .int (vbar u), .int (vfine u), .int (vcrs u), .int (vcoin u), .int (vship u)])), (nk, .inr (1, [.ref nk1, .ref nk2, .ref nk3, .int (nI 3), .int (nI (vnK u))])), (nk1, .inl (cI, 4, .inl (vkw u))), (nk2, .inl (cI, 4, .inl (vka u))), (nk3, .inl (cZ, 4, .inl (vkb u)))]) (fun (E : String) => (E = iIO ∧ kPour v y1 y2 = 1) ∨ (E = iIA ∧ kPour v y1 y2 = 2) ∨ (E = iIS ∧ kPour v y1 y2 = 3)) := by
  refine Xi.of (by decide) rfl (Nat.le_of_ble_eq_true rfl) hst ⟨by decide, by decide, by decide, by decide⟩ ?_
  intro p e s m args below meth c A ls Q hF hK hP hD hA hl hend hthr
  obtain ⟨F, hr, hlocks, hG⟩ := hF
  have hx := F.1
  have hb := F.2.1
  have hown := F.2.2.2.1
  have ht := F.2.2.2.2
  have hS : va_S A s.heap s.heap [] := va_S.rf
  have hl : lv_has ls 4 [(0, .ref x0), (1, .int y1), (2, .int y2)] := hl
  obtain ⟨hC4, hP4, hK3, hAH, hf1, hf2, hf3, hdy⟩ := hI
  refine lv_aload_n hx hb dX3_pour_0 rfl (lv_at hl 0 rfl) ?_
  refine va_get (D := D) (ci := 3) (v := .ref n0) (C := RX3) (T := TX3) (N := 4) hx hb ht inG_X3 hown hK hP 0 rfl rfl 2 (by decide) (ht _ qF_RX3_19) (fun _ h9 => h9) rfl dX3_pour_1 ?_
  refine va_get (D := D) (ci := 2) (v := .ref nk) (C := RX2) (T := TX2) (N := 10) hx hb ht inG_X2 hown hK hP 1 rfl rfl 2 (by decide) (ht _ qF_RX3_129) (fun _ h9 => h9) rfl dX3_pour_4 ?_
  refine lv_iload_n hx hb dX3_pour_7 rfl (lv_at hl 1 rfl) ?_
  refine k_i (wr := [(x0, .inr (3, [.ref xr, .ref xs, .ref n0, .ref b0])), (n0, .inr (2, [.ref nc, .ref np, .ref nk, .int (nI (vday v)), .int (vcoal v), .int (vbar v), .int (vfine v), .int (vcrs v), .int (vcoin v), .int (vship v)])), (nk1, .inl (cI, 4, .inl (vkw v))), (nk2, .inl (cI, 4, .inl (vka v))), (nk3, .inl (cZ, 4, .inl (vkb v)))]) (rV (As := [.int y1]) (rest := []) F hG hK (hP.sub (ws' := [(nk, .inr (1, [.ref nk1, .ref nk2, .ref nk3, .int (nI 3), .int (nI (vnK v))]))]) [2] rfl) ((hD.sub (ws' := [(nk, .inr (1, [.ref nk1, .ref nk2, .ref nk3, .int (nI 3), .int (nI (vnK v))]))]) [2] (by decide) rfl).weaken (fun _ _ _ _ => trivial)) s_RX3_115 (c_X1_has l D cI cZ cJ nk nk1 nk2 nk3 3 (vnK v) y1 (by first | assumption | omega) _) 1 0 rfl rfl rfl rfl hl.1 rfl (Nat.le_of_ble_eq_true rfl) dX3_pour_8 ⟨(Nat.le_of_ble_eq_true rfl), (Nat.le_of_ble_eq_true rfl)⟩ ⟨(Nat.le_of_ble_eq_true rfl), (Nat.le_of_ble_eq_true rfl)⟩) hP hD hS hA [2] [0, 1, 3, 4, 5] rfl rfl (by decide) (by decide) (fun r_8 uu H locs hw hP hD hS => ?_)
  try dsimp only at hw
  have hP : va_P D vwCl [(x0, .inr (3, [.ref xr, .ref xs, .ref n0, .ref b0])), (n0, .inr (2, [.ref nc, .ref np, .ref nk, .int (nI (vday v)), .int (vcoal v), .int (vbar v), .int (vfine v), .int (vcrs v), .int (vcoin v), .int (vship v)])), (nk1, .inl (cI, 4, .inl (vkw v))), (nk2, .inl (cI, 4, .inl (vka v))), (nk3, .inl (cZ, 4, .inl (vkb v))), (nk, .inr (1, [.ref nk1, .ref nk2, .ref nk3, .int (nI 3), .int (nI (vnK v))]))] _ := hP
  have hD : va_D A [(x0, .inr (3, [.ref xr, .ref xs, .ref n0, .ref b0])), (n0, .inr (2, [.ref nc, .ref np, .ref nk, .int (nI (vday v)), .int (vcoal v), .int (vbar v), .int (vfine v), .int (vcrs v), .int (vcoin v), .int (vship v)])), (nk1, .inl (cI, 4, .inl (vkw v))), (nk2, .inl (cI, 4, .inl (vka v))), (nk3, .inl (cZ, 4, .inl (vkb v))), (nk, .inr (1, [.ref nk1, .ref nk2, .ref nk3, .int (nI 3), .int (nI (vnK v))]))] := hD
  rcases hw with ⟨rfl, b_1⟩ | ⟨rfl, b_1⟩
  · skip
    obtain ⟨j_8, hj_8, rfl⟩ := b_1
    have ht_8 := hasT (n := (vnK v)) (by omega) hj_8
    have ix_8 : ix (nI j_8) = j_8 := ix_nI (by omega)
    have hP : va_P D vwCl [(x0, .inr (3, [.ref xr, .ref xs, .ref n0, .ref b0])), (n0, .inr (2, [.ref nc, .ref np, .ref nk, .int (nI (vday v)), .int (vcoal v), .int (vbar v), .int (vfine v), .int (vcrs v), .int (vcoin v), .int (vship v)])), (nk1, .inl (cI, 4, .inl (vkw v))), (nk2, .inl (cI, 4, .inl (vka v))), (nk3, .inl (cZ, 4, .inl (vkb v))), (nk, .inr (1, [.ref nk1, .ref nk2, .ref nk3, .int (nI 3), .int (nI (vnK v))]))] _ := hP
    have hD : va_D A [(x0, .inr (3, [.ref xr, .ref xs, .ref n0, .ref b0])), (n0, .inr (2, [.ref nc, .ref np, .ref nk, .int (nI (vday v)), .int (vcoal v), .int (vbar v), .int (vfine v), .int (vcrs v), .int (vcoin v), .int (vship v)])), (nk1, .inl (cI, 4, .inl (vkw v))), (nk2, .inl (cI, 4, .inl (vka v))), (nk3, .inl (cZ, 4, .inl (vkb v))), (nk, .inr (1, [.ref nk1, .ref nk2, .ref nk3, .int (nI 3), .int (nI (vnK v))]))] := hD
    have hl : lv_has ls 4 [(0, .ref x0), (1, .int (nI j_8)), (2, .int y2)] := hl
    refine lv_if_ne (tgt := 24) hx hb dX3_pour_11 (by decide) (fun _ => ?_) (fun h => absurd h (by decide))
    refine lv_iload_n hx hb dX3_pour_24 rfl (lv_at hl 2 rfl) ?_
    refine lv_iconst (v := 1) hx hb dX3_pour_25 (by decide) ?_
    refine lv_bipush (v := 20) hx hb dX3_pour_26 (by decide) ?_
    refine k_i (wr := [(x0, .inr (3, [.ref xr, .ref xs, .ref n0, .ref b0])), (n0, .inr (2, [.ref nc, .ref np, .ref nk, .int (nI (vday v)), .int (vcoal v), .int (vbar v), .int (vfine v), .int (vcrs v), .int (vcoin v), .int (vship v)])), (nk1, .inl (cI, 4, .inl (vkw v))), (nk2, .inl (cI, 4, .inl (vka v))), (nk3, .inl (cZ, 4, .inl (vkb v))), (nk, .inr (1, [.ref nk1, .ref nk2, .ref nk3, .int (nI 3), .int (nI (vnK v))]))]) (rS (As := [.int y2, .int 1, .int 20]) (rest := []) F hG hK (hP.sub (ws' := []) [] rfl) ((hD.sub (ws' := []) [] (by decide) rfl).weaken (fun _ _ _ _ => trivial)) s_RX3_26 (c_X3_within l D cI cZ cJ y2 1 20 _) rfl hl.1 rfl (Nat.le_of_ble_eq_true rfl) dX3_pour_28 ⟨(Nat.le_of_ble_eq_true rfl), (Nat.le_of_ble_eq_true rfl)⟩ ⟨(Nat.le_of_ble_eq_true rfl), (Nat.le_of_ble_eq_true rfl)⟩) hP hD hS hA [] [0, 1, 2, 3, 4, 5] rfl rfl (by decide) (by decide) (fun r_28 uu H locs hw hP hD hS => ?_)
    try dsimp only at hw
    have hP : va_P D vwCl [(x0, .inr (3, [.ref xr, .ref xs, .ref n0, .ref b0])), (n0, .inr (2, [.ref nc, .ref np, .ref nk, .int (nI (vday v)), .int (vcoal v), .int (vbar v), .int (vfine v), .int (vcrs v), .int (vcoin v), .int (vship v)])), (nk1, .inl (cI, 4, .inl (vkw v))), (nk2, .inl (cI, 4, .inl (vka v))), (nk3, .inl (cZ, 4, .inl (vkb v))), (nk, .inr (1, [.ref nk1, .ref nk2, .ref nk3, .int (nI 3), .int (nI (vnK v))]))] _ := hP
    have hD : va_D A [(x0, .inr (3, [.ref xr, .ref xs, .ref n0, .ref b0])), (n0, .inr (2, [.ref nc, .ref np, .ref nk, .int (nI (vday v)), .int (vcoal v), .int (vbar v), .int (vfine v), .int (vcrs v), .int (vcoin v), .int (vship v)])), (nk1, .inl (cI, 4, .inl (vkw v))), (nk2, .inl (cI, 4, .inl (vka v))), (nk3, .inl (cZ, 4, .inl (vkb v))), (nk, .inr (1, [.ref nk1, .ref nk2, .ref nk3, .int (nI 3), .int (nI (vnK v))]))] := hD
    rcases hw with ⟨rfl, b_2⟩ | ⟨rfl, b_2⟩
    · skip
      refine lv_if_ne (tgt := 44) hx hb dX3_pour_31 (by decide) (fun _ => ?_) (fun h => absurd h (by decide))
      refine lv_aload_n hx hb dX3_pour_44 rfl (lv_at hl 0 rfl) ?_
      refine va_get (D := D) (ci := 3) (v := .ref n0) (C := RX3) (T := TX3) (N := 4) hx hb ht inG_X3 hown hK hP 0 rfl rfl 2 (by decide) (ht _ qF_RX3_19) (fun _ h9 => h9) rfl dX3_pour_45 ?_
      refine va_get (D := D) (ci := 2) (v := .int (vbar v)) (C := RX2) (T := TX2) (N := 10) hx hb ht inG_X2 hown hK hP 1 rfl rfl 5 (by decide) (ht _ qF_RX3_52) (fun _ h9 => h9) rfl dX3_pour_48 ?_
      refine lv_iload_n hx hb dX3_pour_51 rfl (lv_at hl 2 rfl) ?_
      refine lv_icmp_lt (tgt := 70) hx hb dX3_pour_52 (by decide) (fun c_3 => ?_) (fun c_3 => ?_)
      · skip
        have c_3n := Int32.not_le.mpr c_3
        exact hthr _ _ _ _ _ 147 _ "there are not so many barrels, or the pan has no alum" _ thr_IS (by decide +kernel) dX3_pour_70 dX3_pour_73 dX3_pour_74 dX3_pour_76 dX3_pour_79 (Or.inr (Or.inr (⟨rfl, by simp only [kPour, eq_true ht_8, ix_8, eq_true b_2, eq_true c_3, eq_false c_3n, if_true, if_false]⟩))) (hP.sub [0, 1, 5, 2, 3, 4] rfl) hS hl.1
      · skip
        have c_3n := Int32.not_lt.mp c_3
        refine lv_aload_n hx hb dX3_pour_55 rfl (lv_at hl 0 rfl) ?_
        refine va_get (D := D) (ci := 3) (v := .ref n0) (C := RX3) (T := TX3) (N := 4) hx hb ht inG_X3 hown hK hP 0 rfl rfl 2 (by decide) (ht _ qF_RX3_19) (fun _ h9 => h9) rfl dX3_pour_56 ?_
        refine va_get (D := D) (ci := 2) (v := .ref nk) (C := RX2) (T := TX2) (N := 10) hx hb ht inG_X2 hown hK hP 1 rfl rfl 2 (by decide) (ht _ qF_RX3_129) (fun _ h9 => h9) rfl dX3_pour_59 ?_
        refine va_get (D := D) (ci := 1) (v := .ref nk2) (C := RX1) (T := TX1) (N := 5) hx hb ht inG_X1 hown hK hP 5 rfl rfl 1 (by decide) (ht _ qF_RX3_126) (fun _ h9 => h9) rfl dX3_pour_62 ?_
        refine lv_iload_n hx hb dX3_pour_65 rfl (lv_at hl 1 rfl) ?_
        refine aI hx hb hK hP 3 0 rfl rfl j_8 (rfl) (by omega) (by decide) (v := (vka v) j_8) (rfl) dX3_pour_66 ?_
        refine lv_if_ne (tgt := 80) hx hb dX3_pour_67 (by decide) (fun c_4 => ?_) (fun c_4 => ?_)
        · skip
          refine lv_aload_n hx hb dX3_pour_80 rfl (lv_at hl 0 rfl) ?_
          refine lv_iload_n hx hb dX3_pour_81 rfl (lv_at hl 1 rfl) ?_
          refine lv_iload_n hx hb dX3_pour_82 rfl (lv_at hl 2 rfl) ?_
          refine k_i (wr := [(nk3, .inl (cZ, 4, .inl (vkb v)))]) (rV (As := [.int (nI j_8), .int y2]) (rest := []) F hG hK (hP.sub (ws' := [(x0, .inr (3, [.ref xr, .ref xs, .ref n0, .ref b0])), (n0, .inr (2, [.ref nc, .ref np, .ref nk, .int (nI (vday v)), .int (vcoal v), .int (vbar v), .int (vfine v), .int (vcrs v), .int (vcoin v), .int (vship v)])), (nk, .inr (1, [.ref nk1, .ref nk2, .ref nk3, .int (nI 3), .int (nI (vnK v))])), (nk1, .inl (cI, 4, .inl (vkw v))), (nk2, .inl (cI, 4, .inl (vka v)))]) [0, 1, 5, 2, 3] rfl) ((hD.sub (ws' := [(x0, .inr (3, [.ref xr, .ref xs, .ref n0, .ref b0])), (n0, .inr (2, [.ref nc, .ref np, .ref nk, .int (nI (vday v)), .int (vcoal v), .int (vbar v), .int (vfine v), .int (vcrs v), .int (vcoin v), .int (vship v)])), (nk, .inr (1, [.ref nk1, .ref nk2, .ref nk3, .int (nI 3), .int (nI (vnK v))])), (nk1, .inl (cI, 4, .inl (vkw v))), (nk2, .inl (cI, 4, .inl (vka v)))]) [0, 1, 5, 2, 3] (by decide) rfl).weaken (fun _ _ _ _ => trivial)) s_RX3_149 (c_X3_crystalsOf l D cI cZ cJ x0 xr xs n0 b0 nc np nk nk1 nk2 nk3 v j_8 y2 (by first | assumption | omega) _) 3 0 rfl rfl rfl rfl hl.1 rfl (Nat.le_of_ble_eq_true rfl) dX3_pour_83 ⟨(Nat.le_of_ble_eq_true rfl), (Nat.le_of_ble_eq_true rfl)⟩ ⟨(Nat.le_of_ble_eq_true rfl), (Nat.le_of_ble_eq_true rfl)⟩) hP hD hS hA [0, 1, 5, 2, 3] [4] rfl rfl (by decide) (by decide) (fun r_83 uu H locs hw hP hD hS => ?_)
          try dsimp only at hw
          subst hw
          have hP : va_P D vwCl [(nk3, .inl (cZ, 4, .inl (vkb v))), (x0, .inr (3, [.ref xr, .ref xs, .ref n0, .ref b0])), (n0, .inr (2, [.ref nc, .ref np, .ref nk, .int (nI (vday v)), .int (vcoal v), .int (vbar v), .int (vfine v), .int (vcrs v), .int (vcoin v), .int (vship v)])), (nk, .inr (1, [.ref nk1, .ref nk2, .ref nk3, .int (nI 3), .int (nI (vnK v))])), (nk1, .inl (cI, 4, .inl (vkw v))), (nk2, .inl (cI, 4, .inl (vka v)))] _ := hP
          have hD : va_D A [(nk3, .inl (cZ, 4, .inl (vkb v))), (x0, .inr (3, [.ref xr, .ref xs, .ref n0, .ref b0])), (n0, .inr (2, [.ref nc, .ref np, .ref nk, .int (nI (vday v)), .int (vcoal v), .int (vbar v), .int (vfine v), .int (vcrs v), .int (vcoin v), .int (vship v)])), (nk, .inr (1, [.ref nk1, .ref nk2, .ref nk3, .int (nI 3), .int (nI (vnK v))])), (nk1, .inl (cI, 4, .inl (vkw v))), (nk2, .inl (cI, 4, .inl (vka v)))] := hD
          refine lv_istore_n (lv' := [(3, .int (crys (vkw v j_8) (vka v j_8) y2)), (0, .ref x0), (1, .int (nI j_8)), (2, .int y2)]) hx hb dX3_pour_86 rfl hl (by decide) rfl (fun ls hl => ?_)
          refine lv_aload_n hx hb dX3_pour_87 rfl (lv_at hl 1 rfl) ?_
          refine va_get (D := D) (ci := 3) (v := .ref n0) (C := RX3) (T := TX3) (N := 4) hx hb ht inG_X3 hown hK hP 1 rfl rfl 2 (by decide) (ht _ qF_RX3_19) (fun _ h9 => h9) rfl dX3_pour_88 ?_
          refine va_get (D := D) (ci := 2) (v := .ref nk) (C := RX2) (T := TX2) (N := 10) hx hb ht inG_X2 hown hK hP 2 rfl rfl 2 (by decide) (ht _ qF_RX3_129) (fun _ h9 => h9) rfl dX3_pour_91 ?_
          refine lv_iload_n hx hb dX3_pour_94 rfl (lv_at hl 2 rfl) ?_
          refine k_i (wr := [(nk3, .inl (cZ, 4, .inl (vkb v))), (x0, .inr (3, [.ref xr, .ref xs, .ref n0, .ref b0])), (n0, .inr (2, [.ref nc, .ref np, .ref nk, .int (nI (vday v)), .int (vcoal v), .int (vbar v), .int (vfine v), .int (vcrs v), .int (vcoin v), .int (vship v)]))]) (rV (As := [.int (nI j_8)]) (rest := []) F hG hK (hP.sub (ws' := [(nk, .inr (1, [.ref nk1, .ref nk2, .ref nk3, .int (nI 3), .int (nI (vnK v))])), (nk1, .inl (cI, 4, .inl (vkw v))), (nk2, .inl (cI, 4, .inl (vka v)))]) [3, 4, 5] rfl) ((hD.sub (ws' := [(nk, .inr (1, [.ref nk1, .ref nk2, .ref nk3, .int (nI 3), .int (nI (vnK v))])), (nk1, .inl (cI, 4, .inl (vkw v))), (nk2, .inl (cI, 4, .inl (vka v)))]) [3, 4, 5] (by decide) rfl).weaken (fun _ _ _ _ => trivial)) s_RX3_152 (c_X1_egg l D cI cZ cJ nk nk1 nk2 nk3 3 (vkw v) (vka v) (vnK v) j_8 (by first | assumption | omega) _) 1 0 rfl rfl rfl rfl hl.1 rfl (Nat.le_of_ble_eq_true rfl) dX3_pour_95 ⟨(Nat.le_of_ble_eq_true rfl), (Nat.le_of_ble_eq_true rfl)⟩ ⟨(Nat.le_of_ble_eq_true rfl), (Nat.le_of_ble_eq_true rfl)⟩) hP hD hS hA [3, 4, 5] [0, 1, 2] rfl rfl (by decide) (by decide) (fun r_95 uu H locs hw hP hD hS => ?_)
          try dsimp only at hw
          subst hw
          have hP : va_P D vwCl [(nk3, .inl (cZ, 4, .inl (vkb v))), (x0, .inr (3, [.ref xr, .ref xs, .ref n0, .ref b0])), (n0, .inr (2, [.ref nc, .ref np, .ref nk, .int (nI (vday v)), .int (vcoal v), .int (vbar v), .int (vfine v), .int (vcrs v), .int (vcoin v), .int (vship v)])), (nk, .inr (1, [.ref nk1, .ref nk2, .ref nk3, .int (nI 3), .int (nI (vnK v))])), (nk1, .inl (cI, 4, .inl (vkw v))), (nk2, .inl (cI, 4, .inl (vka v)))] _ := hP
          have hD : va_D A [(nk3, .inl (cZ, 4, .inl (vkb v))), (x0, .inr (3, [.ref xr, .ref xs, .ref n0, .ref b0])), (n0, .inr (2, [.ref nc, .ref np, .ref nk, .int (nI (vday v)), .int (vcoal v), .int (vbar v), .int (vfine v), .int (vcrs v), .int (vcoin v), .int (vship v)])), (nk, .inr (1, [.ref nk1, .ref nk2, .ref nk3, .int (nI 3), .int (nI (vnK v))])), (nk1, .inl (cI, 4, .inl (vkw v))), (nk2, .inl (cI, 4, .inl (vka v)))] := hD
          refine lv_iconst (v := 1) hx hb dX3_pour_98 (by decide) ?_
          refine lv_icmp_ne (tgt := 118) hx hb dX3_pour_99 (by decide) (fun c_5 => ?_) (fun c_5 => ?_)
          · skip
            refine lv_aload_n hx hb dX3_pour_118 rfl (lv_at hl 1 rfl) ?_
            refine va_get (D := D) (ci := 3) (v := .ref n0) (C := RX3) (T := TX3) (N := 4) hx hb ht inG_X3 hown hK hP 1 rfl rfl 2 (by decide) (ht _ qF_RX3_19) (fun _ h9 => h9) rfl dX3_pour_119 ?_
            refine lv_dup hx hb dX3_pour_122 rfl ?_
            refine va_get (D := D) (ci := 2) (v := .int (vcrs v)) (C := RX2) (T := TX2) (N := 10) hx hb ht inG_X2 hown hK hP 2 rfl rfl 7 (by decide) (ht _ qF_RX3_158) (fun _ h9 => h9) rfl dX3_pour_123 ?_
            refine lv_iload_n hx hb dX3_pour_126 rfl (lv_at hl 0 rfl) ?_
            refine lv_iadd hx hb dX3_pour_127 ?_
            refine va_put (D := D) (ci := 2) (v := .int ((vcrs v) + (crys (vkw v j_8) (vka v j_8) y2))) (C := RX2) (T := TX2) (N := 10) hx hb ht inG_X2 tyX2 tyX2_ok nmX2 hown hK hP hD hS 2 rfl rfl 7 (by decide) (ht _ qF_RX3_158) (fun _ h9 => h9) rfl (tyX2_ok 7 (by decide)) rfl rfl (Nat.le_of_ble_eq_true rfl) dX3_pour_128 (fun H locs hP hD hS => ?_)
            have hP : va_P D vwCl [(nk3, .inl (cZ, 4, .inl (vkb v))), (x0, .inr (3, [.ref xr, .ref xs, .ref n0, .ref b0])), (n0, .inr (2, [.ref nc, .ref np, .ref nk, .int (nI (vday v)), .int (vcoal v), .int (vbar v), .int (vfine v), .int ((vcrs v) + (crys (vkw v j_8) (vka v j_8) y2)), .int (vcoin v), .int (vship v)])), (nk, .inr (1, [.ref nk1, .ref nk2, .ref nk3, .int (nI 3), .int (nI (vnK v))])), (nk1, .inl (cI, 4, .inl (vkw v))), (nk2, .inl (cI, 4, .inl (vka v)))] _ := hP
            have hD : va_D A [(nk3, .inl (cZ, 4, .inl (vkb v))), (x0, .inr (3, [.ref xr, .ref xs, .ref n0, .ref b0])), (n0, .inr (2, [.ref nc, .ref np, .ref nk, .int (nI (vday v)), .int (vcoal v), .int (vbar v), .int (vfine v), .int ((vcrs v) + (crys (vkw v j_8) (vka v j_8) y2)), .int (vcoin v), .int (vship v)])), (nk, .inr (1, [.ref nk1, .ref nk2, .ref nk3, .int (nI 3), .int (nI (vnK v))])), (nk1, .inl (cI, 4, .inl (vkw v))), (nk2, .inl (cI, 4, .inl (vka v)))] := hD
            refine lv_aload_n hx hb dX3_pour_131 rfl (lv_at hl 1 rfl) ?_
            refine va_get (D := D) (ci := 3) (v := .ref n0) (C := RX3) (T := TX3) (N := 4) hx hb ht inG_X3 hown hK hP 1 rfl rfl 2 (by decide) (ht _ qF_RX3_19) (fun _ h9 => h9) rfl dX3_pour_132 ?_
            refine lv_dup hx hb dX3_pour_135 rfl ?_
            refine va_get (D := D) (ci := 2) (v := .int (vbar v)) (C := RX2) (T := TX2) (N := 10) hx hb ht inG_X2 hown hK hP 2 rfl rfl 5 (by decide) (ht _ qF_RX3_52) (fun _ h9 => h9) rfl dX3_pour_136 ?_
            refine lv_iload_n hx hb dX3_pour_139 rfl (lv_at hl 3 rfl) ?_
            refine lv_isub hx hb dX3_pour_140 ?_
            refine va_put (D := D) (ci := 2) (v := .int ((vbar v) - y2)) (C := RX2) (T := TX2) (N := 10) hx hb ht inG_X2 tyX2 tyX2_ok nmX2 hown hK hP hD hS 2 rfl rfl 5 (by decide) (ht _ qF_RX3_52) (fun _ h9 => h9) rfl (tyX2_ok 5 (by decide)) rfl rfl (Nat.le_of_ble_eq_true rfl) dX3_pour_141 (fun H locs hP hD hS => ?_)
            have hP : va_P D vwCl [(nk3, .inl (cZ, 4, .inl (vkb v))), (x0, .inr (3, [.ref xr, .ref xs, .ref n0, .ref b0])), (n0, .inr (2, [.ref nc, .ref np, .ref nk, .int (nI (vday v)), .int (vcoal v), .int ((vbar v) - y2), .int (vfine v), .int ((vcrs v) + (crys (vkw v j_8) (vka v j_8) y2)), .int (vcoin v), .int (vship v)])), (nk, .inr (1, [.ref nk1, .ref nk2, .ref nk3, .int (nI 3), .int (nI (vnK v))])), (nk1, .inl (cI, 4, .inl (vkw v))), (nk2, .inl (cI, 4, .inl (vka v)))] _ := hP
            have hD : va_D A [(nk3, .inl (cZ, 4, .inl (vkb v))), (x0, .inr (3, [.ref xr, .ref xs, .ref n0, .ref b0])), (n0, .inr (2, [.ref nc, .ref np, .ref nk, .int (nI (vday v)), .int (vcoal v), .int ((vbar v) - y2), .int (vfine v), .int ((vcrs v) + (crys (vkw v j_8) (vka v j_8) y2)), .int (vcoin v), .int (vship v)])), (nk, .inr (1, [.ref nk1, .ref nk2, .ref nk3, .int (nI 3), .int (nI (vnK v))])), (nk1, .inl (cI, 4, .inl (vkw v))), (nk2, .inl (cI, 4, .inl (vka v)))] := hD
            refine lv_aload_n hx hb dX3_pour_144 rfl (lv_at hl 1 rfl) ?_
            refine va_get (D := D) (ci := 3) (v := .ref n0) (C := RX3) (T := TX3) (N := 4) hx hb ht inG_X3 hown hK hP 1 rfl rfl 2 (by decide) (ht _ qF_RX3_19) (fun _ h9 => h9) rfl dX3_pour_145 ?_
            refine va_get (D := D) (ci := 2) (v := .ref nk) (C := RX2) (T := TX2) (N := 10) hx hb ht inG_X2 hown hK hP 2 rfl rfl 2 (by decide) (ht _ qF_RX3_129) (fun _ h9 => h9) rfl dX3_pour_148 ?_
            refine lv_iload_n hx hb dX3_pour_151 rfl (lv_at hl 2 rfl) ?_
            refine k_v (wr := [(x0, .inr (3, [.ref xr, .ref xs, .ref n0, .ref b0])), (n0, .inr (2, [.ref nc, .ref np, .ref nk, .int (nI (vday v)), .int (vcoal v), .int ((vbar v) - y2), .int (vfine v), .int ((vcrs v) + (crys (vkw v j_8) (vka v j_8) y2)), .int (vcoin v), .int (vship v)]))]) (rV (As := [.int (nI j_8)]) (rest := []) F hG hK (hP.sub (ws' := [(nk, .inr (1, [.ref nk1, .ref nk2, .ref nk3, .int (nI 3), .int (nI (vnK v))])), (nk1, .inl (cI, 4, .inl (vkw v))), (nk2, .inl (cI, 4, .inl (vka v))), (nk3, .inl (cZ, 4, .inl (vkb v)))]) [3, 4, 5, 0] rfl) ((hD.sub (ws' := [(nk, .inr (1, [.ref nk1, .ref nk2, .ref nk3, .int (nI 3), .int (nI (vnK v))])), (nk1, .inl (cI, 4, .inl (vkw v))), (nk2, .inl (cI, 4, .inl (vka v))), (nk3, .inl (cZ, 4, .inl (vkb v)))]) [3, 4, 5, 0] (by decide) rfl).weaken (fun _ _ _ _ => trivial)) s_RX3_161 (c_X1_empty l D cI cZ cJ nk nk1 nk2 nk3 3 (vkw v) (vka v) (vkb v) (vnK v) j_8 (by first | assumption | omega) _) 1 0 rfl rfl rfl rfl hl.1 rfl (Nat.le_of_ble_eq_true rfl) dX3_pour_152 ⟨(Nat.le_of_ble_eq_true rfl), (Nat.le_of_ble_eq_true rfl)⟩ ⟨(Nat.le_of_ble_eq_true rfl), (Nat.le_of_ble_eq_true rfl)⟩) hP hD hS hA [3, 4, 5, 0] [1, 2] rfl rfl (by decide) (by decide) (fun uu H locs hw hP hD hS => ?_)
            obtain ⟨w1_152, a1f_152, b1_152⟩ := uu
            try dsimp only at hw
            obtain ⟨rfl, rfl, rfl⟩ := hw
            have hP : va_P D vwCl [(x0, .inr (3, [.ref xr, .ref xs, .ref n0, .ref b0])), (n0, .inr (2, [.ref nc, .ref np, .ref nk, .int (nI (vday v)), .int (vcoal v), .int ((vbar v) - y2), .int (vfine v), .int ((vcrs v) + (crys (vkw v j_8) (vka v j_8) y2)), .int (vcoin v), .int (vship v)])), (nk, .inr (1, [.ref nk1, .ref nk2, .ref nk3, .int (nI 3), .int (nI (vnK v))])), (nk1, .inl (cI, 4, .inl (upd (vkw v) j_8 0))), (nk2, .inl (cI, 4, .inl (upd (vka v) j_8 0))), (nk3, .inl (cZ, 4, .inl (upd (vkb v) j_8 0)))] _ := hP
            have hD : va_D A [(x0, .inr (3, [.ref xr, .ref xs, .ref n0, .ref b0])), (n0, .inr (2, [.ref nc, .ref np, .ref nk, .int (nI (vday v)), .int (vcoal v), .int ((vbar v) - y2), .int (vfine v), .int ((vcrs v) + (crys (vkw v j_8) (vka v j_8) y2)), .int (vcoin v), .int (vship v)])), (nk, .inr (1, [.ref nk1, .ref nk2, .ref nk3, .int (nI 3), .int (nI (vnK v))])), (nk1, .inl (cI, 4, .inl (upd (vkw v) j_8 0))), (nk2, .inl (cI, 4, .inl (upd (vka v) j_8 0))), (nk3, .inl (cZ, 4, .inl (upd (vkb v) j_8 0)))] := hD
            refine lv_iload_n hx hb dX3_pour_155 rfl (lv_at hl 0 rfl) ?_
            exact hend _ _ _ _ _ _ (crys (vkw v j_8) (vka v j_8) y2) (mkV (vsh v) (vco v) (vbu v) (vfl v) (vnC v) (vpw v) (vpa v) (vpb v) (vnP v) (upd (vkw v) j_8 0) (upd (vka v) j_8 0) (upd (vkb v) j_8 0) (vnK v) (vday v) (vcoal v) ((vbar v) - y2) (vfine v) ((vcrs v) + (crys (vkw v j_8) (vka v j_8) y2)) (vcoin v) (vship v) (vR v) (vS v)) dX3_pour_156 (⟨by simp only [kPour, eq_true ht_8, ix_8, eq_true b_2, eq_false c_3, eq_true c_3n, eq_false c_4, eq_false c_5, if_true, if_false, eq_self], by simp only [rPour, eq_true ht_8, ix_8, eq_true b_2, eq_false c_3, eq_true c_3n, eq_false c_4, eq_false c_5], by simp only [nPour, kPour, eggK, eq_true ht_8, ix_8, eq_true b_2, eq_false c_3, eq_true c_3n, eq_false c_4, eq_false c_5, if_true, if_false, eq_self]⟩) hP hD hS rfl (Nat.le_of_ble_eq_true rfl) (Nat.le_of_ble_eq_true rfl)
          · skip
            refine lv_aload_n hx hb dX3_pour_102 rfl (lv_at hl 1 rfl) ?_
            refine va_get (D := D) (ci := 3) (v := .ref n0) (C := RX3) (T := TX3) (N := 4) hx hb ht inG_X3 hown hK hP 1 rfl rfl 2 (by decide) (ht _ qF_RX3_19) (fun _ h9 => h9) rfl dX3_pour_103 ?_
            refine lv_dup hx hb dX3_pour_106 rfl ?_
            refine va_get (D := D) (ci := 2) (v := .int (vfine v)) (C := RX2) (T := TX2) (N := 10) hx hb ht inG_X2 hown hK hP 2 rfl rfl 6 (by decide) (ht _ qF_RX3_155) (fun _ h9 => h9) rfl dX3_pour_107 ?_
            refine lv_iload_n hx hb dX3_pour_110 rfl (lv_at hl 0 rfl) ?_
            refine lv_iadd hx hb dX3_pour_111 ?_
            refine va_put (D := D) (ci := 2) (v := .int ((vfine v) + (crys (vkw v j_8) (vka v j_8) y2))) (C := RX2) (T := TX2) (N := 10) hx hb ht inG_X2 tyX2 tyX2_ok nmX2 hown hK hP hD hS 2 rfl rfl 6 (by decide) (ht _ qF_RX3_155) (fun _ h9 => h9) rfl (tyX2_ok 6 (by decide)) rfl rfl (Nat.le_of_ble_eq_true rfl) dX3_pour_112 (fun H locs hP hD hS => ?_)
            have hP : va_P D vwCl [(nk3, .inl (cZ, 4, .inl (vkb v))), (x0, .inr (3, [.ref xr, .ref xs, .ref n0, .ref b0])), (n0, .inr (2, [.ref nc, .ref np, .ref nk, .int (nI (vday v)), .int (vcoal v), .int (vbar v), .int ((vfine v) + (crys (vkw v j_8) (vka v j_8) y2)), .int (vcrs v), .int (vcoin v), .int (vship v)])), (nk, .inr (1, [.ref nk1, .ref nk2, .ref nk3, .int (nI 3), .int (nI (vnK v))])), (nk1, .inl (cI, 4, .inl (vkw v))), (nk2, .inl (cI, 4, .inl (vka v)))] _ := hP
            have hD : va_D A [(nk3, .inl (cZ, 4, .inl (vkb v))), (x0, .inr (3, [.ref xr, .ref xs, .ref n0, .ref b0])), (n0, .inr (2, [.ref nc, .ref np, .ref nk, .int (nI (vday v)), .int (vcoal v), .int (vbar v), .int ((vfine v) + (crys (vkw v j_8) (vka v j_8) y2)), .int (vcrs v), .int (vcoin v), .int (vship v)])), (nk, .inr (1, [.ref nk1, .ref nk2, .ref nk3, .int (nI 3), .int (nI (vnK v))])), (nk1, .inl (cI, 4, .inl (vkw v))), (nk2, .inl (cI, 4, .inl (vka v)))] := hD
            refine lv_goto (tgt := 131) hx hb dX3_pour_115 (by decide) ?_
            refine lv_aload_n hx hb dX3_pour_131 rfl (lv_at hl 1 rfl) ?_
            refine va_get (D := D) (ci := 3) (v := .ref n0) (C := RX3) (T := TX3) (N := 4) hx hb ht inG_X3 hown hK hP 1 rfl rfl 2 (by decide) (ht _ qF_RX3_19) (fun _ h9 => h9) rfl dX3_pour_132 ?_
            refine lv_dup hx hb dX3_pour_135 rfl ?_
            refine va_get (D := D) (ci := 2) (v := .int (vbar v)) (C := RX2) (T := TX2) (N := 10) hx hb ht inG_X2 hown hK hP 2 rfl rfl 5 (by decide) (ht _ qF_RX3_52) (fun _ h9 => h9) rfl dX3_pour_136 ?_
            refine lv_iload_n hx hb dX3_pour_139 rfl (lv_at hl 3 rfl) ?_
            refine lv_isub hx hb dX3_pour_140 ?_
            refine va_put (D := D) (ci := 2) (v := .int ((vbar v) - y2)) (C := RX2) (T := TX2) (N := 10) hx hb ht inG_X2 tyX2 tyX2_ok nmX2 hown hK hP hD hS 2 rfl rfl 5 (by decide) (ht _ qF_RX3_52) (fun _ h9 => h9) rfl (tyX2_ok 5 (by decide)) rfl rfl (Nat.le_of_ble_eq_true rfl) dX3_pour_141 (fun H locs hP hD hS => ?_)
            have hP : va_P D vwCl [(nk3, .inl (cZ, 4, .inl (vkb v))), (x0, .inr (3, [.ref xr, .ref xs, .ref n0, .ref b0])), (n0, .inr (2, [.ref nc, .ref np, .ref nk, .int (nI (vday v)), .int (vcoal v), .int ((vbar v) - y2), .int ((vfine v) + (crys (vkw v j_8) (vka v j_8) y2)), .int (vcrs v), .int (vcoin v), .int (vship v)])), (nk, .inr (1, [.ref nk1, .ref nk2, .ref nk3, .int (nI 3), .int (nI (vnK v))])), (nk1, .inl (cI, 4, .inl (vkw v))), (nk2, .inl (cI, 4, .inl (vka v)))] _ := hP
            have hD : va_D A [(nk3, .inl (cZ, 4, .inl (vkb v))), (x0, .inr (3, [.ref xr, .ref xs, .ref n0, .ref b0])), (n0, .inr (2, [.ref nc, .ref np, .ref nk, .int (nI (vday v)), .int (vcoal v), .int ((vbar v) - y2), .int ((vfine v) + (crys (vkw v j_8) (vka v j_8) y2)), .int (vcrs v), .int (vcoin v), .int (vship v)])), (nk, .inr (1, [.ref nk1, .ref nk2, .ref nk3, .int (nI 3), .int (nI (vnK v))])), (nk1, .inl (cI, 4, .inl (vkw v))), (nk2, .inl (cI, 4, .inl (vka v)))] := hD
            refine lv_aload_n hx hb dX3_pour_144 rfl (lv_at hl 1 rfl) ?_
            refine va_get (D := D) (ci := 3) (v := .ref n0) (C := RX3) (T := TX3) (N := 4) hx hb ht inG_X3 hown hK hP 1 rfl rfl 2 (by decide) (ht _ qF_RX3_19) (fun _ h9 => h9) rfl dX3_pour_145 ?_
            refine va_get (D := D) (ci := 2) (v := .ref nk) (C := RX2) (T := TX2) (N := 10) hx hb ht inG_X2 hown hK hP 2 rfl rfl 2 (by decide) (ht _ qF_RX3_129) (fun _ h9 => h9) rfl dX3_pour_148 ?_
            refine lv_iload_n hx hb dX3_pour_151 rfl (lv_at hl 2 rfl) ?_
            refine k_v (wr := [(x0, .inr (3, [.ref xr, .ref xs, .ref n0, .ref b0])), (n0, .inr (2, [.ref nc, .ref np, .ref nk, .int (nI (vday v)), .int (vcoal v), .int ((vbar v) - y2), .int ((vfine v) + (crys (vkw v j_8) (vka v j_8) y2)), .int (vcrs v), .int (vcoin v), .int (vship v)]))]) (rV (As := [.int (nI j_8)]) (rest := []) F hG hK (hP.sub (ws' := [(nk, .inr (1, [.ref nk1, .ref nk2, .ref nk3, .int (nI 3), .int (nI (vnK v))])), (nk1, .inl (cI, 4, .inl (vkw v))), (nk2, .inl (cI, 4, .inl (vka v))), (nk3, .inl (cZ, 4, .inl (vkb v)))]) [3, 4, 5, 0] rfl) ((hD.sub (ws' := [(nk, .inr (1, [.ref nk1, .ref nk2, .ref nk3, .int (nI 3), .int (nI (vnK v))])), (nk1, .inl (cI, 4, .inl (vkw v))), (nk2, .inl (cI, 4, .inl (vka v))), (nk3, .inl (cZ, 4, .inl (vkb v)))]) [3, 4, 5, 0] (by decide) rfl).weaken (fun _ _ _ _ => trivial)) s_RX3_161 (c_X1_empty l D cI cZ cJ nk nk1 nk2 nk3 3 (vkw v) (vka v) (vkb v) (vnK v) j_8 (by first | assumption | omega) _) 1 0 rfl rfl rfl rfl hl.1 rfl (Nat.le_of_ble_eq_true rfl) dX3_pour_152 ⟨(Nat.le_of_ble_eq_true rfl), (Nat.le_of_ble_eq_true rfl)⟩ ⟨(Nat.le_of_ble_eq_true rfl), (Nat.le_of_ble_eq_true rfl)⟩) hP hD hS hA [3, 4, 5, 0] [1, 2] rfl rfl (by decide) (by decide) (fun uu H locs hw hP hD hS => ?_)
            obtain ⟨w1_152, a1f_152, b1_152⟩ := uu
            try dsimp only at hw
            obtain ⟨rfl, rfl, rfl⟩ := hw
            have hP : va_P D vwCl [(x0, .inr (3, [.ref xr, .ref xs, .ref n0, .ref b0])), (n0, .inr (2, [.ref nc, .ref np, .ref nk, .int (nI (vday v)), .int (vcoal v), .int ((vbar v) - y2), .int ((vfine v) + (crys (vkw v j_8) (vka v j_8) y2)), .int (vcrs v), .int (vcoin v), .int (vship v)])), (nk, .inr (1, [.ref nk1, .ref nk2, .ref nk3, .int (nI 3), .int (nI (vnK v))])), (nk1, .inl (cI, 4, .inl (upd (vkw v) j_8 0))), (nk2, .inl (cI, 4, .inl (upd (vka v) j_8 0))), (nk3, .inl (cZ, 4, .inl (upd (vkb v) j_8 0)))] _ := hP
            have hD : va_D A [(x0, .inr (3, [.ref xr, .ref xs, .ref n0, .ref b0])), (n0, .inr (2, [.ref nc, .ref np, .ref nk, .int (nI (vday v)), .int (vcoal v), .int ((vbar v) - y2), .int ((vfine v) + (crys (vkw v j_8) (vka v j_8) y2)), .int (vcrs v), .int (vcoin v), .int (vship v)])), (nk, .inr (1, [.ref nk1, .ref nk2, .ref nk3, .int (nI 3), .int (nI (vnK v))])), (nk1, .inl (cI, 4, .inl (upd (vkw v) j_8 0))), (nk2, .inl (cI, 4, .inl (upd (vka v) j_8 0))), (nk3, .inl (cZ, 4, .inl (upd (vkb v) j_8 0)))] := hD
            refine lv_iload_n hx hb dX3_pour_155 rfl (lv_at hl 0 rfl) ?_
            exact hend _ _ _ _ _ _ (crys (vkw v j_8) (vka v j_8) y2) (mkV (vsh v) (vco v) (vbu v) (vfl v) (vnC v) (vpw v) (vpa v) (vpb v) (vnP v) (upd (vkw v) j_8 0) (upd (vka v) j_8 0) (upd (vkb v) j_8 0) (vnK v) (vday v) (vcoal v) ((vbar v) - y2) ((vfine v) + (crys (vkw v j_8) (vka v j_8) y2)) (vcrs v) (vcoin v) (vship v) (vR v) (vS v)) dX3_pour_156 (⟨by simp only [kPour, eq_true ht_8, ix_8, eq_true b_2, eq_false c_3, eq_true c_3n, eq_false c_4, eq_true c_5, if_true, if_false, eq_self], by simp only [rPour, eq_true ht_8, ix_8, eq_true b_2, eq_false c_3, eq_true c_3n, eq_false c_4, eq_true c_5], by simp only [nPour, kPour, eggK, eq_true ht_8, ix_8, eq_true b_2, eq_false c_3, eq_true c_3n, eq_false c_4, eq_true c_5, if_true, if_false, eq_self]⟩) hP hD hS rfl (Nat.le_of_ble_eq_true rfl) (Nat.le_of_ble_eq_true rfl)
        · skip
          exact hthr _ _ _ _ _ 147 _ "there are not so many barrels, or the pan has no alum" _ thr_IS (by decide +kernel) dX3_pour_70 dX3_pour_73 dX3_pour_74 dX3_pour_76 dX3_pour_79 (Or.inr (Or.inr (⟨rfl, by simp only [kPour, eq_true ht_8, ix_8, eq_true b_2, eq_false c_3, eq_true c_3n, eq_true c_4, if_true, if_false]⟩))) (hP.sub [0, 1, 5, 2, 3, 4] rfl) hS hl.1
    · skip
      refine lv_if_ne (tgt := 44) hx hb dX3_pour_31 (by decide) (fun h => absurd (by decide) h) (fun _ => ?_)
      exact hthr _ _ _ _ _ 145 _ "barrels is not 1 to 20" _ thr_IA (by decide +kernel) dX3_pour_34 dX3_pour_37 dX3_pour_38 dX3_pour_40 dX3_pour_43 (Or.inr (Or.inl ⟨rfl, by simp only [kPour, eq_true ht_8, ix_8, eq_false b_2, if_true, if_false]⟩)) (hP.sub [0, 1, 5, 2, 3, 4] rfl) hS hl.1
  · skip
    refine lv_if_ne (tgt := 24) hx hb dX3_pour_11 (by decide) (fun h => absurd (by decide) h) (fun _ => ?_)
    exact hthr _ _ _ _ _ 140 _ "there is no such pan" _ thr_IO (by decide +kernel) dX3_pour_14 dX3_pour_17 dX3_pour_18 dX3_pour_20 dX3_pour_23 (Or.inl ⟨rfl, by simp only [kPour, eq_false b_1, if_true, if_false]⟩) (hP.sub [0, 1, 5, 2, 3, 4] rfl) hS hl.1

def rm_X3_clamp : Room := { frames := 6, cells := 1, slots := 6, locals := 90 }
set_option maxHeartbeats 4000000 in
set_option maxRecDepth 100000 in
theorem c_X3_clamp (l : Launch) (D : va_G) (cI cZ cJ : ClassId) (x0 xr xs n0 b0 : Nat) (nc np nk nc1 nc2 nc3 nc4 : Nat) (v : VT) (y1 y2 : Int32) (hI : IS v) (hst : l.stackTraces = false) : Xi l yX3_clamp cX3_clamp 3 (some .int) rm_X3_clamp D (TY cI cZ cJ) [.ref x0, .int y1, .int y2] [(x0, .inr (3, [.ref xr, .ref xs, .ref n0, .ref b0])), (n0, .inr (2, [.ref nc, .ref np, .ref nk, .int (nI (vday v)), .int (vcoal v), .int (vbar v), .int (vfine v), .int (vcrs v), .int (vcoin v), .int (vship v)])), (nc, .inr (0, [.ref nc1, .ref nc2, .ref nc3, .ref nc4, .int (nI (vnC v))])), (nc1, .inl (cI, 4, .inl (vsh v))), (nc2, .inl (cI, 4, .inl (vco v))), (nc3, .inl (cI, 4, .inl (vbu v))), (nc4, .inl (cZ, 4, .inl (vfl v)))] (fun (r : Int32) (u : Unit) => kClamp v y1 y2 = 0 ∧ r = rClamp v y1 y2) (fun (u : Unit) => [(x0, .inr (3, [.ref xr, .ref xs, .ref n0, .ref b0])), (n0, .inr (2, [.ref nc, .ref np, .ref nk, .int (nI (vday v)), .int (vcoal v), .int (vbar v), .int (vfine v), .int (vcrs v), .int (vcoin v), .int (vship v)])), (nc, .inr (0, [.ref nc1, .ref nc2, .ref nc3, .ref nc4, .int (nI (vnC v))])), (nc1, .inl (cI, 4, .inl (vsh v))), (nc2, .inl (cI, 4, .inl (vco v))), (nc3, .inl (cI, 4, .inl (vbu v))), (nc4, .inl (cZ, 4, .inl (vfl v)))]) (fun (E : String) => (E = iIO ∧ kClamp v y1 y2 = 1)) := by
  refine Xi.of (by decide) rfl (Nat.le_of_ble_eq_true rfl) hst ⟨by decide, by decide, by decide, by decide⟩ ?_
  intro p e s m args below meth c A ls Q hF hK hP hD hA hl hend hthr
  obtain ⟨F, hr, hlocks, hG⟩ := hF
  have hx := F.1
  have hb := F.2.1
  have hown := F.2.2.2.1
  have ht := F.2.2.2.2
  have hS : va_S A s.heap s.heap [] := va_S.rf
  have hl : lv_has ls 3 [(0, .ref x0), (1, .int y1), (2, .int y2)] := hl
  obtain ⟨hC4, hP4, hK3, hAH, hf1, hf2, hf3, hdy⟩ := hI
  refine lv_aload_n hx hb dX3_clamp_0 rfl (lv_at hl 0 rfl) ?_
  refine va_get (D := D) (ci := 3) (v := .ref n0) (C := RX3) (T := TX3) (N := 4) hx hb ht inG_X3 hown hK hP 0 rfl rfl 2 (by decide) (ht _ qF_RX3_19) (fun _ h9 => h9) rfl dX3_clamp_1 ?_
  refine va_get (D := D) (ci := 2) (v := .ref nc) (C := RX2) (T := TX2) (N := 10) hx hb ht inG_X2 hown hK hP 1 rfl rfl 0 (by decide) (ht _ qF_RX3_65) (fun _ h9 => h9) rfl dX3_clamp_4 ?_
  refine lv_iload_n hx hb dX3_clamp_7 rfl (lv_at hl 1 rfl) ?_
  refine k_i (wr := [(x0, .inr (3, [.ref xr, .ref xs, .ref n0, .ref b0])), (n0, .inr (2, [.ref nc, .ref np, .ref nk, .int (nI (vday v)), .int (vcoal v), .int (vbar v), .int (vfine v), .int (vcrs v), .int (vcoin v), .int (vship v)])), (nc1, .inl (cI, 4, .inl (vsh v))), (nc2, .inl (cI, 4, .inl (vco v))), (nc3, .inl (cI, 4, .inl (vbu v))), (nc4, .inl (cZ, 4, .inl (vfl v)))]) (rV (As := [.int y1]) (rest := []) F hG hK (hP.sub (ws' := [(nc, .inr (0, [.ref nc1, .ref nc2, .ref nc3, .ref nc4, .int (nI (vnC v))]))]) [2] rfl) ((hD.sub (ws' := [(nc, .inr (0, [.ref nc1, .ref nc2, .ref nc3, .ref nc4, .int (nI (vnC v))]))]) [2] (by decide) rfl).weaken (fun _ _ _ _ => trivial)) s_RX3_84 (c_X0_has l D cI cZ cJ nc nc1 nc2 nc3 nc4 (vnC v) y1 (by first | assumption | omega) _) 0 0 rfl rfl rfl rfl hl.1 rfl (Nat.le_of_ble_eq_true rfl) dX3_clamp_8 ⟨(Nat.le_of_ble_eq_true rfl), (Nat.le_of_ble_eq_true rfl)⟩ ⟨(Nat.le_of_ble_eq_true rfl), (Nat.le_of_ble_eq_true rfl)⟩) hP hD hS hA [2] [0, 1, 3, 4, 5, 6] rfl rfl (by decide) (by decide) (fun r_8 uu H locs hw hP hD hS => ?_)
  try dsimp only at hw
  have hP : va_P D vwCl [(x0, .inr (3, [.ref xr, .ref xs, .ref n0, .ref b0])), (n0, .inr (2, [.ref nc, .ref np, .ref nk, .int (nI (vday v)), .int (vcoal v), .int (vbar v), .int (vfine v), .int (vcrs v), .int (vcoin v), .int (vship v)])), (nc1, .inl (cI, 4, .inl (vsh v))), (nc2, .inl (cI, 4, .inl (vco v))), (nc3, .inl (cI, 4, .inl (vbu v))), (nc4, .inl (cZ, 4, .inl (vfl v))), (nc, .inr (0, [.ref nc1, .ref nc2, .ref nc3, .ref nc4, .int (nI (vnC v))]))] _ := hP
  have hD : va_D A [(x0, .inr (3, [.ref xr, .ref xs, .ref n0, .ref b0])), (n0, .inr (2, [.ref nc, .ref np, .ref nk, .int (nI (vday v)), .int (vcoal v), .int (vbar v), .int (vfine v), .int (vcrs v), .int (vcoin v), .int (vship v)])), (nc1, .inl (cI, 4, .inl (vsh v))), (nc2, .inl (cI, 4, .inl (vco v))), (nc3, .inl (cI, 4, .inl (vbu v))), (nc4, .inl (cZ, 4, .inl (vfl v))), (nc, .inr (0, [.ref nc1, .ref nc2, .ref nc3, .ref nc4, .int (nI (vnC v))]))] := hD
  rcases hw with ⟨rfl, b_1⟩ | ⟨rfl, b_1⟩
  · skip
    obtain ⟨j_8, hj_8, rfl⟩ := b_1
    have ht_8 := hasT (n := (vnC v)) (by omega) hj_8
    have ix_8 : ix (nI j_8) = j_8 := ix_nI (by omega)
    have hP : va_P D vwCl [(x0, .inr (3, [.ref xr, .ref xs, .ref n0, .ref b0])), (n0, .inr (2, [.ref nc, .ref np, .ref nk, .int (nI (vday v)), .int (vcoal v), .int (vbar v), .int (vfine v), .int (vcrs v), .int (vcoin v), .int (vship v)])), (nc1, .inl (cI, 4, .inl (vsh v))), (nc2, .inl (cI, 4, .inl (vco v))), (nc3, .inl (cI, 4, .inl (vbu v))), (nc4, .inl (cZ, 4, .inl (vfl v))), (nc, .inr (0, [.ref nc1, .ref nc2, .ref nc3, .ref nc4, .int (nI (vnC v))]))] _ := hP
    have hD : va_D A [(x0, .inr (3, [.ref xr, .ref xs, .ref n0, .ref b0])), (n0, .inr (2, [.ref nc, .ref np, .ref nk, .int (nI (vday v)), .int (vcoal v), .int (vbar v), .int (vfine v), .int (vcrs v), .int (vcoin v), .int (vship v)])), (nc1, .inl (cI, 4, .inl (vsh v))), (nc2, .inl (cI, 4, .inl (vco v))), (nc3, .inl (cI, 4, .inl (vbu v))), (nc4, .inl (cZ, 4, .inl (vfl v))), (nc, .inr (0, [.ref nc1, .ref nc2, .ref nc3, .ref nc4, .int (nI (vnC v))]))] := hD
    have hl : lv_has ls 3 [(0, .ref x0), (1, .int (nI j_8)), (2, .int y2)] := hl
    refine lv_if_eq (tgt := 23) hx hb dX3_clamp_11 (by decide) (fun h => absurd h (by decide)) (fun _ => ?_)
    refine lv_iload_n hx hb dX3_clamp_14 rfl (lv_at hl 2 rfl) ?_
    refine lv_iconst (v := 0) hx hb dX3_clamp_15 (by decide) ?_
    refine lv_iconst (v := 3) hx hb dX3_clamp_16 (by decide) ?_
    refine k_i (wr := [(x0, .inr (3, [.ref xr, .ref xs, .ref n0, .ref b0])), (n0, .inr (2, [.ref nc, .ref np, .ref nk, .int (nI (vday v)), .int (vcoal v), .int (vbar v), .int (vfine v), .int (vcrs v), .int (vcoin v), .int (vship v)])), (nc1, .inl (cI, 4, .inl (vsh v))), (nc2, .inl (cI, 4, .inl (vco v))), (nc3, .inl (cI, 4, .inl (vbu v))), (nc4, .inl (cZ, 4, .inl (vfl v))), (nc, .inr (0, [.ref nc1, .ref nc2, .ref nc3, .ref nc4, .int (nI (vnC v))]))]) (rS (As := [.int y2, .int 0, .int 3]) (rest := []) F hG hK (hP.sub (ws' := []) [] rfl) ((hD.sub (ws' := []) [] (by decide) rfl).weaken (fun _ _ _ _ => trivial)) s_RX3_26 (c_X3_within l D cI cZ cJ y2 0 3 _) rfl hl.1 rfl (Nat.le_of_ble_eq_true rfl) dX3_clamp_17 ⟨(Nat.le_of_ble_eq_true rfl), (Nat.le_of_ble_eq_true rfl)⟩ ⟨(Nat.le_of_ble_eq_true rfl), (Nat.le_of_ble_eq_true rfl)⟩) hP hD hS hA [] [0, 1, 2, 3, 4, 5, 6] rfl rfl (by decide) (by decide) (fun r_17 uu H locs hw hP hD hS => ?_)
    try dsimp only at hw
    have hP : va_P D vwCl [(x0, .inr (3, [.ref xr, .ref xs, .ref n0, .ref b0])), (n0, .inr (2, [.ref nc, .ref np, .ref nk, .int (nI (vday v)), .int (vcoal v), .int (vbar v), .int (vfine v), .int (vcrs v), .int (vcoin v), .int (vship v)])), (nc1, .inl (cI, 4, .inl (vsh v))), (nc2, .inl (cI, 4, .inl (vco v))), (nc3, .inl (cI, 4, .inl (vbu v))), (nc4, .inl (cZ, 4, .inl (vfl v))), (nc, .inr (0, [.ref nc1, .ref nc2, .ref nc3, .ref nc4, .int (nI (vnC v))]))] _ := hP
    have hD : va_D A [(x0, .inr (3, [.ref xr, .ref xs, .ref n0, .ref b0])), (n0, .inr (2, [.ref nc, .ref np, .ref nk, .int (nI (vday v)), .int (vcoal v), .int (vbar v), .int (vfine v), .int (vcrs v), .int (vcoin v), .int (vship v)])), (nc1, .inl (cI, 4, .inl (vsh v))), (nc2, .inl (cI, 4, .inl (vco v))), (nc3, .inl (cI, 4, .inl (vbu v))), (nc4, .inl (cZ, 4, .inl (vfl v))), (nc, .inr (0, [.ref nc1, .ref nc2, .ref nc3, .ref nc4, .int (nI (vnC v))]))] := hD
    rcases hw with ⟨rfl, b_2⟩ | ⟨rfl, b_2⟩
    · skip
      refine lv_if_ne (tgt := 33) hx hb dX3_clamp_20 (by decide) (fun _ => ?_) (fun h => absurd h (by decide))
      refine lv_aload_n hx hb dX3_clamp_33 rfl (lv_at hl 0 rfl) ?_
      refine va_get (D := D) (ci := 3) (v := .ref n0) (C := RX3) (T := TX3) (N := 4) hx hb ht inG_X3 hown hK hP 0 rfl rfl 2 (by decide) (ht _ qF_RX3_19) (fun _ h9 => h9) rfl dX3_clamp_34 ?_
      refine va_get (D := D) (ci := 2) (v := .ref nc) (C := RX2) (T := TX2) (N := 10) hx hb ht inG_X2 hown hK hP 1 rfl rfl 0 (by decide) (ht _ qF_RX3_65) (fun _ h9 => h9) rfl dX3_clamp_37 ?_
      refine lv_iload_n hx hb dX3_clamp_40 rfl (lv_at hl 1 rfl) ?_
      refine lv_iload_n hx hb dX3_clamp_41 rfl (lv_at hl 2 rfl) ?_
      refine k_i (wr := [(x0, .inr (3, [.ref xr, .ref xs, .ref n0, .ref b0])), (n0, .inr (2, [.ref nc, .ref np, .ref nk, .int (nI (vday v)), .int (vcoal v), .int (vbar v), .int (vfine v), .int (vcrs v), .int (vcoin v), .int (vship v)]))]) (rV (As := [.int (nI j_8), .int y2]) (rest := []) F hG hK (hP.sub (ws' := [(nc, .inr (0, [.ref nc1, .ref nc2, .ref nc3, .ref nc4, .int (nI (vnC v))])), (nc1, .inl (cI, 4, .inl (vsh v))), (nc2, .inl (cI, 4, .inl (vco v))), (nc3, .inl (cI, 4, .inl (vbu v))), (nc4, .inl (cZ, 4, .inl (vfl v)))]) [6, 2, 3, 4, 5] rfl) ((hD.sub (ws' := [(nc, .inr (0, [.ref nc1, .ref nc2, .ref nc3, .ref nc4, .int (nI (vnC v))])), (nc1, .inl (cI, 4, .inl (vsh v))), (nc2, .inl (cI, 4, .inl (vco v))), (nc3, .inl (cI, 4, .inl (vbu v))), (nc4, .inl (cZ, 4, .inl (vfl v)))]) [6, 2, 3, 4, 5] (by decide) rfl).weaken (fun _ _ _ _ => trivial)) s_RX3_167 (c_X0_tell l D cI cZ cJ nc nc1 nc2 nc3 nc4 (vsh v) (vco v) (vbu v) (vfl v) (vnC v) j_8 y2 (by first | assumption | omega) _) 0 0 rfl rfl rfl rfl hl.1 rfl (Nat.le_of_ble_eq_true rfl) dX3_clamp_42 ⟨(Nat.le_of_ble_eq_true rfl), (Nat.le_of_ble_eq_true rfl)⟩ ⟨(Nat.le_of_ble_eq_true rfl), (Nat.le_of_ble_eq_true rfl)⟩) hP hD hS hA [6, 2, 3, 4, 5] [0, 1] rfl rfl (by decide) (by decide) (fun r_42 uu H locs hw hP hD hS => ?_)
      try dsimp only at hw
      subst hw
      have hP : va_P D vwCl [(x0, .inr (3, [.ref xr, .ref xs, .ref n0, .ref b0])), (n0, .inr (2, [.ref nc, .ref np, .ref nk, .int (nI (vday v)), .int (vcoal v), .int (vbar v), .int (vfine v), .int (vcrs v), .int (vcoin v), .int (vship v)])), (nc, .inr (0, [.ref nc1, .ref nc2, .ref nc3, .ref nc4, .int (nI (vnC v))])), (nc1, .inl (cI, 4, .inl (vsh v))), (nc2, .inl (cI, 4, .inl (vco v))), (nc3, .inl (cI, 4, .inl (vbu v))), (nc4, .inl (cZ, 4, .inl (vfl v)))] _ := hP
      have hD : va_D A [(x0, .inr (3, [.ref xr, .ref xs, .ref n0, .ref b0])), (n0, .inr (2, [.ref nc, .ref np, .ref nk, .int (nI (vday v)), .int (vcoal v), .int (vbar v), .int (vfine v), .int (vcrs v), .int (vcoin v), .int (vship v)])), (nc, .inr (0, [.ref nc1, .ref nc2, .ref nc3, .ref nc4, .int (nI (vnC v))])), (nc1, .inl (cI, 4, .inl (vsh v))), (nc2, .inl (cI, 4, .inl (vco v))), (nc3, .inl (cI, 4, .inl (vbu v))), (nc4, .inl (cZ, 4, .inl (vfl v)))] := hD
      exact hend _ _ _ _ _ _ (ctell (vsh v) (vco v) (vbu v) (vfl v) j_8 y2) () dX3_clamp_45 (⟨by simp only [kClamp, eq_true ht_8, ix_8, eq_true b_2, if_true, if_false, eq_self], by simp only [rClamp, eq_true ht_8, ix_8, eq_true b_2, if_true, if_false]⟩) hP hD hS rfl (Nat.le_of_ble_eq_true rfl) (Nat.le_of_ble_eq_true rfl)
    · skip
      refine lv_if_ne (tgt := 33) hx hb dX3_clamp_20 (by decide) (fun h => absurd (by decide) h) (fun _ => ?_)
      exact hthr _ _ _ _ _ 165 _ "there is no such clamp, or what is not 0 to 3" _ thr_IO (by decide +kernel) dX3_clamp_23 dX3_clamp_26 dX3_clamp_27 dX3_clamp_29 dX3_clamp_32 (⟨rfl, by simp only [kClamp, eq_true ht_8, ix_8, eq_false b_2, if_true, if_false]⟩) (hP.sub [0, 1, 6, 2, 3, 4, 5] rfl) hS hl.1
  · skip
    refine lv_if_eq (tgt := 23) hx hb dX3_clamp_11 (by decide) (fun _ => ?_) (fun h => absurd (by decide) h)
    exact hthr _ _ _ _ _ 165 _ "there is no such clamp, or what is not 0 to 3" _ thr_IO (by decide +kernel) dX3_clamp_23 dX3_clamp_26 dX3_clamp_27 dX3_clamp_29 dX3_clamp_32 (⟨rfl, by simp only [kClamp, eq_false b_1, if_true, if_false]⟩) (hP.sub [0, 1, 6, 2, 3, 4, 5] rfl) hS hl.1

def rm_X3_pit : Room := { frames := 6, cells := 1, slots := 6, locals := 90 }
set_option maxHeartbeats 4000000 in
set_option maxRecDepth 100000 in
theorem c_X3_pit (l : Launch) (D : va_G) (cI cZ cJ : ClassId) (x0 xr xs n0 b0 : Nat) (nc np nk np1 np2 np3 : Nat) (v : VT) (y1 y2 : Int32) (hI : IS v) (hst : l.stackTraces = false) : Xi l yX3_pit cX3_pit 3 (some .int) rm_X3_pit D (TY cI cZ cJ) [.ref x0, .int y1, .int y2] [(x0, .inr (3, [.ref xr, .ref xs, .ref n0, .ref b0])), (n0, .inr (2, [.ref nc, .ref np, .ref nk, .int (nI (vday v)), .int (vcoal v), .int (vbar v), .int (vfine v), .int (vcrs v), .int (vcoin v), .int (vship v)])), (np, .inr (1, [.ref np1, .ref np2, .ref np3, .int (nI 4), .int (nI (vnP v))])), (np1, .inl (cI, 4, .inl (vpw v))), (np2, .inl (cI, 4, .inl (vpa v))), (np3, .inl (cZ, 4, .inl (vpb v)))] (fun (r : Int32) (u : Unit) => kPit v y1 y2 = 0 ∧ r = rPit v y1 y2) (fun (u : Unit) => [(x0, .inr (3, [.ref xr, .ref xs, .ref n0, .ref b0])), (n0, .inr (2, [.ref nc, .ref np, .ref nk, .int (nI (vday v)), .int (vcoal v), .int (vbar v), .int (vfine v), .int (vcrs v), .int (vcoin v), .int (vship v)])), (np, .inr (1, [.ref np1, .ref np2, .ref np3, .int (nI 4), .int (nI (vnP v))])), (np1, .inl (cI, 4, .inl (vpw v))), (np2, .inl (cI, 4, .inl (vpa v))), (np3, .inl (cZ, 4, .inl (vpb v)))]) (fun (E : String) => (E = iIO ∧ kPit v y1 y2 = 1)) := by
  refine Xi.of (by decide) rfl (Nat.le_of_ble_eq_true rfl) hst ⟨by decide, by decide, by decide, by decide⟩ ?_
  intro p e s m args below meth c A ls Q hF hK hP hD hA hl hend hthr
  obtain ⟨F, hr, hlocks, hG⟩ := hF
  have hx := F.1
  have hb := F.2.1
  have hown := F.2.2.2.1
  have ht := F.2.2.2.2
  have hS : va_S A s.heap s.heap [] := va_S.rf
  have hl : lv_has ls 3 [(0, .ref x0), (1, .int y1), (2, .int y2)] := hl
  obtain ⟨hC4, hP4, hK3, hAH, hf1, hf2, hf3, hdy⟩ := hI
  refine lv_aload_n hx hb dX3_pit_0 rfl (lv_at hl 0 rfl) ?_
  refine va_get (D := D) (ci := 3) (v := .ref n0) (C := RX3) (T := TX3) (N := 4) hx hb ht inG_X3 hown hK hP 0 rfl rfl 2 (by decide) (ht _ qF_RX3_19) (fun _ h9 => h9) rfl dX3_pit_1 ?_
  refine va_get (D := D) (ci := 2) (v := .ref np) (C := RX2) (T := TX2) (N := 10) hx hb ht inG_X2 hown hK hP 1 rfl rfl 1 (by decide) (ht _ qF_RX3_105) (fun _ h9 => h9) rfl dX3_pit_4 ?_
  refine lv_iload_n hx hb dX3_pit_7 rfl (lv_at hl 1 rfl) ?_
  refine k_i (wr := [(x0, .inr (3, [.ref xr, .ref xs, .ref n0, .ref b0])), (n0, .inr (2, [.ref nc, .ref np, .ref nk, .int (nI (vday v)), .int (vcoal v), .int (vbar v), .int (vfine v), .int (vcrs v), .int (vcoin v), .int (vship v)])), (np1, .inl (cI, 4, .inl (vpw v))), (np2, .inl (cI, 4, .inl (vpa v))), (np3, .inl (cZ, 4, .inl (vpb v)))]) (rV (As := [.int y1]) (rest := []) F hG hK (hP.sub (ws' := [(np, .inr (1, [.ref np1, .ref np2, .ref np3, .int (nI 4), .int (nI (vnP v))]))]) [2] rfl) ((hD.sub (ws' := [(np, .inr (1, [.ref np1, .ref np2, .ref np3, .int (nI 4), .int (nI (vnP v))]))]) [2] (by decide) rfl).weaken (fun _ _ _ _ => trivial)) s_RX3_115 (c_X1_has l D cI cZ cJ np np1 np2 np3 4 (vnP v) y1 (by first | assumption | omega) _) 1 0 rfl rfl rfl rfl hl.1 rfl (Nat.le_of_ble_eq_true rfl) dX3_pit_8 ⟨(Nat.le_of_ble_eq_true rfl), (Nat.le_of_ble_eq_true rfl)⟩ ⟨(Nat.le_of_ble_eq_true rfl), (Nat.le_of_ble_eq_true rfl)⟩) hP hD hS hA [2] [0, 1, 3, 4, 5] rfl rfl (by decide) (by decide) (fun r_8 uu H locs hw hP hD hS => ?_)
  try dsimp only at hw
  have hP : va_P D vwCl [(x0, .inr (3, [.ref xr, .ref xs, .ref n0, .ref b0])), (n0, .inr (2, [.ref nc, .ref np, .ref nk, .int (nI (vday v)), .int (vcoal v), .int (vbar v), .int (vfine v), .int (vcrs v), .int (vcoin v), .int (vship v)])), (np1, .inl (cI, 4, .inl (vpw v))), (np2, .inl (cI, 4, .inl (vpa v))), (np3, .inl (cZ, 4, .inl (vpb v))), (np, .inr (1, [.ref np1, .ref np2, .ref np3, .int (nI 4), .int (nI (vnP v))]))] _ := hP
  have hD : va_D A [(x0, .inr (3, [.ref xr, .ref xs, .ref n0, .ref b0])), (n0, .inr (2, [.ref nc, .ref np, .ref nk, .int (nI (vday v)), .int (vcoal v), .int (vbar v), .int (vfine v), .int (vcrs v), .int (vcoin v), .int (vship v)])), (np1, .inl (cI, 4, .inl (vpw v))), (np2, .inl (cI, 4, .inl (vpa v))), (np3, .inl (cZ, 4, .inl (vpb v))), (np, .inr (1, [.ref np1, .ref np2, .ref np3, .int (nI 4), .int (nI (vnP v))]))] := hD
  rcases hw with ⟨rfl, b_1⟩ | ⟨rfl, b_1⟩
  · skip
    obtain ⟨j_8, hj_8, rfl⟩ := b_1
    have ht_8 := hasT (n := (vnP v)) (by omega) hj_8
    have ix_8 : ix (nI j_8) = j_8 := ix_nI (by omega)
    have hP : va_P D vwCl [(x0, .inr (3, [.ref xr, .ref xs, .ref n0, .ref b0])), (n0, .inr (2, [.ref nc, .ref np, .ref nk, .int (nI (vday v)), .int (vcoal v), .int (vbar v), .int (vfine v), .int (vcrs v), .int (vcoin v), .int (vship v)])), (np1, .inl (cI, 4, .inl (vpw v))), (np2, .inl (cI, 4, .inl (vpa v))), (np3, .inl (cZ, 4, .inl (vpb v))), (np, .inr (1, [.ref np1, .ref np2, .ref np3, .int (nI 4), .int (nI (vnP v))]))] _ := hP
    have hD : va_D A [(x0, .inr (3, [.ref xr, .ref xs, .ref n0, .ref b0])), (n0, .inr (2, [.ref nc, .ref np, .ref nk, .int (nI (vday v)), .int (vcoal v), .int (vbar v), .int (vfine v), .int (vcrs v), .int (vcoin v), .int (vship v)])), (np1, .inl (cI, 4, .inl (vpw v))), (np2, .inl (cI, 4, .inl (vpa v))), (np3, .inl (cZ, 4, .inl (vpb v))), (np, .inr (1, [.ref np1, .ref np2, .ref np3, .int (nI 4), .int (nI (vnP v))]))] := hD
    have hl : lv_has ls 3 [(0, .ref x0), (1, .int (nI j_8)), (2, .int y2)] := hl
    refine lv_if_eq (tgt := 23) hx hb dX3_pit_11 (by decide) (fun h => absurd h (by decide)) (fun _ => ?_)
    refine lv_iload_n hx hb dX3_pit_14 rfl (lv_at hl 2 rfl) ?_
    refine lv_iconst (v := 0) hx hb dX3_pit_15 (by decide) ?_
    refine lv_iconst (v := 3) hx hb dX3_pit_16 (by decide) ?_
    refine k_i (wr := [(x0, .inr (3, [.ref xr, .ref xs, .ref n0, .ref b0])), (n0, .inr (2, [.ref nc, .ref np, .ref nk, .int (nI (vday v)), .int (vcoal v), .int (vbar v), .int (vfine v), .int (vcrs v), .int (vcoin v), .int (vship v)])), (np1, .inl (cI, 4, .inl (vpw v))), (np2, .inl (cI, 4, .inl (vpa v))), (np3, .inl (cZ, 4, .inl (vpb v))), (np, .inr (1, [.ref np1, .ref np2, .ref np3, .int (nI 4), .int (nI (vnP v))]))]) (rS (As := [.int y2, .int 0, .int 3]) (rest := []) F hG hK (hP.sub (ws' := []) [] rfl) ((hD.sub (ws' := []) [] (by decide) rfl).weaken (fun _ _ _ _ => trivial)) s_RX3_26 (c_X3_within l D cI cZ cJ y2 0 3 _) rfl hl.1 rfl (Nat.le_of_ble_eq_true rfl) dX3_pit_17 ⟨(Nat.le_of_ble_eq_true rfl), (Nat.le_of_ble_eq_true rfl)⟩ ⟨(Nat.le_of_ble_eq_true rfl), (Nat.le_of_ble_eq_true rfl)⟩) hP hD hS hA [] [0, 1, 2, 3, 4, 5] rfl rfl (by decide) (by decide) (fun r_17 uu H locs hw hP hD hS => ?_)
    try dsimp only at hw
    have hP : va_P D vwCl [(x0, .inr (3, [.ref xr, .ref xs, .ref n0, .ref b0])), (n0, .inr (2, [.ref nc, .ref np, .ref nk, .int (nI (vday v)), .int (vcoal v), .int (vbar v), .int (vfine v), .int (vcrs v), .int (vcoin v), .int (vship v)])), (np1, .inl (cI, 4, .inl (vpw v))), (np2, .inl (cI, 4, .inl (vpa v))), (np3, .inl (cZ, 4, .inl (vpb v))), (np, .inr (1, [.ref np1, .ref np2, .ref np3, .int (nI 4), .int (nI (vnP v))]))] _ := hP
    have hD : va_D A [(x0, .inr (3, [.ref xr, .ref xs, .ref n0, .ref b0])), (n0, .inr (2, [.ref nc, .ref np, .ref nk, .int (nI (vday v)), .int (vcoal v), .int (vbar v), .int (vfine v), .int (vcrs v), .int (vcoin v), .int (vship v)])), (np1, .inl (cI, 4, .inl (vpw v))), (np2, .inl (cI, 4, .inl (vpa v))), (np3, .inl (cZ, 4, .inl (vpb v))), (np, .inr (1, [.ref np1, .ref np2, .ref np3, .int (nI 4), .int (nI (vnP v))]))] := hD
    rcases hw with ⟨rfl, b_2⟩ | ⟨rfl, b_2⟩
    · skip
      refine lv_if_ne (tgt := 33) hx hb dX3_pit_20 (by decide) (fun _ => ?_) (fun h => absurd h (by decide))
      refine lv_aload_n hx hb dX3_pit_33 rfl (lv_at hl 0 rfl) ?_
      refine va_get (D := D) (ci := 3) (v := .ref n0) (C := RX3) (T := TX3) (N := 4) hx hb ht inG_X3 hown hK hP 0 rfl rfl 2 (by decide) (ht _ qF_RX3_19) (fun _ h9 => h9) rfl dX3_pit_34 ?_
      refine va_get (D := D) (ci := 2) (v := .ref np) (C := RX2) (T := TX2) (N := 10) hx hb ht inG_X2 hown hK hP 1 rfl rfl 1 (by decide) (ht _ qF_RX3_105) (fun _ h9 => h9) rfl dX3_pit_37 ?_
      refine lv_iload_n hx hb dX3_pit_40 rfl (lv_at hl 1 rfl) ?_
      refine lv_iload_n hx hb dX3_pit_41 rfl (lv_at hl 2 rfl) ?_
      refine k_i (wr := [(x0, .inr (3, [.ref xr, .ref xs, .ref n0, .ref b0])), (n0, .inr (2, [.ref nc, .ref np, .ref nk, .int (nI (vday v)), .int (vcoal v), .int (vbar v), .int (vfine v), .int (vcrs v), .int (vcoin v), .int (vship v)]))]) (rV (As := [.int (nI j_8), .int y2]) (rest := []) F hG hK (hP.sub (ws' := [(np, .inr (1, [.ref np1, .ref np2, .ref np3, .int (nI 4), .int (nI (vnP v))])), (np1, .inl (cI, 4, .inl (vpw v))), (np2, .inl (cI, 4, .inl (vpa v))), (np3, .inl (cZ, 4, .inl (vpb v)))]) [5, 2, 3, 4] rfl) ((hD.sub (ws' := [(np, .inr (1, [.ref np1, .ref np2, .ref np3, .int (nI 4), .int (nI (vnP v))])), (np1, .inl (cI, 4, .inl (vpw v))), (np2, .inl (cI, 4, .inl (vpa v))), (np3, .inl (cZ, 4, .inl (vpb v)))]) [5, 2, 3, 4] (by decide) rfl).weaken (fun _ _ _ _ => trivial)) s_RX3_172 (c_X1_tell l D cI cZ cJ np np1 np2 np3 4 (vpw v) (vpa v) (vpb v) (vnP v) j_8 y2 (by first | assumption | omega) _) 1 0 rfl rfl rfl rfl hl.1 rfl (Nat.le_of_ble_eq_true rfl) dX3_pit_42 ⟨(Nat.le_of_ble_eq_true rfl), (Nat.le_of_ble_eq_true rfl)⟩ ⟨(Nat.le_of_ble_eq_true rfl), (Nat.le_of_ble_eq_true rfl)⟩) hP hD hS hA [5, 2, 3, 4] [0, 1] rfl rfl (by decide) (by decide) (fun r_42 uu H locs hw hP hD hS => ?_)
      try dsimp only at hw
      subst hw
      have hP : va_P D vwCl [(x0, .inr (3, [.ref xr, .ref xs, .ref n0, .ref b0])), (n0, .inr (2, [.ref nc, .ref np, .ref nk, .int (nI (vday v)), .int (vcoal v), .int (vbar v), .int (vfine v), .int (vcrs v), .int (vcoin v), .int (vship v)])), (np, .inr (1, [.ref np1, .ref np2, .ref np3, .int (nI 4), .int (nI (vnP v))])), (np1, .inl (cI, 4, .inl (vpw v))), (np2, .inl (cI, 4, .inl (vpa v))), (np3, .inl (cZ, 4, .inl (vpb v)))] _ := hP
      have hD : va_D A [(x0, .inr (3, [.ref xr, .ref xs, .ref n0, .ref b0])), (n0, .inr (2, [.ref nc, .ref np, .ref nk, .int (nI (vday v)), .int (vcoal v), .int (vbar v), .int (vfine v), .int (vcrs v), .int (vcoin v), .int (vship v)])), (np, .inr (1, [.ref np1, .ref np2, .ref np3, .int (nI 4), .int (nI (vnP v))])), (np1, .inl (cI, 4, .inl (vpw v))), (np2, .inl (cI, 4, .inl (vpa v))), (np3, .inl (cZ, 4, .inl (vpb v)))] := hD
      exact hend _ _ _ _ _ _ (ltell (vpw v) (vpa v) (vpb v) j_8 y2) () dX3_pit_45 (⟨by simp only [kPit, eq_true ht_8, ix_8, eq_true b_2, if_true, if_false, eq_self], by simp only [rPit, eq_true ht_8, ix_8, eq_true b_2, if_true, if_false]⟩) hP hD hS rfl (Nat.le_of_ble_eq_true rfl) (Nat.le_of_ble_eq_true rfl)
    · skip
      refine lv_if_ne (tgt := 33) hx hb dX3_pit_20 (by decide) (fun h => absurd (by decide) h) (fun _ => ?_)
      exact hthr _ _ _ _ _ 170 _ "there is no such pit, or what is not 0 to 3" _ thr_IO (by decide +kernel) dX3_pit_23 dX3_pit_26 dX3_pit_27 dX3_pit_29 dX3_pit_32 (⟨rfl, by simp only [kPit, eq_true ht_8, ix_8, eq_false b_2, if_true, if_false]⟩) (hP.sub [0, 1, 5, 2, 3, 4] rfl) hS hl.1
  · skip
    refine lv_if_eq (tgt := 23) hx hb dX3_pit_11 (by decide) (fun _ => ?_) (fun h => absurd (by decide) h)
    exact hthr _ _ _ _ _ 170 _ "there is no such pit, or what is not 0 to 3" _ thr_IO (by decide +kernel) dX3_pit_23 dX3_pit_26 dX3_pit_27 dX3_pit_29 dX3_pit_32 (⟨rfl, by simp only [kPit, eq_false b_1, if_true, if_false]⟩) (hP.sub [0, 1, 5, 2, 3, 4] rfl) hS hl.1

def rm_X3_about : Room := { frames := 6, cells := 1, slots := 6, locals := 90 }
set_option maxHeartbeats 4000000 in
set_option maxRecDepth 100000 in
theorem c_X3_about (l : Launch) (D : va_G) (cI cZ cJ : ClassId) (x0 xr xs n0 b0 : Nat) (nc np nk nk1 nk2 nk3 : Nat) (v : VT) (y1 y2 : Int32) (hI : IS v) (hst : l.stackTraces = false) : Xi l yX3_about cX3_about 3 (some .int) rm_X3_about D (TY cI cZ cJ) [.ref x0, .int y1, .int y2] [(x0, .inr (3, [.ref xr, .ref xs, .ref n0, .ref b0])), (n0, .inr (2, [.ref nc, .ref np, .ref nk, .int (nI (vday v)), .int (vcoal v), .int (vbar v), .int (vfine v), .int (vcrs v), .int (vcoin v), .int (vship v)])), (nk, .inr (1, [.ref nk1, .ref nk2, .ref nk3, .int (nI 3), .int (nI (vnK v))])), (nk1, .inl (cI, 4, .inl (vkw v))), (nk2, .inl (cI, 4, .inl (vka v))), (nk3, .inl (cZ, 4, .inl (vkb v)))] (fun (r : Int32) (u : Unit) => kAbout v y1 y2 = 0 ∧ r = rAbout v y1 y2) (fun (u : Unit) => [(x0, .inr (3, [.ref xr, .ref xs, .ref n0, .ref b0])), (n0, .inr (2, [.ref nc, .ref np, .ref nk, .int (nI (vday v)), .int (vcoal v), .int (vbar v), .int (vfine v), .int (vcrs v), .int (vcoin v), .int (vship v)])), (nk, .inr (1, [.ref nk1, .ref nk2, .ref nk3, .int (nI 3), .int (nI (vnK v))])), (nk1, .inl (cI, 4, .inl (vkw v))), (nk2, .inl (cI, 4, .inl (vka v))), (nk3, .inl (cZ, 4, .inl (vkb v)))]) (fun (E : String) => (E = iIO ∧ kAbout v y1 y2 = 1)) := by
  refine Xi.of (by decide) rfl (Nat.le_of_ble_eq_true rfl) hst ⟨by decide, by decide, by decide, by decide⟩ ?_
  intro p e s m args below meth c A ls Q hF hK hP hD hA hl hend hthr
  obtain ⟨F, hr, hlocks, hG⟩ := hF
  have hx := F.1
  have hb := F.2.1
  have hown := F.2.2.2.1
  have ht := F.2.2.2.2
  have hS : va_S A s.heap s.heap [] := va_S.rf
  have hl : lv_has ls 3 [(0, .ref x0), (1, .int y1), (2, .int y2)] := hl
  obtain ⟨hC4, hP4, hK3, hAH, hf1, hf2, hf3, hdy⟩ := hI
  refine lv_aload_n hx hb dX3_about_0 rfl (lv_at hl 0 rfl) ?_
  refine va_get (D := D) (ci := 3) (v := .ref n0) (C := RX3) (T := TX3) (N := 4) hx hb ht inG_X3 hown hK hP 0 rfl rfl 2 (by decide) (ht _ qF_RX3_19) (fun _ h9 => h9) rfl dX3_about_1 ?_
  refine va_get (D := D) (ci := 2) (v := .ref nk) (C := RX2) (T := TX2) (N := 10) hx hb ht inG_X2 hown hK hP 1 rfl rfl 2 (by decide) (ht _ qF_RX3_129) (fun _ h9 => h9) rfl dX3_about_4 ?_
  refine lv_iload_n hx hb dX3_about_7 rfl (lv_at hl 1 rfl) ?_
  refine k_i (wr := [(x0, .inr (3, [.ref xr, .ref xs, .ref n0, .ref b0])), (n0, .inr (2, [.ref nc, .ref np, .ref nk, .int (nI (vday v)), .int (vcoal v), .int (vbar v), .int (vfine v), .int (vcrs v), .int (vcoin v), .int (vship v)])), (nk1, .inl (cI, 4, .inl (vkw v))), (nk2, .inl (cI, 4, .inl (vka v))), (nk3, .inl (cZ, 4, .inl (vkb v)))]) (rV (As := [.int y1]) (rest := []) F hG hK (hP.sub (ws' := [(nk, .inr (1, [.ref nk1, .ref nk2, .ref nk3, .int (nI 3), .int (nI (vnK v))]))]) [2] rfl) ((hD.sub (ws' := [(nk, .inr (1, [.ref nk1, .ref nk2, .ref nk3, .int (nI 3), .int (nI (vnK v))]))]) [2] (by decide) rfl).weaken (fun _ _ _ _ => trivial)) s_RX3_115 (c_X1_has l D cI cZ cJ nk nk1 nk2 nk3 3 (vnK v) y1 (by first | assumption | omega) _) 1 0 rfl rfl rfl rfl hl.1 rfl (Nat.le_of_ble_eq_true rfl) dX3_about_8 ⟨(Nat.le_of_ble_eq_true rfl), (Nat.le_of_ble_eq_true rfl)⟩ ⟨(Nat.le_of_ble_eq_true rfl), (Nat.le_of_ble_eq_true rfl)⟩) hP hD hS hA [2] [0, 1, 3, 4, 5] rfl rfl (by decide) (by decide) (fun r_8 uu H locs hw hP hD hS => ?_)
  try dsimp only at hw
  have hP : va_P D vwCl [(x0, .inr (3, [.ref xr, .ref xs, .ref n0, .ref b0])), (n0, .inr (2, [.ref nc, .ref np, .ref nk, .int (nI (vday v)), .int (vcoal v), .int (vbar v), .int (vfine v), .int (vcrs v), .int (vcoin v), .int (vship v)])), (nk1, .inl (cI, 4, .inl (vkw v))), (nk2, .inl (cI, 4, .inl (vka v))), (nk3, .inl (cZ, 4, .inl (vkb v))), (nk, .inr (1, [.ref nk1, .ref nk2, .ref nk3, .int (nI 3), .int (nI (vnK v))]))] _ := hP
  have hD : va_D A [(x0, .inr (3, [.ref xr, .ref xs, .ref n0, .ref b0])), (n0, .inr (2, [.ref nc, .ref np, .ref nk, .int (nI (vday v)), .int (vcoal v), .int (vbar v), .int (vfine v), .int (vcrs v), .int (vcoin v), .int (vship v)])), (nk1, .inl (cI, 4, .inl (vkw v))), (nk2, .inl (cI, 4, .inl (vka v))), (nk3, .inl (cZ, 4, .inl (vkb v))), (nk, .inr (1, [.ref nk1, .ref nk2, .ref nk3, .int (nI 3), .int (nI (vnK v))]))] := hD
  rcases hw with ⟨rfl, b_1⟩ | ⟨rfl, b_1⟩
  · skip
    obtain ⟨j_8, hj_8, rfl⟩ := b_1
    have ht_8 := hasT (n := (vnK v)) (by omega) hj_8
    have ix_8 : ix (nI j_8) = j_8 := ix_nI (by omega)
    have hP : va_P D vwCl [(x0, .inr (3, [.ref xr, .ref xs, .ref n0, .ref b0])), (n0, .inr (2, [.ref nc, .ref np, .ref nk, .int (nI (vday v)), .int (vcoal v), .int (vbar v), .int (vfine v), .int (vcrs v), .int (vcoin v), .int (vship v)])), (nk1, .inl (cI, 4, .inl (vkw v))), (nk2, .inl (cI, 4, .inl (vka v))), (nk3, .inl (cZ, 4, .inl (vkb v))), (nk, .inr (1, [.ref nk1, .ref nk2, .ref nk3, .int (nI 3), .int (nI (vnK v))]))] _ := hP
    have hD : va_D A [(x0, .inr (3, [.ref xr, .ref xs, .ref n0, .ref b0])), (n0, .inr (2, [.ref nc, .ref np, .ref nk, .int (nI (vday v)), .int (vcoal v), .int (vbar v), .int (vfine v), .int (vcrs v), .int (vcoin v), .int (vship v)])), (nk1, .inl (cI, 4, .inl (vkw v))), (nk2, .inl (cI, 4, .inl (vka v))), (nk3, .inl (cZ, 4, .inl (vkb v))), (nk, .inr (1, [.ref nk1, .ref nk2, .ref nk3, .int (nI 3), .int (nI (vnK v))]))] := hD
    have hl : lv_has ls 3 [(0, .ref x0), (1, .int (nI j_8)), (2, .int y2)] := hl
    refine lv_if_eq (tgt := 23) hx hb dX3_about_11 (by decide) (fun h => absurd h (by decide)) (fun _ => ?_)
    refine lv_iload_n hx hb dX3_about_14 rfl (lv_at hl 2 rfl) ?_
    refine lv_iconst (v := 0) hx hb dX3_about_15 (by decide) ?_
    refine lv_iconst (v := 4) hx hb dX3_about_16 (by decide) ?_
    refine k_i (wr := [(x0, .inr (3, [.ref xr, .ref xs, .ref n0, .ref b0])), (n0, .inr (2, [.ref nc, .ref np, .ref nk, .int (nI (vday v)), .int (vcoal v), .int (vbar v), .int (vfine v), .int (vcrs v), .int (vcoin v), .int (vship v)])), (nk1, .inl (cI, 4, .inl (vkw v))), (nk2, .inl (cI, 4, .inl (vka v))), (nk3, .inl (cZ, 4, .inl (vkb v))), (nk, .inr (1, [.ref nk1, .ref nk2, .ref nk3, .int (nI 3), .int (nI (vnK v))]))]) (rS (As := [.int y2, .int 0, .int 4]) (rest := []) F hG hK (hP.sub (ws' := []) [] rfl) ((hD.sub (ws' := []) [] (by decide) rfl).weaken (fun _ _ _ _ => trivial)) s_RX3_26 (c_X3_within l D cI cZ cJ y2 0 4 _) rfl hl.1 rfl (Nat.le_of_ble_eq_true rfl) dX3_about_17 ⟨(Nat.le_of_ble_eq_true rfl), (Nat.le_of_ble_eq_true rfl)⟩ ⟨(Nat.le_of_ble_eq_true rfl), (Nat.le_of_ble_eq_true rfl)⟩) hP hD hS hA [] [0, 1, 2, 3, 4, 5] rfl rfl (by decide) (by decide) (fun r_17 uu H locs hw hP hD hS => ?_)
    try dsimp only at hw
    have hP : va_P D vwCl [(x0, .inr (3, [.ref xr, .ref xs, .ref n0, .ref b0])), (n0, .inr (2, [.ref nc, .ref np, .ref nk, .int (nI (vday v)), .int (vcoal v), .int (vbar v), .int (vfine v), .int (vcrs v), .int (vcoin v), .int (vship v)])), (nk1, .inl (cI, 4, .inl (vkw v))), (nk2, .inl (cI, 4, .inl (vka v))), (nk3, .inl (cZ, 4, .inl (vkb v))), (nk, .inr (1, [.ref nk1, .ref nk2, .ref nk3, .int (nI 3), .int (nI (vnK v))]))] _ := hP
    have hD : va_D A [(x0, .inr (3, [.ref xr, .ref xs, .ref n0, .ref b0])), (n0, .inr (2, [.ref nc, .ref np, .ref nk, .int (nI (vday v)), .int (vcoal v), .int (vbar v), .int (vfine v), .int (vcrs v), .int (vcoin v), .int (vship v)])), (nk1, .inl (cI, 4, .inl (vkw v))), (nk2, .inl (cI, 4, .inl (vka v))), (nk3, .inl (cZ, 4, .inl (vkb v))), (nk, .inr (1, [.ref nk1, .ref nk2, .ref nk3, .int (nI 3), .int (nI (vnK v))]))] := hD
    rcases hw with ⟨rfl, b_2⟩ | ⟨rfl, b_2⟩
    · skip
      refine lv_if_ne (tgt := 33) hx hb dX3_about_20 (by decide) (fun _ => ?_) (fun h => absurd h (by decide))
      refine lv_aload_n hx hb dX3_about_33 rfl (lv_at hl 0 rfl) ?_
      refine va_get (D := D) (ci := 3) (v := .ref n0) (C := RX3) (T := TX3) (N := 4) hx hb ht inG_X3 hown hK hP 0 rfl rfl 2 (by decide) (ht _ qF_RX3_19) (fun _ h9 => h9) rfl dX3_about_34 ?_
      refine va_get (D := D) (ci := 2) (v := .ref nk) (C := RX2) (T := TX2) (N := 10) hx hb ht inG_X2 hown hK hP 1 rfl rfl 2 (by decide) (ht _ qF_RX3_129) (fun _ h9 => h9) rfl dX3_about_37 ?_
      refine lv_iload_n hx hb dX3_about_40 rfl (lv_at hl 1 rfl) ?_
      refine lv_iload_n hx hb dX3_about_41 rfl (lv_at hl 2 rfl) ?_
      refine k_i (wr := [(x0, .inr (3, [.ref xr, .ref xs, .ref n0, .ref b0])), (n0, .inr (2, [.ref nc, .ref np, .ref nk, .int (nI (vday v)), .int (vcoal v), .int (vbar v), .int (vfine v), .int (vcrs v), .int (vcoin v), .int (vship v)]))]) (rV (As := [.int (nI j_8), .int y2]) (rest := []) F hG hK (hP.sub (ws' := [(nk, .inr (1, [.ref nk1, .ref nk2, .ref nk3, .int (nI 3), .int (nI (vnK v))])), (nk1, .inl (cI, 4, .inl (vkw v))), (nk2, .inl (cI, 4, .inl (vka v))), (nk3, .inl (cZ, 4, .inl (vkb v)))]) [5, 2, 3, 4] rfl) ((hD.sub (ws' := [(nk, .inr (1, [.ref nk1, .ref nk2, .ref nk3, .int (nI 3), .int (nI (vnK v))])), (nk1, .inl (cI, 4, .inl (vkw v))), (nk2, .inl (cI, 4, .inl (vka v))), (nk3, .inl (cZ, 4, .inl (vkb v)))]) [5, 2, 3, 4] (by decide) rfl).weaken (fun _ _ _ _ => trivial)) s_RX3_172 (c_X1_tell l D cI cZ cJ nk nk1 nk2 nk3 3 (vkw v) (vka v) (vkb v) (vnK v) j_8 y2 (by first | assumption | omega) _) 1 0 rfl rfl rfl rfl hl.1 rfl (Nat.le_of_ble_eq_true rfl) dX3_about_42 ⟨(Nat.le_of_ble_eq_true rfl), (Nat.le_of_ble_eq_true rfl)⟩ ⟨(Nat.le_of_ble_eq_true rfl), (Nat.le_of_ble_eq_true rfl)⟩) hP hD hS hA [5, 2, 3, 4] [0, 1] rfl rfl (by decide) (by decide) (fun r_42 uu H locs hw hP hD hS => ?_)
      try dsimp only at hw
      subst hw
      have hP : va_P D vwCl [(x0, .inr (3, [.ref xr, .ref xs, .ref n0, .ref b0])), (n0, .inr (2, [.ref nc, .ref np, .ref nk, .int (nI (vday v)), .int (vcoal v), .int (vbar v), .int (vfine v), .int (vcrs v), .int (vcoin v), .int (vship v)])), (nk, .inr (1, [.ref nk1, .ref nk2, .ref nk3, .int (nI 3), .int (nI (vnK v))])), (nk1, .inl (cI, 4, .inl (vkw v))), (nk2, .inl (cI, 4, .inl (vka v))), (nk3, .inl (cZ, 4, .inl (vkb v)))] _ := hP
      have hD : va_D A [(x0, .inr (3, [.ref xr, .ref xs, .ref n0, .ref b0])), (n0, .inr (2, [.ref nc, .ref np, .ref nk, .int (nI (vday v)), .int (vcoal v), .int (vbar v), .int (vfine v), .int (vcrs v), .int (vcoin v), .int (vship v)])), (nk, .inr (1, [.ref nk1, .ref nk2, .ref nk3, .int (nI 3), .int (nI (vnK v))])), (nk1, .inl (cI, 4, .inl (vkw v))), (nk2, .inl (cI, 4, .inl (vka v))), (nk3, .inl (cZ, 4, .inl (vkb v)))] := hD
      exact hend _ _ _ _ _ _ (ltell (vkw v) (vka v) (vkb v) j_8 y2) () dX3_about_45 (⟨by simp only [kAbout, eq_true ht_8, ix_8, eq_true b_2, if_true, if_false, eq_self], by simp only [rAbout, eq_true ht_8, ix_8, eq_true b_2, if_true, if_false]⟩) hP hD hS rfl (Nat.le_of_ble_eq_true rfl) (Nat.le_of_ble_eq_true rfl)
    · skip
      refine lv_if_ne (tgt := 33) hx hb dX3_about_20 (by decide) (fun h => absurd (by decide) h) (fun _ => ?_)
      exact hthr _ _ _ _ _ 173 _ "there is no such pan, or what is not 0 to 4" _ thr_IO (by decide +kernel) dX3_about_23 dX3_about_26 dX3_about_27 dX3_about_29 dX3_about_32 (⟨rfl, by simp only [kAbout, eq_true ht_8, ix_8, eq_false b_2, if_true, if_false]⟩) (hP.sub [0, 1, 5, 2, 3, 4] rfl) hS hl.1
  · skip
    refine lv_if_eq (tgt := 23) hx hb dX3_about_11 (by decide) (fun _ => ?_) (fun h => absurd (by decide) h)
    exact hthr _ _ _ _ _ 173 _ "there is no such pan, or what is not 0 to 4" _ thr_IO (by decide +kernel) dX3_about_23 dX3_about_26 dX3_about_27 dX3_about_29 dX3_about_32 (⟨rfl, by simp only [kAbout, eq_false b_1, if_true, if_false]⟩) (hP.sub [0, 1, 5, 2, 3, 4] rfl) hS hl.1

def rm_X3_count : Room := { frames := 6, cells := 1, slots := 6, locals := 90 }
set_option maxHeartbeats 4000000 in
set_option maxRecDepth 100000 in
theorem c_X3_count (l : Launch) (D : va_G) (cI cZ cJ : ClassId) (x0 xr xs n0 b0 : Nat) (nc np nk nc1 nc2 nc3 nc4 np1 np2 np3 nk1 nk2 nk3 : Nat) (v : VT) (y1 : Int32) (hI : IS v) (hst : l.stackTraces = false) : Xi l yX3_count cX3_count 2 (some .int) rm_X3_count D (TY cI cZ cJ) [.ref x0, .int y1] [(x0, .inr (3, [.ref xr, .ref xs, .ref n0, .ref b0])), (xr, .inl (cI, 6, .inl (vR v))), (n0, .inr (2, [.ref nc, .ref np, .ref nk, .int (nI (vday v)), .int (vcoal v), .int (vbar v), .int (vfine v), .int (vcrs v), .int (vcoin v), .int (vship v)])), (nc, .inr (0, [.ref nc1, .ref nc2, .ref nc3, .ref nc4, .int (nI (vnC v))])), (nc4, .inl (cZ, 4, .inl (vfl v))), (np, .inr (1, [.ref np1, .ref np2, .ref np3, .int (nI 4), .int (nI (vnP v))])), (np2, .inl (cI, 4, .inl (vpa v))), (nk, .inr (1, [.ref nk1, .ref nk2, .ref nk3, .int (nI 3), .int (nI (vnK v))])), (nk2, .inl (cI, 4, .inl (vka v)))] (fun (r : Int32) (u : Unit) => kCount v y1 = 0 ∧ r = rCount v y1) (fun (u : Unit) => [(x0, .inr (3, [.ref xr, .ref xs, .ref n0, .ref b0])), (xr, .inl (cI, 6, .inl (vR v))), (n0, .inr (2, [.ref nc, .ref np, .ref nk, .int (nI (vday v)), .int (vcoal v), .int (vbar v), .int (vfine v), .int (vcrs v), .int (vcoin v), .int (vship v)])), (nc, .inr (0, [.ref nc1, .ref nc2, .ref nc3, .ref nc4, .int (nI (vnC v))])), (nc4, .inl (cZ, 4, .inl (vfl v))), (np, .inr (1, [.ref np1, .ref np2, .ref np3, .int (nI 4), .int (nI (vnP v))])), (np2, .inl (cI, 4, .inl (vpa v))), (nk, .inr (1, [.ref nk1, .ref nk2, .ref nk3, .int (nI 3), .int (nI (vnK v))])), (nk2, .inl (cI, 4, .inl (vka v)))]) (fun (E : String) => (E = iIO ∧ kCount v y1 = 1)) := by
  refine Xi.of (by decide) rfl (Nat.le_of_ble_eq_true rfl) hst ⟨by decide, by decide, by decide, by decide⟩ ?_
  intro p e s m args below meth c A ls Q hF hK hP hD hA hl hend hthr
  obtain ⟨F, hr, hlocks, hG⟩ := hF
  have hx := F.1
  have hb := F.2.1
  have hown := F.2.2.2.1
  have ht := F.2.2.2.2
  have hS : va_S A s.heap s.heap [] := va_S.rf
  have hl : lv_has ls 2 [(0, .ref x0), (1, .int y1)] := hl
  obtain ⟨hC4, hP4, hK3, hAH, hf1, hf2, hf3, hdy⟩ := hI
  refine lv_iload_n hx hb dX3_count_0 rfl (lv_at hl 1 rfl) ?_
  refine lv_iconst (v := 0) hx hb dX3_count_1 (by decide) ?_
  refine lv_bipush (v := 9) hx hb dX3_count_2 (by decide) ?_
  refine k_i (wr := [(x0, .inr (3, [.ref xr, .ref xs, .ref n0, .ref b0])), (xr, .inl (cI, 6, .inl (vR v))), (n0, .inr (2, [.ref nc, .ref np, .ref nk, .int (nI (vday v)), .int (vcoal v), .int (vbar v), .int (vfine v), .int (vcrs v), .int (vcoin v), .int (vship v)])), (nc, .inr (0, [.ref nc1, .ref nc2, .ref nc3, .ref nc4, .int (nI (vnC v))])), (nc4, .inl (cZ, 4, .inl (vfl v))), (np, .inr (1, [.ref np1, .ref np2, .ref np3, .int (nI 4), .int (nI (vnP v))])), (np2, .inl (cI, 4, .inl (vpa v))), (nk, .inr (1, [.ref nk1, .ref nk2, .ref nk3, .int (nI 3), .int (nI (vnK v))])), (nk2, .inl (cI, 4, .inl (vka v)))]) (rS (As := [.int y1, .int 0, .int 9]) (rest := []) F hG hK (hP.sub (ws' := []) [] rfl) ((hD.sub (ws' := []) [] (by decide) rfl).weaken (fun _ _ _ _ => trivial)) s_RX3_26 (c_X3_within l D cI cZ cJ y1 0 9 _) rfl hl.1 rfl (Nat.le_of_ble_eq_true rfl) dX3_count_4 ⟨(Nat.le_of_ble_eq_true rfl), (Nat.le_of_ble_eq_true rfl)⟩ ⟨(Nat.le_of_ble_eq_true rfl), (Nat.le_of_ble_eq_true rfl)⟩) hP hD hS hA [] [0, 1, 2, 3, 4, 5, 6, 7, 8] rfl rfl (by decide) (by decide) (fun r_4 uu H locs hw hP hD hS => ?_)
  try dsimp only at hw
  have hP : va_P D vwCl [(x0, .inr (3, [.ref xr, .ref xs, .ref n0, .ref b0])), (xr, .inl (cI, 6, .inl (vR v))), (n0, .inr (2, [.ref nc, .ref np, .ref nk, .int (nI (vday v)), .int (vcoal v), .int (vbar v), .int (vfine v), .int (vcrs v), .int (vcoin v), .int (vship v)])), (nc, .inr (0, [.ref nc1, .ref nc2, .ref nc3, .ref nc4, .int (nI (vnC v))])), (nc4, .inl (cZ, 4, .inl (vfl v))), (np, .inr (1, [.ref np1, .ref np2, .ref np3, .int (nI 4), .int (nI (vnP v))])), (np2, .inl (cI, 4, .inl (vpa v))), (nk, .inr (1, [.ref nk1, .ref nk2, .ref nk3, .int (nI 3), .int (nI (vnK v))])), (nk2, .inl (cI, 4, .inl (vka v)))] _ := hP
  have hD : va_D A [(x0, .inr (3, [.ref xr, .ref xs, .ref n0, .ref b0])), (xr, .inl (cI, 6, .inl (vR v))), (n0, .inr (2, [.ref nc, .ref np, .ref nk, .int (nI (vday v)), .int (vcoal v), .int (vbar v), .int (vfine v), .int (vcrs v), .int (vcoin v), .int (vship v)])), (nc, .inr (0, [.ref nc1, .ref nc2, .ref nc3, .ref nc4, .int (nI (vnC v))])), (nc4, .inl (cZ, 4, .inl (vfl v))), (np, .inr (1, [.ref np1, .ref np2, .ref np3, .int (nI 4), .int (nI (vnP v))])), (np2, .inl (cI, 4, .inl (vpa v))), (nk, .inr (1, [.ref nk1, .ref nk2, .ref nk3, .int (nI 3), .int (nI (vnK v))])), (nk2, .inl (cI, 4, .inl (vka v)))] := hD
  rcases hw with ⟨rfl, b_1⟩ | ⟨rfl, b_1⟩
  · skip
    refine lv_if_ne (tgt := 20) hx hb dX3_count_7 (by decide) (fun _ => ?_) (fun h => absurd h (by decide))
    refine lv_aload_n hx hb dX3_count_20 rfl (lv_at hl 0 rfl) ?_
    refine lv_aload_n hx hb dX3_count_21 rfl (lv_at hl 0 rfl) ?_
    refine va_get (D := D) (ci := 3) (v := .ref n0) (C := RX3) (T := TX3) (N := 4) hx hb ht inG_X3 hown hK hP 0 rfl rfl 2 (by decide) (ht _ qF_RX3_19) (fun _ h9 => h9) rfl dX3_count_22 ?_
    refine lv_iload_n hx hb dX3_count_25 rfl (lv_at hl 1 rfl) ?_
    refine k_i (wr := []) (rV (As := [.ref n0, .int y1]) (rest := []) F hG hK (hP.sub (ws' := [(x0, .inr (3, [.ref xr, .ref xs, .ref n0, .ref b0])), (xr, .inl (cI, 6, .inl (vR v))), (n0, .inr (2, [.ref nc, .ref np, .ref nk, .int (nI (vday v)), .int (vcoal v), .int (vbar v), .int (vfine v), .int (vcrs v), .int (vcoin v), .int (vship v)])), (nc, .inr (0, [.ref nc1, .ref nc2, .ref nc3, .ref nc4, .int (nI (vnC v))])), (nc4, .inl (cZ, 4, .inl (vfl v))), (np, .inr (1, [.ref np1, .ref np2, .ref np3, .int (nI 4), .int (nI (vnP v))])), (np2, .inl (cI, 4, .inl (vpa v))), (nk, .inr (1, [.ref nk1, .ref nk2, .ref nk3, .int (nI 3), .int (nI (vnK v))])), (nk2, .inl (cI, 4, .inl (vka v)))]) [0, 1, 2, 3, 4, 5, 6, 7, 8] rfl) ((hD.sub (ws' := [(x0, .inr (3, [.ref xr, .ref xs, .ref n0, .ref b0])), (xr, .inl (cI, 6, .inl (vR v))), (n0, .inr (2, [.ref nc, .ref np, .ref nk, .int (nI (vday v)), .int (vcoal v), .int (vbar v), .int (vfine v), .int (vcrs v), .int (vcoin v), .int (vship v)])), (nc, .inr (0, [.ref nc1, .ref nc2, .ref nc3, .ref nc4, .int (nI (vnC v))])), (nc4, .inl (cZ, 4, .inl (vfl v))), (np, .inr (1, [.ref np1, .ref np2, .ref np3, .int (nI 4), .int (nI (vnP v))])), (np2, .inl (cI, 4, .inl (vpa v))), (nk, .inr (1, [.ref nk1, .ref nk2, .ref nk3, .int (nI 3), .int (nI (vnK v))])), (nk2, .inl (cI, 4, .inl (vka v)))]) [0, 1, 2, 3, 4, 5, 6, 7, 8] (by decide) rfl).weaken (fun _ _ _ _ => trivial)) s_RX3_177 (c_X3_countIn l D cI cZ cJ x0 xr xs n0 b0 n0 nc np nk nc1 nc2 nc3 nc4 np1 np2 np3 nk1 nk2 nk3 v (vR v) y1 (by first | assumption | omega) (by first | assumption | omega) (by first | assumption | omega) (by first | assumption | omega) _) 3 0 rfl rfl rfl rfl hl.1 rfl (Nat.le_of_ble_eq_true rfl) dX3_count_26 ⟨(Nat.le_of_ble_eq_true rfl), (Nat.le_of_ble_eq_true rfl)⟩ ⟨(Nat.le_of_ble_eq_true rfl), (Nat.le_of_ble_eq_true rfl)⟩) hP hD hS hA [0, 1, 2, 3, 4, 5, 6, 7, 8] [] rfl rfl (by decide) (by decide) (fun r_26 uu H locs hw hP hD hS => ?_)
    try dsimp only at hw
    subst hw
    have hP : va_P D vwCl [(x0, .inr (3, [.ref xr, .ref xs, .ref n0, .ref b0])), (xr, .inl (cI, 6, .inl (vR v))), (n0, .inr (2, [.ref nc, .ref np, .ref nk, .int (nI (vday v)), .int (vcoal v), .int (vbar v), .int (vfine v), .int (vcrs v), .int (vcoin v), .int (vship v)])), (nc, .inr (0, [.ref nc1, .ref nc2, .ref nc3, .ref nc4, .int (nI (vnC v))])), (nc4, .inl (cZ, 4, .inl (vfl v))), (np, .inr (1, [.ref np1, .ref np2, .ref np3, .int (nI 4), .int (nI (vnP v))])), (np2, .inl (cI, 4, .inl (vpa v))), (nk, .inr (1, [.ref nk1, .ref nk2, .ref nk3, .int (nI 3), .int (nI (vnK v))])), (nk2, .inl (cI, 4, .inl (vka v)))] _ := hP
    have hD : va_D A [(x0, .inr (3, [.ref xr, .ref xs, .ref n0, .ref b0])), (xr, .inl (cI, 6, .inl (vR v))), (n0, .inr (2, [.ref nc, .ref np, .ref nk, .int (nI (vday v)), .int (vcoal v), .int (vbar v), .int (vfine v), .int (vcrs v), .int (vcoin v), .int (vship v)])), (nc, .inr (0, [.ref nc1, .ref nc2, .ref nc3, .ref nc4, .int (nI (vnC v))])), (nc4, .inl (cZ, 4, .inl (vfl v))), (np, .inr (1, [.ref np1, .ref np2, .ref np3, .int (nI 4), .int (nI (vnP v))])), (np2, .inl (cI, 4, .inl (vpa v))), (nk, .inr (1, [.ref nk1, .ref nk2, .ref nk3, .int (nI 3), .int (nI (vnK v))])), (nk2, .inl (cI, 4, .inl (vka v)))] := hD
    exact hend _ _ _ _ _ _ (cntR (vR v) v y1) () dX3_count_29 (⟨by simp only [kCount, eq_true b_1, if_true], rfl⟩) hP hD hS rfl (Nat.le_of_ble_eq_true rfl) (Nat.le_of_ble_eq_true rfl)
  · skip
    refine lv_if_ne (tgt := 20) hx hb dX3_count_7 (by decide) (fun h => absurd (by decide) h) (fun _ => ?_)
    exact hthr _ _ _ _ _ 175 _ "what is not 0 to 9" _ thr_IO (by decide +kernel) dX3_count_10 dX3_count_13 dX3_count_14 dX3_count_16 dX3_count_19 (⟨rfl, by simp only [kCount, eq_false b_1, if_true, if_false]⟩) (hP.sub [0, 1, 2, 3, 4, 5, 6, 7, 8] rfl) hS hl.1
