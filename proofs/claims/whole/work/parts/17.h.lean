/-! the reference: numbers, then its calls -/
theorem tIa {x y : Int32} (h1 : -2147483648 ≤ x.toInt + y.toInt) (h2 : x.toInt + y.toInt ≤ 2147483647) : (x + y).toInt = x.toInt + y.toInt := by
  rw [Int32.toInt_add]
  exact Int.bmod_eq_of_le (by omega) (by omega)
theorem tIs {x y : Int32} (h1 : -2147483648 ≤ x.toInt - y.toInt) (h2 : x.toInt - y.toInt ≤ 2147483647) : (x - y).toInt = x.toInt - y.toInt := by
  rw [Int32.toInt_sub]
  exact Int.bmod_eq_of_le (by omega) (by omega)
theorem z_le {x : Int32} : 0 ≤ x ↔ 0 ≤ x.toInt := by
  rw [Int32.le_iff_toInt_le]
  exact Iff.rfl
theorem ge0_add {x y : Int32} (hx : 0 ≤ x.toInt) (hy : 0 ≤ y.toInt) (h : x.toInt + y.toInt ≤ 2147483647) : 0 ≤ x + y := by
  rw [z_le, tIa (by omega) h]
  omega
theorem NN.ka {v : VT} (h : NN v) {k : Nat} (hk : k < 3) : 0 ≤ toI (vkw v) k ∧ toI (vkw v) k ≤ 150 ∧ 0 ≤ toI (vka v) k ∧ toI (vka v) k ≤ 60000 := by
  obtain ⟨h1, h2, h3, h4, h5⟩ := h
  have p0 := h2 0
  have p1 := h2 1
  have p2 := h2 2
  have p3 := h2 3
  have k0 := h3 0
  have k1 := h3 1
  have k2 := h3 2
  unfold alm at h4
  have hk' : k = 0 ∨ k = 1 ∨ k = 2 := by omega
  rcases hk' with rfl | rfl | rfl <;> omega
theorem NN.pa {v : VT} (h : NN v) {k : Nat} (hk : k < 4) : 0 ≤ toI (vpw v) k ∧ toI (vpw v) k ≤ 400 ∧ 0 ≤ toI (vpa v) k ∧ toI (vpa v) k ≤ 60000 := by
  obtain ⟨h1, h2, h3, h4, h5⟩ := h
  have p0 := h2 0
  have p1 := h2 1
  have p2 := h2 2
  have p3 := h2 3
  have k0 := h3 0
  have k1 := h3 1
  have k2 := h3 2
  unfold alm at h4
  have hk' : k = 0 ∨ k = 1 ∨ k = 2 ∨ k = 3 := by omega
  rcases hk' with rfl | rfl | rfl | rfl <;> omega
theorem NN.k0 {v : VT} (h : NN v) {k : Nat} (hk : k < 3) : 0 ≤ vkw v k + vka v k := by
  have q := h.ka hk
  unfold toI at q
  exact ge0_add (by omega) (by omega) (by omega)
theorem NN.p0 {v : VT} (h : NN v) {k : Nat} (hk : k < 4) : 0 ≤ vpw v k + vpa v k := by
  have q := h.pa hk
  unfold toI at q
  exact ge0_add (by omega) (by omega) (by omega)
theorem eq4_le {n : Nat} (hn : n < 1000) {m : Nat} (hm : m < 1000) (h : nI n = nI m) : m ≤ n := by
  have := (nI_eq (a := n) (b := m) (by omega) (by omega)).mp h
  omega
theorem ne4_lt {n m : Nat} (hm : n ≤ m) (h : ¬ nI n = nI m) : ¬ m ≤ n := fun q => h (by rw [Nat.le_antisymm hm q])
theorem tog_n1 {x : Int32} (h : ¬ tog x = 1) : tog x = 0 := (tog_01 x).resolve_right h
theorem in03 {x : Int32} (h : 0 ≤ x ∧ x ≤ 3) : x = 0 ∨ x = 1 ∨ x = 2 ∨ x = 3 := by
  obtain ⟨j, hj, rfl⟩ := inP (n := 3) (by decide) h
  rcases (show j = 0 ∨ j = 1 ∨ j = 2 ∨ j = 3 by omega) with rfl | rfl | rfl | rfl <;> decide
theorem in04 {x : Int32} (h : 0 ≤ x ∧ x ≤ 4) : x = 0 ∨ x = 1 ∨ x = 2 ∨ x = 3 ∨ x = 4 := by
  obtain ⟨j, hj, rfl⟩ := inP (n := 4) (by decide) h
  rcases (show j = 0 ∨ j = 1 ∨ j = 2 ∨ j = 3 ∨ j = 4 by omega) with rfl | rfl | rfl | rfl | rfl <;> decide
theorem in09 {x : Int32} (h : 0 ≤ x ∧ x ≤ 9) : x = 0 ∨ x = 1 ∨ x = 2 ∨ x = 3 ∨ x = 4 ∨ x = 5 ∨ x = 6 ∨ x = 7 ∨ x = 8 ∨ x = 9 := by
  obtain ⟨j, hj, rfl⟩ := inP (n := 9) (by decide) h
  rcases (show j = 0 ∨ j = 1 ∨ j = 2 ∨ j = 3 ∨ j = 4 ∨ j = 5 ∨ j = 6 ∨ j = 7 ∨ j = 8 ∨ j = 9 by omega) with rfl | rfl | rfl | rfl | rfl | rfl | rfl | rfl | rfl | rfl <;> decide
theorem s_RX4_45 : sV RX4 45 RX4 yX4_fail cX4_fail 2 (some .int) 1 := sV.mk qM_RX4_45 qI_yX4_fail qV_yX4_fail qN_RX4 qC_yX4_fail ⟨rfl, by decide +kernel, by decide +kernel, by decide +kernel⟩
theorem s_RX4_55 : sV RX4 55 RX4 yX4_isClamp cX4_isClamp 2 (some .boolean) 1 := sV.mk qM_RX4_55 qI_yX4_isClamp qV_yX4_isClamp qN_RX4 qC_yX4_isClamp ⟨rfl, by decide +kernel, by decide +kernel, by decide +kernel⟩
theorem s_RX4_59 : sV RX4 59 RX4 yX4_isPit cX4_isPit 2 (some .boolean) 1 := sV.mk qM_RX4_59 qI_yX4_isPit qV_yX4_isPit qN_RX4 qC_yX4_isPit ⟨rfl, by decide +kernel, by decide +kernel, by decide +kernel⟩
theorem s_RX4_62 : sV RX4 62 RX4 yX4_isPan cX4_isPan 2 (some .boolean) 1 := sV.mk qM_RX4_62 qI_yX4_isPan qV_yX4_isPan qN_RX4 qC_yX4_isPan ⟨rfl, by decide +kernel, by decide +kernel, by decide +kernel⟩
theorem s_RX4_65 : sS RX4 65 yX4_strength cX4_strength 2 (some .int) 2 := sS.mk qM_RX4_65 qS_yX4_strength qN_RX4 qC_yX4_strength ⟨by decide +kernel, by decide +kernel, by decide +kernel⟩
theorem s_RX4_68 : sS RX4 68 yX4_egg cX4_egg 1 (some .int) 1 := sS.mk qM_RX4_68 qS_yX4_egg qN_RX4 qC_yX4_egg ⟨by decide +kernel, by decide +kernel, by decide +kernel⟩
theorem s_RX4_71 : sV RX4 71 RX4 yX4_panEgg cX4_panEgg 2 (some .int) 1 := sV.mk qM_RX4_71 qI_yX4_panEgg qV_yX4_panEgg qN_RX4 qC_yX4_panEgg ⟨rfl, by decide +kernel, by decide +kernel, by decide +kernel⟩
theorem s_RX4_74 : sV RX4 74 RX4 yX4_comes cX4_comes 4 (some .int) 2 := sV.mk qM_RX4_74 qI_yX4_comes qV_yX4_comes qN_RX4 qC_yX4_comes ⟨rfl, by decide +kernel, by decide +kernel, by decide +kernel⟩
theorem s_RX4_77 : sS RX4 77 yX4_told cX4_told 3 (some .int) 3 := sS.mk qM_RX4_77 qS_yX4_told qN_RX4 qC_yX4_told ⟨by decide +kernel, by decide +kernel, by decide +kernel⟩
theorem s_RX4_81 : sV RX4 81 RX4 yX4_pitTold cX4_pitTold 3 (some .int) 2 := sV.mk qM_RX4_81 qI_yX4_pitTold qV_yX4_pitTold qN_RX4 qC_yX4_pitTold ⟨rfl, by decide +kernel, by decide +kernel, by decide +kernel⟩
theorem s_RX4_84 : sV RX4 84 RX4 yX4_panTold cX4_panTold 3 (some .int) 2 := sV.mk qM_RX4_84 qI_yX4_panTold qV_yX4_panTold qN_RX4 qC_yX4_panTold ⟨rfl, by decide +kernel, by decide +kernel, by decide +kernel⟩
theorem s_RX4_87 : sV RX4 87 RX4 yX4_rain cX4_rain 1 (some .int) 0 := sV.mk qM_RX4_87 qI_yX4_rain qV_yX4_rain qN_RX4 qC_yX4_rain ⟨rfl, by decide +kernel, by decide +kernel, by decide +kernel⟩
theorem s_RX4_91 : sV RX4 91 RX4 yX4_counted cX4_counted 4 (some .int) 1 := sV.mk qM_RX4_91 qI_yX4_counted qV_yX4_counted qN_RX4 qC_yX4_counted ⟨rfl, by decide +kernel, by decide +kernel, by decide +kernel⟩
def rm_X4_bring : Room := { frames := 1, cells := 0, slots := 0, locals := 22 }
set_option maxHeartbeats 4000000 in
set_option maxRecDepth 100000 in
theorem c_X4_bring (l : Launch) (D : va_G) (cI cZ cJ : ClassId) (m0 m1 m2 m3 m4 m5 m6 : Nat) (th : Int32) (v : VT) (y1 y2 : Int32) (hI : IS v) : Mi l yX4_bring cX4_bring 3 (some .int) rm_X4_bring D (TY cI cZ cJ) [.ref m0, .int y1, .int y2] [(m0, .inr (4, [.int th, .int (nI (vnC v)), .int (nI (vnP v)), .int (nI (vnK v)), .ref m1, .ref m2, .ref m3, .ref m4, .ref m5, .ref m6])), (m1, .inl (cI, 7, .inl (st7 (nI (vday v)) (vcoal v) (vbar v) (vfine v) (vcrs v) (vcoin v) (vship v))))] (fun (r : Int32) (u : Int32 × VT) => r = (if kBring v y1 y2 = 0 then rBring v y1 y2 else 0) ∧ u.1 = kBring v y1 y2 ∧ u.2 = nBring v y1 y2) (fun (u : Int32 × VT) => [(m0, .inr (4, [.int u.1, .int (nI (vnC u.2)), .int (nI (vnP u.2)), .int (nI (vnK u.2)), .ref m1, .ref m2, .ref m3, .ref m4, .ref m5, .ref m6])), (m1, .inl (cI, 7, .inl (st7 (nI (vday u.2)) (vcoal u.2) (vbar u.2) (vfine u.2) (vcrs u.2) (vcoin u.2) (vship u.2))))]) := by
  refine Mi.ofQ (by decide) (Nat.le_of_ble_eq_true rfl) ?_
  intro p e s m args below meth c A ls Q hF hK hP hD hA hl hend
  obtain ⟨F, hr, hlocks, hG⟩ := hF
  have hx := F.1
  have hb := F.2.1
  have hown := F.2.2.2.1
  have ht := F.2.2.2.2
  have hS : va_S A s.heap s.heap [] := va_S.rf
  have hl : lv_has ls 3 [(0, .ref m0), (1, .int y1), (2, .int y2)] := hl
  obtain ⟨hC4, hP4, hK3, hAH, hf1, hf2, hf3, hdy⟩ := hI
  refine lv_aload_n hx hb dX4_bring_0 rfl (lv_at hl 0 rfl) ?_
  refine lv_iconst (v := 0) hx hb dX4_bring_1 (by decide) ?_
  refine va_put (D := D) (ci := 4) (v := .int 0) (C := RX4) (T := TX4) (N := 10) hx hb ht inG_X4 tyX4 tyX4_ok nmX4 hown hK hP hD hS 0 rfl rfl 0 (by decide) (ht _ qF_RX4_28) (fun _ h9 => h9) rfl (tyX4_ok 0 (by decide)) rfl rfl (Nat.le_of_ble_eq_true rfl) dX4_bring_2 (fun H locs hP hD hS => ?_)
  have hP : va_P D vwCl [(m0, .inr (4, [.int 0, .int (nI (vnC v)), .int (nI (vnP v)), .int (nI (vnK v)), .ref m1, .ref m2, .ref m3, .ref m4, .ref m5, .ref m6])), (m1, .inl (cI, 7, .inl (st7 (nI (vday v)) (vcoal v) (vbar v) (vfine v) (vcrs v) (vcoin v) (vship v))))] _ := hP
  have hD : va_D A [(m0, .inr (4, [.int 0, .int (nI (vnC v)), .int (nI (vnP v)), .int (nI (vnK v)), .ref m1, .ref m2, .ref m3, .ref m4, .ref m5, .ref m6])), (m1, .inl (cI, 7, .inl (st7 (nI (vday v)) (vcoal v) (vbar v) (vfine v) (vcrs v) (vcoin v) (vship v))))] := hD
  refine lv_iload_n hx hb dX4_bring_5 rfl (lv_at hl 1 rfl) ?_
  refine lv_iconst (v := 0) hx hb dX4_bring_6 (by decide) ?_
  refine lv_iconst (v := 1) hx hb dX4_bring_7 (by decide) ?_
  refine k_i (wr := [(m0, .inr (4, [.int 0, .int (nI (vnC v)), .int (nI (vnP v)), .int (nI (vnK v)), .ref m1, .ref m2, .ref m3, .ref m4, .ref m5, .ref m6])), (m1, .inl (cI, 7, .inl (st7 (nI (vday v)) (vcoal v) (vbar v) (vfine v) (vcrs v) (vcoin v) (vship v))))]) (rS (As := [.int y1, .int 0, .int 1]) (rest := []) F hG hK (hP.sub (ws' := []) [] rfl) ((hD.sub (ws' := []) [] (by decide) rfl).weaken (fun _ _ _ _ => trivial)) s_RX4_35 (c_X4_isIn l D cI cZ cJ y1 0 1 _) rfl hl.1 rfl (Nat.le_of_ble_eq_true rfl) dX4_bring_8 ⟨(Nat.le_of_ble_eq_true rfl), (Nat.le_of_ble_eq_true rfl)⟩ ⟨(Nat.le_of_ble_eq_true rfl), (Nat.le_of_ble_eq_true rfl)⟩) hP hD hS hA [] [0, 1] rfl rfl (by decide) (by decide) (fun r_8 uu H locs hw hP hD hS => ?_)
  try dsimp only at hw
  have hP : va_P D vwCl [(m0, .inr (4, [.int 0, .int (nI (vnC v)), .int (nI (vnP v)), .int (nI (vnK v)), .ref m1, .ref m2, .ref m3, .ref m4, .ref m5, .ref m6])), (m1, .inl (cI, 7, .inl (st7 (nI (vday v)) (vcoal v) (vbar v) (vfine v) (vcrs v) (vcoin v) (vship v))))] _ := hP
  have hD : va_D A [(m0, .inr (4, [.int 0, .int (nI (vnC v)), .int (nI (vnP v)), .int (nI (vnK v)), .ref m1, .ref m2, .ref m3, .ref m4, .ref m5, .ref m6])), (m1, .inl (cI, 7, .inl (st7 (nI (vday v)) (vcoal v) (vbar v) (vfine v) (vcrs v) (vcoin v) (vship v))))] := hD
  rcases hw with ⟨rfl, b_1⟩ | ⟨rfl, b_1⟩
  · skip
    rcases or01 b_1 with rfl | rfl
    · skip
      have hP : va_P D vwCl [(m0, .inr (4, [.int 0, .int (nI (vnC v)), .int (nI (vnP v)), .int (nI (vnK v)), .ref m1, .ref m2, .ref m3, .ref m4, .ref m5, .ref m6])), (m1, .inl (cI, 7, .inl (st7 (nI (vday v)) (vcoal v) (vbar v) (vfine v) (vcrs v) (vcoin v) (vship v))))] _ := hP
      have hD : va_D A [(m0, .inr (4, [.int 0, .int (nI (vnC v)), .int (nI (vnP v)), .int (nI (vnK v)), .ref m1, .ref m2, .ref m3, .ref m4, .ref m5, .ref m6])), (m1, .inl (cI, 7, .inl (st7 (nI (vday v)) (vcoal v) (vbar v) (vfine v) (vcrs v) (vcoin v) (vship v))))] := hD
      have hl : lv_has ls 3 [(0, .ref m0), (1, .int 0), (2, .int y2)] := hl
      refine lv_if_ne (tgt := 20) hx hb dX4_bring_11 (by decide) (fun _ => ?_) (fun h => absurd h (by decide))
      refine lv_iload_n hx hb dX4_bring_20 rfl (lv_at hl 2 rfl) ?_
      refine lv_iconst (v := 1) hx hb dX4_bring_21 (by decide) ?_
      refine lv_sipush (v := 500) hx hb dX4_bring_22 (by decide) ?_
      refine k_i (wr := [(m0, .inr (4, [.int 0, .int (nI (vnC v)), .int (nI (vnP v)), .int (nI (vnK v)), .ref m1, .ref m2, .ref m3, .ref m4, .ref m5, .ref m6])), (m1, .inl (cI, 7, .inl (st7 (nI (vday v)) (vcoal v) (vbar v) (vfine v) (vcrs v) (vcoin v) (vship v))))]) (rS (As := [.int y2, .int 1, .int 500]) (rest := []) F hG hK (hP.sub (ws' := []) [] rfl) ((hD.sub (ws' := []) [] (by decide) rfl).weaken (fun _ _ _ _ => trivial)) s_RX4_35 (c_X4_isIn l D cI cZ cJ y2 1 500 _) rfl hl.1 rfl (Nat.le_of_ble_eq_true rfl) dX4_bring_25 ⟨(Nat.le_of_ble_eq_true rfl), (Nat.le_of_ble_eq_true rfl)⟩ ⟨(Nat.le_of_ble_eq_true rfl), (Nat.le_of_ble_eq_true rfl)⟩) hP hD hS hA [] [0, 1] rfl rfl (by decide) (by decide) (fun r_25 uu H locs hw hP hD hS => ?_)
      try dsimp only at hw
      have hP : va_P D vwCl [(m0, .inr (4, [.int 0, .int (nI (vnC v)), .int (nI (vnP v)), .int (nI (vnK v)), .ref m1, .ref m2, .ref m3, .ref m4, .ref m5, .ref m6])), (m1, .inl (cI, 7, .inl (st7 (nI (vday v)) (vcoal v) (vbar v) (vfine v) (vcrs v) (vcoin v) (vship v))))] _ := hP
      have hD : va_D A [(m0, .inr (4, [.int 0, .int (nI (vnC v)), .int (nI (vnP v)), .int (nI (vnK v)), .ref m1, .ref m2, .ref m3, .ref m4, .ref m5, .ref m6])), (m1, .inl (cI, 7, .inl (st7 (nI (vday v)) (vcoal v) (vbar v) (vfine v) (vcrs v) (vcoin v) (vship v))))] := hD
      rcases hw with ⟨rfl, b_2⟩ | ⟨rfl, b_2⟩
      · skip
        refine lv_if_ne (tgt := 37) hx hb dX4_bring_28 (by decide) (fun _ => ?_) (fun h => absurd h (by decide))
        refine lv_aload_n hx hb dX4_bring_37 rfl (lv_at hl 0 rfl) ?_
        refine va_get (D := D) (ci := 4) (v := .ref m1) (C := RX4) (T := TX4) (N := 10) hx hb ht inG_X4 hown hK hP 0 rfl rfl 4 (by decide) (ht _ qF_RX4_7) (fun _ h9 => h9) rfl dX4_bring_38 ?_
        refine lv_iconst (v := 1) hx hb dX4_bring_41 (by decide) ?_
        refine lv_iload_n hx hb dX4_bring_42 rfl (lv_at hl 1 rfl) ?_
        refine lv_iadd hx hb dX4_bring_43 ?_
        refine t_i 1 (by decide) ?_
        refine lv_iload_n hx hb dX4_bring_44 rfl (lv_at hl 1 rfl) ?_
        refine lv_if_ne (tgt := 54) hx hb dX4_bring_45 (by decide) (fun h => absurd (by decide) h) (fun _ => ?_)
        refine lv_sipush (v := 500) hx hb dX4_bring_48 (by decide) ?_
        refine lv_goto (tgt := 56) hx hb dX4_bring_51 (by decide) ?_
        refine lv_aload_n hx hb dX4_bring_56 rfl (lv_at hl 0 rfl) ?_
        refine va_get (D := D) (ci := 4) (v := .ref m1) (C := RX4) (T := TX4) (N := 10) hx hb ht inG_X4 hown hK hP 0 rfl rfl 4 (by decide) (ht _ qF_RX4_7) (fun _ h9 => h9) rfl dX4_bring_57 ?_
        refine lv_iconst (v := 1) hx hb dX4_bring_60 (by decide) ?_
        refine lv_iload_n hx hb dX4_bring_61 rfl (lv_at hl 1 rfl) ?_
        refine lv_iadd hx hb dX4_bring_62 ?_
        refine t_i 1 (by decide) ?_
        refine aI hx hb hK hP 1 0 rfl rfl 1 (rfl) (by decide) (by decide) (v := vcoal v) (rfl) dX4_bring_63 ?_
        refine lv_iload_n hx hb dX4_bring_64 rfl (lv_at hl 2 rfl) ?_
        refine lv_iadd hx hb dX4_bring_65 ?_
        refine k_min F qM_RX4_49 hl.1 (Nat.le_of_ble_eq_true rfl) (Nat.le_of_ble_eq_true rfl) (Nat.le_of_ble_eq_true rfl) (Nat.le_of_ble_eq_true rfl) dX4_bring_66 ?_
        refine sI_ hx hb hK hP hD hS 1 0 rfl rfl 1 (rfl) (by decide) (by decide) (st7 (nI (vday v)) (mn 500 ((vcoal v) + y2)) (vbar v) (vfine v) (vcrs v) (vcoin v) (vship v)) (st7_u1 _ _ _ _ _ _ _ _) dX4_bring_69 (fun H locs hP hD hS => ?_)
        have hP : va_P D vwCl [(m0, .inr (4, [.int 0, .int (nI (vnC v)), .int (nI (vnP v)), .int (nI (vnK v)), .ref m1, .ref m2, .ref m3, .ref m4, .ref m5, .ref m6])), (m1, .inl (cI, 7, .inl (st7 (nI (vday v)) (mn 500 ((vcoal v) + y2)) (vbar v) (vfine v) (vcrs v) (vcoin v) (vship v))))] _ := hP
        have hD : va_D A [(m0, .inr (4, [.int 0, .int (nI (vnC v)), .int (nI (vnP v)), .int (nI (vnK v)), .ref m1, .ref m2, .ref m3, .ref m4, .ref m5, .ref m6])), (m1, .inl (cI, 7, .inl (st7 (nI (vday v)) (mn 500 ((vcoal v) + y2)) (vbar v) (vfine v) (vcrs v) (vcoin v) (vship v))))] := hD
        refine lv_aload_n hx hb dX4_bring_70 rfl (lv_at hl 0 rfl) ?_
        refine va_get (D := D) (ci := 4) (v := .ref m1) (C := RX4) (T := TX4) (N := 10) hx hb ht inG_X4 hown hK hP 0 rfl rfl 4 (by decide) (ht _ qF_RX4_7) (fun _ h9 => h9) rfl dX4_bring_71 ?_
        refine lv_iconst (v := 1) hx hb dX4_bring_74 (by decide) ?_
        refine lv_iload_n hx hb dX4_bring_75 rfl (lv_at hl 1 rfl) ?_
        refine lv_iadd hx hb dX4_bring_76 ?_
        refine t_i 1 (by decide) ?_
        refine aI hx hb hK hP 1 0 rfl rfl 1 (rfl) (by decide) (by decide) (v := mn 500 ((vcoal v) + y2)) (rfl) dX4_bring_77 ?_
        exact hend _ _ _ _ _ _ (mn 500 ((vcoal v) + y2)) (0, mkV (vsh v) (vco v) (vbu v) (vfl v) (vnC v) (vpw v) (vpa v) (vpb v) (vnP v) (vkw v) (vka v) (vkb v) (vnK v) (vday v) (mn 500 ((vcoal v) + y2)) (vbar v) (vfine v) (vcrs v) (vcoin v) (vship v) (vR v) (vS v)) dX4_bring_78 (⟨by simp (decide := true) only [kBring, rBring, eq_true b_1, eq_true b_2, if_true, if_false, eq_self], by simp (decide := true) only [kBring, eq_true b_1, eq_true b_2, if_true, if_false, eq_self], by simp (decide := true) only [nBring, kBring, eq_true b_1, eq_true b_2, if_true, if_false, eq_self]⟩) hP hD hS rfl (Nat.le_of_ble_eq_true rfl) (Nat.le_of_ble_eq_true rfl)
      · skip
        refine lv_if_ne (tgt := 37) hx hb dX4_bring_28 (by decide) (fun h => absurd (by decide) h) (fun _ => ?_)
        refine lv_aload_n hx hb dX4_bring_31 rfl (lv_at hl 0 rfl) ?_
        refine lv_iconst (v := 2) hx hb dX4_bring_32 (by decide) ?_
        refine k_i (wr := [(m1, .inl (cI, 7, .inl (st7 (nI (vday v)) (vcoal v) (vbar v) (vfine v) (vcrs v) (vcoin v) (vship v))))]) (rV (As := [.int 2]) (rest := []) F hG hK (hP.sub (ws' := [(m0, .inr (4, [.int 0, .int (nI (vnC v)), .int (nI (vnP v)), .int (nI (vnK v)), .ref m1, .ref m2, .ref m3, .ref m4, .ref m5, .ref m6]))]) [0] rfl) ((hD.sub (ws' := [(m0, .inr (4, [.int 0, .int (nI (vnC v)), .int (nI (vnP v)), .int (nI (vnK v)), .ref m1, .ref m2, .ref m3, .ref m4, .ref m5, .ref m6]))]) [0] (by decide) rfl).weaken (fun _ _ _ _ => trivial)) s_RX4_45 (c_X4_fail l D cI cZ cJ m0 m1 m2 m3 m4 m5 m6 (vnC v) (vnP v) (vnK v) 0 2 _) 4 0 rfl rfl rfl rfl hl.1 rfl (Nat.le_of_ble_eq_true rfl) dX4_bring_33 ⟨(Nat.le_of_ble_eq_true rfl), (Nat.le_of_ble_eq_true rfl)⟩ ⟨(Nat.le_of_ble_eq_true rfl), (Nat.le_of_ble_eq_true rfl)⟩) hP hD hS hA [0] [1] rfl rfl (by decide) (by decide) (fun r_33 uu H locs hw hP hD hS => ?_)
        try dsimp only at hw
        subst hw
        have hP : va_P D vwCl [(m1, .inl (cI, 7, .inl (st7 (nI (vday v)) (vcoal v) (vbar v) (vfine v) (vcrs v) (vcoin v) (vship v)))), (m0, .inr (4, [.int 2, .int (nI (vnC v)), .int (nI (vnP v)), .int (nI (vnK v)), .ref m1, .ref m2, .ref m3, .ref m4, .ref m5, .ref m6]))] _ := hP
        have hD : va_D A [(m1, .inl (cI, 7, .inl (st7 (nI (vday v)) (vcoal v) (vbar v) (vfine v) (vcrs v) (vcoin v) (vship v)))), (m0, .inr (4, [.int 2, .int (nI (vnC v)), .int (nI (vnP v)), .int (nI (vnK v)), .ref m1, .ref m2, .ref m3, .ref m4, .ref m5, .ref m6]))] := hD
        exact hend _ _ _ _ _ _ 0 (2, mkV (vsh v) (vco v) (vbu v) (vfl v) (vnC v) (vpw v) (vpa v) (vpb v) (vnP v) (vkw v) (vka v) (vkb v) (vnK v) (vday v) (vcoal v) (vbar v) (vfine v) (vcrs v) (vcoin v) (vship v) (vR v) (vS v)) dX4_bring_36 (⟨by simp (decide := true) only [kBring, rBring, eq_true b_1, eq_false b_2, if_true, if_false, eq_self], by simp (decide := true) only [kBring, eq_true b_1, eq_false b_2, if_true, if_false, eq_self], Eq.symm (show nBring v 0 y2 = v by simp (decide := true) only [nBring, kBring, eq_true b_1, eq_false b_2, if_true, if_false, eq_self])⟩) (hP.sub [1, 0] rfl) (hD.sub [1, 0] (by decide) rfl) hS rfl (Nat.le_of_ble_eq_true rfl) (Nat.le_of_ble_eq_true rfl)
    · skip
      have hP : va_P D vwCl [(m0, .inr (4, [.int 0, .int (nI (vnC v)), .int (nI (vnP v)), .int (nI (vnK v)), .ref m1, .ref m2, .ref m3, .ref m4, .ref m5, .ref m6])), (m1, .inl (cI, 7, .inl (st7 (nI (vday v)) (vcoal v) (vbar v) (vfine v) (vcrs v) (vcoin v) (vship v))))] _ := hP
      have hD : va_D A [(m0, .inr (4, [.int 0, .int (nI (vnC v)), .int (nI (vnP v)), .int (nI (vnK v)), .ref m1, .ref m2, .ref m3, .ref m4, .ref m5, .ref m6])), (m1, .inl (cI, 7, .inl (st7 (nI (vday v)) (vcoal v) (vbar v) (vfine v) (vcrs v) (vcoin v) (vship v))))] := hD
      have hl : lv_has ls 3 [(0, .ref m0), (1, .int 1), (2, .int y2)] := hl
      refine lv_if_ne (tgt := 20) hx hb dX4_bring_11 (by decide) (fun _ => ?_) (fun h => absurd h (by decide))
      refine lv_iload_n hx hb dX4_bring_20 rfl (lv_at hl 2 rfl) ?_
      refine lv_iconst (v := 1) hx hb dX4_bring_21 (by decide) ?_
      refine lv_sipush (v := 500) hx hb dX4_bring_22 (by decide) ?_
      refine k_i (wr := [(m0, .inr (4, [.int 0, .int (nI (vnC v)), .int (nI (vnP v)), .int (nI (vnK v)), .ref m1, .ref m2, .ref m3, .ref m4, .ref m5, .ref m6])), (m1, .inl (cI, 7, .inl (st7 (nI (vday v)) (vcoal v) (vbar v) (vfine v) (vcrs v) (vcoin v) (vship v))))]) (rS (As := [.int y2, .int 1, .int 500]) (rest := []) F hG hK (hP.sub (ws' := []) [] rfl) ((hD.sub (ws' := []) [] (by decide) rfl).weaken (fun _ _ _ _ => trivial)) s_RX4_35 (c_X4_isIn l D cI cZ cJ y2 1 500 _) rfl hl.1 rfl (Nat.le_of_ble_eq_true rfl) dX4_bring_25 ⟨(Nat.le_of_ble_eq_true rfl), (Nat.le_of_ble_eq_true rfl)⟩ ⟨(Nat.le_of_ble_eq_true rfl), (Nat.le_of_ble_eq_true rfl)⟩) hP hD hS hA [] [0, 1] rfl rfl (by decide) (by decide) (fun r_25 uu H locs hw hP hD hS => ?_)
      try dsimp only at hw
      have hP : va_P D vwCl [(m0, .inr (4, [.int 0, .int (nI (vnC v)), .int (nI (vnP v)), .int (nI (vnK v)), .ref m1, .ref m2, .ref m3, .ref m4, .ref m5, .ref m6])), (m1, .inl (cI, 7, .inl (st7 (nI (vday v)) (vcoal v) (vbar v) (vfine v) (vcrs v) (vcoin v) (vship v))))] _ := hP
      have hD : va_D A [(m0, .inr (4, [.int 0, .int (nI (vnC v)), .int (nI (vnP v)), .int (nI (vnK v)), .ref m1, .ref m2, .ref m3, .ref m4, .ref m5, .ref m6])), (m1, .inl (cI, 7, .inl (st7 (nI (vday v)) (vcoal v) (vbar v) (vfine v) (vcrs v) (vcoin v) (vship v))))] := hD
      rcases hw with ⟨rfl, b_3⟩ | ⟨rfl, b_3⟩
      · skip
        refine lv_if_ne (tgt := 37) hx hb dX4_bring_28 (by decide) (fun _ => ?_) (fun h => absurd h (by decide))
        refine lv_aload_n hx hb dX4_bring_37 rfl (lv_at hl 0 rfl) ?_
        refine va_get (D := D) (ci := 4) (v := .ref m1) (C := RX4) (T := TX4) (N := 10) hx hb ht inG_X4 hown hK hP 0 rfl rfl 4 (by decide) (ht _ qF_RX4_7) (fun _ h9 => h9) rfl dX4_bring_38 ?_
        refine lv_iconst (v := 1) hx hb dX4_bring_41 (by decide) ?_
        refine lv_iload_n hx hb dX4_bring_42 rfl (lv_at hl 1 rfl) ?_
        refine lv_iadd hx hb dX4_bring_43 ?_
        refine t_i 2 (by decide) ?_
        refine lv_iload_n hx hb dX4_bring_44 rfl (lv_at hl 1 rfl) ?_
        refine lv_if_ne (tgt := 54) hx hb dX4_bring_45 (by decide) (fun _ => ?_) (fun h => absurd h (by decide))
        refine lv_bipush (v := 99) hx hb dX4_bring_54 (by decide) ?_
        refine lv_aload_n hx hb dX4_bring_56 rfl (lv_at hl 0 rfl) ?_
        refine va_get (D := D) (ci := 4) (v := .ref m1) (C := RX4) (T := TX4) (N := 10) hx hb ht inG_X4 hown hK hP 0 rfl rfl 4 (by decide) (ht _ qF_RX4_7) (fun _ h9 => h9) rfl dX4_bring_57 ?_
        refine lv_iconst (v := 1) hx hb dX4_bring_60 (by decide) ?_
        refine lv_iload_n hx hb dX4_bring_61 rfl (lv_at hl 1 rfl) ?_
        refine lv_iadd hx hb dX4_bring_62 ?_
        refine t_i 2 (by decide) ?_
        refine aI hx hb hK hP 1 0 rfl rfl 2 (rfl) (by decide) (by decide) (v := vbar v) (rfl) dX4_bring_63 ?_
        refine lv_iload_n hx hb dX4_bring_64 rfl (lv_at hl 2 rfl) ?_
        refine lv_iadd hx hb dX4_bring_65 ?_
        refine k_min F qM_RX4_49 hl.1 (Nat.le_of_ble_eq_true rfl) (Nat.le_of_ble_eq_true rfl) (Nat.le_of_ble_eq_true rfl) (Nat.le_of_ble_eq_true rfl) dX4_bring_66 ?_
        refine sI_ hx hb hK hP hD hS 1 0 rfl rfl 2 (rfl) (by decide) (by decide) (st7 (nI (vday v)) (vcoal v) (mn 99 ((vbar v) + y2)) (vfine v) (vcrs v) (vcoin v) (vship v)) (st7_u2 _ _ _ _ _ _ _ _) dX4_bring_69 (fun H locs hP hD hS => ?_)
        have hP : va_P D vwCl [(m0, .inr (4, [.int 0, .int (nI (vnC v)), .int (nI (vnP v)), .int (nI (vnK v)), .ref m1, .ref m2, .ref m3, .ref m4, .ref m5, .ref m6])), (m1, .inl (cI, 7, .inl (st7 (nI (vday v)) (vcoal v) (mn 99 ((vbar v) + y2)) (vfine v) (vcrs v) (vcoin v) (vship v))))] _ := hP
        have hD : va_D A [(m0, .inr (4, [.int 0, .int (nI (vnC v)), .int (nI (vnP v)), .int (nI (vnK v)), .ref m1, .ref m2, .ref m3, .ref m4, .ref m5, .ref m6])), (m1, .inl (cI, 7, .inl (st7 (nI (vday v)) (vcoal v) (mn 99 ((vbar v) + y2)) (vfine v) (vcrs v) (vcoin v) (vship v))))] := hD
        refine lv_aload_n hx hb dX4_bring_70 rfl (lv_at hl 0 rfl) ?_
        refine va_get (D := D) (ci := 4) (v := .ref m1) (C := RX4) (T := TX4) (N := 10) hx hb ht inG_X4 hown hK hP 0 rfl rfl 4 (by decide) (ht _ qF_RX4_7) (fun _ h9 => h9) rfl dX4_bring_71 ?_
        refine lv_iconst (v := 1) hx hb dX4_bring_74 (by decide) ?_
        refine lv_iload_n hx hb dX4_bring_75 rfl (lv_at hl 1 rfl) ?_
        refine lv_iadd hx hb dX4_bring_76 ?_
        refine t_i 2 (by decide) ?_
        refine aI hx hb hK hP 1 0 rfl rfl 2 (rfl) (by decide) (by decide) (v := mn 99 ((vbar v) + y2)) (rfl) dX4_bring_77 ?_
        exact hend _ _ _ _ _ _ (mn 99 ((vbar v) + y2)) (0, mkV (vsh v) (vco v) (vbu v) (vfl v) (vnC v) (vpw v) (vpa v) (vpb v) (vnP v) (vkw v) (vka v) (vkb v) (vnK v) (vday v) (vcoal v) (mn 99 ((vbar v) + y2)) (vfine v) (vcrs v) (vcoin v) (vship v) (vR v) (vS v)) dX4_bring_78 (⟨by simp (decide := true) only [kBring, rBring, eq_true b_1, eq_true b_3, if_true, if_false, eq_self], by simp (decide := true) only [kBring, eq_true b_1, eq_true b_3, if_true, if_false, eq_self], by simp (decide := true) only [nBring, kBring, eq_true b_1, eq_true b_3, if_true, if_false, eq_self]⟩) hP hD hS rfl (Nat.le_of_ble_eq_true rfl) (Nat.le_of_ble_eq_true rfl)
      · skip
        refine lv_if_ne (tgt := 37) hx hb dX4_bring_28 (by decide) (fun h => absurd (by decide) h) (fun _ => ?_)
        refine lv_aload_n hx hb dX4_bring_31 rfl (lv_at hl 0 rfl) ?_
        refine lv_iconst (v := 2) hx hb dX4_bring_32 (by decide) ?_
        refine k_i (wr := [(m1, .inl (cI, 7, .inl (st7 (nI (vday v)) (vcoal v) (vbar v) (vfine v) (vcrs v) (vcoin v) (vship v))))]) (rV (As := [.int 2]) (rest := []) F hG hK (hP.sub (ws' := [(m0, .inr (4, [.int 0, .int (nI (vnC v)), .int (nI (vnP v)), .int (nI (vnK v)), .ref m1, .ref m2, .ref m3, .ref m4, .ref m5, .ref m6]))]) [0] rfl) ((hD.sub (ws' := [(m0, .inr (4, [.int 0, .int (nI (vnC v)), .int (nI (vnP v)), .int (nI (vnK v)), .ref m1, .ref m2, .ref m3, .ref m4, .ref m5, .ref m6]))]) [0] (by decide) rfl).weaken (fun _ _ _ _ => trivial)) s_RX4_45 (c_X4_fail l D cI cZ cJ m0 m1 m2 m3 m4 m5 m6 (vnC v) (vnP v) (vnK v) 0 2 _) 4 0 rfl rfl rfl rfl hl.1 rfl (Nat.le_of_ble_eq_true rfl) dX4_bring_33 ⟨(Nat.le_of_ble_eq_true rfl), (Nat.le_of_ble_eq_true rfl)⟩ ⟨(Nat.le_of_ble_eq_true rfl), (Nat.le_of_ble_eq_true rfl)⟩) hP hD hS hA [0] [1] rfl rfl (by decide) (by decide) (fun r_33 uu H locs hw hP hD hS => ?_)
        try dsimp only at hw
        subst hw
        have hP : va_P D vwCl [(m1, .inl (cI, 7, .inl (st7 (nI (vday v)) (vcoal v) (vbar v) (vfine v) (vcrs v) (vcoin v) (vship v)))), (m0, .inr (4, [.int 2, .int (nI (vnC v)), .int (nI (vnP v)), .int (nI (vnK v)), .ref m1, .ref m2, .ref m3, .ref m4, .ref m5, .ref m6]))] _ := hP
        have hD : va_D A [(m1, .inl (cI, 7, .inl (st7 (nI (vday v)) (vcoal v) (vbar v) (vfine v) (vcrs v) (vcoin v) (vship v)))), (m0, .inr (4, [.int 2, .int (nI (vnC v)), .int (nI (vnP v)), .int (nI (vnK v)), .ref m1, .ref m2, .ref m3, .ref m4, .ref m5, .ref m6]))] := hD
        exact hend _ _ _ _ _ _ 0 (2, mkV (vsh v) (vco v) (vbu v) (vfl v) (vnC v) (vpw v) (vpa v) (vpb v) (vnP v) (vkw v) (vka v) (vkb v) (vnK v) (vday v) (vcoal v) (vbar v) (vfine v) (vcrs v) (vcoin v) (vship v) (vR v) (vS v)) dX4_bring_36 (⟨by simp (decide := true) only [kBring, rBring, eq_true b_1, eq_false b_3, if_true, if_false, eq_self], by simp (decide := true) only [kBring, eq_true b_1, eq_false b_3, if_true, if_false, eq_self], Eq.symm (show nBring v 1 y2 = v by simp (decide := true) only [nBring, kBring, eq_true b_1, eq_false b_3, if_true, if_false, eq_self])⟩) (hP.sub [1, 0] rfl) (hD.sub [1, 0] (by decide) rfl) hS rfl (Nat.le_of_ble_eq_true rfl) (Nat.le_of_ble_eq_true rfl)
  · skip
    refine lv_if_ne (tgt := 20) hx hb dX4_bring_11 (by decide) (fun h => absurd (by decide) h) (fun _ => ?_)
    refine lv_aload_n hx hb dX4_bring_14 rfl (lv_at hl 0 rfl) ?_
    refine lv_iconst (v := 1) hx hb dX4_bring_15 (by decide) ?_
    refine k_i (wr := [(m1, .inl (cI, 7, .inl (st7 (nI (vday v)) (vcoal v) (vbar v) (vfine v) (vcrs v) (vcoin v) (vship v))))]) (rV (As := [.int 1]) (rest := []) F hG hK (hP.sub (ws' := [(m0, .inr (4, [.int 0, .int (nI (vnC v)), .int (nI (vnP v)), .int (nI (vnK v)), .ref m1, .ref m2, .ref m3, .ref m4, .ref m5, .ref m6]))]) [0] rfl) ((hD.sub (ws' := [(m0, .inr (4, [.int 0, .int (nI (vnC v)), .int (nI (vnP v)), .int (nI (vnK v)), .ref m1, .ref m2, .ref m3, .ref m4, .ref m5, .ref m6]))]) [0] (by decide) rfl).weaken (fun _ _ _ _ => trivial)) s_RX4_45 (c_X4_fail l D cI cZ cJ m0 m1 m2 m3 m4 m5 m6 (vnC v) (vnP v) (vnK v) 0 1 _) 4 0 rfl rfl rfl rfl hl.1 rfl (Nat.le_of_ble_eq_true rfl) dX4_bring_16 ⟨(Nat.le_of_ble_eq_true rfl), (Nat.le_of_ble_eq_true rfl)⟩ ⟨(Nat.le_of_ble_eq_true rfl), (Nat.le_of_ble_eq_true rfl)⟩) hP hD hS hA [0] [1] rfl rfl (by decide) (by decide) (fun r_16 uu H locs hw hP hD hS => ?_)
    try dsimp only at hw
    subst hw
    have hP : va_P D vwCl [(m1, .inl (cI, 7, .inl (st7 (nI (vday v)) (vcoal v) (vbar v) (vfine v) (vcrs v) (vcoin v) (vship v)))), (m0, .inr (4, [.int 1, .int (nI (vnC v)), .int (nI (vnP v)), .int (nI (vnK v)), .ref m1, .ref m2, .ref m3, .ref m4, .ref m5, .ref m6]))] _ := hP
    have hD : va_D A [(m1, .inl (cI, 7, .inl (st7 (nI (vday v)) (vcoal v) (vbar v) (vfine v) (vcrs v) (vcoin v) (vship v)))), (m0, .inr (4, [.int 1, .int (nI (vnC v)), .int (nI (vnP v)), .int (nI (vnK v)), .ref m1, .ref m2, .ref m3, .ref m4, .ref m5, .ref m6]))] := hD
    exact hend _ _ _ _ _ _ 0 (1, mkV (vsh v) (vco v) (vbu v) (vfl v) (vnC v) (vpw v) (vpa v) (vpb v) (vnP v) (vkw v) (vka v) (vkb v) (vnK v) (vday v) (vcoal v) (vbar v) (vfine v) (vcrs v) (vcoin v) (vship v) (vR v) (vS v)) dX4_bring_19 (⟨by simp (decide := true) only [kBring, rBring, eq_false b_1, if_true, if_false, eq_self], by simp (decide := true) only [kBring, eq_false b_1, if_true, if_false, eq_self], Eq.symm (show nBring v y1 y2 = v by simp (decide := true) only [nBring, kBring, eq_false b_1, if_true, if_false, eq_self])⟩) (hP.sub [1, 0] rfl) (hD.sub [1, 0] (by decide) rfl) hS rfl (Nat.le_of_ble_eq_true rfl) (Nat.le_of_ble_eq_true rfl)

def rm_X4_setRain : Room := { frames := 1, cells := 0, slots := 0, locals := 22 }
set_option maxHeartbeats 4000000 in
set_option maxRecDepth 100000 in
theorem c_X4_setRain (l : Launch) (D : va_G) (cI cZ cJ : ClassId) (m0 m1 m2 m3 m4 m5 m6 : Nat) (th : Int32) (v : VT) (y1 y2 : Int32) (hI : IS v) : Mi l yX4_setRain cX4_setRain 4 (some .int) rm_X4_setRain D (TY cI cZ cJ) [.ref m0, .int y1, .int y2] [(m0, .inr (4, [.int th, .int (nI (vnC v)), .int (nI (vnP v)), .int (nI (vnK v)), .ref m1, .ref m2, .ref m3, .ref m4, .ref m5, .ref m6])), (m2, .inl (cI, 6, .inl (vR v)))] (fun (r : Int32) (u : Int32 × VT) => r = (if kRain v y1 y2 = 0 then rRain v y1 y2 else 0) ∧ u.1 = kRain v y1 y2 ∧ u.2 = nRain v y1 y2) (fun (u : Int32 × VT) => [(m0, .inr (4, [.int u.1, .int (nI (vnC u.2)), .int (nI (vnP u.2)), .int (nI (vnK u.2)), .ref m1, .ref m2, .ref m3, .ref m4, .ref m5, .ref m6])), (m2, .inl (cI, 6, .inl (vR u.2)))]) := by
  refine Mi.ofQ (by decide) (Nat.le_of_ble_eq_true rfl) ?_
  intro p e s m args below meth c A ls Q hF hK hP hD hA hl hend
  obtain ⟨F, hr, hlocks, hG⟩ := hF
  have hx := F.1
  have hb := F.2.1
  have hown := F.2.2.2.1
  have ht := F.2.2.2.2
  have hS : va_S A s.heap s.heap [] := va_S.rf
  have hl : lv_has ls 4 [(0, .ref m0), (1, .int y1), (2, .int y2)] := hl
  obtain ⟨hC4, hP4, hK3, hAH, hf1, hf2, hf3, hdy⟩ := hI
  refine lv_aload_n hx hb dX4_setRain_0 rfl (lv_at hl 0 rfl) ?_
  refine lv_iconst (v := 0) hx hb dX4_setRain_1 (by decide) ?_
  refine va_put (D := D) (ci := 4) (v := .int 0) (C := RX4) (T := TX4) (N := 10) hx hb ht inG_X4 tyX4 tyX4_ok nmX4 hown hK hP hD hS 0 rfl rfl 0 (by decide) (ht _ qF_RX4_28) (fun _ h9 => h9) rfl (tyX4_ok 0 (by decide)) rfl rfl (Nat.le_of_ble_eq_true rfl) dX4_setRain_2 (fun H locs hP hD hS => ?_)
  have hP : va_P D vwCl [(m0, .inr (4, [.int 0, .int (nI (vnC v)), .int (nI (vnP v)), .int (nI (vnK v)), .ref m1, .ref m2, .ref m3, .ref m4, .ref m5, .ref m6])), (m2, .inl (cI, 6, .inl (vR v)))] _ := hP
  have hD : va_D A [(m0, .inr (4, [.int 0, .int (nI (vnC v)), .int (nI (vnP v)), .int (nI (vnK v)), .ref m1, .ref m2, .ref m3, .ref m4, .ref m5, .ref m6])), (m2, .inl (cI, 6, .inl (vR v)))] := hD
  refine lv_iload_n hx hb dX4_setRain_5 rfl (lv_at hl 1 rfl) ?_
  refine lv_iconst (v := 0) hx hb dX4_setRain_6 (by decide) ?_
  refine lv_iconst (v := 5) hx hb dX4_setRain_7 (by decide) ?_
  refine k_i (wr := [(m0, .inr (4, [.int 0, .int (nI (vnC v)), .int (nI (vnP v)), .int (nI (vnK v)), .ref m1, .ref m2, .ref m3, .ref m4, .ref m5, .ref m6])), (m2, .inl (cI, 6, .inl (vR v)))]) (rS (As := [.int y1, .int 0, .int 5]) (rest := []) F hG hK (hP.sub (ws' := []) [] rfl) ((hD.sub (ws' := []) [] (by decide) rfl).weaken (fun _ _ _ _ => trivial)) s_RX4_35 (c_X4_isIn l D cI cZ cJ y1 0 5 _) rfl hl.1 rfl (Nat.le_of_ble_eq_true rfl) dX4_setRain_8 ⟨(Nat.le_of_ble_eq_true rfl), (Nat.le_of_ble_eq_true rfl)⟩ ⟨(Nat.le_of_ble_eq_true rfl), (Nat.le_of_ble_eq_true rfl)⟩) hP hD hS hA [] [0, 1] rfl rfl (by decide) (by decide) (fun r_8 uu H locs hw hP hD hS => ?_)
  try dsimp only at hw
  have hP : va_P D vwCl [(m0, .inr (4, [.int 0, .int (nI (vnC v)), .int (nI (vnP v)), .int (nI (vnK v)), .ref m1, .ref m2, .ref m3, .ref m4, .ref m5, .ref m6])), (m2, .inl (cI, 6, .inl (vR v)))] _ := hP
  have hD : va_D A [(m0, .inr (4, [.int 0, .int (nI (vnC v)), .int (nI (vnP v)), .int (nI (vnK v)), .ref m1, .ref m2, .ref m3, .ref m4, .ref m5, .ref m6])), (m2, .inl (cI, 6, .inl (vR v)))] := hD
  rcases hw with ⟨rfl, b_1⟩ | ⟨rfl, b_1⟩
  · skip
    obtain ⟨j_8, hj_8, rfl⟩ := inP (n := 5) (by decide) b_1
    have ix_8 : ix (nI j_8) = j_8 := ix_nI (by omega)
    have hP : va_P D vwCl [(m0, .inr (4, [.int 0, .int (nI (vnC v)), .int (nI (vnP v)), .int (nI (vnK v)), .ref m1, .ref m2, .ref m3, .ref m4, .ref m5, .ref m6])), (m2, .inl (cI, 6, .inl (vR v)))] _ := hP
    have hD : va_D A [(m0, .inr (4, [.int 0, .int (nI (vnC v)), .int (nI (vnP v)), .int (nI (vnK v)), .ref m1, .ref m2, .ref m3, .ref m4, .ref m5, .ref m6])), (m2, .inl (cI, 6, .inl (vR v)))] := hD
    have hl : lv_has ls 4 [(0, .ref m0), (1, .int (nI j_8)), (2, .int y2)] := hl
    refine lv_if_ne (tgt := 20) hx hb dX4_setRain_11 (by decide) (fun _ => ?_) (fun h => absurd h (by decide))
    refine lv_iload_n hx hb dX4_setRain_20 rfl (lv_at hl 2 rfl) ?_
    refine lv_iconst (v := 0) hx hb dX4_setRain_21 (by decide) ?_
    refine lv_bipush (v := 9) hx hb dX4_setRain_22 (by decide) ?_
    refine k_i (wr := [(m0, .inr (4, [.int 0, .int (nI (vnC v)), .int (nI (vnP v)), .int (nI (vnK v)), .ref m1, .ref m2, .ref m3, .ref m4, .ref m5, .ref m6])), (m2, .inl (cI, 6, .inl (vR v)))]) (rS (As := [.int y2, .int 0, .int 9]) (rest := []) F hG hK (hP.sub (ws' := []) [] rfl) ((hD.sub (ws' := []) [] (by decide) rfl).weaken (fun _ _ _ _ => trivial)) s_RX4_35 (c_X4_isIn l D cI cZ cJ y2 0 9 _) rfl hl.1 rfl (Nat.le_of_ble_eq_true rfl) dX4_setRain_24 ⟨(Nat.le_of_ble_eq_true rfl), (Nat.le_of_ble_eq_true rfl)⟩ ⟨(Nat.le_of_ble_eq_true rfl), (Nat.le_of_ble_eq_true rfl)⟩) hP hD hS hA [] [0, 1] rfl rfl (by decide) (by decide) (fun r_24 uu H locs hw hP hD hS => ?_)
    try dsimp only at hw
    have hP : va_P D vwCl [(m0, .inr (4, [.int 0, .int (nI (vnC v)), .int (nI (vnP v)), .int (nI (vnK v)), .ref m1, .ref m2, .ref m3, .ref m4, .ref m5, .ref m6])), (m2, .inl (cI, 6, .inl (vR v)))] _ := hP
    have hD : va_D A [(m0, .inr (4, [.int 0, .int (nI (vnC v)), .int (nI (vnP v)), .int (nI (vnK v)), .ref m1, .ref m2, .ref m3, .ref m4, .ref m5, .ref m6])), (m2, .inl (cI, 6, .inl (vR v)))] := hD
    rcases hw with ⟨rfl, b_2⟩ | ⟨rfl, b_2⟩
    · skip
      refine lv_if_ne (tgt := 36) hx hb dX4_setRain_27 (by decide) (fun _ => ?_) (fun h => absurd h (by decide))
      refine lv_aload_n hx hb dX4_setRain_36 rfl (lv_at hl 0 rfl) ?_
      refine va_get (D := D) (ci := 4) (v := .ref m2) (C := RX4) (T := TX4) (N := 10) hx hb ht inG_X4 hown hK hP 0 rfl rfl 5 (by decide) (ht _ qF_RX4_13) (fun _ h9 => h9) rfl dX4_setRain_37 ?_
      refine lv_iload_n hx hb dX4_setRain_40 rfl (lv_at hl 1 rfl) ?_
      refine aI hx hb hK hP 1 0 rfl rfl j_8 (rfl) (by omega) (by decide) (v := (vR v) j_8) (rfl) dX4_setRain_41 ?_
      refine lv_istore_n (lv' := [(3, .int ((vR v) j_8)), (0, .ref m0), (1, .int (nI j_8)), (2, .int y2)]) hx hb dX4_setRain_42 rfl hl (by decide) rfl (fun ls hl => ?_)
      refine lv_aload_n hx hb dX4_setRain_43 rfl (lv_at hl 1 rfl) ?_
      refine va_get (D := D) (ci := 4) (v := .ref m2) (C := RX4) (T := TX4) (N := 10) hx hb ht inG_X4 hown hK hP 0 rfl rfl 5 (by decide) (ht _ qF_RX4_13) (fun _ h9 => h9) rfl dX4_setRain_44 ?_
      refine lv_iload_n hx hb dX4_setRain_47 rfl (lv_at hl 2 rfl) ?_
      refine lv_iload_n hx hb dX4_setRain_48 rfl (lv_at hl 3 rfl) ?_
      refine sI_ hx hb hK hP hD hS 1 0 rfl rfl j_8 (rfl) (by omega) (by decide) (upd (vR v) j_8 y2) (rfl) dX4_setRain_49 (fun H locs hP hD hS => ?_)
      have hP : va_P D vwCl [(m0, .inr (4, [.int 0, .int (nI (vnC v)), .int (nI (vnP v)), .int (nI (vnK v)), .ref m1, .ref m2, .ref m3, .ref m4, .ref m5, .ref m6])), (m2, .inl (cI, 6, .inl (upd (vR v) j_8 y2)))] _ := hP
      have hD : va_D A [(m0, .inr (4, [.int 0, .int (nI (vnC v)), .int (nI (vnP v)), .int (nI (vnK v)), .ref m1, .ref m2, .ref m3, .ref m4, .ref m5, .ref m6])), (m2, .inl (cI, 6, .inl (upd (vR v) j_8 y2)))] := hD
      refine lv_iload_n hx hb dX4_setRain_50 rfl (lv_at hl 0 rfl) ?_
      exact hend _ _ _ _ _ _ ((vR v) j_8) (0, mkV (vsh v) (vco v) (vbu v) (vfl v) (vnC v) (vpw v) (vpa v) (vpb v) (vnP v) (vkw v) (vka v) (vkb v) (vnK v) (vday v) (vcoal v) (vbar v) (vfine v) (vcrs v) (vcoin v) (vship v) (upd (vR v) j_8 y2) (vS v)) dX4_setRain_51 (⟨by simp (decide := true) only [kRain, rRain, eq_true b_1, ix_8, eq_true b_2, if_true, if_false, eq_self], by simp (decide := true) only [kRain, eq_true b_1, ix_8, eq_true b_2, if_true, if_false, eq_self], by simp (decide := true) only [nRain, kRain, eq_true b_1, ix_8, eq_true b_2, if_true, if_false, eq_self]⟩) hP hD hS rfl (Nat.le_of_ble_eq_true rfl) (Nat.le_of_ble_eq_true rfl)
    · skip
      refine lv_if_ne (tgt := 36) hx hb dX4_setRain_27 (by decide) (fun h => absurd (by decide) h) (fun _ => ?_)
      refine lv_aload_n hx hb dX4_setRain_30 rfl (lv_at hl 0 rfl) ?_
      refine lv_iconst (v := 2) hx hb dX4_setRain_31 (by decide) ?_
      refine k_i (wr := [(m2, .inl (cI, 6, .inl (vR v)))]) (rV (As := [.int 2]) (rest := []) F hG hK (hP.sub (ws' := [(m0, .inr (4, [.int 0, .int (nI (vnC v)), .int (nI (vnP v)), .int (nI (vnK v)), .ref m1, .ref m2, .ref m3, .ref m4, .ref m5, .ref m6]))]) [0] rfl) ((hD.sub (ws' := [(m0, .inr (4, [.int 0, .int (nI (vnC v)), .int (nI (vnP v)), .int (nI (vnK v)), .ref m1, .ref m2, .ref m3, .ref m4, .ref m5, .ref m6]))]) [0] (by decide) rfl).weaken (fun _ _ _ _ => trivial)) s_RX4_45 (c_X4_fail l D cI cZ cJ m0 m1 m2 m3 m4 m5 m6 (vnC v) (vnP v) (vnK v) 0 2 _) 4 0 rfl rfl rfl rfl hl.1 rfl (Nat.le_of_ble_eq_true rfl) dX4_setRain_32 ⟨(Nat.le_of_ble_eq_true rfl), (Nat.le_of_ble_eq_true rfl)⟩ ⟨(Nat.le_of_ble_eq_true rfl), (Nat.le_of_ble_eq_true rfl)⟩) hP hD hS hA [0] [1] rfl rfl (by decide) (by decide) (fun r_32 uu H locs hw hP hD hS => ?_)
      try dsimp only at hw
      subst hw
      have hP : va_P D vwCl [(m2, .inl (cI, 6, .inl (vR v))), (m0, .inr (4, [.int 2, .int (nI (vnC v)), .int (nI (vnP v)), .int (nI (vnK v)), .ref m1, .ref m2, .ref m3, .ref m4, .ref m5, .ref m6]))] _ := hP
      have hD : va_D A [(m2, .inl (cI, 6, .inl (vR v))), (m0, .inr (4, [.int 2, .int (nI (vnC v)), .int (nI (vnP v)), .int (nI (vnK v)), .ref m1, .ref m2, .ref m3, .ref m4, .ref m5, .ref m6]))] := hD
      exact hend _ _ _ _ _ _ 0 (2, mkV (vsh v) (vco v) (vbu v) (vfl v) (vnC v) (vpw v) (vpa v) (vpb v) (vnP v) (vkw v) (vka v) (vkb v) (vnK v) (vday v) (vcoal v) (vbar v) (vfine v) (vcrs v) (vcoin v) (vship v) (vR v) (vS v)) dX4_setRain_35 (⟨by simp (decide := true) only [kRain, rRain, eq_true b_1, ix_8, eq_false b_2, if_true, if_false, eq_self], by simp (decide := true) only [kRain, eq_true b_1, ix_8, eq_false b_2, if_true, if_false, eq_self], Eq.symm (show nRain v (nI j_8) y2 = v by simp (decide := true) only [nRain, kRain, eq_true b_1, ix_8, eq_false b_2, if_true, if_false, eq_self])⟩) (hP.sub [1, 0] rfl) (hD.sub [1, 0] (by decide) rfl) hS rfl (Nat.le_of_ble_eq_true rfl) (Nat.le_of_ble_eq_true rfl)
  · skip
    refine lv_if_ne (tgt := 20) hx hb dX4_setRain_11 (by decide) (fun h => absurd (by decide) h) (fun _ => ?_)
    refine lv_aload_n hx hb dX4_setRain_14 rfl (lv_at hl 0 rfl) ?_
    refine lv_iconst (v := 1) hx hb dX4_setRain_15 (by decide) ?_
    refine k_i (wr := [(m2, .inl (cI, 6, .inl (vR v)))]) (rV (As := [.int 1]) (rest := []) F hG hK (hP.sub (ws' := [(m0, .inr (4, [.int 0, .int (nI (vnC v)), .int (nI (vnP v)), .int (nI (vnK v)), .ref m1, .ref m2, .ref m3, .ref m4, .ref m5, .ref m6]))]) [0] rfl) ((hD.sub (ws' := [(m0, .inr (4, [.int 0, .int (nI (vnC v)), .int (nI (vnP v)), .int (nI (vnK v)), .ref m1, .ref m2, .ref m3, .ref m4, .ref m5, .ref m6]))]) [0] (by decide) rfl).weaken (fun _ _ _ _ => trivial)) s_RX4_45 (c_X4_fail l D cI cZ cJ m0 m1 m2 m3 m4 m5 m6 (vnC v) (vnP v) (vnK v) 0 1 _) 4 0 rfl rfl rfl rfl hl.1 rfl (Nat.le_of_ble_eq_true rfl) dX4_setRain_16 ⟨(Nat.le_of_ble_eq_true rfl), (Nat.le_of_ble_eq_true rfl)⟩ ⟨(Nat.le_of_ble_eq_true rfl), (Nat.le_of_ble_eq_true rfl)⟩) hP hD hS hA [0] [1] rfl rfl (by decide) (by decide) (fun r_16 uu H locs hw hP hD hS => ?_)
    try dsimp only at hw
    subst hw
    have hP : va_P D vwCl [(m2, .inl (cI, 6, .inl (vR v))), (m0, .inr (4, [.int 1, .int (nI (vnC v)), .int (nI (vnP v)), .int (nI (vnK v)), .ref m1, .ref m2, .ref m3, .ref m4, .ref m5, .ref m6]))] _ := hP
    have hD : va_D A [(m2, .inl (cI, 6, .inl (vR v))), (m0, .inr (4, [.int 1, .int (nI (vnC v)), .int (nI (vnP v)), .int (nI (vnK v)), .ref m1, .ref m2, .ref m3, .ref m4, .ref m5, .ref m6]))] := hD
    exact hend _ _ _ _ _ _ 0 (1, mkV (vsh v) (vco v) (vbu v) (vfl v) (vnC v) (vpw v) (vpa v) (vpb v) (vnP v) (vkw v) (vka v) (vkb v) (vnK v) (vday v) (vcoal v) (vbar v) (vfine v) (vcrs v) (vcoin v) (vship v) (vR v) (vS v)) dX4_setRain_19 (⟨by simp (decide := true) only [kRain, rRain, eq_false b_1, if_true, if_false, eq_self], by simp (decide := true) only [kRain, eq_false b_1, if_true, if_false, eq_self], Eq.symm (show nRain v y1 y2 = v by simp (decide := true) only [nRain, kRain, eq_false b_1, if_true, if_false, eq_self])⟩) (hP.sub [1, 0] rfl) (hD.sub [1, 0] (by decide) rfl) hS rfl (Nat.le_of_ble_eq_true rfl) (Nat.le_of_ble_eq_true rfl)

def rm_X4_setShip : Room := { frames := 1, cells := 0, slots := 0, locals := 22 }
set_option maxHeartbeats 4000000 in
set_option maxRecDepth 100000 in
theorem c_X4_setShip (l : Launch) (D : va_G) (cI cZ cJ : ClassId) (m0 m1 m2 m3 m4 m5 m6 : Nat) (th : Int32) (v : VT) (y1 y2 : Int32) (hI : IS v) : Mi l yX4_setShip cX4_setShip 4 (some .int) rm_X4_setShip D (TY cI cZ cJ) [.ref m0, .int y1, .int y2] [(m0, .inr (4, [.int th, .int (nI (vnC v)), .int (nI (vnP v)), .int (nI (vnK v)), .ref m1, .ref m2, .ref m3, .ref m4, .ref m5, .ref m6])), (m3, .inl (cI, 7, .inl (vS v)))] (fun (r : Int32) (u : Int32 × VT) => r = (if kShip v y1 y2 = 0 then rShip v y1 y2 else 0) ∧ u.1 = kShip v y1 y2 ∧ u.2 = nShip v y1 y2) (fun (u : Int32 × VT) => [(m0, .inr (4, [.int u.1, .int (nI (vnC u.2)), .int (nI (vnP u.2)), .int (nI (vnK u.2)), .ref m1, .ref m2, .ref m3, .ref m4, .ref m5, .ref m6])), (m3, .inl (cI, 7, .inl (vS u.2)))]) := by
  refine Mi.ofQ (by decide) (Nat.le_of_ble_eq_true rfl) ?_
  intro p e s m args below meth c A ls Q hF hK hP hD hA hl hend
  obtain ⟨F, hr, hlocks, hG⟩ := hF
  have hx := F.1
  have hb := F.2.1
  have hown := F.2.2.2.1
  have ht := F.2.2.2.2
  have hS : va_S A s.heap s.heap [] := va_S.rf
  have hl : lv_has ls 4 [(0, .ref m0), (1, .int y1), (2, .int y2)] := hl
  obtain ⟨hC4, hP4, hK3, hAH, hf1, hf2, hf3, hdy⟩ := hI
  refine lv_aload_n hx hb dX4_setShip_0 rfl (lv_at hl 0 rfl) ?_
  refine lv_iconst (v := 0) hx hb dX4_setShip_1 (by decide) ?_
  refine va_put (D := D) (ci := 4) (v := .int 0) (C := RX4) (T := TX4) (N := 10) hx hb ht inG_X4 tyX4 tyX4_ok nmX4 hown hK hP hD hS 0 rfl rfl 0 (by decide) (ht _ qF_RX4_28) (fun _ h9 => h9) rfl (tyX4_ok 0 (by decide)) rfl rfl (Nat.le_of_ble_eq_true rfl) dX4_setShip_2 (fun H locs hP hD hS => ?_)
  have hP : va_P D vwCl [(m0, .inr (4, [.int 0, .int (nI (vnC v)), .int (nI (vnP v)), .int (nI (vnK v)), .ref m1, .ref m2, .ref m3, .ref m4, .ref m5, .ref m6])), (m3, .inl (cI, 7, .inl (vS v)))] _ := hP
  have hD : va_D A [(m0, .inr (4, [.int 0, .int (nI (vnC v)), .int (nI (vnP v)), .int (nI (vnK v)), .ref m1, .ref m2, .ref m3, .ref m4, .ref m5, .ref m6])), (m3, .inl (cI, 7, .inl (vS v)))] := hD
  refine lv_iload_n hx hb dX4_setShip_5 rfl (lv_at hl 1 rfl) ?_
  refine lv_iconst (v := 0) hx hb dX4_setShip_6 (by decide) ?_
  refine lv_bipush (v := 6) hx hb dX4_setShip_7 (by decide) ?_
  refine k_i (wr := [(m0, .inr (4, [.int 0, .int (nI (vnC v)), .int (nI (vnP v)), .int (nI (vnK v)), .ref m1, .ref m2, .ref m3, .ref m4, .ref m5, .ref m6])), (m3, .inl (cI, 7, .inl (vS v)))]) (rS (As := [.int y1, .int 0, .int 6]) (rest := []) F hG hK (hP.sub (ws' := []) [] rfl) ((hD.sub (ws' := []) [] (by decide) rfl).weaken (fun _ _ _ _ => trivial)) s_RX4_35 (c_X4_isIn l D cI cZ cJ y1 0 6 _) rfl hl.1 rfl (Nat.le_of_ble_eq_true rfl) dX4_setShip_9 ⟨(Nat.le_of_ble_eq_true rfl), (Nat.le_of_ble_eq_true rfl)⟩ ⟨(Nat.le_of_ble_eq_true rfl), (Nat.le_of_ble_eq_true rfl)⟩) hP hD hS hA [] [0, 1] rfl rfl (by decide) (by decide) (fun r_9 uu H locs hw hP hD hS => ?_)
  try dsimp only at hw
  have hP : va_P D vwCl [(m0, .inr (4, [.int 0, .int (nI (vnC v)), .int (nI (vnP v)), .int (nI (vnK v)), .ref m1, .ref m2, .ref m3, .ref m4, .ref m5, .ref m6])), (m3, .inl (cI, 7, .inl (vS v)))] _ := hP
  have hD : va_D A [(m0, .inr (4, [.int 0, .int (nI (vnC v)), .int (nI (vnP v)), .int (nI (vnK v)), .ref m1, .ref m2, .ref m3, .ref m4, .ref m5, .ref m6])), (m3, .inl (cI, 7, .inl (vS v)))] := hD
  rcases hw with ⟨rfl, b_1⟩ | ⟨rfl, b_1⟩
  · skip
    obtain ⟨j_9, hj_9, rfl⟩ := inP (n := 6) (by decide) b_1
    have ix_9 : ix (nI j_9) = j_9 := ix_nI (by omega)
    have hP : va_P D vwCl [(m0, .inr (4, [.int 0, .int (nI (vnC v)), .int (nI (vnP v)), .int (nI (vnK v)), .ref m1, .ref m2, .ref m3, .ref m4, .ref m5, .ref m6])), (m3, .inl (cI, 7, .inl (vS v)))] _ := hP
    have hD : va_D A [(m0, .inr (4, [.int 0, .int (nI (vnC v)), .int (nI (vnP v)), .int (nI (vnK v)), .ref m1, .ref m2, .ref m3, .ref m4, .ref m5, .ref m6])), (m3, .inl (cI, 7, .inl (vS v)))] := hD
    have hl : lv_has ls 4 [(0, .ref m0), (1, .int (nI j_9)), (2, .int y2)] := hl
    refine lv_if_ne (tgt := 21) hx hb dX4_setShip_12 (by decide) (fun _ => ?_) (fun h => absurd h (by decide))
    refine lv_iload_n hx hb dX4_setShip_21 rfl (lv_at hl 2 rfl) ?_
    refine lv_iconst (v := 0) hx hb dX4_setShip_22 (by decide) ?_
    refine lv_bipush (v := 60) hx hb dX4_setShip_23 (by decide) ?_
    refine k_i (wr := [(m0, .inr (4, [.int 0, .int (nI (vnC v)), .int (nI (vnP v)), .int (nI (vnK v)), .ref m1, .ref m2, .ref m3, .ref m4, .ref m5, .ref m6])), (m3, .inl (cI, 7, .inl (vS v)))]) (rS (As := [.int y2, .int 0, .int 60]) (rest := []) F hG hK (hP.sub (ws' := []) [] rfl) ((hD.sub (ws' := []) [] (by decide) rfl).weaken (fun _ _ _ _ => trivial)) s_RX4_35 (c_X4_isIn l D cI cZ cJ y2 0 60 _) rfl hl.1 rfl (Nat.le_of_ble_eq_true rfl) dX4_setShip_25 ⟨(Nat.le_of_ble_eq_true rfl), (Nat.le_of_ble_eq_true rfl)⟩ ⟨(Nat.le_of_ble_eq_true rfl), (Nat.le_of_ble_eq_true rfl)⟩) hP hD hS hA [] [0, 1] rfl rfl (by decide) (by decide) (fun r_25 uu H locs hw hP hD hS => ?_)
    try dsimp only at hw
    have hP : va_P D vwCl [(m0, .inr (4, [.int 0, .int (nI (vnC v)), .int (nI (vnP v)), .int (nI (vnK v)), .ref m1, .ref m2, .ref m3, .ref m4, .ref m5, .ref m6])), (m3, .inl (cI, 7, .inl (vS v)))] _ := hP
    have hD : va_D A [(m0, .inr (4, [.int 0, .int (nI (vnC v)), .int (nI (vnP v)), .int (nI (vnK v)), .ref m1, .ref m2, .ref m3, .ref m4, .ref m5, .ref m6])), (m3, .inl (cI, 7, .inl (vS v)))] := hD
    rcases hw with ⟨rfl, b_2⟩ | ⟨rfl, b_2⟩
    · skip
      refine lv_if_ne (tgt := 37) hx hb dX4_setShip_28 (by decide) (fun _ => ?_) (fun h => absurd h (by decide))
      refine lv_aload_n hx hb dX4_setShip_37 rfl (lv_at hl 0 rfl) ?_
      refine va_get (D := D) (ci := 4) (v := .ref m3) (C := RX4) (T := TX4) (N := 10) hx hb ht inG_X4 hown hK hP 0 rfl rfl 6 (by decide) (ht _ qF_RX4_16) (fun _ h9 => h9) rfl dX4_setShip_38 ?_
      refine lv_iload_n hx hb dX4_setShip_41 rfl (lv_at hl 1 rfl) ?_
      refine aI hx hb hK hP 1 0 rfl rfl j_9 (rfl) (by omega) (by decide) (v := (vS v) j_9) (rfl) dX4_setShip_42 ?_
      refine lv_istore_n (lv' := [(3, .int ((vS v) j_9)), (0, .ref m0), (1, .int (nI j_9)), (2, .int y2)]) hx hb dX4_setShip_43 rfl hl (by decide) rfl (fun ls hl => ?_)
      refine lv_aload_n hx hb dX4_setShip_44 rfl (lv_at hl 1 rfl) ?_
      refine va_get (D := D) (ci := 4) (v := .ref m3) (C := RX4) (T := TX4) (N := 10) hx hb ht inG_X4 hown hK hP 0 rfl rfl 6 (by decide) (ht _ qF_RX4_16) (fun _ h9 => h9) rfl dX4_setShip_45 ?_
      refine lv_iload_n hx hb dX4_setShip_48 rfl (lv_at hl 2 rfl) ?_
      refine lv_iload_n hx hb dX4_setShip_49 rfl (lv_at hl 3 rfl) ?_
      refine sI_ hx hb hK hP hD hS 1 0 rfl rfl j_9 (rfl) (by omega) (by decide) (upd (vS v) j_9 y2) (rfl) dX4_setShip_50 (fun H locs hP hD hS => ?_)
      have hP : va_P D vwCl [(m0, .inr (4, [.int 0, .int (nI (vnC v)), .int (nI (vnP v)), .int (nI (vnK v)), .ref m1, .ref m2, .ref m3, .ref m4, .ref m5, .ref m6])), (m3, .inl (cI, 7, .inl (upd (vS v) j_9 y2)))] _ := hP
      have hD : va_D A [(m0, .inr (4, [.int 0, .int (nI (vnC v)), .int (nI (vnP v)), .int (nI (vnK v)), .ref m1, .ref m2, .ref m3, .ref m4, .ref m5, .ref m6])), (m3, .inl (cI, 7, .inl (upd (vS v) j_9 y2)))] := hD
      refine lv_iload_n hx hb dX4_setShip_51 rfl (lv_at hl 0 rfl) ?_
      exact hend _ _ _ _ _ _ ((vS v) j_9) (0, mkV (vsh v) (vco v) (vbu v) (vfl v) (vnC v) (vpw v) (vpa v) (vpb v) (vnP v) (vkw v) (vka v) (vkb v) (vnK v) (vday v) (vcoal v) (vbar v) (vfine v) (vcrs v) (vcoin v) (vship v) (vR v) (upd (vS v) j_9 y2)) dX4_setShip_52 (⟨by simp (decide := true) only [kShip, rShip, eq_true b_1, ix_9, eq_true b_2, if_true, if_false, eq_self], by simp (decide := true) only [kShip, eq_true b_1, ix_9, eq_true b_2, if_true, if_false, eq_self], by simp (decide := true) only [nShip, kShip, eq_true b_1, ix_9, eq_true b_2, if_true, if_false, eq_self]⟩) hP hD hS rfl (Nat.le_of_ble_eq_true rfl) (Nat.le_of_ble_eq_true rfl)
    · skip
      refine lv_if_ne (tgt := 37) hx hb dX4_setShip_28 (by decide) (fun h => absurd (by decide) h) (fun _ => ?_)
      refine lv_aload_n hx hb dX4_setShip_31 rfl (lv_at hl 0 rfl) ?_
      refine lv_iconst (v := 2) hx hb dX4_setShip_32 (by decide) ?_
      refine k_i (wr := [(m3, .inl (cI, 7, .inl (vS v)))]) (rV (As := [.int 2]) (rest := []) F hG hK (hP.sub (ws' := [(m0, .inr (4, [.int 0, .int (nI (vnC v)), .int (nI (vnP v)), .int (nI (vnK v)), .ref m1, .ref m2, .ref m3, .ref m4, .ref m5, .ref m6]))]) [0] rfl) ((hD.sub (ws' := [(m0, .inr (4, [.int 0, .int (nI (vnC v)), .int (nI (vnP v)), .int (nI (vnK v)), .ref m1, .ref m2, .ref m3, .ref m4, .ref m5, .ref m6]))]) [0] (by decide) rfl).weaken (fun _ _ _ _ => trivial)) s_RX4_45 (c_X4_fail l D cI cZ cJ m0 m1 m2 m3 m4 m5 m6 (vnC v) (vnP v) (vnK v) 0 2 _) 4 0 rfl rfl rfl rfl hl.1 rfl (Nat.le_of_ble_eq_true rfl) dX4_setShip_33 ⟨(Nat.le_of_ble_eq_true rfl), (Nat.le_of_ble_eq_true rfl)⟩ ⟨(Nat.le_of_ble_eq_true rfl), (Nat.le_of_ble_eq_true rfl)⟩) hP hD hS hA [0] [1] rfl rfl (by decide) (by decide) (fun r_33 uu H locs hw hP hD hS => ?_)
      try dsimp only at hw
      subst hw
      have hP : va_P D vwCl [(m3, .inl (cI, 7, .inl (vS v))), (m0, .inr (4, [.int 2, .int (nI (vnC v)), .int (nI (vnP v)), .int (nI (vnK v)), .ref m1, .ref m2, .ref m3, .ref m4, .ref m5, .ref m6]))] _ := hP
      have hD : va_D A [(m3, .inl (cI, 7, .inl (vS v))), (m0, .inr (4, [.int 2, .int (nI (vnC v)), .int (nI (vnP v)), .int (nI (vnK v)), .ref m1, .ref m2, .ref m3, .ref m4, .ref m5, .ref m6]))] := hD
      exact hend _ _ _ _ _ _ 0 (2, mkV (vsh v) (vco v) (vbu v) (vfl v) (vnC v) (vpw v) (vpa v) (vpb v) (vnP v) (vkw v) (vka v) (vkb v) (vnK v) (vday v) (vcoal v) (vbar v) (vfine v) (vcrs v) (vcoin v) (vship v) (vR v) (vS v)) dX4_setShip_36 (⟨by simp (decide := true) only [kShip, rShip, eq_true b_1, ix_9, eq_false b_2, if_true, if_false, eq_self], by simp (decide := true) only [kShip, eq_true b_1, ix_9, eq_false b_2, if_true, if_false, eq_self], Eq.symm (show nShip v (nI j_9) y2 = v by simp (decide := true) only [nShip, kShip, eq_true b_1, ix_9, eq_false b_2, if_true, if_false, eq_self])⟩) (hP.sub [1, 0] rfl) (hD.sub [1, 0] (by decide) rfl) hS rfl (Nat.le_of_ble_eq_true rfl) (Nat.le_of_ble_eq_true rfl)
  · skip
    refine lv_if_ne (tgt := 21) hx hb dX4_setShip_12 (by decide) (fun h => absurd (by decide) h) (fun _ => ?_)
    refine lv_aload_n hx hb dX4_setShip_15 rfl (lv_at hl 0 rfl) ?_
    refine lv_iconst (v := 1) hx hb dX4_setShip_16 (by decide) ?_
    refine k_i (wr := [(m3, .inl (cI, 7, .inl (vS v)))]) (rV (As := [.int 1]) (rest := []) F hG hK (hP.sub (ws' := [(m0, .inr (4, [.int 0, .int (nI (vnC v)), .int (nI (vnP v)), .int (nI (vnK v)), .ref m1, .ref m2, .ref m3, .ref m4, .ref m5, .ref m6]))]) [0] rfl) ((hD.sub (ws' := [(m0, .inr (4, [.int 0, .int (nI (vnC v)), .int (nI (vnP v)), .int (nI (vnK v)), .ref m1, .ref m2, .ref m3, .ref m4, .ref m5, .ref m6]))]) [0] (by decide) rfl).weaken (fun _ _ _ _ => trivial)) s_RX4_45 (c_X4_fail l D cI cZ cJ m0 m1 m2 m3 m4 m5 m6 (vnC v) (vnP v) (vnK v) 0 1 _) 4 0 rfl rfl rfl rfl hl.1 rfl (Nat.le_of_ble_eq_true rfl) dX4_setShip_17 ⟨(Nat.le_of_ble_eq_true rfl), (Nat.le_of_ble_eq_true rfl)⟩ ⟨(Nat.le_of_ble_eq_true rfl), (Nat.le_of_ble_eq_true rfl)⟩) hP hD hS hA [0] [1] rfl rfl (by decide) (by decide) (fun r_17 uu H locs hw hP hD hS => ?_)
    try dsimp only at hw
    subst hw
    have hP : va_P D vwCl [(m3, .inl (cI, 7, .inl (vS v))), (m0, .inr (4, [.int 1, .int (nI (vnC v)), .int (nI (vnP v)), .int (nI (vnK v)), .ref m1, .ref m2, .ref m3, .ref m4, .ref m5, .ref m6]))] _ := hP
    have hD : va_D A [(m3, .inl (cI, 7, .inl (vS v))), (m0, .inr (4, [.int 1, .int (nI (vnC v)), .int (nI (vnP v)), .int (nI (vnK v)), .ref m1, .ref m2, .ref m3, .ref m4, .ref m5, .ref m6]))] := hD
    exact hend _ _ _ _ _ _ 0 (1, mkV (vsh v) (vco v) (vbu v) (vfl v) (vnC v) (vpw v) (vpa v) (vpb v) (vnP v) (vkw v) (vka v) (vkb v) (vnK v) (vday v) (vcoal v) (vbar v) (vfine v) (vcrs v) (vcoin v) (vship v) (vR v) (vS v)) dX4_setShip_20 (⟨by simp (decide := true) only [kShip, rShip, eq_false b_1, if_true, if_false, eq_self], by simp (decide := true) only [kShip, eq_false b_1, if_true, if_false, eq_self], Eq.symm (show nShip v y1 y2 = v by simp (decide := true) only [nShip, kShip, eq_false b_1, if_true, if_false, eq_self])⟩) (hP.sub [1, 0] rfl) (hD.sub [1, 0] (by decide) rfl) hS rfl (Nat.le_of_ble_eq_true rfl) (Nat.le_of_ble_eq_true rfl)

def rm_X4_pile : Room := { frames := 1, cells := 0, slots := 0, locals := 22 }
set_option maxHeartbeats 4000000 in
set_option maxRecDepth 100000 in
theorem c_X4_pile (l : Launch) (D : va_G) (cI cZ cJ : ClassId) (m0 m1 m2 m3 m4 m5 m6 : Nat) (th : Int32) (v : VT) (y1 : Int32) (hI : IS v) : Mi l yX4_pile cX4_pile 2 (some .int) rm_X4_pile D (TY cI cZ cJ) [.ref m0, .int y1] [(m0, .inr (4, [.int th, .int (nI (vnC v)), .int (nI (vnP v)), .int (nI (vnK v)), .ref m1, .ref m2, .ref m3, .ref m4, .ref m5, .ref m6])), (m4, .inl (cI, 16, .inl (hp4 (vsh v) (vco v) (vbu v) (vfl v))))] (fun (r : Int32) (u : Int32 × VT) => r = (if kPile v y1 = 0 then rPile v y1 else 0) ∧ u.1 = kPile v y1 ∧ u.2 = nPile v y1) (fun (u : Int32 × VT) => [(m0, .inr (4, [.int u.1, .int (nI (vnC u.2)), .int (nI (vnP u.2)), .int (nI (vnK u.2)), .ref m1, .ref m2, .ref m3, .ref m4, .ref m5, .ref m6])), (m4, .inl (cI, 16, .inl (hp4 (vsh u.2) (vco u.2) (vbu u.2) (vfl u.2))))]) := by
  refine Mi.ofQ (by decide) (Nat.le_of_ble_eq_true rfl) ?_
  intro p e s m args below meth c A ls Q hF hK hP hD hA hl hend
  obtain ⟨F, hr, hlocks, hG⟩ := hF
  have hx := F.1
  have hb := F.2.1
  have hown := F.2.2.2.1
  have ht := F.2.2.2.2
  have hS : va_S A s.heap s.heap [] := va_S.rf
  have hl : lv_has ls 2 [(0, .ref m0), (1, .int y1)] := hl
  obtain ⟨hC4, hP4, hK3, hAH, hf1, hf2, hf3, hdy⟩ := hI
  refine lv_aload_n hx hb dX4_pile_0 rfl (lv_at hl 0 rfl) ?_
  refine lv_iconst (v := 0) hx hb dX4_pile_1 (by decide) ?_
  refine va_put (D := D) (ci := 4) (v := .int 0) (C := RX4) (T := TX4) (N := 10) hx hb ht inG_X4 tyX4 tyX4_ok nmX4 hown hK hP hD hS 0 rfl rfl 0 (by decide) (ht _ qF_RX4_28) (fun _ h9 => h9) rfl (tyX4_ok 0 (by decide)) rfl rfl (Nat.le_of_ble_eq_true rfl) dX4_pile_2 (fun H locs hP hD hS => ?_)
  have hP : va_P D vwCl [(m0, .inr (4, [.int 0, .int (nI (vnC v)), .int (nI (vnP v)), .int (nI (vnK v)), .ref m1, .ref m2, .ref m3, .ref m4, .ref m5, .ref m6])), (m4, .inl (cI, 16, .inl (hp4 (vsh v) (vco v) (vbu v) (vfl v))))] _ := hP
  have hD : va_D A [(m0, .inr (4, [.int 0, .int (nI (vnC v)), .int (nI (vnP v)), .int (nI (vnK v)), .ref m1, .ref m2, .ref m3, .ref m4, .ref m5, .ref m6])), (m4, .inl (cI, 16, .inl (hp4 (vsh v) (vco v) (vbu v) (vfl v))))] := hD
  refine lv_iload_n hx hb dX4_pile_5 rfl (lv_at hl 1 rfl) ?_
  refine lv_iconst (v := 1) hx hb dX4_pile_6 (by decide) ?_
  refine lv_sipush (v := 200) hx hb dX4_pile_7 (by decide) ?_
  refine k_i (wr := [(m0, .inr (4, [.int 0, .int (nI (vnC v)), .int (nI (vnP v)), .int (nI (vnK v)), .ref m1, .ref m2, .ref m3, .ref m4, .ref m5, .ref m6])), (m4, .inl (cI, 16, .inl (hp4 (vsh v) (vco v) (vbu v) (vfl v))))]) (rS (As := [.int y1, .int 1, .int 200]) (rest := []) F hG hK (hP.sub (ws' := []) [] rfl) ((hD.sub (ws' := []) [] (by decide) rfl).weaken (fun _ _ _ _ => trivial)) s_RX4_35 (c_X4_isIn l D cI cZ cJ y1 1 200 _) rfl hl.1 rfl (Nat.le_of_ble_eq_true rfl) dX4_pile_10 ⟨(Nat.le_of_ble_eq_true rfl), (Nat.le_of_ble_eq_true rfl)⟩ ⟨(Nat.le_of_ble_eq_true rfl), (Nat.le_of_ble_eq_true rfl)⟩) hP hD hS hA [] [0, 1] rfl rfl (by decide) (by decide) (fun r_10 uu H locs hw hP hD hS => ?_)
  try dsimp only at hw
  have hP : va_P D vwCl [(m0, .inr (4, [.int 0, .int (nI (vnC v)), .int (nI (vnP v)), .int (nI (vnK v)), .ref m1, .ref m2, .ref m3, .ref m4, .ref m5, .ref m6])), (m4, .inl (cI, 16, .inl (hp4 (vsh v) (vco v) (vbu v) (vfl v))))] _ := hP
  have hD : va_D A [(m0, .inr (4, [.int 0, .int (nI (vnC v)), .int (nI (vnP v)), .int (nI (vnK v)), .ref m1, .ref m2, .ref m3, .ref m4, .ref m5, .ref m6])), (m4, .inl (cI, 16, .inl (hp4 (vsh v) (vco v) (vbu v) (vfl v))))] := hD
  rcases hw with ⟨rfl, b_1⟩ | ⟨rfl, b_1⟩
  · skip
    refine lv_if_ne (tgt := 22) hx hb dX4_pile_13 (by decide) (fun _ => ?_) (fun h => absurd h (by decide))
    refine lv_aload_n hx hb dX4_pile_22 rfl (lv_at hl 0 rfl) ?_
    refine va_get (D := D) (ci := 4) (v := .int (nI (vnC v))) (C := RX4) (T := TX4) (N := 10) hx hb ht inG_X4 hown hK hP 0 rfl rfl 1 (by decide) (ht _ qF_RX4_32) (fun _ h9 => h9) rfl dX4_pile_23 ?_
    refine lv_iconst (v := 4) hx hb dX4_pile_26 (by decide) ?_
    refine lv_icmp_ne (tgt := 36) hx hb dX4_pile_27 (by decide) (fun c_2 => ?_) (fun c_2 => ?_)
    · skip
      have c_2q := ne4_lt (m := 4) (by omega) c_2
      refine lv_aload_n hx hb dX4_pile_36 rfl (lv_at hl 0 rfl) ?_
      refine va_get (D := D) (ci := 4) (v := .ref m4) (C := RX4) (T := TX4) (N := 10) hx hb ht inG_X4 hown hK hP 0 rfl rfl 7 (by decide) (ht _ qF_RX4_19) (fun _ h9 => h9) rfl dX4_pile_37 ?_
      refine lv_iconst (v := 4) hx hb dX4_pile_40 (by decide) ?_
      refine lv_aload_n hx hb dX4_pile_41 rfl (lv_at hl 0 rfl) ?_
      refine va_get (D := D) (ci := 4) (v := .int (nI (vnC v))) (C := RX4) (T := TX4) (N := 10) hx hb ht inG_X4 hown hK hP 0 rfl rfl 1 (by decide) (ht _ qF_RX4_32) (fun _ h9 => h9) rfl dX4_pile_42 ?_
      refine lv_imul hx hb dX4_pile_45 ?_
      refine t_i (nI (4 * (vnC v))) (pk_mul 4 (vnC v)) ?_
      refine lv_iload_n hx hb dX4_pile_46 rfl (lv_at hl 1 rfl) ?_
      refine sI_ hx hb hK hP hD hS 1 0 rfl rfl (4 * (vnC v)) (rfl) (by omega) (by decide) (hp4 (upd (vsh v) (vnC v) y1) (vco v) (vbu v) (vfl v)) (hp4_u0 _ _ _ _ _ _) dX4_pile_47 (fun H locs hP hD hS => ?_)
      have hP : va_P D vwCl [(m0, .inr (4, [.int 0, .int (nI (vnC v)), .int (nI (vnP v)), .int (nI (vnK v)), .ref m1, .ref m2, .ref m3, .ref m4, .ref m5, .ref m6])), (m4, .inl (cI, 16, .inl (hp4 (upd (vsh v) (vnC v) y1) (vco v) (vbu v) (vfl v))))] _ := hP
      have hD : va_D A [(m0, .inr (4, [.int 0, .int (nI (vnC v)), .int (nI (vnP v)), .int (nI (vnK v)), .ref m1, .ref m2, .ref m3, .ref m4, .ref m5, .ref m6])), (m4, .inl (cI, 16, .inl (hp4 (upd (vsh v) (vnC v) y1) (vco v) (vbu v) (vfl v))))] := hD
      refine lv_aload_n hx hb dX4_pile_48 rfl (lv_at hl 0 rfl) ?_
      refine lv_dup hx hb dX4_pile_49 rfl ?_
      refine va_get (D := D) (ci := 4) (v := .int (nI (vnC v))) (C := RX4) (T := TX4) (N := 10) hx hb ht inG_X4 hown hK hP 0 rfl rfl 1 (by decide) (ht _ qF_RX4_32) (fun _ h9 => h9) rfl dX4_pile_50 ?_
      refine lv_iconst (v := 1) hx hb dX4_pile_53 (by decide) ?_
      refine lv_iadd hx hb dX4_pile_54 ?_
      refine t_i (nI (vnC v + 1)) (nI_1 (vnC v)) ?_
      refine va_put (D := D) (ci := 4) (v := .int (nI (vnC v + 1))) (C := RX4) (T := TX4) (N := 10) hx hb ht inG_X4 tyX4 tyX4_ok nmX4 hown hK hP hD hS 0 rfl rfl 1 (by decide) (ht _ qF_RX4_32) (fun _ h9 => h9) rfl (tyX4_ok 1 (by decide)) rfl rfl (Nat.le_of_ble_eq_true rfl) dX4_pile_55 (fun H locs hP hD hS => ?_)
      have hP : va_P D vwCl [(m0, .inr (4, [.int 0, .int (nI (vnC v + 1)), .int (nI (vnP v)), .int (nI (vnK v)), .ref m1, .ref m2, .ref m3, .ref m4, .ref m5, .ref m6])), (m4, .inl (cI, 16, .inl (hp4 (upd (vsh v) (vnC v) y1) (vco v) (vbu v) (vfl v))))] _ := hP
      have hD : va_D A [(m0, .inr (4, [.int 0, .int (nI (vnC v + 1)), .int (nI (vnP v)), .int (nI (vnK v)), .ref m1, .ref m2, .ref m3, .ref m4, .ref m5, .ref m6])), (m4, .inl (cI, 16, .inl (hp4 (upd (vsh v) (vnC v) y1) (vco v) (vbu v) (vfl v))))] := hD
      refine lv_aload_n hx hb dX4_pile_58 rfl (lv_at hl 0 rfl) ?_
      refine va_get (D := D) (ci := 4) (v := .int (nI (vnC v + 1))) (C := RX4) (T := TX4) (N := 10) hx hb ht inG_X4 hown hK hP 0 rfl rfl 1 (by decide) (ht _ qF_RX4_32) (fun _ h9 => h9) rfl dX4_pile_59 ?_
      refine lv_iconst (v := 1) hx hb dX4_pile_62 (by decide) ?_
      refine lv_isub hx hb dX4_pile_63 ?_
      refine t_i (nI (vnC v)) (nI_pred _) ?_
      exact hend _ _ _ _ _ _ (nI (vnC v)) (0, mkV (upd (vsh v) (vnC v) y1) (vco v) (vbu v) (vfl v) (vnC v + 1) (vpw v) (vpa v) (vpb v) (vnP v) (vkw v) (vka v) (vkb v) (vnK v) (vday v) (vcoal v) (vbar v) (vfine v) (vcrs v) (vcoin v) (vship v) (vR v) (vS v)) dX4_pile_64 (⟨by simp (decide := true) only [kPile, rPile, eq_true b_1, eq_false c_2, eq_false c_2q, if_true, if_false, eq_self], by simp (decide := true) only [kPile, eq_true b_1, eq_false c_2, eq_false c_2q, if_true, if_false, eq_self], by simp (decide := true) only [nPile, kPile, eq_true b_1, eq_false c_2, eq_false c_2q, if_true, if_false, eq_self]⟩) hP hD hS rfl (Nat.le_of_ble_eq_true rfl) (Nat.le_of_ble_eq_true rfl)
    · skip
      have c_2m := (nI_eq (a := vnC v) (b := 4) (by omega) (by omega)).mp c_2
      have c_2q := eq4_le (m := 4) (by omega) (by omega) c_2
      refine lv_aload_n hx hb dX4_pile_30 rfl (lv_at hl 0 rfl) ?_
      refine lv_iconst (v := 2) hx hb dX4_pile_31 (by decide) ?_
      refine k_i (wr := [(m4, .inl (cI, 16, .inl (hp4 (vsh v) (vco v) (vbu v) (vfl v))))]) (rV (As := [.int 2]) (rest := []) F hG hK (hP.sub (ws' := [(m0, .inr (4, [.int 0, .int (nI (vnC v)), .int (nI (vnP v)), .int (nI (vnK v)), .ref m1, .ref m2, .ref m3, .ref m4, .ref m5, .ref m6]))]) [0] rfl) ((hD.sub (ws' := [(m0, .inr (4, [.int 0, .int (nI (vnC v)), .int (nI (vnP v)), .int (nI (vnK v)), .ref m1, .ref m2, .ref m3, .ref m4, .ref m5, .ref m6]))]) [0] (by decide) rfl).weaken (fun _ _ _ _ => trivial)) s_RX4_45 (c_X4_fail l D cI cZ cJ m0 m1 m2 m3 m4 m5 m6 (vnC v) (vnP v) (vnK v) 0 2 _) 4 0 rfl rfl rfl rfl hl.1 rfl (Nat.le_of_ble_eq_true rfl) dX4_pile_32 ⟨(Nat.le_of_ble_eq_true rfl), (Nat.le_of_ble_eq_true rfl)⟩ ⟨(Nat.le_of_ble_eq_true rfl), (Nat.le_of_ble_eq_true rfl)⟩) hP hD hS hA [0] [1] rfl rfl (by decide) (by decide) (fun r_32 uu H locs hw hP hD hS => ?_)
      try dsimp only at hw
      subst hw
      have hP : va_P D vwCl [(m4, .inl (cI, 16, .inl (hp4 (vsh v) (vco v) (vbu v) (vfl v)))), (m0, .inr (4, [.int 2, .int (nI (vnC v)), .int (nI (vnP v)), .int (nI (vnK v)), .ref m1, .ref m2, .ref m3, .ref m4, .ref m5, .ref m6]))] _ := hP
      have hD : va_D A [(m4, .inl (cI, 16, .inl (hp4 (vsh v) (vco v) (vbu v) (vfl v)))), (m0, .inr (4, [.int 2, .int (nI (vnC v)), .int (nI (vnP v)), .int (nI (vnK v)), .ref m1, .ref m2, .ref m3, .ref m4, .ref m5, .ref m6]))] := hD
      exact hend _ _ _ _ _ _ 0 (2, mkV (vsh v) (vco v) (vbu v) (vfl v) (vnC v) (vpw v) (vpa v) (vpb v) (vnP v) (vkw v) (vka v) (vkb v) (vnK v) (vday v) (vcoal v) (vbar v) (vfine v) (vcrs v) (vcoin v) (vship v) (vR v) (vS v)) dX4_pile_35 (⟨by simp (decide := true) only [kPile, rPile, eq_true b_1, eq_true c_2, eq_true c_2q, if_true, if_false, eq_self], by simp (decide := true) only [kPile, eq_true b_1, eq_true c_2, eq_true c_2q, if_true, if_false, eq_self], Eq.symm (show nPile v y1 = v by simp (decide := true) only [nPile, kPile, eq_true b_1, eq_true c_2, eq_true c_2q, if_true, if_false, eq_self])⟩) (hP.sub [1, 0] rfl) (hD.sub [1, 0] (by decide) rfl) hS rfl (Nat.le_of_ble_eq_true rfl) (Nat.le_of_ble_eq_true rfl)
  · skip
    refine lv_if_ne (tgt := 22) hx hb dX4_pile_13 (by decide) (fun h => absurd (by decide) h) (fun _ => ?_)
    refine lv_aload_n hx hb dX4_pile_16 rfl (lv_at hl 0 rfl) ?_
    refine lv_iconst (v := 1) hx hb dX4_pile_17 (by decide) ?_
    refine k_i (wr := [(m4, .inl (cI, 16, .inl (hp4 (vsh v) (vco v) (vbu v) (vfl v))))]) (rV (As := [.int 1]) (rest := []) F hG hK (hP.sub (ws' := [(m0, .inr (4, [.int 0, .int (nI (vnC v)), .int (nI (vnP v)), .int (nI (vnK v)), .ref m1, .ref m2, .ref m3, .ref m4, .ref m5, .ref m6]))]) [0] rfl) ((hD.sub (ws' := [(m0, .inr (4, [.int 0, .int (nI (vnC v)), .int (nI (vnP v)), .int (nI (vnK v)), .ref m1, .ref m2, .ref m3, .ref m4, .ref m5, .ref m6]))]) [0] (by decide) rfl).weaken (fun _ _ _ _ => trivial)) s_RX4_45 (c_X4_fail l D cI cZ cJ m0 m1 m2 m3 m4 m5 m6 (vnC v) (vnP v) (vnK v) 0 1 _) 4 0 rfl rfl rfl rfl hl.1 rfl (Nat.le_of_ble_eq_true rfl) dX4_pile_18 ⟨(Nat.le_of_ble_eq_true rfl), (Nat.le_of_ble_eq_true rfl)⟩ ⟨(Nat.le_of_ble_eq_true rfl), (Nat.le_of_ble_eq_true rfl)⟩) hP hD hS hA [0] [1] rfl rfl (by decide) (by decide) (fun r_18 uu H locs hw hP hD hS => ?_)
    try dsimp only at hw
    subst hw
    have hP : va_P D vwCl [(m4, .inl (cI, 16, .inl (hp4 (vsh v) (vco v) (vbu v) (vfl v)))), (m0, .inr (4, [.int 1, .int (nI (vnC v)), .int (nI (vnP v)), .int (nI (vnK v)), .ref m1, .ref m2, .ref m3, .ref m4, .ref m5, .ref m6]))] _ := hP
    have hD : va_D A [(m4, .inl (cI, 16, .inl (hp4 (vsh v) (vco v) (vbu v) (vfl v)))), (m0, .inr (4, [.int 1, .int (nI (vnC v)), .int (nI (vnP v)), .int (nI (vnK v)), .ref m1, .ref m2, .ref m3, .ref m4, .ref m5, .ref m6]))] := hD
    exact hend _ _ _ _ _ _ 0 (1, mkV (vsh v) (vco v) (vbu v) (vfl v) (vnC v) (vpw v) (vpa v) (vpb v) (vnP v) (vkw v) (vka v) (vkb v) (vnK v) (vday v) (vcoal v) (vbar v) (vfine v) (vcrs v) (vcoin v) (vship v) (vR v) (vS v)) dX4_pile_21 (⟨by simp (decide := true) only [kPile, rPile, eq_false b_1, if_true, if_false, eq_self], by simp (decide := true) only [kPile, eq_false b_1, if_true, if_false, eq_self], Eq.symm (show nPile v y1 = v by simp (decide := true) only [nPile, kPile, eq_false b_1, if_true, if_false, eq_self])⟩) (hP.sub [1, 0] rfl) (hD.sub [1, 0] (by decide) rfl) hS rfl (Nat.le_of_ble_eq_true rfl) (Nat.le_of_ble_eq_true rfl)

def rm_X4_light : Room := { frames := 2, cells := 0, slots := 0, locals := 43 }
set_option maxHeartbeats 4000000 in
set_option maxRecDepth 100000 in
theorem c_X4_light (l : Launch) (D : va_G) (cI cZ cJ : ClassId) (m0 m1 m2 m3 m4 m5 m6 : Nat) (th : Int32) (v : VT) (y1 y2 : Int32) (hI : IS v) : Mi l yX4_light cX4_light 4 (some .int) rm_X4_light D (TY cI cZ cJ) [.ref m0, .int y1, .int y2] [(m0, .inr (4, [.int th, .int (nI (vnC v)), .int (nI (vnP v)), .int (nI (vnK v)), .ref m1, .ref m2, .ref m3, .ref m4, .ref m5, .ref m6])), (m1, .inl (cI, 7, .inl (st7 (nI (vday v)) (vcoal v) (vbar v) (vfine v) (vcrs v) (vcoin v) (vship v)))), (m4, .inl (cI, 16, .inl (hp4 (vsh v) (vco v) (vbu v) (vfl v))))] (fun (r : Int32) (u : Int32 × VT) => r = (if kLight v y1 y2 = 0 then rLight v y1 y2 else 0) ∧ u.1 = kLight v y1 y2 ∧ u.2 = nLight v y1 y2) (fun (u : Int32 × VT) => [(m0, .inr (4, [.int u.1, .int (nI (vnC u.2)), .int (nI (vnP u.2)), .int (nI (vnK u.2)), .ref m1, .ref m2, .ref m3, .ref m4, .ref m5, .ref m6])), (m1, .inl (cI, 7, .inl (st7 (nI (vday u.2)) (vcoal u.2) (vbar u.2) (vfine u.2) (vcrs u.2) (vcoin u.2) (vship u.2)))), (m4, .inl (cI, 16, .inl (hp4 (vsh u.2) (vco u.2) (vbu u.2) (vfl u.2))))]) := by
  refine Mi.ofQ (by decide) (Nat.le_of_ble_eq_true rfl) ?_
  intro p e s m args below meth c A ls Q hF hK hP hD hA hl hend
  obtain ⟨F, hr, hlocks, hG⟩ := hF
  have hx := F.1
  have hb := F.2.1
  have hown := F.2.2.2.1
  have ht := F.2.2.2.2
  have hS : va_S A s.heap s.heap [] := va_S.rf
  have hl : lv_has ls 4 [(0, .ref m0), (1, .int y1), (2, .int y2)] := hl
  obtain ⟨hC4, hP4, hK3, hAH, hf1, hf2, hf3, hdy⟩ := hI
  refine lv_aload_n hx hb dX4_light_0 rfl (lv_at hl 0 rfl) ?_
  refine lv_iconst (v := 0) hx hb dX4_light_1 (by decide) ?_
  refine va_put (D := D) (ci := 4) (v := .int 0) (C := RX4) (T := TX4) (N := 10) hx hb ht inG_X4 tyX4 tyX4_ok nmX4 hown hK hP hD hS 0 rfl rfl 0 (by decide) (ht _ qF_RX4_28) (fun _ h9 => h9) rfl (tyX4_ok 0 (by decide)) rfl rfl (Nat.le_of_ble_eq_true rfl) dX4_light_2 (fun H locs hP hD hS => ?_)
  have hP : va_P D vwCl [(m0, .inr (4, [.int 0, .int (nI (vnC v)), .int (nI (vnP v)), .int (nI (vnK v)), .ref m1, .ref m2, .ref m3, .ref m4, .ref m5, .ref m6])), (m1, .inl (cI, 7, .inl (st7 (nI (vday v)) (vcoal v) (vbar v) (vfine v) (vcrs v) (vcoin v) (vship v)))), (m4, .inl (cI, 16, .inl (hp4 (vsh v) (vco v) (vbu v) (vfl v))))] _ := hP
  have hD : va_D A [(m0, .inr (4, [.int 0, .int (nI (vnC v)), .int (nI (vnP v)), .int (nI (vnK v)), .ref m1, .ref m2, .ref m3, .ref m4, .ref m5, .ref m6])), (m1, .inl (cI, 7, .inl (st7 (nI (vday v)) (vcoal v) (vbar v) (vfine v) (vcrs v) (vcoin v) (vship v)))), (m4, .inl (cI, 16, .inl (hp4 (vsh v) (vco v) (vbu v) (vfl v))))] := hD
  refine lv_aload_n hx hb dX4_light_5 rfl (lv_at hl 0 rfl) ?_
  refine lv_iload_n hx hb dX4_light_6 rfl (lv_at hl 1 rfl) ?_
  refine k_i (wr := [(m1, .inl (cI, 7, .inl (st7 (nI (vday v)) (vcoal v) (vbar v) (vfine v) (vcrs v) (vcoin v) (vship v)))), (m4, .inl (cI, 16, .inl (hp4 (vsh v) (vco v) (vbu v) (vfl v))))]) (rV (As := [.int y1]) (rest := []) F hG hK (hP.sub (ws' := [(m0, .inr (4, [.int 0, .int (nI (vnC v)), .int (nI (vnP v)), .int (nI (vnK v)), .ref m1, .ref m2, .ref m3, .ref m4, .ref m5, .ref m6]))]) [0] rfl) ((hD.sub (ws' := [(m0, .inr (4, [.int 0, .int (nI (vnC v)), .int (nI (vnP v)), .int (nI (vnK v)), .ref m1, .ref m2, .ref m3, .ref m4, .ref m5, .ref m6]))]) [0] (by decide) rfl).weaken (fun _ _ _ _ => trivial)) s_RX4_55 (c_X4_isClamp l D cI cZ cJ m0 m1 m2 m3 m4 m5 m6 (vnP v) (vnK v) (vnC v) 0 y1 (by first | assumption | omega) _) 4 0 rfl rfl rfl rfl hl.1 rfl (Nat.le_of_ble_eq_true rfl) dX4_light_7 ⟨(Nat.le_of_ble_eq_true rfl), (Nat.le_of_ble_eq_true rfl)⟩ ⟨(Nat.le_of_ble_eq_true rfl), (Nat.le_of_ble_eq_true rfl)⟩) hP hD hS hA [0] [1, 2] rfl rfl (by decide) (by decide) (fun r_7 uu H locs hw hP hD hS => ?_)
  try dsimp only at hw
  have hP : va_P D vwCl [(m1, .inl (cI, 7, .inl (st7 (nI (vday v)) (vcoal v) (vbar v) (vfine v) (vcrs v) (vcoin v) (vship v)))), (m4, .inl (cI, 16, .inl (hp4 (vsh v) (vco v) (vbu v) (vfl v)))), (m0, .inr (4, [.int 0, .int (nI (vnC v)), .int (nI (vnP v)), .int (nI (vnK v)), .ref m1, .ref m2, .ref m3, .ref m4, .ref m5, .ref m6]))] _ := hP
  have hD : va_D A [(m1, .inl (cI, 7, .inl (st7 (nI (vday v)) (vcoal v) (vbar v) (vfine v) (vcrs v) (vcoin v) (vship v)))), (m4, .inl (cI, 16, .inl (hp4 (vsh v) (vco v) (vbu v) (vfl v)))), (m0, .inr (4, [.int 0, .int (nI (vnC v)), .int (nI (vnP v)), .int (nI (vnK v)), .ref m1, .ref m2, .ref m3, .ref m4, .ref m5, .ref m6]))] := hD
  rcases hw with ⟨rfl, b_1⟩ | ⟨rfl, b_1⟩
  · skip
    obtain ⟨j_7, hj_7, rfl⟩ := b_1
    have ht_7 := hasT (n := (vnC v)) (by omega) hj_7
    have ix_7 : ix (nI j_7) = j_7 := ix_nI (by omega)
    have hP : va_P D vwCl [(m1, .inl (cI, 7, .inl (st7 (nI (vday v)) (vcoal v) (vbar v) (vfine v) (vcrs v) (vcoin v) (vship v)))), (m4, .inl (cI, 16, .inl (hp4 (vsh v) (vco v) (vbu v) (vfl v)))), (m0, .inr (4, [.int 0, .int (nI (vnC v)), .int (nI (vnP v)), .int (nI (vnK v)), .ref m1, .ref m2, .ref m3, .ref m4, .ref m5, .ref m6]))] _ := hP
    have hD : va_D A [(m1, .inl (cI, 7, .inl (st7 (nI (vday v)) (vcoal v) (vbar v) (vfine v) (vcrs v) (vcoin v) (vship v)))), (m4, .inl (cI, 16, .inl (hp4 (vsh v) (vco v) (vbu v) (vfl v)))), (m0, .inr (4, [.int 0, .int (nI (vnC v)), .int (nI (vnP v)), .int (nI (vnK v)), .ref m1, .ref m2, .ref m3, .ref m4, .ref m5, .ref m6]))] := hD
    have hl : lv_has ls 4 [(0, .ref m0), (1, .int (nI j_7)), (2, .int y2)] := hl
    refine lv_if_ne (tgt := 19) hx hb dX4_light_10 (by decide) (fun _ => ?_) (fun h => absurd h (by decide))
    refine lv_iload_n hx hb dX4_light_19 rfl (lv_at hl 2 rfl) ?_
    refine lv_iconst (v := 1) hx hb dX4_light_20 (by decide) ?_
    refine lv_bipush (v := 60) hx hb dX4_light_21 (by decide) ?_
    refine k_i (wr := [(m1, .inl (cI, 7, .inl (st7 (nI (vday v)) (vcoal v) (vbar v) (vfine v) (vcrs v) (vcoin v) (vship v)))), (m4, .inl (cI, 16, .inl (hp4 (vsh v) (vco v) (vbu v) (vfl v)))), (m0, .inr (4, [.int 0, .int (nI (vnC v)), .int (nI (vnP v)), .int (nI (vnK v)), .ref m1, .ref m2, .ref m3, .ref m4, .ref m5, .ref m6]))]) (rS (As := [.int y2, .int 1, .int 60]) (rest := []) F hG hK (hP.sub (ws' := []) [] rfl) ((hD.sub (ws' := []) [] (by decide) rfl).weaken (fun _ _ _ _ => trivial)) s_RX4_35 (c_X4_isIn l D cI cZ cJ y2 1 60 _) rfl hl.1 rfl (Nat.le_of_ble_eq_true rfl) dX4_light_23 ⟨(Nat.le_of_ble_eq_true rfl), (Nat.le_of_ble_eq_true rfl)⟩ ⟨(Nat.le_of_ble_eq_true rfl), (Nat.le_of_ble_eq_true rfl)⟩) hP hD hS hA [] [0, 1, 2] rfl rfl (by decide) (by decide) (fun r_23 uu H locs hw hP hD hS => ?_)
    try dsimp only at hw
    have hP : va_P D vwCl [(m1, .inl (cI, 7, .inl (st7 (nI (vday v)) (vcoal v) (vbar v) (vfine v) (vcrs v) (vcoin v) (vship v)))), (m4, .inl (cI, 16, .inl (hp4 (vsh v) (vco v) (vbu v) (vfl v)))), (m0, .inr (4, [.int 0, .int (nI (vnC v)), .int (nI (vnP v)), .int (nI (vnK v)), .ref m1, .ref m2, .ref m3, .ref m4, .ref m5, .ref m6]))] _ := hP
    have hD : va_D A [(m1, .inl (cI, 7, .inl (st7 (nI (vday v)) (vcoal v) (vbar v) (vfine v) (vcrs v) (vcoin v) (vship v)))), (m4, .inl (cI, 16, .inl (hp4 (vsh v) (vco v) (vbu v) (vfl v)))), (m0, .inr (4, [.int 0, .int (nI (vnC v)), .int (nI (vnP v)), .int (nI (vnK v)), .ref m1, .ref m2, .ref m3, .ref m4, .ref m5, .ref m6]))] := hD
    rcases hw with ⟨rfl, b_2⟩ | ⟨rfl, b_2⟩
    · skip
      refine lv_if_ne (tgt := 35) hx hb dX4_light_26 (by decide) (fun _ => ?_) (fun h => absurd h (by decide))
      refine lv_iconst (v := 4) hx hb dX4_light_35 (by decide) ?_
      refine lv_iload_n hx hb dX4_light_36 rfl (lv_at hl 1 rfl) ?_
      refine lv_imul hx hb dX4_light_37 ?_
      refine t_i (nI (4 * j_7)) (pk_mul 4 j_7) ?_
      refine lv_istore_n (lv' := [(3, .int (nI (4 * j_7))), (0, .ref m0), (1, .int (nI j_7)), (2, .int y2)]) hx hb dX4_light_38 rfl hl (by decide) rfl (fun ls hl => ?_)
      refine lv_aload_n hx hb dX4_light_39 rfl (lv_at hl 1 rfl) ?_
      refine va_get (D := D) (ci := 4) (v := .ref m1) (C := RX4) (T := TX4) (N := 10) hx hb ht inG_X4 hown hK hP 2 rfl rfl 4 (by decide) (ht _ qF_RX4_7) (fun _ h9 => h9) rfl dX4_light_40 ?_
      refine lv_iconst (v := 1) hx hb dX4_light_43 (by decide) ?_
      refine aI hx hb hK hP 0 0 rfl rfl 1 (rfl) (by decide) (by decide) (v := vcoal v) (rfl) dX4_light_44 ?_
      refine lv_iload_n hx hb dX4_light_45 rfl (lv_at hl 3 rfl) ?_
      refine lv_icmp_lt (tgt := 58) hx hb dX4_light_46 (by decide) (fun c_3 => ?_) (fun c_3 => ?_)
      · skip
        have c_3n := Int32.not_le.mpr c_3
        refine lv_aload_n hx hb dX4_light_58 rfl (lv_at hl 1 rfl) ?_
        refine lv_iconst (v := 3) hx hb dX4_light_59 (by decide) ?_
        refine k_i (wr := [(m1, .inl (cI, 7, .inl (st7 (nI (vday v)) (vcoal v) (vbar v) (vfine v) (vcrs v) (vcoin v) (vship v)))), (m4, .inl (cI, 16, .inl (hp4 (vsh v) (vco v) (vbu v) (vfl v))))]) (rV (As := [.int 3]) (rest := []) F hG hK (hP.sub (ws' := [(m0, .inr (4, [.int 0, .int (nI (vnC v)), .int (nI (vnP v)), .int (nI (vnK v)), .ref m1, .ref m2, .ref m3, .ref m4, .ref m5, .ref m6]))]) [2] rfl) ((hD.sub (ws' := [(m0, .inr (4, [.int 0, .int (nI (vnC v)), .int (nI (vnP v)), .int (nI (vnK v)), .ref m1, .ref m2, .ref m3, .ref m4, .ref m5, .ref m6]))]) [2] (by decide) rfl).weaken (fun _ _ _ _ => trivial)) s_RX4_45 (c_X4_fail l D cI cZ cJ m0 m1 m2 m3 m4 m5 m6 (vnC v) (vnP v) (vnK v) 0 3 _) 4 0 rfl rfl rfl rfl hl.1 rfl (Nat.le_of_ble_eq_true rfl) dX4_light_60 ⟨(Nat.le_of_ble_eq_true rfl), (Nat.le_of_ble_eq_true rfl)⟩ ⟨(Nat.le_of_ble_eq_true rfl), (Nat.le_of_ble_eq_true rfl)⟩) hP hD hS hA [2] [0, 1] rfl rfl (by decide) (by decide) (fun r_60 uu H locs hw hP hD hS => ?_)
        try dsimp only at hw
        subst hw
        have hP : va_P D vwCl [(m1, .inl (cI, 7, .inl (st7 (nI (vday v)) (vcoal v) (vbar v) (vfine v) (vcrs v) (vcoin v) (vship v)))), (m4, .inl (cI, 16, .inl (hp4 (vsh v) (vco v) (vbu v) (vfl v)))), (m0, .inr (4, [.int 3, .int (nI (vnC v)), .int (nI (vnP v)), .int (nI (vnK v)), .ref m1, .ref m2, .ref m3, .ref m4, .ref m5, .ref m6]))] _ := hP
        have hD : va_D A [(m1, .inl (cI, 7, .inl (st7 (nI (vday v)) (vcoal v) (vbar v) (vfine v) (vcrs v) (vcoin v) (vship v)))), (m4, .inl (cI, 16, .inl (hp4 (vsh v) (vco v) (vbu v) (vfl v)))), (m0, .inr (4, [.int 3, .int (nI (vnC v)), .int (nI (vnP v)), .int (nI (vnK v)), .ref m1, .ref m2, .ref m3, .ref m4, .ref m5, .ref m6]))] := hD
        exact hend _ _ _ _ _ _ 0 (3, mkV (vsh v) (vco v) (vbu v) (vfl v) (vnC v) (vpw v) (vpa v) (vpb v) (vnP v) (vkw v) (vka v) (vkb v) (vnK v) (vday v) (vcoal v) (vbar v) (vfine v) (vcrs v) (vcoin v) (vship v) (vR v) (vS v)) dX4_light_63 (⟨by simp (decide := true) only [kLight, rLight, eq_true ht_7, ix_7, eq_true b_2, eq_true c_3, eq_false c_3n, if_true, if_false, eq_self], by simp (decide := true) only [kLight, eq_true ht_7, ix_7, eq_true b_2, eq_true c_3, eq_false c_3n, if_true, if_false, eq_self], Eq.symm (show nLight v (nI j_7) y2 = v by simp (decide := true) only [nLight, kLight, eq_true ht_7, ix_7, eq_true b_2, eq_true c_3, eq_false c_3n, if_true, if_false, eq_self])⟩) (hP.sub [2, 0, 1] rfl) (hD.sub [2, 0, 1] (by decide) rfl) hS rfl (Nat.le_of_ble_eq_true rfl) (Nat.le_of_ble_eq_true rfl)
      · skip
        have c_3n := Int32.not_lt.mp c_3
        refine lv_aload_n hx hb dX4_light_49 rfl (lv_at hl 1 rfl) ?_
        refine va_get (D := D) (ci := 4) (v := .ref m4) (C := RX4) (T := TX4) (N := 10) hx hb ht inG_X4 hown hK hP 2 rfl rfl 7 (by decide) (ht _ qF_RX4_19) (fun _ h9 => h9) rfl dX4_light_50 ?_
        refine lv_iload_n hx hb dX4_light_53 rfl (lv_at hl 0 rfl) ?_
        refine aI hx hb hK hP 1 0 rfl rfl (4 * j_7) (rfl) (by omega) (by decide) (v := (vsh v) j_7) (hp4_0 _ _ _ _ j_7) dX4_light_54 ?_
        refine lv_if_ne (tgt := 64) hx hb dX4_light_55 (by decide) (fun c_4 => ?_) (fun c_4 => ?_)
        · skip
          refine lv_aload_n hx hb dX4_light_64 rfl (lv_at hl 1 rfl) ?_
          refine va_get (D := D) (ci := 4) (v := .ref m1) (C := RX4) (T := TX4) (N := 10) hx hb ht inG_X4 hown hK hP 2 rfl rfl 4 (by decide) (ht _ qF_RX4_7) (fun _ h9 => h9) rfl dX4_light_65 ?_
          refine lv_iconst (v := 1) hx hb dX4_light_68 (by decide) ?_
          refine lv_dup2_11 hx hb dX4_light_69 rfl rfl ?_
          refine aI hx hb hK hP 0 0 rfl rfl 1 (rfl) (by decide) (by decide) (v := vcoal v) (rfl) dX4_light_70 ?_
          refine lv_iload_n hx hb dX4_light_71 rfl (lv_at hl 3 rfl) ?_
          refine lv_isub hx hb dX4_light_72 ?_
          refine sI_ hx hb hK hP hD hS 0 0 rfl rfl 1 (rfl) (by decide) (by decide) (st7 (nI (vday v)) ((vcoal v) - y2) (vbar v) (vfine v) (vcrs v) (vcoin v) (vship v)) (st7_u1 _ _ _ _ _ _ _ _) dX4_light_73 (fun H locs hP hD hS => ?_)
          have hP : va_P D vwCl [(m1, .inl (cI, 7, .inl (st7 (nI (vday v)) ((vcoal v) - y2) (vbar v) (vfine v) (vcrs v) (vcoin v) (vship v)))), (m4, .inl (cI, 16, .inl (hp4 (vsh v) (vco v) (vbu v) (vfl v)))), (m0, .inr (4, [.int 0, .int (nI (vnC v)), .int (nI (vnP v)), .int (nI (vnK v)), .ref m1, .ref m2, .ref m3, .ref m4, .ref m5, .ref m6]))] _ := hP
          have hD : va_D A [(m1, .inl (cI, 7, .inl (st7 (nI (vday v)) ((vcoal v) - y2) (vbar v) (vfine v) (vcrs v) (vcoin v) (vship v)))), (m4, .inl (cI, 16, .inl (hp4 (vsh v) (vco v) (vbu v) (vfl v)))), (m0, .inr (4, [.int 0, .int (nI (vnC v)), .int (nI (vnP v)), .int (nI (vnK v)), .ref m1, .ref m2, .ref m3, .ref m4, .ref m5, .ref m6]))] := hD
          refine lv_aload_n hx hb dX4_light_74 rfl (lv_at hl 1 rfl) ?_
          refine va_get (D := D) (ci := 4) (v := .ref m4) (C := RX4) (T := TX4) (N := 10) hx hb ht inG_X4 hown hK hP 2 rfl rfl 7 (by decide) (ht _ qF_RX4_19) (fun _ h9 => h9) rfl dX4_light_75 ?_
          refine lv_iload_n hx hb dX4_light_78 rfl (lv_at hl 0 rfl) ?_
          refine lv_iconst (v := 1) hx hb dX4_light_79 (by decide) ?_
          refine lv_iadd hx hb dX4_light_80 ?_
          refine t_i (nI (4 * j_7 + 1)) (nI_1 (4 * j_7)) ?_
          refine lv_bipush (v := 60) hx hb dX4_light_81 (by decide) ?_
          refine lv_aload_n hx hb dX4_light_83 rfl (lv_at hl 1 rfl) ?_
          refine va_get (D := D) (ci := 4) (v := .ref m4) (C := RX4) (T := TX4) (N := 10) hx hb ht inG_X4 hown hK hP 2 rfl rfl 7 (by decide) (ht _ qF_RX4_19) (fun _ h9 => h9) rfl dX4_light_84 ?_
          refine lv_iload_n hx hb dX4_light_87 rfl (lv_at hl 0 rfl) ?_
          refine lv_iconst (v := 1) hx hb dX4_light_88 (by decide) ?_
          refine lv_iadd hx hb dX4_light_89 ?_
          refine t_i (nI (4 * j_7 + 1)) (nI_1 (4 * j_7)) ?_
          refine aI hx hb hK hP 1 0 rfl rfl (4 * j_7 + 1) (rfl) (by omega) (by decide) (v := (vco v) j_7) (hp4_1 _ _ _ _ j_7) dX4_light_90 ?_
          refine lv_iload_n hx hb dX4_light_91 rfl (lv_at hl 3 rfl) ?_
          refine lv_iadd hx hb dX4_light_92 ?_
          refine k_min F qM_RX4_49 hl.1 (Nat.le_of_ble_eq_true rfl) (Nat.le_of_ble_eq_true rfl) (Nat.le_of_ble_eq_true rfl) (Nat.le_of_ble_eq_true rfl) dX4_light_93 ?_
          refine sI_ hx hb hK hP hD hS 1 0 rfl rfl (4 * j_7 + 1) (rfl) (by omega) (by decide) (hp4 (vsh v) (upd (vco v) j_7 (mn 60 (((vco v) j_7) + y2))) (vbu v) (vfl v)) (hp4_u1 _ _ _ _ _ _) dX4_light_96 (fun H locs hP hD hS => ?_)
          have hP : va_P D vwCl [(m1, .inl (cI, 7, .inl (st7 (nI (vday v)) ((vcoal v) - y2) (vbar v) (vfine v) (vcrs v) (vcoin v) (vship v)))), (m4, .inl (cI, 16, .inl (hp4 (vsh v) (upd (vco v) j_7 (mn 60 (((vco v) j_7) + y2))) (vbu v) (vfl v)))), (m0, .inr (4, [.int 0, .int (nI (vnC v)), .int (nI (vnP v)), .int (nI (vnK v)), .ref m1, .ref m2, .ref m3, .ref m4, .ref m5, .ref m6]))] _ := hP
          have hD : va_D A [(m1, .inl (cI, 7, .inl (st7 (nI (vday v)) ((vcoal v) - y2) (vbar v) (vfine v) (vcrs v) (vcoin v) (vship v)))), (m4, .inl (cI, 16, .inl (hp4 (vsh v) (upd (vco v) j_7 (mn 60 (((vco v) j_7) + y2))) (vbu v) (vfl v)))), (m0, .inr (4, [.int 0, .int (nI (vnC v)), .int (nI (vnP v)), .int (nI (vnK v)), .ref m1, .ref m2, .ref m3, .ref m4, .ref m5, .ref m6]))] := hD
          refine lv_aload_n hx hb dX4_light_97 rfl (lv_at hl 1 rfl) ?_
          refine va_get (D := D) (ci := 4) (v := .ref m4) (C := RX4) (T := TX4) (N := 10) hx hb ht inG_X4 hown hK hP 2 rfl rfl 7 (by decide) (ht _ qF_RX4_19) (fun _ h9 => h9) rfl dX4_light_98 ?_
          refine lv_iload_n hx hb dX4_light_101 rfl (lv_at hl 0 rfl) ?_
          refine lv_iconst (v := 3) hx hb dX4_light_102 (by decide) ?_
          refine lv_iadd hx hb dX4_light_103 ?_
          refine t_i (nI (4 * j_7 + 3)) (nI_add (4 * j_7) 3) ?_
          refine lv_iconst (v := 1) hx hb dX4_light_104 (by decide) ?_
          refine sI_ hx hb hK hP hD hS 1 0 rfl rfl (4 * j_7 + 3) (rfl) (by omega) (by decide) (hp4 (vsh v) (upd (vco v) j_7 (mn 60 (((vco v) j_7) + y2))) (vbu v) (upd (vfl v) j_7 1)) (hp4_u3 _ _ _ _ _ _) dX4_light_105 (fun H locs hP hD hS => ?_)
          have hP : va_P D vwCl [(m1, .inl (cI, 7, .inl (st7 (nI (vday v)) ((vcoal v) - y2) (vbar v) (vfine v) (vcrs v) (vcoin v) (vship v)))), (m4, .inl (cI, 16, .inl (hp4 (vsh v) (upd (vco v) j_7 (mn 60 (((vco v) j_7) + y2))) (vbu v) (upd (vfl v) j_7 1)))), (m0, .inr (4, [.int 0, .int (nI (vnC v)), .int (nI (vnP v)), .int (nI (vnK v)), .ref m1, .ref m2, .ref m3, .ref m4, .ref m5, .ref m6]))] _ := hP
          have hD : va_D A [(m1, .inl (cI, 7, .inl (st7 (nI (vday v)) ((vcoal v) - y2) (vbar v) (vfine v) (vcrs v) (vcoin v) (vship v)))), (m4, .inl (cI, 16, .inl (hp4 (vsh v) (upd (vco v) j_7 (mn 60 (((vco v) j_7) + y2))) (vbu v) (upd (vfl v) j_7 1)))), (m0, .inr (4, [.int 0, .int (nI (vnC v)), .int (nI (vnP v)), .int (nI (vnK v)), .ref m1, .ref m2, .ref m3, .ref m4, .ref m5, .ref m6]))] := hD
          refine lv_aload_n hx hb dX4_light_106 rfl (lv_at hl 1 rfl) ?_
          refine va_get (D := D) (ci := 4) (v := .ref m4) (C := RX4) (T := TX4) (N := 10) hx hb ht inG_X4 hown hK hP 2 rfl rfl 7 (by decide) (ht _ qF_RX4_19) (fun _ h9 => h9) rfl dX4_light_107 ?_
          refine lv_iload_n hx hb dX4_light_110 rfl (lv_at hl 0 rfl) ?_
          refine lv_iconst (v := 1) hx hb dX4_light_111 (by decide) ?_
          refine lv_iadd hx hb dX4_light_112 ?_
          refine t_i (nI (4 * j_7 + 1)) (nI_1 (4 * j_7)) ?_
          refine aI hx hb hK hP 1 0 rfl rfl (4 * j_7 + 1) (rfl) (by omega) (by decide) (v := mn 60 (((vco v) j_7) + y2)) ((hp4_1 _ _ _ _ j_7).trans pk_us) dX4_light_113 ?_
          exact hend _ _ _ _ _ _ (mn 60 (((vco v) j_7) + y2)) (0, mkV (vsh v) (upd (vco v) j_7 (mn 60 (((vco v) j_7) + y2))) (vbu v) (upd (vfl v) j_7 1) (vnC v) (vpw v) (vpa v) (vpb v) (vnP v) (vkw v) (vka v) (vkb v) (vnK v) (vday v) ((vcoal v) - y2) (vbar v) (vfine v) (vcrs v) (vcoin v) (vship v) (vR v) (vS v)) dX4_light_114 (⟨by simp (decide := true) only [kLight, rLight, eq_true ht_7, ix_7, eq_true b_2, eq_false c_3, eq_true c_3n, eq_false c_4, if_true, if_false, eq_self], by simp (decide := true) only [kLight, eq_true ht_7, ix_7, eq_true b_2, eq_false c_3, eq_true c_3n, eq_false c_4, if_true, if_false, eq_self], by simp (decide := true) only [nLight, kLight, eq_true ht_7, ix_7, eq_true b_2, eq_false c_3, eq_true c_3n, eq_false c_4, if_true, if_false, eq_self]⟩) (hP.sub [2, 0, 1] rfl) (hD.sub [2, 0, 1] (by decide) rfl) hS rfl (Nat.le_of_ble_eq_true rfl) (Nat.le_of_ble_eq_true rfl)
        · skip
          refine lv_aload_n hx hb dX4_light_58 rfl (lv_at hl 1 rfl) ?_
          refine lv_iconst (v := 3) hx hb dX4_light_59 (by decide) ?_
          refine k_i (wr := [(m1, .inl (cI, 7, .inl (st7 (nI (vday v)) (vcoal v) (vbar v) (vfine v) (vcrs v) (vcoin v) (vship v)))), (m4, .inl (cI, 16, .inl (hp4 (vsh v) (vco v) (vbu v) (vfl v))))]) (rV (As := [.int 3]) (rest := []) F hG hK (hP.sub (ws' := [(m0, .inr (4, [.int 0, .int (nI (vnC v)), .int (nI (vnP v)), .int (nI (vnK v)), .ref m1, .ref m2, .ref m3, .ref m4, .ref m5, .ref m6]))]) [2] rfl) ((hD.sub (ws' := [(m0, .inr (4, [.int 0, .int (nI (vnC v)), .int (nI (vnP v)), .int (nI (vnK v)), .ref m1, .ref m2, .ref m3, .ref m4, .ref m5, .ref m6]))]) [2] (by decide) rfl).weaken (fun _ _ _ _ => trivial)) s_RX4_45 (c_X4_fail l D cI cZ cJ m0 m1 m2 m3 m4 m5 m6 (vnC v) (vnP v) (vnK v) 0 3 _) 4 0 rfl rfl rfl rfl hl.1 rfl (Nat.le_of_ble_eq_true rfl) dX4_light_60 ⟨(Nat.le_of_ble_eq_true rfl), (Nat.le_of_ble_eq_true rfl)⟩ ⟨(Nat.le_of_ble_eq_true rfl), (Nat.le_of_ble_eq_true rfl)⟩) hP hD hS hA [2] [0, 1] rfl rfl (by decide) (by decide) (fun r_60 uu H locs hw hP hD hS => ?_)
          try dsimp only at hw
          subst hw
          have hP : va_P D vwCl [(m1, .inl (cI, 7, .inl (st7 (nI (vday v)) (vcoal v) (vbar v) (vfine v) (vcrs v) (vcoin v) (vship v)))), (m4, .inl (cI, 16, .inl (hp4 (vsh v) (vco v) (vbu v) (vfl v)))), (m0, .inr (4, [.int 3, .int (nI (vnC v)), .int (nI (vnP v)), .int (nI (vnK v)), .ref m1, .ref m2, .ref m3, .ref m4, .ref m5, .ref m6]))] _ := hP
          have hD : va_D A [(m1, .inl (cI, 7, .inl (st7 (nI (vday v)) (vcoal v) (vbar v) (vfine v) (vcrs v) (vcoin v) (vship v)))), (m4, .inl (cI, 16, .inl (hp4 (vsh v) (vco v) (vbu v) (vfl v)))), (m0, .inr (4, [.int 3, .int (nI (vnC v)), .int (nI (vnP v)), .int (nI (vnK v)), .ref m1, .ref m2, .ref m3, .ref m4, .ref m5, .ref m6]))] := hD
          exact hend _ _ _ _ _ _ 0 (3, mkV (vsh v) (vco v) (vbu v) (vfl v) (vnC v) (vpw v) (vpa v) (vpb v) (vnP v) (vkw v) (vka v) (vkb v) (vnK v) (vday v) (vcoal v) (vbar v) (vfine v) (vcrs v) (vcoin v) (vship v) (vR v) (vS v)) dX4_light_63 (⟨by simp (decide := true) only [kLight, rLight, eq_true ht_7, ix_7, eq_true b_2, eq_false c_3, eq_true c_3n, eq_true c_4, if_true, if_false, eq_self], by simp (decide := true) only [kLight, eq_true ht_7, ix_7, eq_true b_2, eq_false c_3, eq_true c_3n, eq_true c_4, if_true, if_false, eq_self], Eq.symm (show nLight v (nI j_7) y2 = v by simp (decide := true) only [nLight, kLight, eq_true ht_7, ix_7, eq_true b_2, eq_false c_3, eq_true c_3n, eq_true c_4, if_true, if_false, eq_self])⟩) (hP.sub [2, 0, 1] rfl) (hD.sub [2, 0, 1] (by decide) rfl) hS rfl (Nat.le_of_ble_eq_true rfl) (Nat.le_of_ble_eq_true rfl)
    · skip
      refine lv_if_ne (tgt := 35) hx hb dX4_light_26 (by decide) (fun h => absurd (by decide) h) (fun _ => ?_)
      refine lv_aload_n hx hb dX4_light_29 rfl (lv_at hl 0 rfl) ?_
      refine lv_iconst (v := 2) hx hb dX4_light_30 (by decide) ?_
      refine k_i (wr := [(m1, .inl (cI, 7, .inl (st7 (nI (vday v)) (vcoal v) (vbar v) (vfine v) (vcrs v) (vcoin v) (vship v)))), (m4, .inl (cI, 16, .inl (hp4 (vsh v) (vco v) (vbu v) (vfl v))))]) (rV (As := [.int 2]) (rest := []) F hG hK (hP.sub (ws' := [(m0, .inr (4, [.int 0, .int (nI (vnC v)), .int (nI (vnP v)), .int (nI (vnK v)), .ref m1, .ref m2, .ref m3, .ref m4, .ref m5, .ref m6]))]) [2] rfl) ((hD.sub (ws' := [(m0, .inr (4, [.int 0, .int (nI (vnC v)), .int (nI (vnP v)), .int (nI (vnK v)), .ref m1, .ref m2, .ref m3, .ref m4, .ref m5, .ref m6]))]) [2] (by decide) rfl).weaken (fun _ _ _ _ => trivial)) s_RX4_45 (c_X4_fail l D cI cZ cJ m0 m1 m2 m3 m4 m5 m6 (vnC v) (vnP v) (vnK v) 0 2 _) 4 0 rfl rfl rfl rfl hl.1 rfl (Nat.le_of_ble_eq_true rfl) dX4_light_31 ⟨(Nat.le_of_ble_eq_true rfl), (Nat.le_of_ble_eq_true rfl)⟩ ⟨(Nat.le_of_ble_eq_true rfl), (Nat.le_of_ble_eq_true rfl)⟩) hP hD hS hA [2] [0, 1] rfl rfl (by decide) (by decide) (fun r_31 uu H locs hw hP hD hS => ?_)
      try dsimp only at hw
      subst hw
      have hP : va_P D vwCl [(m1, .inl (cI, 7, .inl (st7 (nI (vday v)) (vcoal v) (vbar v) (vfine v) (vcrs v) (vcoin v) (vship v)))), (m4, .inl (cI, 16, .inl (hp4 (vsh v) (vco v) (vbu v) (vfl v)))), (m0, .inr (4, [.int 2, .int (nI (vnC v)), .int (nI (vnP v)), .int (nI (vnK v)), .ref m1, .ref m2, .ref m3, .ref m4, .ref m5, .ref m6]))] _ := hP
      have hD : va_D A [(m1, .inl (cI, 7, .inl (st7 (nI (vday v)) (vcoal v) (vbar v) (vfine v) (vcrs v) (vcoin v) (vship v)))), (m4, .inl (cI, 16, .inl (hp4 (vsh v) (vco v) (vbu v) (vfl v)))), (m0, .inr (4, [.int 2, .int (nI (vnC v)), .int (nI (vnP v)), .int (nI (vnK v)), .ref m1, .ref m2, .ref m3, .ref m4, .ref m5, .ref m6]))] := hD
      exact hend _ _ _ _ _ _ 0 (2, mkV (vsh v) (vco v) (vbu v) (vfl v) (vnC v) (vpw v) (vpa v) (vpb v) (vnP v) (vkw v) (vka v) (vkb v) (vnK v) (vday v) (vcoal v) (vbar v) (vfine v) (vcrs v) (vcoin v) (vship v) (vR v) (vS v)) dX4_light_34 (⟨by simp (decide := true) only [kLight, rLight, eq_true ht_7, ix_7, eq_false b_2, if_true, if_false, eq_self], by simp (decide := true) only [kLight, eq_true ht_7, ix_7, eq_false b_2, if_true, if_false, eq_self], Eq.symm (show nLight v (nI j_7) y2 = v by simp (decide := true) only [nLight, kLight, eq_true ht_7, ix_7, eq_false b_2, if_true, if_false, eq_self])⟩) (hP.sub [2, 0, 1] rfl) (hD.sub [2, 0, 1] (by decide) rfl) hS rfl (Nat.le_of_ble_eq_true rfl) (Nat.le_of_ble_eq_true rfl)
  · skip
    refine lv_if_ne (tgt := 19) hx hb dX4_light_10 (by decide) (fun h => absurd (by decide) h) (fun _ => ?_)
    refine lv_aload_n hx hb dX4_light_13 rfl (lv_at hl 0 rfl) ?_
    refine lv_iconst (v := 1) hx hb dX4_light_14 (by decide) ?_
    refine k_i (wr := [(m1, .inl (cI, 7, .inl (st7 (nI (vday v)) (vcoal v) (vbar v) (vfine v) (vcrs v) (vcoin v) (vship v)))), (m4, .inl (cI, 16, .inl (hp4 (vsh v) (vco v) (vbu v) (vfl v))))]) (rV (As := [.int 1]) (rest := []) F hG hK (hP.sub (ws' := [(m0, .inr (4, [.int 0, .int (nI (vnC v)), .int (nI (vnP v)), .int (nI (vnK v)), .ref m1, .ref m2, .ref m3, .ref m4, .ref m5, .ref m6]))]) [2] rfl) ((hD.sub (ws' := [(m0, .inr (4, [.int 0, .int (nI (vnC v)), .int (nI (vnP v)), .int (nI (vnK v)), .ref m1, .ref m2, .ref m3, .ref m4, .ref m5, .ref m6]))]) [2] (by decide) rfl).weaken (fun _ _ _ _ => trivial)) s_RX4_45 (c_X4_fail l D cI cZ cJ m0 m1 m2 m3 m4 m5 m6 (vnC v) (vnP v) (vnK v) 0 1 _) 4 0 rfl rfl rfl rfl hl.1 rfl (Nat.le_of_ble_eq_true rfl) dX4_light_15 ⟨(Nat.le_of_ble_eq_true rfl), (Nat.le_of_ble_eq_true rfl)⟩ ⟨(Nat.le_of_ble_eq_true rfl), (Nat.le_of_ble_eq_true rfl)⟩) hP hD hS hA [2] [0, 1] rfl rfl (by decide) (by decide) (fun r_15 uu H locs hw hP hD hS => ?_)
    try dsimp only at hw
    subst hw
    have hP : va_P D vwCl [(m1, .inl (cI, 7, .inl (st7 (nI (vday v)) (vcoal v) (vbar v) (vfine v) (vcrs v) (vcoin v) (vship v)))), (m4, .inl (cI, 16, .inl (hp4 (vsh v) (vco v) (vbu v) (vfl v)))), (m0, .inr (4, [.int 1, .int (nI (vnC v)), .int (nI (vnP v)), .int (nI (vnK v)), .ref m1, .ref m2, .ref m3, .ref m4, .ref m5, .ref m6]))] _ := hP
    have hD : va_D A [(m1, .inl (cI, 7, .inl (st7 (nI (vday v)) (vcoal v) (vbar v) (vfine v) (vcrs v) (vcoin v) (vship v)))), (m4, .inl (cI, 16, .inl (hp4 (vsh v) (vco v) (vbu v) (vfl v)))), (m0, .inr (4, [.int 1, .int (nI (vnC v)), .int (nI (vnP v)), .int (nI (vnK v)), .ref m1, .ref m2, .ref m3, .ref m4, .ref m5, .ref m6]))] := hD
    exact hend _ _ _ _ _ _ 0 (1, mkV (vsh v) (vco v) (vbu v) (vfl v) (vnC v) (vpw v) (vpa v) (vpb v) (vnP v) (vkw v) (vka v) (vkb v) (vnK v) (vday v) (vcoal v) (vbar v) (vfine v) (vcrs v) (vcoin v) (vship v) (vR v) (vS v)) dX4_light_18 (⟨by simp (decide := true) only [kLight, rLight, eq_false b_1, if_true, if_false, eq_self], by simp (decide := true) only [kLight, eq_false b_1, if_true, if_false, eq_self], Eq.symm (show nLight v y1 y2 = v by simp (decide := true) only [nLight, kLight, eq_false b_1, if_true, if_false, eq_self])⟩) (hP.sub [2, 0, 1] rfl) (hD.sub [2, 0, 1] (by decide) rfl) hS rfl (Nat.le_of_ble_eq_true rfl) (Nat.le_of_ble_eq_true rfl)

def rm_X4_dig : Room := { frames := 1, cells := 0, slots := 0, locals := 22 }
set_option maxHeartbeats 4000000 in
set_option maxRecDepth 100000 in
theorem c_X4_dig (l : Launch) (D : va_G) (cI cZ cJ : ClassId) (m0 m1 m2 m3 m4 m5 m6 : Nat) (th : Int32) (v : VT) (y1 : Int32) (hI : IS v) : Mi l yX4_dig cX4_dig 2 (some .int) rm_X4_dig D (TY cI cZ cJ) [.ref m0, .int y1] [(m0, .inr (4, [.int th, .int (nI (vnC v)), .int (nI (vnP v)), .int (nI (vnK v)), .ref m1, .ref m2, .ref m3, .ref m4, .ref m5, .ref m6])), (m5, .inl (cI, 8, .inl (ho2 (vpw v) (vpa v))))] (fun (r : Int32) (u : Int32 × VT) => r = (if kDig v y1 = 0 then rDig v y1 else 0) ∧ u.1 = kDig v y1 ∧ u.2 = nDig v y1) (fun (u : Int32 × VT) => [(m0, .inr (4, [.int u.1, .int (nI (vnC u.2)), .int (nI (vnP u.2)), .int (nI (vnK u.2)), .ref m1, .ref m2, .ref m3, .ref m4, .ref m5, .ref m6])), (m5, .inl (cI, 8, .inl (ho2 (vpw u.2) (vpa u.2))))]) := by
  refine Mi.ofQ (by decide) (Nat.le_of_ble_eq_true rfl) ?_
  intro p e s m args below meth c A ls Q hF hK hP hD hA hl hend
  obtain ⟨F, hr, hlocks, hG⟩ := hF
  have hx := F.1
  have hb := F.2.1
  have hown := F.2.2.2.1
  have ht := F.2.2.2.2
  have hS : va_S A s.heap s.heap [] := va_S.rf
  have hl : lv_has ls 2 [(0, .ref m0), (1, .int y1)] := hl
  obtain ⟨hC4, hP4, hK3, hAH, hf1, hf2, hf3, hdy⟩ := hI
  refine lv_aload_n hx hb dX4_dig_0 rfl (lv_at hl 0 rfl) ?_
  refine lv_iconst (v := 0) hx hb dX4_dig_1 (by decide) ?_
  refine va_put (D := D) (ci := 4) (v := .int 0) (C := RX4) (T := TX4) (N := 10) hx hb ht inG_X4 tyX4 tyX4_ok nmX4 hown hK hP hD hS 0 rfl rfl 0 (by decide) (ht _ qF_RX4_28) (fun _ h9 => h9) rfl (tyX4_ok 0 (by decide)) rfl rfl (Nat.le_of_ble_eq_true rfl) dX4_dig_2 (fun H locs hP hD hS => ?_)
  have hP : va_P D vwCl [(m0, .inr (4, [.int 0, .int (nI (vnC v)), .int (nI (vnP v)), .int (nI (vnK v)), .ref m1, .ref m2, .ref m3, .ref m4, .ref m5, .ref m6])), (m5, .inl (cI, 8, .inl (ho2 (vpw v) (vpa v))))] _ := hP
  have hD : va_D A [(m0, .inr (4, [.int 0, .int (nI (vnC v)), .int (nI (vnP v)), .int (nI (vnK v)), .ref m1, .ref m2, .ref m3, .ref m4, .ref m5, .ref m6])), (m5, .inl (cI, 8, .inl (ho2 (vpw v) (vpa v))))] := hD
  refine lv_iload_n hx hb dX4_dig_5 rfl (lv_at hl 1 rfl) ?_
  refine lv_iconst (v := 0) hx hb dX4_dig_6 (by decide) ?_
  refine lv_sipush (v := 400) hx hb dX4_dig_7 (by decide) ?_
  refine k_i (wr := [(m0, .inr (4, [.int 0, .int (nI (vnC v)), .int (nI (vnP v)), .int (nI (vnK v)), .ref m1, .ref m2, .ref m3, .ref m4, .ref m5, .ref m6])), (m5, .inl (cI, 8, .inl (ho2 (vpw v) (vpa v))))]) (rS (As := [.int y1, .int 0, .int 400]) (rest := []) F hG hK (hP.sub (ws' := []) [] rfl) ((hD.sub (ws' := []) [] (by decide) rfl).weaken (fun _ _ _ _ => trivial)) s_RX4_35 (c_X4_isIn l D cI cZ cJ y1 0 400 _) rfl hl.1 rfl (Nat.le_of_ble_eq_true rfl) dX4_dig_10 ⟨(Nat.le_of_ble_eq_true rfl), (Nat.le_of_ble_eq_true rfl)⟩ ⟨(Nat.le_of_ble_eq_true rfl), (Nat.le_of_ble_eq_true rfl)⟩) hP hD hS hA [] [0, 1] rfl rfl (by decide) (by decide) (fun r_10 uu H locs hw hP hD hS => ?_)
  try dsimp only at hw
  have hP : va_P D vwCl [(m0, .inr (4, [.int 0, .int (nI (vnC v)), .int (nI (vnP v)), .int (nI (vnK v)), .ref m1, .ref m2, .ref m3, .ref m4, .ref m5, .ref m6])), (m5, .inl (cI, 8, .inl (ho2 (vpw v) (vpa v))))] _ := hP
  have hD : va_D A [(m0, .inr (4, [.int 0, .int (nI (vnC v)), .int (nI (vnP v)), .int (nI (vnK v)), .ref m1, .ref m2, .ref m3, .ref m4, .ref m5, .ref m6])), (m5, .inl (cI, 8, .inl (ho2 (vpw v) (vpa v))))] := hD
  rcases hw with ⟨rfl, b_1⟩ | ⟨rfl, b_1⟩
  · skip
    refine lv_if_ne (tgt := 22) hx hb dX4_dig_13 (by decide) (fun _ => ?_) (fun h => absurd h (by decide))
    refine lv_aload_n hx hb dX4_dig_22 rfl (lv_at hl 0 rfl) ?_
    refine va_get (D := D) (ci := 4) (v := .int (nI (vnP v))) (C := RX4) (T := TX4) (N := 10) hx hb ht inG_X4 hown hK hP 0 rfl rfl 2 (by decide) (ht _ qF_RX4_39) (fun _ h9 => h9) rfl dX4_dig_23 ?_
    refine lv_iconst (v := 4) hx hb dX4_dig_26 (by decide) ?_
    refine lv_icmp_ne (tgt := 36) hx hb dX4_dig_27 (by decide) (fun c_2 => ?_) (fun c_2 => ?_)
    · skip
      have c_2q := ne4_lt (m := 4) (by omega) c_2
      refine lv_aload_n hx hb dX4_dig_36 rfl (lv_at hl 0 rfl) ?_
      refine va_get (D := D) (ci := 4) (v := .ref m5) (C := RX4) (T := TX4) (N := 10) hx hb ht inG_X4 hown hK hP 0 rfl rfl 8 (by decide) (ht _ qF_RX4_22) (fun _ h9 => h9) rfl dX4_dig_37 ?_
      refine lv_iconst (v := 2) hx hb dX4_dig_40 (by decide) ?_
      refine lv_aload_n hx hb dX4_dig_41 rfl (lv_at hl 0 rfl) ?_
      refine va_get (D := D) (ci := 4) (v := .int (nI (vnP v))) (C := RX4) (T := TX4) (N := 10) hx hb ht inG_X4 hown hK hP 0 rfl rfl 2 (by decide) (ht _ qF_RX4_39) (fun _ h9 => h9) rfl dX4_dig_42 ?_
      refine lv_imul hx hb dX4_dig_45 ?_
      refine t_i (nI (2 * (vnP v))) (pk_mul 2 (vnP v)) ?_
      refine lv_iload_n hx hb dX4_dig_46 rfl (lv_at hl 1 rfl) ?_
      refine sI_ hx hb hK hP hD hS 1 0 rfl rfl (2 * (vnP v)) (rfl) (by omega) (by decide) (ho2 (upd (vpw v) (vnP v) y1) (vpa v)) (ho2_u0 _ _ _ _) dX4_dig_47 (fun H locs hP hD hS => ?_)
      have hP : va_P D vwCl [(m0, .inr (4, [.int 0, .int (nI (vnC v)), .int (nI (vnP v)), .int (nI (vnK v)), .ref m1, .ref m2, .ref m3, .ref m4, .ref m5, .ref m6])), (m5, .inl (cI, 8, .inl (ho2 (upd (vpw v) (vnP v) y1) (vpa v))))] _ := hP
      have hD : va_D A [(m0, .inr (4, [.int 0, .int (nI (vnC v)), .int (nI (vnP v)), .int (nI (vnK v)), .ref m1, .ref m2, .ref m3, .ref m4, .ref m5, .ref m6])), (m5, .inl (cI, 8, .inl (ho2 (upd (vpw v) (vnP v) y1) (vpa v))))] := hD
      refine lv_aload_n hx hb dX4_dig_48 rfl (lv_at hl 0 rfl) ?_
      refine lv_dup hx hb dX4_dig_49 rfl ?_
      refine va_get (D := D) (ci := 4) (v := .int (nI (vnP v))) (C := RX4) (T := TX4) (N := 10) hx hb ht inG_X4 hown hK hP 0 rfl rfl 2 (by decide) (ht _ qF_RX4_39) (fun _ h9 => h9) rfl dX4_dig_50 ?_
      refine lv_iconst (v := 1) hx hb dX4_dig_53 (by decide) ?_
      refine lv_iadd hx hb dX4_dig_54 ?_
      refine t_i (nI (vnP v + 1)) (nI_1 (vnP v)) ?_
      refine va_put (D := D) (ci := 4) (v := .int (nI (vnP v + 1))) (C := RX4) (T := TX4) (N := 10) hx hb ht inG_X4 tyX4 tyX4_ok nmX4 hown hK hP hD hS 0 rfl rfl 2 (by decide) (ht _ qF_RX4_39) (fun _ h9 => h9) rfl (tyX4_ok 2 (by decide)) rfl rfl (Nat.le_of_ble_eq_true rfl) dX4_dig_55 (fun H locs hP hD hS => ?_)
      have hP : va_P D vwCl [(m0, .inr (4, [.int 0, .int (nI (vnC v)), .int (nI (vnP v + 1)), .int (nI (vnK v)), .ref m1, .ref m2, .ref m3, .ref m4, .ref m5, .ref m6])), (m5, .inl (cI, 8, .inl (ho2 (upd (vpw v) (vnP v) y1) (vpa v))))] _ := hP
      have hD : va_D A [(m0, .inr (4, [.int 0, .int (nI (vnC v)), .int (nI (vnP v + 1)), .int (nI (vnK v)), .ref m1, .ref m2, .ref m3, .ref m4, .ref m5, .ref m6])), (m5, .inl (cI, 8, .inl (ho2 (upd (vpw v) (vnP v) y1) (vpa v))))] := hD
      refine lv_aload_n hx hb dX4_dig_58 rfl (lv_at hl 0 rfl) ?_
      refine va_get (D := D) (ci := 4) (v := .int (nI (vnP v + 1))) (C := RX4) (T := TX4) (N := 10) hx hb ht inG_X4 hown hK hP 0 rfl rfl 2 (by decide) (ht _ qF_RX4_39) (fun _ h9 => h9) rfl dX4_dig_59 ?_
      refine lv_iconst (v := 1) hx hb dX4_dig_62 (by decide) ?_
      refine lv_isub hx hb dX4_dig_63 ?_
      refine t_i (nI (vnP v)) (nI_pred _) ?_
      exact hend _ _ _ _ _ _ (nI (vnP v)) (0, mkV (vsh v) (vco v) (vbu v) (vfl v) (vnC v) (upd (vpw v) (vnP v) y1) (vpa v) (vpb v) (vnP v + 1) (vkw v) (vka v) (vkb v) (vnK v) (vday v) (vcoal v) (vbar v) (vfine v) (vcrs v) (vcoin v) (vship v) (vR v) (vS v)) dX4_dig_64 (⟨by simp (decide := true) only [kDig, rDig, eq_true b_1, eq_false c_2, eq_false c_2q, if_true, if_false, eq_self], by simp (decide := true) only [kDig, eq_true b_1, eq_false c_2, eq_false c_2q, if_true, if_false, eq_self], by simp (decide := true) only [nDig, kDig, eq_true b_1, eq_false c_2, eq_false c_2q, if_true, if_false, eq_self]⟩) hP hD hS rfl (Nat.le_of_ble_eq_true rfl) (Nat.le_of_ble_eq_true rfl)
    · skip
      have c_2m := (nI_eq (a := vnP v) (b := 4) (by omega) (by omega)).mp c_2
      have c_2q := eq4_le (m := 4) (by omega) (by omega) c_2
      refine lv_aload_n hx hb dX4_dig_30 rfl (lv_at hl 0 rfl) ?_
      refine lv_iconst (v := 2) hx hb dX4_dig_31 (by decide) ?_
      refine k_i (wr := [(m5, .inl (cI, 8, .inl (ho2 (vpw v) (vpa v))))]) (rV (As := [.int 2]) (rest := []) F hG hK (hP.sub (ws' := [(m0, .inr (4, [.int 0, .int (nI (vnC v)), .int (nI (vnP v)), .int (nI (vnK v)), .ref m1, .ref m2, .ref m3, .ref m4, .ref m5, .ref m6]))]) [0] rfl) ((hD.sub (ws' := [(m0, .inr (4, [.int 0, .int (nI (vnC v)), .int (nI (vnP v)), .int (nI (vnK v)), .ref m1, .ref m2, .ref m3, .ref m4, .ref m5, .ref m6]))]) [0] (by decide) rfl).weaken (fun _ _ _ _ => trivial)) s_RX4_45 (c_X4_fail l D cI cZ cJ m0 m1 m2 m3 m4 m5 m6 (vnC v) (vnP v) (vnK v) 0 2 _) 4 0 rfl rfl rfl rfl hl.1 rfl (Nat.le_of_ble_eq_true rfl) dX4_dig_32 ⟨(Nat.le_of_ble_eq_true rfl), (Nat.le_of_ble_eq_true rfl)⟩ ⟨(Nat.le_of_ble_eq_true rfl), (Nat.le_of_ble_eq_true rfl)⟩) hP hD hS hA [0] [1] rfl rfl (by decide) (by decide) (fun r_32 uu H locs hw hP hD hS => ?_)
      try dsimp only at hw
      subst hw
      have hP : va_P D vwCl [(m5, .inl (cI, 8, .inl (ho2 (vpw v) (vpa v)))), (m0, .inr (4, [.int 2, .int (nI (vnC v)), .int (nI (vnP v)), .int (nI (vnK v)), .ref m1, .ref m2, .ref m3, .ref m4, .ref m5, .ref m6]))] _ := hP
      have hD : va_D A [(m5, .inl (cI, 8, .inl (ho2 (vpw v) (vpa v)))), (m0, .inr (4, [.int 2, .int (nI (vnC v)), .int (nI (vnP v)), .int (nI (vnK v)), .ref m1, .ref m2, .ref m3, .ref m4, .ref m5, .ref m6]))] := hD
      exact hend _ _ _ _ _ _ 0 (2, mkV (vsh v) (vco v) (vbu v) (vfl v) (vnC v) (vpw v) (vpa v) (vpb v) (vnP v) (vkw v) (vka v) (vkb v) (vnK v) (vday v) (vcoal v) (vbar v) (vfine v) (vcrs v) (vcoin v) (vship v) (vR v) (vS v)) dX4_dig_35 (⟨by simp (decide := true) only [kDig, rDig, eq_true b_1, eq_true c_2, eq_true c_2q, if_true, if_false, eq_self], by simp (decide := true) only [kDig, eq_true b_1, eq_true c_2, eq_true c_2q, if_true, if_false, eq_self], Eq.symm (show nDig v y1 = v by simp (decide := true) only [nDig, kDig, eq_true b_1, eq_true c_2, eq_true c_2q, if_true, if_false, eq_self])⟩) (hP.sub [1, 0] rfl) (hD.sub [1, 0] (by decide) rfl) hS rfl (Nat.le_of_ble_eq_true rfl) (Nat.le_of_ble_eq_true rfl)
  · skip
    refine lv_if_ne (tgt := 22) hx hb dX4_dig_13 (by decide) (fun h => absurd (by decide) h) (fun _ => ?_)
    refine lv_aload_n hx hb dX4_dig_16 rfl (lv_at hl 0 rfl) ?_
    refine lv_iconst (v := 1) hx hb dX4_dig_17 (by decide) ?_
    refine k_i (wr := [(m5, .inl (cI, 8, .inl (ho2 (vpw v) (vpa v))))]) (rV (As := [.int 1]) (rest := []) F hG hK (hP.sub (ws' := [(m0, .inr (4, [.int 0, .int (nI (vnC v)), .int (nI (vnP v)), .int (nI (vnK v)), .ref m1, .ref m2, .ref m3, .ref m4, .ref m5, .ref m6]))]) [0] rfl) ((hD.sub (ws' := [(m0, .inr (4, [.int 0, .int (nI (vnC v)), .int (nI (vnP v)), .int (nI (vnK v)), .ref m1, .ref m2, .ref m3, .ref m4, .ref m5, .ref m6]))]) [0] (by decide) rfl).weaken (fun _ _ _ _ => trivial)) s_RX4_45 (c_X4_fail l D cI cZ cJ m0 m1 m2 m3 m4 m5 m6 (vnC v) (vnP v) (vnK v) 0 1 _) 4 0 rfl rfl rfl rfl hl.1 rfl (Nat.le_of_ble_eq_true rfl) dX4_dig_18 ⟨(Nat.le_of_ble_eq_true rfl), (Nat.le_of_ble_eq_true rfl)⟩ ⟨(Nat.le_of_ble_eq_true rfl), (Nat.le_of_ble_eq_true rfl)⟩) hP hD hS hA [0] [1] rfl rfl (by decide) (by decide) (fun r_18 uu H locs hw hP hD hS => ?_)
    try dsimp only at hw
    subst hw
    have hP : va_P D vwCl [(m5, .inl (cI, 8, .inl (ho2 (vpw v) (vpa v)))), (m0, .inr (4, [.int 1, .int (nI (vnC v)), .int (nI (vnP v)), .int (nI (vnK v)), .ref m1, .ref m2, .ref m3, .ref m4, .ref m5, .ref m6]))] _ := hP
    have hD : va_D A [(m5, .inl (cI, 8, .inl (ho2 (vpw v) (vpa v)))), (m0, .inr (4, [.int 1, .int (nI (vnC v)), .int (nI (vnP v)), .int (nI (vnK v)), .ref m1, .ref m2, .ref m3, .ref m4, .ref m5, .ref m6]))] := hD
    exact hend _ _ _ _ _ _ 0 (1, mkV (vsh v) (vco v) (vbu v) (vfl v) (vnC v) (vpw v) (vpa v) (vpb v) (vnP v) (vkw v) (vka v) (vkb v) (vnK v) (vday v) (vcoal v) (vbar v) (vfine v) (vcrs v) (vcoin v) (vship v) (vR v) (vS v)) dX4_dig_21 (⟨by simp (decide := true) only [kDig, rDig, eq_false b_1, if_true, if_false, eq_self], by simp (decide := true) only [kDig, eq_false b_1, if_true, if_false, eq_self], Eq.symm (show nDig v y1 = v by simp (decide := true) only [nDig, kDig, eq_false b_1, if_true, if_false, eq_self])⟩) (hP.sub [1, 0] rfl) (hD.sub [1, 0] (by decide) rfl) hS rfl (Nat.le_of_ble_eq_true rfl) (Nat.le_of_ble_eq_true rfl)

def rm_X4_steep : Room := { frames := 2, cells := 0, slots := 0, locals := 43 }
set_option maxHeartbeats 4000000 in
set_option maxRecDepth 100000 in
theorem c_X4_steep (l : Launch) (D : va_G) (cI cZ cJ : ClassId) (m0 m1 m2 m3 m4 m5 m6 : Nat) (th : Int32) (v : VT) (y1 y2 : Int32) (hI : IS v) : Mi l yX4_steep cX4_steep 5 (some .int) rm_X4_steep D (TY cI cZ cJ) [.ref m0, .int y1, .int y2] [(m0, .inr (4, [.int th, .int (nI (vnC v)), .int (nI (vnP v)), .int (nI (vnK v)), .ref m1, .ref m2, .ref m3, .ref m4, .ref m5, .ref m6])), (m4, .inl (cI, 16, .inl (hp4 (vsh v) (vco v) (vbu v) (vfl v)))), (m5, .inl (cI, 8, .inl (ho2 (vpw v) (vpa v))))] (fun (r : Int32) (u : Int32 × VT) => r = (if kSteep v y1 y2 = 0 then rSteep v y1 y2 else 0) ∧ u.1 = kSteep v y1 y2 ∧ u.2 = nSteep v y1 y2) (fun (u : Int32 × VT) => [(m0, .inr (4, [.int u.1, .int (nI (vnC u.2)), .int (nI (vnP u.2)), .int (nI (vnK u.2)), .ref m1, .ref m2, .ref m3, .ref m4, .ref m5, .ref m6])), (m4, .inl (cI, 16, .inl (hp4 (vsh u.2) (vco u.2) (vbu u.2) (vfl u.2)))), (m5, .inl (cI, 8, .inl (ho2 (vpw u.2) (vpa u.2))))]) := by
  refine Mi.ofQ (by decide) (Nat.le_of_ble_eq_true rfl) ?_
  intro p e s m args below meth c A ls Q hF hK hP hD hA hl hend
  obtain ⟨F, hr, hlocks, hG⟩ := hF
  have hx := F.1
  have hb := F.2.1
  have hown := F.2.2.2.1
  have ht := F.2.2.2.2
  have hS : va_S A s.heap s.heap [] := va_S.rf
  have hl : lv_has ls 5 [(0, .ref m0), (1, .int y1), (2, .int y2)] := hl
  obtain ⟨hC4, hP4, hK3, hAH, hf1, hf2, hf3, hdy⟩ := hI
  refine lv_aload_n hx hb dX4_steep_0 rfl (lv_at hl 0 rfl) ?_
  refine lv_iconst (v := 0) hx hb dX4_steep_1 (by decide) ?_
  refine va_put (D := D) (ci := 4) (v := .int 0) (C := RX4) (T := TX4) (N := 10) hx hb ht inG_X4 tyX4 tyX4_ok nmX4 hown hK hP hD hS 0 rfl rfl 0 (by decide) (ht _ qF_RX4_28) (fun _ h9 => h9) rfl (tyX4_ok 0 (by decide)) rfl rfl (Nat.le_of_ble_eq_true rfl) dX4_steep_2 (fun H locs hP hD hS => ?_)
  have hP : va_P D vwCl [(m0, .inr (4, [.int 0, .int (nI (vnC v)), .int (nI (vnP v)), .int (nI (vnK v)), .ref m1, .ref m2, .ref m3, .ref m4, .ref m5, .ref m6])), (m4, .inl (cI, 16, .inl (hp4 (vsh v) (vco v) (vbu v) (vfl v)))), (m5, .inl (cI, 8, .inl (ho2 (vpw v) (vpa v))))] _ := hP
  have hD : va_D A [(m0, .inr (4, [.int 0, .int (nI (vnC v)), .int (nI (vnP v)), .int (nI (vnK v)), .ref m1, .ref m2, .ref m3, .ref m4, .ref m5, .ref m6])), (m4, .inl (cI, 16, .inl (hp4 (vsh v) (vco v) (vbu v) (vfl v)))), (m5, .inl (cI, 8, .inl (ho2 (vpw v) (vpa v))))] := hD
  refine lv_aload_n hx hb dX4_steep_5 rfl (lv_at hl 0 rfl) ?_
  refine lv_iload_n hx hb dX4_steep_6 rfl (lv_at hl 1 rfl) ?_
  refine k_i (wr := [(m4, .inl (cI, 16, .inl (hp4 (vsh v) (vco v) (vbu v) (vfl v)))), (m5, .inl (cI, 8, .inl (ho2 (vpw v) (vpa v))))]) (rV (As := [.int y1]) (rest := []) F hG hK (hP.sub (ws' := [(m0, .inr (4, [.int 0, .int (nI (vnC v)), .int (nI (vnP v)), .int (nI (vnK v)), .ref m1, .ref m2, .ref m3, .ref m4, .ref m5, .ref m6]))]) [0] rfl) ((hD.sub (ws' := [(m0, .inr (4, [.int 0, .int (nI (vnC v)), .int (nI (vnP v)), .int (nI (vnK v)), .ref m1, .ref m2, .ref m3, .ref m4, .ref m5, .ref m6]))]) [0] (by decide) rfl).weaken (fun _ _ _ _ => trivial)) s_RX4_55 (c_X4_isClamp l D cI cZ cJ m0 m1 m2 m3 m4 m5 m6 (vnP v) (vnK v) (vnC v) 0 y1 (by first | assumption | omega) _) 4 0 rfl rfl rfl rfl hl.1 rfl (Nat.le_of_ble_eq_true rfl) dX4_steep_7 ⟨(Nat.le_of_ble_eq_true rfl), (Nat.le_of_ble_eq_true rfl)⟩ ⟨(Nat.le_of_ble_eq_true rfl), (Nat.le_of_ble_eq_true rfl)⟩) hP hD hS hA [0] [1, 2] rfl rfl (by decide) (by decide) (fun r_7 uu H locs hw hP hD hS => ?_)
  try dsimp only at hw
  have hP : va_P D vwCl [(m4, .inl (cI, 16, .inl (hp4 (vsh v) (vco v) (vbu v) (vfl v)))), (m5, .inl (cI, 8, .inl (ho2 (vpw v) (vpa v)))), (m0, .inr (4, [.int 0, .int (nI (vnC v)), .int (nI (vnP v)), .int (nI (vnK v)), .ref m1, .ref m2, .ref m3, .ref m4, .ref m5, .ref m6]))] _ := hP
  have hD : va_D A [(m4, .inl (cI, 16, .inl (hp4 (vsh v) (vco v) (vbu v) (vfl v)))), (m5, .inl (cI, 8, .inl (ho2 (vpw v) (vpa v)))), (m0, .inr (4, [.int 0, .int (nI (vnC v)), .int (nI (vnP v)), .int (nI (vnK v)), .ref m1, .ref m2, .ref m3, .ref m4, .ref m5, .ref m6]))] := hD
  rcases hw with ⟨rfl, b_1⟩ | ⟨rfl, b_1⟩
  · skip
    obtain ⟨j_7, hj_7, rfl⟩ := b_1
    have ht_7 := hasT (n := (vnC v)) (by omega) hj_7
    have ix_7 : ix (nI j_7) = j_7 := ix_nI (by omega)
    have hP : va_P D vwCl [(m4, .inl (cI, 16, .inl (hp4 (vsh v) (vco v) (vbu v) (vfl v)))), (m5, .inl (cI, 8, .inl (ho2 (vpw v) (vpa v)))), (m0, .inr (4, [.int 0, .int (nI (vnC v)), .int (nI (vnP v)), .int (nI (vnK v)), .ref m1, .ref m2, .ref m3, .ref m4, .ref m5, .ref m6]))] _ := hP
    have hD : va_D A [(m4, .inl (cI, 16, .inl (hp4 (vsh v) (vco v) (vbu v) (vfl v)))), (m5, .inl (cI, 8, .inl (ho2 (vpw v) (vpa v)))), (m0, .inr (4, [.int 0, .int (nI (vnC v)), .int (nI (vnP v)), .int (nI (vnK v)), .ref m1, .ref m2, .ref m3, .ref m4, .ref m5, .ref m6]))] := hD
    have hl : lv_has ls 5 [(0, .ref m0), (1, .int (nI j_7)), (2, .int y2)] := hl
    refine lv_if_eq (tgt := 21) hx hb dX4_steep_10 (by decide) (fun h => absurd h (by decide)) (fun _ => ?_)
    refine lv_aload_n hx hb dX4_steep_13 rfl (lv_at hl 0 rfl) ?_
    refine lv_iload_n hx hb dX4_steep_14 rfl (lv_at hl 2 rfl) ?_
    refine k_i (wr := [(m4, .inl (cI, 16, .inl (hp4 (vsh v) (vco v) (vbu v) (vfl v)))), (m5, .inl (cI, 8, .inl (ho2 (vpw v) (vpa v))))]) (rV (As := [.int y2]) (rest := []) F hG hK (hP.sub (ws' := [(m0, .inr (4, [.int 0, .int (nI (vnC v)), .int (nI (vnP v)), .int (nI (vnK v)), .ref m1, .ref m2, .ref m3, .ref m4, .ref m5, .ref m6]))]) [2] rfl) ((hD.sub (ws' := [(m0, .inr (4, [.int 0, .int (nI (vnC v)), .int (nI (vnP v)), .int (nI (vnK v)), .ref m1, .ref m2, .ref m3, .ref m4, .ref m5, .ref m6]))]) [2] (by decide) rfl).weaken (fun _ _ _ _ => trivial)) s_RX4_59 (c_X4_isPit l D cI cZ cJ m0 m1 m2 m3 m4 m5 m6 (vnC v) (vnK v) (vnP v) 0 y2 (by first | assumption | omega) _) 4 0 rfl rfl rfl rfl hl.1 rfl (Nat.le_of_ble_eq_true rfl) dX4_steep_15 ⟨(Nat.le_of_ble_eq_true rfl), (Nat.le_of_ble_eq_true rfl)⟩ ⟨(Nat.le_of_ble_eq_true rfl), (Nat.le_of_ble_eq_true rfl)⟩) hP hD hS hA [2] [0, 1] rfl rfl (by decide) (by decide) (fun r_15 uu H locs hw hP hD hS => ?_)
    try dsimp only at hw
    have hP : va_P D vwCl [(m4, .inl (cI, 16, .inl (hp4 (vsh v) (vco v) (vbu v) (vfl v)))), (m5, .inl (cI, 8, .inl (ho2 (vpw v) (vpa v)))), (m0, .inr (4, [.int 0, .int (nI (vnC v)), .int (nI (vnP v)), .int (nI (vnK v)), .ref m1, .ref m2, .ref m3, .ref m4, .ref m5, .ref m6]))] _ := hP
    have hD : va_D A [(m4, .inl (cI, 16, .inl (hp4 (vsh v) (vco v) (vbu v) (vfl v)))), (m5, .inl (cI, 8, .inl (ho2 (vpw v) (vpa v)))), (m0, .inr (4, [.int 0, .int (nI (vnC v)), .int (nI (vnP v)), .int (nI (vnK v)), .ref m1, .ref m2, .ref m3, .ref m4, .ref m5, .ref m6]))] := hD
    rcases hw with ⟨rfl, b_2⟩ | ⟨rfl, b_2⟩
    · skip
      obtain ⟨j_15, hj_15, rfl⟩ := b_2
      have ht_15 := hasT (n := (vnP v)) (by omega) hj_15
      have ix_15 : ix (nI j_15) = j_15 := ix_nI (by omega)
      have hP : va_P D vwCl [(m4, .inl (cI, 16, .inl (hp4 (vsh v) (vco v) (vbu v) (vfl v)))), (m5, .inl (cI, 8, .inl (ho2 (vpw v) (vpa v)))), (m0, .inr (4, [.int 0, .int (nI (vnC v)), .int (nI (vnP v)), .int (nI (vnK v)), .ref m1, .ref m2, .ref m3, .ref m4, .ref m5, .ref m6]))] _ := hP
      have hD : va_D A [(m4, .inl (cI, 16, .inl (hp4 (vsh v) (vco v) (vbu v) (vfl v)))), (m5, .inl (cI, 8, .inl (ho2 (vpw v) (vpa v)))), (m0, .inr (4, [.int 0, .int (nI (vnC v)), .int (nI (vnP v)), .int (nI (vnK v)), .ref m1, .ref m2, .ref m3, .ref m4, .ref m5, .ref m6]))] := hD
      have hl : lv_has ls 5 [(0, .ref m0), (1, .int (nI j_7)), (2, .int (nI j_15))] := hl
      refine lv_if_ne (tgt := 27) hx hb dX4_steep_18 (by decide) (fun _ => ?_) (fun h => absurd h (by decide))
      refine lv_iconst (v := 4) hx hb dX4_steep_27 (by decide) ?_
      refine lv_iload_n hx hb dX4_steep_28 rfl (lv_at hl 1 rfl) ?_
      refine lv_imul hx hb dX4_steep_29 ?_
      refine t_i (nI (4 * j_7)) (pk_mul 4 j_7) ?_
      refine lv_istore_n (lv' := [(3, .int (nI (4 * j_7))), (0, .ref m0), (1, .int (nI j_7)), (2, .int (nI j_15))]) hx hb dX4_steep_30 rfl hl (by decide) rfl (fun ls hl => ?_)
      refine lv_iconst (v := 2) hx hb dX4_steep_31 (by decide) ?_
      refine lv_iload_n hx hb dX4_steep_32 rfl (lv_at hl 3 rfl) ?_
      refine lv_imul hx hb dX4_steep_33 ?_
      refine t_i (nI (2 * j_15)) (pk_mul 2 j_15) ?_
      refine lv_istore (lv' := [(4, .int (nI (2 * j_15))), (3, .int (nI (4 * j_7))), (0, .ref m0), (1, .int (nI j_7)), (2, .int (nI j_15))]) hx hb dX4_steep_34 hl (by decide) rfl (fun ls hl => ?_)
      refine lv_aload_n hx hb dX4_steep_36 rfl (lv_at hl 2 rfl) ?_
      refine va_get (D := D) (ci := 4) (v := .ref m4) (C := RX4) (T := TX4) (N := 10) hx hb ht inG_X4 hown hK hP 2 rfl rfl 7 (by decide) (ht _ qF_RX4_19) (fun _ h9 => h9) rfl dX4_steep_37 ?_
      refine lv_iload_n hx hb dX4_steep_40 rfl (lv_at hl 1 rfl) ?_
      refine lv_iconst (v := 2) hx hb dX4_steep_41 (by decide) ?_
      refine lv_iadd hx hb dX4_steep_42 ?_
      refine t_i (nI (4 * j_7 + 2)) (nI_add (4 * j_7) 2) ?_
      refine aI hx hb hK hP 0 0 rfl rfl (4 * j_7 + 2) (rfl) (by omega) (by decide) (v := (vbu v) j_7) (hp4_2 _ _ _ _ j_7) dX4_steep_43 ?_
      refine lv_if_eq (tgt := 69) hx hb dX4_steep_44 (by decide) (fun c_3 => ?_) (fun c_3 => ?_)
      · skip
        refine lv_aload_n hx hb dX4_steep_69 rfl (lv_at hl 2 rfl) ?_
        refine lv_iconst (v := 2) hx hb dX4_steep_70 (by decide) ?_
        refine k_i (wr := [(m4, .inl (cI, 16, .inl (hp4 (vsh v) (vco v) (vbu v) (vfl v)))), (m5, .inl (cI, 8, .inl (ho2 (vpw v) (vpa v))))]) (rV (As := [.int 2]) (rest := []) F hG hK (hP.sub (ws' := [(m0, .inr (4, [.int 0, .int (nI (vnC v)), .int (nI (vnP v)), .int (nI (vnK v)), .ref m1, .ref m2, .ref m3, .ref m4, .ref m5, .ref m6]))]) [2] rfl) ((hD.sub (ws' := [(m0, .inr (4, [.int 0, .int (nI (vnC v)), .int (nI (vnP v)), .int (nI (vnK v)), .ref m1, .ref m2, .ref m3, .ref m4, .ref m5, .ref m6]))]) [2] (by decide) rfl).weaken (fun _ _ _ _ => trivial)) s_RX4_45 (c_X4_fail l D cI cZ cJ m0 m1 m2 m3 m4 m5 m6 (vnC v) (vnP v) (vnK v) 0 2 _) 4 0 rfl rfl rfl rfl hl.1 rfl (Nat.le_of_ble_eq_true rfl) dX4_steep_71 ⟨(Nat.le_of_ble_eq_true rfl), (Nat.le_of_ble_eq_true rfl)⟩ ⟨(Nat.le_of_ble_eq_true rfl), (Nat.le_of_ble_eq_true rfl)⟩) hP hD hS hA [2] [0, 1] rfl rfl (by decide) (by decide) (fun r_71 uu H locs hw hP hD hS => ?_)
        try dsimp only at hw
        subst hw
        have hP : va_P D vwCl [(m4, .inl (cI, 16, .inl (hp4 (vsh v) (vco v) (vbu v) (vfl v)))), (m5, .inl (cI, 8, .inl (ho2 (vpw v) (vpa v)))), (m0, .inr (4, [.int 2, .int (nI (vnC v)), .int (nI (vnP v)), .int (nI (vnK v)), .ref m1, .ref m2, .ref m3, .ref m4, .ref m5, .ref m6]))] _ := hP
        have hD : va_D A [(m4, .inl (cI, 16, .inl (hp4 (vsh v) (vco v) (vbu v) (vfl v)))), (m5, .inl (cI, 8, .inl (ho2 (vpw v) (vpa v)))), (m0, .inr (4, [.int 2, .int (nI (vnC v)), .int (nI (vnP v)), .int (nI (vnK v)), .ref m1, .ref m2, .ref m3, .ref m4, .ref m5, .ref m6]))] := hD
        exact hend _ _ _ _ _ _ 0 (2, mkV (vsh v) (vco v) (vbu v) (vfl v) (vnC v) (vpw v) (vpa v) (vpb v) (vnP v) (vkw v) (vka v) (vkb v) (vnK v) (vday v) (vcoal v) (vbar v) (vfine v) (vcrs v) (vcoin v) (vship v) (vR v) (vS v)) dX4_steep_74 (⟨by simp (decide := true) only [kSteep, rSteep, eq_true ht_7, ix_7, eq_true ht_15, ix_15, eq_true c_3, if_true, if_false, eq_self], by simp (decide := true) only [kSteep, eq_true ht_7, ix_7, eq_true ht_15, ix_15, eq_true c_3, if_true, if_false, eq_self], Eq.symm (show nSteep v (nI j_7) (nI j_15) = v by simp (decide := true) only [nSteep, kSteep, eq_true ht_7, ix_7, eq_true ht_15, ix_15, eq_true c_3, if_true, if_false, eq_self])⟩) (hP.sub [2, 0, 1] rfl) (hD.sub [2, 0, 1] (by decide) rfl) hS rfl (Nat.le_of_ble_eq_true rfl) (Nat.le_of_ble_eq_true rfl)
      · skip
        refine lv_aload_n hx hb dX4_steep_47 rfl (lv_at hl 2 rfl) ?_
        refine va_get (D := D) (ci := 4) (v := .ref m4) (C := RX4) (T := TX4) (N := 10) hx hb ht inG_X4 hown hK hP 2 rfl rfl 7 (by decide) (ht _ qF_RX4_19) (fun _ h9 => h9) rfl dX4_steep_48 ?_
        refine lv_iload_n hx hb dX4_steep_51 rfl (lv_at hl 1 rfl) ?_
        refine lv_iconst (v := 3) hx hb dX4_steep_52 (by decide) ?_
        refine lv_iadd hx hb dX4_steep_53 ?_
        refine t_i (nI (4 * j_7 + 3)) (nI_add (4 * j_7) 3) ?_
        refine aI hx hb hK hP 0 0 rfl rfl (4 * j_7 + 3) (rfl) (by omega) (by decide) (v := (vfl v) j_7) (hp4_3 _ _ _ _ j_7) dX4_steep_54 ?_
        refine lv_iconst (v := 1) hx hb dX4_steep_55 (by decide) ?_
        refine lv_icmp_eq (tgt := 69) hx hb dX4_steep_56 (by decide) (fun c_4 => ?_) (fun c_4 => ?_)
        · skip
          have c_4f := ne0_1 c_4
          refine lv_aload_n hx hb dX4_steep_69 rfl (lv_at hl 2 rfl) ?_
          refine lv_iconst (v := 2) hx hb dX4_steep_70 (by decide) ?_
          refine k_i (wr := [(m4, .inl (cI, 16, .inl (hp4 (vsh v) (vco v) (vbu v) (vfl v)))), (m5, .inl (cI, 8, .inl (ho2 (vpw v) (vpa v))))]) (rV (As := [.int 2]) (rest := []) F hG hK (hP.sub (ws' := [(m0, .inr (4, [.int 0, .int (nI (vnC v)), .int (nI (vnP v)), .int (nI (vnK v)), .ref m1, .ref m2, .ref m3, .ref m4, .ref m5, .ref m6]))]) [2] rfl) ((hD.sub (ws' := [(m0, .inr (4, [.int 0, .int (nI (vnC v)), .int (nI (vnP v)), .int (nI (vnK v)), .ref m1, .ref m2, .ref m3, .ref m4, .ref m5, .ref m6]))]) [2] (by decide) rfl).weaken (fun _ _ _ _ => trivial)) s_RX4_45 (c_X4_fail l D cI cZ cJ m0 m1 m2 m3 m4 m5 m6 (vnC v) (vnP v) (vnK v) 0 2 _) 4 0 rfl rfl rfl rfl hl.1 rfl (Nat.le_of_ble_eq_true rfl) dX4_steep_71 ⟨(Nat.le_of_ble_eq_true rfl), (Nat.le_of_ble_eq_true rfl)⟩ ⟨(Nat.le_of_ble_eq_true rfl), (Nat.le_of_ble_eq_true rfl)⟩) hP hD hS hA [2] [0, 1] rfl rfl (by decide) (by decide) (fun r_71 uu H locs hw hP hD hS => ?_)
          try dsimp only at hw
          subst hw
          have hP : va_P D vwCl [(m4, .inl (cI, 16, .inl (hp4 (vsh v) (vco v) (vbu v) (vfl v)))), (m5, .inl (cI, 8, .inl (ho2 (vpw v) (vpa v)))), (m0, .inr (4, [.int 2, .int (nI (vnC v)), .int (nI (vnP v)), .int (nI (vnK v)), .ref m1, .ref m2, .ref m3, .ref m4, .ref m5, .ref m6]))] _ := hP
          have hD : va_D A [(m4, .inl (cI, 16, .inl (hp4 (vsh v) (vco v) (vbu v) (vfl v)))), (m5, .inl (cI, 8, .inl (ho2 (vpw v) (vpa v)))), (m0, .inr (4, [.int 2, .int (nI (vnC v)), .int (nI (vnP v)), .int (nI (vnK v)), .ref m1, .ref m2, .ref m3, .ref m4, .ref m5, .ref m6]))] := hD
          exact hend _ _ _ _ _ _ 0 (2, mkV (vsh v) (vco v) (vbu v) (vfl v) (vnC v) (vpw v) (vpa v) (vpb v) (vnP v) (vkw v) (vka v) (vkb v) (vnK v) (vday v) (vcoal v) (vbar v) (vfine v) (vcrs v) (vcoin v) (vship v) (vR v) (vS v)) dX4_steep_74 (⟨by simp (decide := true) only [kSteep, rSteep, eq_true ht_7, ix_7, eq_true ht_15, ix_15, eq_false c_3, eq_true c_4, eq_false c_4f, if_true, if_false, eq_self], by simp (decide := true) only [kSteep, eq_true ht_7, ix_7, eq_true ht_15, ix_15, eq_false c_3, eq_true c_4, eq_false c_4f, if_true, if_false, eq_self], Eq.symm (show nSteep v (nI j_7) (nI j_15) = v by simp (decide := true) only [nSteep, kSteep, eq_true ht_7, ix_7, eq_true ht_15, ix_15, eq_false c_3, eq_true c_4, eq_false c_4f, if_true, if_false, eq_self])⟩) (hP.sub [2, 0, 1] rfl) (hD.sub [2, 0, 1] (by decide) rfl) hS rfl (Nat.le_of_ble_eq_true rfl) (Nat.le_of_ble_eq_true rfl)
        · skip
          have c_4f := eq0_n1 (hf1 _) c_4
          refine lv_aload_n hx hb dX4_steep_59 rfl (lv_at hl 2 rfl) ?_
          refine va_get (D := D) (ci := 4) (v := .ref m5) (C := RX4) (T := TX4) (N := 10) hx hb ht inG_X4 hown hK hP 2 rfl rfl 8 (by decide) (ht _ qF_RX4_22) (fun _ h9 => h9) rfl dX4_steep_60 ?_
          refine lv_iload hx hb dX4_steep_63 (lv_at hl 0 rfl) ?_
          refine aI hx hb hK hP 1 0 rfl rfl (2 * j_15) (rfl) (by omega) (by decide) (v := (vpw v) j_15) (ho2_0 _ _ j_15) dX4_steep_65 ?_
          refine lv_if_ne (tgt := 75) hx hb dX4_steep_66 (by decide) (fun c_5 => ?_) (fun c_5 => ?_)
          · skip
            refine lv_aload_n hx hb dX4_steep_75 rfl (lv_at hl 2 rfl) ?_
            refine va_get (D := D) (ci := 4) (v := .ref m5) (C := RX4) (T := TX4) (N := 10) hx hb ht inG_X4 hown hK hP 2 rfl rfl 8 (by decide) (ht _ qF_RX4_22) (fun _ h9 => h9) rfl dX4_steep_76 ?_
            refine lv_iload hx hb dX4_steep_79 (lv_at hl 0 rfl) ?_
            refine lv_iconst (v := 1) hx hb dX4_steep_81 (by decide) ?_
            refine lv_iadd hx hb dX4_steep_82 ?_
            refine t_i (nI (2 * j_15 + 1)) (nI_1 (2 * j_15)) ?_
            refine lv_dup2_11 hx hb dX4_steep_83 rfl rfl ?_
            refine aI hx hb hK hP 1 0 rfl rfl (2 * j_15 + 1) (rfl) (by omega) (by decide) (v := (vpa v) j_15) (ho2_1 _ _ j_15) dX4_steep_84 ?_
            refine lv_aload_n hx hb dX4_steep_85 rfl (lv_at hl 2 rfl) ?_
            refine va_get (D := D) (ci := 4) (v := .ref m4) (C := RX4) (T := TX4) (N := 10) hx hb ht inG_X4 hown hK hP 2 rfl rfl 7 (by decide) (ht _ qF_RX4_19) (fun _ h9 => h9) rfl dX4_steep_86 ?_
            refine lv_iload_n hx hb dX4_steep_89 rfl (lv_at hl 1 rfl) ?_
            refine lv_iconst (v := 2) hx hb dX4_steep_90 (by decide) ?_
            refine lv_iadd hx hb dX4_steep_91 ?_
            refine t_i (nI (4 * j_7 + 2)) (nI_add (4 * j_7) 2) ?_
            refine aI hx hb hK hP 0 0 rfl rfl (4 * j_7 + 2) (rfl) (by omega) (by decide) (v := (vbu v) j_7) (hp4_2 _ _ _ _ j_7) dX4_steep_92 ?_
            refine lv_iconst (v := 2) hx hb dX4_steep_93 (by decide) ?_
            refine lv_idiv hx hb dX4_steep_94 (by decide) ?_
            refine lv_iadd hx hb dX4_steep_95 ?_
            refine sI_ hx hb hK hP hD hS 1 0 rfl rfl (2 * j_15 + 1) (rfl) (by omega) (by decide) (ho2 (vpw v) (upd (vpa v) j_15 (((vpa v) j_15) + (((vbu v) j_7) / 2)))) (ho2_u1 _ _ _ _) dX4_steep_96 (fun H locs hP hD hS => ?_)
            have hP : va_P D vwCl [(m4, .inl (cI, 16, .inl (hp4 (vsh v) (vco v) (vbu v) (vfl v)))), (m5, .inl (cI, 8, .inl (ho2 (vpw v) (upd (vpa v) j_15 (((vpa v) j_15) + (((vbu v) j_7) / 2)))))), (m0, .inr (4, [.int 0, .int (nI (vnC v)), .int (nI (vnP v)), .int (nI (vnK v)), .ref m1, .ref m2, .ref m3, .ref m4, .ref m5, .ref m6]))] _ := hP
            have hD : va_D A [(m4, .inl (cI, 16, .inl (hp4 (vsh v) (vco v) (vbu v) (vfl v)))), (m5, .inl (cI, 8, .inl (ho2 (vpw v) (upd (vpa v) j_15 (((vpa v) j_15) + (((vbu v) j_7) / 2)))))), (m0, .inr (4, [.int 0, .int (nI (vnC v)), .int (nI (vnP v)), .int (nI (vnK v)), .ref m1, .ref m2, .ref m3, .ref m4, .ref m5, .ref m6]))] := hD
            refine lv_aload_n hx hb dX4_steep_97 rfl (lv_at hl 2 rfl) ?_
            refine va_get (D := D) (ci := 4) (v := .ref m4) (C := RX4) (T := TX4) (N := 10) hx hb ht inG_X4 hown hK hP 2 rfl rfl 7 (by decide) (ht _ qF_RX4_19) (fun _ h9 => h9) rfl dX4_steep_98 ?_
            refine lv_iload_n hx hb dX4_steep_101 rfl (lv_at hl 1 rfl) ?_
            refine lv_iconst (v := 2) hx hb dX4_steep_102 (by decide) ?_
            refine lv_iadd hx hb dX4_steep_103 ?_
            refine t_i (nI (4 * j_7 + 2)) (nI_add (4 * j_7) 2) ?_
            refine lv_iconst (v := 0) hx hb dX4_steep_104 (by decide) ?_
            refine sI_ hx hb hK hP hD hS 0 0 rfl rfl (4 * j_7 + 2) (rfl) (by omega) (by decide) (hp4 (vsh v) (vco v) (upd (vbu v) j_7 0) (vfl v)) (hp4_u2 _ _ _ _ _ _) dX4_steep_105 (fun H locs hP hD hS => ?_)
            have hP : va_P D vwCl [(m4, .inl (cI, 16, .inl (hp4 (vsh v) (vco v) (upd (vbu v) j_7 0) (vfl v)))), (m5, .inl (cI, 8, .inl (ho2 (vpw v) (upd (vpa v) j_15 (((vpa v) j_15) + (((vbu v) j_7) / 2)))))), (m0, .inr (4, [.int 0, .int (nI (vnC v)), .int (nI (vnP v)), .int (nI (vnK v)), .ref m1, .ref m2, .ref m3, .ref m4, .ref m5, .ref m6]))] _ := hP
            have hD : va_D A [(m4, .inl (cI, 16, .inl (hp4 (vsh v) (vco v) (upd (vbu v) j_7 0) (vfl v)))), (m5, .inl (cI, 8, .inl (ho2 (vpw v) (upd (vpa v) j_15 (((vpa v) j_15) + (((vbu v) j_7) / 2)))))), (m0, .inr (4, [.int 0, .int (nI (vnC v)), .int (nI (vnP v)), .int (nI (vnK v)), .ref m1, .ref m2, .ref m3, .ref m4, .ref m5, .ref m6]))] := hD
            refine lv_aload_n hx hb dX4_steep_106 rfl (lv_at hl 2 rfl) ?_
            refine va_get (D := D) (ci := 4) (v := .ref m5) (C := RX4) (T := TX4) (N := 10) hx hb ht inG_X4 hown hK hP 2 rfl rfl 8 (by decide) (ht _ qF_RX4_22) (fun _ h9 => h9) rfl dX4_steep_107 ?_
            refine lv_iload hx hb dX4_steep_110 (lv_at hl 0 rfl) ?_
            refine lv_iconst (v := 1) hx hb dX4_steep_112 (by decide) ?_
            refine lv_iadd hx hb dX4_steep_113 ?_
            refine t_i (nI (2 * j_15 + 1)) (nI_1 (2 * j_15)) ?_
            refine aI hx hb hK hP 1 0 rfl rfl (2 * j_15 + 1) (rfl) (by omega) (by decide) (v := ((vpa v) j_15) + (((vbu v) j_7) / 2)) ((ho2_1 _ _ j_15).trans pk_us) dX4_steep_114 ?_
            exact hend _ _ _ _ _ _ (((vpa v) j_15) + (((vbu v) j_7) / 2)) (0, mkV (vsh v) (vco v) (upd (vbu v) j_7 0) (vfl v) (vnC v) (vpw v) (upd (vpa v) j_15 (((vpa v) j_15) + (((vbu v) j_7) / 2))) (vpb v) (vnP v) (vkw v) (vka v) (vkb v) (vnK v) (vday v) (vcoal v) (vbar v) (vfine v) (vcrs v) (vcoin v) (vship v) (vR v) (vS v)) dX4_steep_115 (⟨by simp (decide := true) only [kSteep, rSteep, eq_true ht_7, ix_7, eq_true ht_15, ix_15, eq_false c_3, eq_false c_4, eq_true c_4f, eq_false c_5, if_true, if_false, eq_self], by simp (decide := true) only [kSteep, eq_true ht_7, ix_7, eq_true ht_15, ix_15, eq_false c_3, eq_false c_4, eq_true c_4f, eq_false c_5, if_true, if_false, eq_self], by simp (decide := true) only [nSteep, kSteep, eq_true ht_7, ix_7, eq_true ht_15, ix_15, eq_false c_3, eq_false c_4, eq_true c_4f, eq_false c_5, if_true, if_false, eq_self]⟩) (hP.sub [2, 0, 1] rfl) (hD.sub [2, 0, 1] (by decide) rfl) hS rfl (Nat.le_of_ble_eq_true rfl) (Nat.le_of_ble_eq_true rfl)
          · skip
            refine lv_aload_n hx hb dX4_steep_69 rfl (lv_at hl 2 rfl) ?_
            refine lv_iconst (v := 2) hx hb dX4_steep_70 (by decide) ?_
            refine k_i (wr := [(m4, .inl (cI, 16, .inl (hp4 (vsh v) (vco v) (vbu v) (vfl v)))), (m5, .inl (cI, 8, .inl (ho2 (vpw v) (vpa v))))]) (rV (As := [.int 2]) (rest := []) F hG hK (hP.sub (ws' := [(m0, .inr (4, [.int 0, .int (nI (vnC v)), .int (nI (vnP v)), .int (nI (vnK v)), .ref m1, .ref m2, .ref m3, .ref m4, .ref m5, .ref m6]))]) [2] rfl) ((hD.sub (ws' := [(m0, .inr (4, [.int 0, .int (nI (vnC v)), .int (nI (vnP v)), .int (nI (vnK v)), .ref m1, .ref m2, .ref m3, .ref m4, .ref m5, .ref m6]))]) [2] (by decide) rfl).weaken (fun _ _ _ _ => trivial)) s_RX4_45 (c_X4_fail l D cI cZ cJ m0 m1 m2 m3 m4 m5 m6 (vnC v) (vnP v) (vnK v) 0 2 _) 4 0 rfl rfl rfl rfl hl.1 rfl (Nat.le_of_ble_eq_true rfl) dX4_steep_71 ⟨(Nat.le_of_ble_eq_true rfl), (Nat.le_of_ble_eq_true rfl)⟩ ⟨(Nat.le_of_ble_eq_true rfl), (Nat.le_of_ble_eq_true rfl)⟩) hP hD hS hA [2] [0, 1] rfl rfl (by decide) (by decide) (fun r_71 uu H locs hw hP hD hS => ?_)
            try dsimp only at hw
            subst hw
            have hP : va_P D vwCl [(m4, .inl (cI, 16, .inl (hp4 (vsh v) (vco v) (vbu v) (vfl v)))), (m5, .inl (cI, 8, .inl (ho2 (vpw v) (vpa v)))), (m0, .inr (4, [.int 2, .int (nI (vnC v)), .int (nI (vnP v)), .int (nI (vnK v)), .ref m1, .ref m2, .ref m3, .ref m4, .ref m5, .ref m6]))] _ := hP
            have hD : va_D A [(m4, .inl (cI, 16, .inl (hp4 (vsh v) (vco v) (vbu v) (vfl v)))), (m5, .inl (cI, 8, .inl (ho2 (vpw v) (vpa v)))), (m0, .inr (4, [.int 2, .int (nI (vnC v)), .int (nI (vnP v)), .int (nI (vnK v)), .ref m1, .ref m2, .ref m3, .ref m4, .ref m5, .ref m6]))] := hD
            exact hend _ _ _ _ _ _ 0 (2, mkV (vsh v) (vco v) (vbu v) (vfl v) (vnC v) (vpw v) (vpa v) (vpb v) (vnP v) (vkw v) (vka v) (vkb v) (vnK v) (vday v) (vcoal v) (vbar v) (vfine v) (vcrs v) (vcoin v) (vship v) (vR v) (vS v)) dX4_steep_74 (⟨by simp (decide := true) only [kSteep, rSteep, eq_true ht_7, ix_7, eq_true ht_15, ix_15, eq_false c_3, eq_false c_4, eq_true c_4f, eq_true c_5, if_true, if_false, eq_self], by simp (decide := true) only [kSteep, eq_true ht_7, ix_7, eq_true ht_15, ix_15, eq_false c_3, eq_false c_4, eq_true c_4f, eq_true c_5, if_true, if_false, eq_self], Eq.symm (show nSteep v (nI j_7) (nI j_15) = v by simp (decide := true) only [nSteep, kSteep, eq_true ht_7, ix_7, eq_true ht_15, ix_15, eq_false c_3, eq_false c_4, eq_true c_4f, eq_true c_5, if_true, if_false, eq_self])⟩) (hP.sub [2, 0, 1] rfl) (hD.sub [2, 0, 1] (by decide) rfl) hS rfl (Nat.le_of_ble_eq_true rfl) (Nat.le_of_ble_eq_true rfl)
    · skip
      refine lv_if_ne (tgt := 27) hx hb dX4_steep_18 (by decide) (fun h => absurd (by decide) h) (fun _ => ?_)
      refine lv_aload_n hx hb dX4_steep_21 rfl (lv_at hl 0 rfl) ?_
      refine lv_iconst (v := 1) hx hb dX4_steep_22 (by decide) ?_
      refine k_i (wr := [(m4, .inl (cI, 16, .inl (hp4 (vsh v) (vco v) (vbu v) (vfl v)))), (m5, .inl (cI, 8, .inl (ho2 (vpw v) (vpa v))))]) (rV (As := [.int 1]) (rest := []) F hG hK (hP.sub (ws' := [(m0, .inr (4, [.int 0, .int (nI (vnC v)), .int (nI (vnP v)), .int (nI (vnK v)), .ref m1, .ref m2, .ref m3, .ref m4, .ref m5, .ref m6]))]) [2] rfl) ((hD.sub (ws' := [(m0, .inr (4, [.int 0, .int (nI (vnC v)), .int (nI (vnP v)), .int (nI (vnK v)), .ref m1, .ref m2, .ref m3, .ref m4, .ref m5, .ref m6]))]) [2] (by decide) rfl).weaken (fun _ _ _ _ => trivial)) s_RX4_45 (c_X4_fail l D cI cZ cJ m0 m1 m2 m3 m4 m5 m6 (vnC v) (vnP v) (vnK v) 0 1 _) 4 0 rfl rfl rfl rfl hl.1 rfl (Nat.le_of_ble_eq_true rfl) dX4_steep_23 ⟨(Nat.le_of_ble_eq_true rfl), (Nat.le_of_ble_eq_true rfl)⟩ ⟨(Nat.le_of_ble_eq_true rfl), (Nat.le_of_ble_eq_true rfl)⟩) hP hD hS hA [2] [0, 1] rfl rfl (by decide) (by decide) (fun r_23 uu H locs hw hP hD hS => ?_)
      try dsimp only at hw
      subst hw
      have hP : va_P D vwCl [(m4, .inl (cI, 16, .inl (hp4 (vsh v) (vco v) (vbu v) (vfl v)))), (m5, .inl (cI, 8, .inl (ho2 (vpw v) (vpa v)))), (m0, .inr (4, [.int 1, .int (nI (vnC v)), .int (nI (vnP v)), .int (nI (vnK v)), .ref m1, .ref m2, .ref m3, .ref m4, .ref m5, .ref m6]))] _ := hP
      have hD : va_D A [(m4, .inl (cI, 16, .inl (hp4 (vsh v) (vco v) (vbu v) (vfl v)))), (m5, .inl (cI, 8, .inl (ho2 (vpw v) (vpa v)))), (m0, .inr (4, [.int 1, .int (nI (vnC v)), .int (nI (vnP v)), .int (nI (vnK v)), .ref m1, .ref m2, .ref m3, .ref m4, .ref m5, .ref m6]))] := hD
      exact hend _ _ _ _ _ _ 0 (1, mkV (vsh v) (vco v) (vbu v) (vfl v) (vnC v) (vpw v) (vpa v) (vpb v) (vnP v) (vkw v) (vka v) (vkb v) (vnK v) (vday v) (vcoal v) (vbar v) (vfine v) (vcrs v) (vcoin v) (vship v) (vR v) (vS v)) dX4_steep_26 (⟨by simp (decide := true) only [kSteep, rSteep, eq_true ht_7, ix_7, eq_false b_2, if_true, if_false, eq_self], by simp (decide := true) only [kSteep, eq_true ht_7, ix_7, eq_false b_2, if_true, if_false, eq_self], Eq.symm (show nSteep v (nI j_7) y2 = v by simp (decide := true) only [nSteep, kSteep, eq_true ht_7, ix_7, eq_false b_2, if_true, if_false, eq_self])⟩) (hP.sub [2, 0, 1] rfl) (hD.sub [2, 0, 1] (by decide) rfl) hS rfl (Nat.le_of_ble_eq_true rfl) (Nat.le_of_ble_eq_true rfl)
  · skip
    refine lv_if_eq (tgt := 21) hx hb dX4_steep_10 (by decide) (fun _ => ?_) (fun h => absurd (by decide) h)
    refine lv_aload_n hx hb dX4_steep_21 rfl (lv_at hl 0 rfl) ?_
    refine lv_iconst (v := 1) hx hb dX4_steep_22 (by decide) ?_
    refine k_i (wr := [(m4, .inl (cI, 16, .inl (hp4 (vsh v) (vco v) (vbu v) (vfl v)))), (m5, .inl (cI, 8, .inl (ho2 (vpw v) (vpa v))))]) (rV (As := [.int 1]) (rest := []) F hG hK (hP.sub (ws' := [(m0, .inr (4, [.int 0, .int (nI (vnC v)), .int (nI (vnP v)), .int (nI (vnK v)), .ref m1, .ref m2, .ref m3, .ref m4, .ref m5, .ref m6]))]) [2] rfl) ((hD.sub (ws' := [(m0, .inr (4, [.int 0, .int (nI (vnC v)), .int (nI (vnP v)), .int (nI (vnK v)), .ref m1, .ref m2, .ref m3, .ref m4, .ref m5, .ref m6]))]) [2] (by decide) rfl).weaken (fun _ _ _ _ => trivial)) s_RX4_45 (c_X4_fail l D cI cZ cJ m0 m1 m2 m3 m4 m5 m6 (vnC v) (vnP v) (vnK v) 0 1 _) 4 0 rfl rfl rfl rfl hl.1 rfl (Nat.le_of_ble_eq_true rfl) dX4_steep_23 ⟨(Nat.le_of_ble_eq_true rfl), (Nat.le_of_ble_eq_true rfl)⟩ ⟨(Nat.le_of_ble_eq_true rfl), (Nat.le_of_ble_eq_true rfl)⟩) hP hD hS hA [2] [0, 1] rfl rfl (by decide) (by decide) (fun r_23 uu H locs hw hP hD hS => ?_)
    try dsimp only at hw
    subst hw
    have hP : va_P D vwCl [(m4, .inl (cI, 16, .inl (hp4 (vsh v) (vco v) (vbu v) (vfl v)))), (m5, .inl (cI, 8, .inl (ho2 (vpw v) (vpa v)))), (m0, .inr (4, [.int 1, .int (nI (vnC v)), .int (nI (vnP v)), .int (nI (vnK v)), .ref m1, .ref m2, .ref m3, .ref m4, .ref m5, .ref m6]))] _ := hP
    have hD : va_D A [(m4, .inl (cI, 16, .inl (hp4 (vsh v) (vco v) (vbu v) (vfl v)))), (m5, .inl (cI, 8, .inl (ho2 (vpw v) (vpa v)))), (m0, .inr (4, [.int 1, .int (nI (vnC v)), .int (nI (vnP v)), .int (nI (vnK v)), .ref m1, .ref m2, .ref m3, .ref m4, .ref m5, .ref m6]))] := hD
    exact hend _ _ _ _ _ _ 0 (1, mkV (vsh v) (vco v) (vbu v) (vfl v) (vnC v) (vpw v) (vpa v) (vpb v) (vnP v) (vkw v) (vka v) (vkb v) (vnK v) (vday v) (vcoal v) (vbar v) (vfine v) (vcrs v) (vcoin v) (vship v) (vR v) (vS v)) dX4_steep_26 (⟨by simp (decide := true) only [kSteep, rSteep, eq_false b_1, if_true, if_false, eq_self], by simp (decide := true) only [kSteep, eq_false b_1, if_true, if_false, eq_self], Eq.symm (show nSteep v y1 y2 = v by simp (decide := true) only [nSteep, kSteep, eq_false b_1, if_true, if_false, eq_self])⟩) (hP.sub [2, 0, 1] rfl) (hD.sub [2, 0, 1] (by decide) rfl) hS rfl (Nat.le_of_ble_eq_true rfl) (Nat.le_of_ble_eq_true rfl)

def rm_X4_pan : Room := { frames := 1, cells := 0, slots := 0, locals := 21 }
set_option maxHeartbeats 4000000 in
set_option maxRecDepth 100000 in
theorem c_X4_pan (l : Launch) (D : va_G) (cI cZ cJ : ClassId) (m0 m1 m2 m3 m4 m5 m6 : Nat) (th : Int32) (v : VT) (hI : IS v) : Mi l yX4_pan cX4_pan 1 (some .int) rm_X4_pan D (TY cI cZ cJ) [.ref m0] [(m0, .inr (4, [.int th, .int (nI (vnC v)), .int (nI (vnP v)), .int (nI (vnK v)), .ref m1, .ref m2, .ref m3, .ref m4, .ref m5, .ref m6])), (m6, .inl (cI, 9, .inl (ke3 (vkw v) (vka v) (vkb v))))] (fun (r : Int32) (u : Int32 × VT) => r = (if kPan v = 0 then rPan v else 0) ∧ u.1 = kPan v ∧ u.2 = nPan v) (fun (u : Int32 × VT) => [(m0, .inr (4, [.int u.1, .int (nI (vnC u.2)), .int (nI (vnP u.2)), .int (nI (vnK u.2)), .ref m1, .ref m2, .ref m3, .ref m4, .ref m5, .ref m6])), (m6, .inl (cI, 9, .inl (ke3 (vkw u.2) (vka u.2) (vkb u.2))))]) := by
  refine Mi.ofQ (by decide) (Nat.le_of_ble_eq_true rfl) ?_
  intro p e s m args below meth c A ls Q hF hK hP hD hA hl hend
  obtain ⟨F, hr, hlocks, hG⟩ := hF
  have hx := F.1
  have hb := F.2.1
  have hown := F.2.2.2.1
  have ht := F.2.2.2.2
  have hS : va_S A s.heap s.heap [] := va_S.rf
  have hl : lv_has ls 1 [(0, .ref m0)] := hl
  obtain ⟨hC4, hP4, hK3, hAH, hf1, hf2, hf3, hdy⟩ := hI
  refine lv_aload_n hx hb dX4_pan_0 rfl (lv_at hl 0 rfl) ?_
  refine lv_iconst (v := 0) hx hb dX4_pan_1 (by decide) ?_
  refine va_put (D := D) (ci := 4) (v := .int 0) (C := RX4) (T := TX4) (N := 10) hx hb ht inG_X4 tyX4 tyX4_ok nmX4 hown hK hP hD hS 0 rfl rfl 0 (by decide) (ht _ qF_RX4_28) (fun _ h9 => h9) rfl (tyX4_ok 0 (by decide)) rfl rfl (Nat.le_of_ble_eq_true rfl) dX4_pan_2 (fun H locs hP hD hS => ?_)
  have hP : va_P D vwCl [(m0, .inr (4, [.int 0, .int (nI (vnC v)), .int (nI (vnP v)), .int (nI (vnK v)), .ref m1, .ref m2, .ref m3, .ref m4, .ref m5, .ref m6])), (m6, .inl (cI, 9, .inl (ke3 (vkw v) (vka v) (vkb v))))] _ := hP
  have hD : va_D A [(m0, .inr (4, [.int 0, .int (nI (vnC v)), .int (nI (vnP v)), .int (nI (vnK v)), .ref m1, .ref m2, .ref m3, .ref m4, .ref m5, .ref m6])), (m6, .inl (cI, 9, .inl (ke3 (vkw v) (vka v) (vkb v))))] := hD
  refine lv_aload_n hx hb dX4_pan_5 rfl (lv_at hl 0 rfl) ?_
  refine va_get (D := D) (ci := 4) (v := .int (nI (vnK v))) (C := RX4) (T := TX4) (N := 10) hx hb ht inG_X4 hown hK hP 0 rfl rfl 3 (by decide) (ht _ qF_RX4_42) (fun _ h9 => h9) rfl dX4_pan_6 ?_
  refine lv_iconst (v := 3) hx hb dX4_pan_9 (by decide) ?_
  refine lv_icmp_ne (tgt := 19) hx hb dX4_pan_10 (by decide) (fun c_1 => ?_) (fun c_1 => ?_)
  · skip
    have c_1q := ne4_lt (m := 3) (by omega) c_1
    refine lv_aload_n hx hb dX4_pan_19 rfl (lv_at hl 0 rfl) ?_
    refine lv_dup hx hb dX4_pan_20 rfl ?_
    refine va_get (D := D) (ci := 4) (v := .int (nI (vnK v))) (C := RX4) (T := TX4) (N := 10) hx hb ht inG_X4 hown hK hP 0 rfl rfl 3 (by decide) (ht _ qF_RX4_42) (fun _ h9 => h9) rfl dX4_pan_21 ?_
    refine lv_iconst (v := 1) hx hb dX4_pan_24 (by decide) ?_
    refine lv_iadd hx hb dX4_pan_25 ?_
    refine t_i (nI (vnK v + 1)) (nI_1 (vnK v)) ?_
    refine va_put (D := D) (ci := 4) (v := .int (nI (vnK v + 1))) (C := RX4) (T := TX4) (N := 10) hx hb ht inG_X4 tyX4 tyX4_ok nmX4 hown hK hP hD hS 0 rfl rfl 3 (by decide) (ht _ qF_RX4_42) (fun _ h9 => h9) rfl (tyX4_ok 3 (by decide)) rfl rfl (Nat.le_of_ble_eq_true rfl) dX4_pan_26 (fun H locs hP hD hS => ?_)
    have hP : va_P D vwCl [(m0, .inr (4, [.int 0, .int (nI (vnC v)), .int (nI (vnP v)), .int (nI (vnK v + 1)), .ref m1, .ref m2, .ref m3, .ref m4, .ref m5, .ref m6])), (m6, .inl (cI, 9, .inl (ke3 (vkw v) (vka v) (vkb v))))] _ := hP
    have hD : va_D A [(m0, .inr (4, [.int 0, .int (nI (vnC v)), .int (nI (vnP v)), .int (nI (vnK v + 1)), .ref m1, .ref m2, .ref m3, .ref m4, .ref m5, .ref m6])), (m6, .inl (cI, 9, .inl (ke3 (vkw v) (vka v) (vkb v))))] := hD
    refine lv_aload_n hx hb dX4_pan_29 rfl (lv_at hl 0 rfl) ?_
    refine va_get (D := D) (ci := 4) (v := .int (nI (vnK v + 1))) (C := RX4) (T := TX4) (N := 10) hx hb ht inG_X4 hown hK hP 0 rfl rfl 3 (by decide) (ht _ qF_RX4_42) (fun _ h9 => h9) rfl dX4_pan_30 ?_
    refine lv_iconst (v := 1) hx hb dX4_pan_33 (by decide) ?_
    refine lv_isub hx hb dX4_pan_34 ?_
    refine t_i (nI (vnK v)) (nI_pred _) ?_
    exact hend _ _ _ _ _ _ (nI (vnK v)) (0, mkV (vsh v) (vco v) (vbu v) (vfl v) (vnC v) (vpw v) (vpa v) (vpb v) (vnP v) (vkw v) (vka v) (vkb v) (vnK v + 1) (vday v) (vcoal v) (vbar v) (vfine v) (vcrs v) (vcoin v) (vship v) (vR v) (vS v)) dX4_pan_35 (⟨by simp (decide := true) only [kPan, rPan, eq_false c_1, eq_false c_1q, if_true, if_false, eq_self, upd_self (vkw v) (vnK v) (hAH.2.2 _ (Nat.le_refl _)).1.symm], by simp (decide := true) only [kPan, eq_false c_1, eq_false c_1q, if_true, if_false, eq_self], by simp (decide := true) only [nPan, kPan, eq_false c_1, eq_false c_1q, if_true, if_false, eq_self, upd_self (vkw v) (vnK v) (hAH.2.2 _ (Nat.le_refl _)).1.symm]⟩) hP hD hS rfl (Nat.le_of_ble_eq_true rfl) (Nat.le_of_ble_eq_true rfl)
  · skip
    have c_1m := (nI_eq (a := vnK v) (b := 3) (by omega) (by omega)).mp c_1
    have c_1q := eq4_le (m := 3) (by omega) (by omega) c_1
    refine lv_aload_n hx hb dX4_pan_13 rfl (lv_at hl 0 rfl) ?_
    refine lv_iconst (v := 1) hx hb dX4_pan_14 (by decide) ?_
    refine k_i (wr := [(m6, .inl (cI, 9, .inl (ke3 (vkw v) (vka v) (vkb v))))]) (rV (As := [.int 1]) (rest := []) F hG hK (hP.sub (ws' := [(m0, .inr (4, [.int 0, .int (nI (vnC v)), .int (nI (vnP v)), .int (nI (vnK v)), .ref m1, .ref m2, .ref m3, .ref m4, .ref m5, .ref m6]))]) [0] rfl) ((hD.sub (ws' := [(m0, .inr (4, [.int 0, .int (nI (vnC v)), .int (nI (vnP v)), .int (nI (vnK v)), .ref m1, .ref m2, .ref m3, .ref m4, .ref m5, .ref m6]))]) [0] (by decide) rfl).weaken (fun _ _ _ _ => trivial)) s_RX4_45 (c_X4_fail l D cI cZ cJ m0 m1 m2 m3 m4 m5 m6 (vnC v) (vnP v) (vnK v) 0 1 _) 4 0 rfl rfl rfl rfl hl.1 rfl (Nat.le_of_ble_eq_true rfl) dX4_pan_15 ⟨(Nat.le_of_ble_eq_true rfl), (Nat.le_of_ble_eq_true rfl)⟩ ⟨(Nat.le_of_ble_eq_true rfl), (Nat.le_of_ble_eq_true rfl)⟩) hP hD hS hA [0] [1] rfl rfl (by decide) (by decide) (fun r_15 uu H locs hw hP hD hS => ?_)
    try dsimp only at hw
    subst hw
    have hP : va_P D vwCl [(m6, .inl (cI, 9, .inl (ke3 (vkw v) (vka v) (vkb v)))), (m0, .inr (4, [.int 1, .int (nI (vnC v)), .int (nI (vnP v)), .int (nI (vnK v)), .ref m1, .ref m2, .ref m3, .ref m4, .ref m5, .ref m6]))] _ := hP
    have hD : va_D A [(m6, .inl (cI, 9, .inl (ke3 (vkw v) (vka v) (vkb v)))), (m0, .inr (4, [.int 1, .int (nI (vnC v)), .int (nI (vnP v)), .int (nI (vnK v)), .ref m1, .ref m2, .ref m3, .ref m4, .ref m5, .ref m6]))] := hD
    exact hend _ _ _ _ _ _ 0 (1, mkV (vsh v) (vco v) (vbu v) (vfl v) (vnC v) (vpw v) (vpa v) (vpb v) (vnP v) (vkw v) (vka v) (vkb v) (vnK v) (vday v) (vcoal v) (vbar v) (vfine v) (vcrs v) (vcoin v) (vship v) (vR v) (vS v)) dX4_pan_18 (⟨by simp (decide := true) only [kPan, rPan, eq_true c_1, eq_true c_1q, if_true, if_false, eq_self, upd_self (vkw v) (vnK v) (hAH.2.2 _ (Nat.le_refl _)).1.symm], by simp (decide := true) only [kPan, eq_true c_1, eq_true c_1q, if_true, if_false, eq_self], Eq.symm (show nPan v = v by simp (decide := true) only [nPan, kPan, eq_true c_1, eq_true c_1q, if_true, if_false, eq_self])⟩) (hP.sub [1, 0] rfl) (hD.sub [1, 0] (by decide) rfl) hS rfl (Nat.le_of_ble_eq_true rfl) (Nat.le_of_ble_eq_true rfl)

def rm_X4_draw : Room := { frames := 2, cells := 0, slots := 0, locals := 43 }
set_option maxHeartbeats 4000000 in
set_option maxRecDepth 100000 in
theorem c_X4_draw (l : Launch) (D : va_G) (cI cZ cJ : ClassId) (m0 m1 m2 m3 m4 m5 m6 : Nat) (th : Int32) (v : VT) (y1 y2 y3 : Int32) (hI : IS v) : Mi l yX4_draw cX4_draw 7 (some .int) rm_X4_draw D (TY cI cZ cJ) [.ref m0, .int y1, .int y2, .int y3] [(m0, .inr (4, [.int th, .int (nI (vnC v)), .int (nI (vnP v)), .int (nI (vnK v)), .ref m1, .ref m2, .ref m3, .ref m4, .ref m5, .ref m6])), (m5, .inl (cI, 8, .inl (ho2 (vpw v) (vpa v)))), (m6, .inl (cI, 9, .inl (ke3 (vkw v) (vka v) (vkb v))))] (fun (r : Int32) (u : Int32 × VT) => r = (if kDraw v y1 y2 y3 = 0 then rDraw v y1 y2 y3 else 0) ∧ u.1 = kDraw v y1 y2 y3 ∧ u.2 = nDraw v y1 y2 y3) (fun (u : Int32 × VT) => [(m0, .inr (4, [.int u.1, .int (nI (vnC u.2)), .int (nI (vnP u.2)), .int (nI (vnK u.2)), .ref m1, .ref m2, .ref m3, .ref m4, .ref m5, .ref m6])), (m5, .inl (cI, 8, .inl (ho2 (vpw u.2) (vpa u.2)))), (m6, .inl (cI, 9, .inl (ke3 (vkw u.2) (vka u.2) (vkb u.2))))]) := by
  refine Mi.ofQ (by decide) (Nat.le_of_ble_eq_true rfl) ?_
  intro p e s m args below meth c A ls Q hF hK hP hD hA hl hend
  obtain ⟨F, hr, hlocks, hG⟩ := hF
  have hx := F.1
  have hb := F.2.1
  have hown := F.2.2.2.1
  have ht := F.2.2.2.2
  have hS : va_S A s.heap s.heap [] := va_S.rf
  have hl : lv_has ls 7 [(0, .ref m0), (1, .int y1), (2, .int y2), (3, .int y3)] := hl
  obtain ⟨hC4, hP4, hK3, hAH, hf1, hf2, hf3, hdy⟩ := hI
  refine lv_aload_n hx hb dX4_draw_0 rfl (lv_at hl 0 rfl) ?_
  refine lv_iconst (v := 0) hx hb dX4_draw_1 (by decide) ?_
  refine va_put (D := D) (ci := 4) (v := .int 0) (C := RX4) (T := TX4) (N := 10) hx hb ht inG_X4 tyX4 tyX4_ok nmX4 hown hK hP hD hS 0 rfl rfl 0 (by decide) (ht _ qF_RX4_28) (fun _ h9 => h9) rfl (tyX4_ok 0 (by decide)) rfl rfl (Nat.le_of_ble_eq_true rfl) dX4_draw_2 (fun H locs hP hD hS => ?_)
  have hP : va_P D vwCl [(m0, .inr (4, [.int 0, .int (nI (vnC v)), .int (nI (vnP v)), .int (nI (vnK v)), .ref m1, .ref m2, .ref m3, .ref m4, .ref m5, .ref m6])), (m5, .inl (cI, 8, .inl (ho2 (vpw v) (vpa v)))), (m6, .inl (cI, 9, .inl (ke3 (vkw v) (vka v) (vkb v))))] _ := hP
  have hD : va_D A [(m0, .inr (4, [.int 0, .int (nI (vnC v)), .int (nI (vnP v)), .int (nI (vnK v)), .ref m1, .ref m2, .ref m3, .ref m4, .ref m5, .ref m6])), (m5, .inl (cI, 8, .inl (ho2 (vpw v) (vpa v)))), (m6, .inl (cI, 9, .inl (ke3 (vkw v) (vka v) (vkb v))))] := hD
  refine lv_aload_n hx hb dX4_draw_5 rfl (lv_at hl 0 rfl) ?_
  refine lv_iload_n hx hb dX4_draw_6 rfl (lv_at hl 1 rfl) ?_
  refine k_i (wr := [(m5, .inl (cI, 8, .inl (ho2 (vpw v) (vpa v)))), (m6, .inl (cI, 9, .inl (ke3 (vkw v) (vka v) (vkb v))))]) (rV (As := [.int y1]) (rest := []) F hG hK (hP.sub (ws' := [(m0, .inr (4, [.int 0, .int (nI (vnC v)), .int (nI (vnP v)), .int (nI (vnK v)), .ref m1, .ref m2, .ref m3, .ref m4, .ref m5, .ref m6]))]) [0] rfl) ((hD.sub (ws' := [(m0, .inr (4, [.int 0, .int (nI (vnC v)), .int (nI (vnP v)), .int (nI (vnK v)), .ref m1, .ref m2, .ref m3, .ref m4, .ref m5, .ref m6]))]) [0] (by decide) rfl).weaken (fun _ _ _ _ => trivial)) s_RX4_59 (c_X4_isPit l D cI cZ cJ m0 m1 m2 m3 m4 m5 m6 (vnC v) (vnK v) (vnP v) 0 y1 (by first | assumption | omega) _) 4 0 rfl rfl rfl rfl hl.1 rfl (Nat.le_of_ble_eq_true rfl) dX4_draw_7 ⟨(Nat.le_of_ble_eq_true rfl), (Nat.le_of_ble_eq_true rfl)⟩ ⟨(Nat.le_of_ble_eq_true rfl), (Nat.le_of_ble_eq_true rfl)⟩) hP hD hS hA [0] [1, 2] rfl rfl (by decide) (by decide) (fun r_7 uu H locs hw hP hD hS => ?_)
  try dsimp only at hw
  have hP : va_P D vwCl [(m5, .inl (cI, 8, .inl (ho2 (vpw v) (vpa v)))), (m6, .inl (cI, 9, .inl (ke3 (vkw v) (vka v) (vkb v)))), (m0, .inr (4, [.int 0, .int (nI (vnC v)), .int (nI (vnP v)), .int (nI (vnK v)), .ref m1, .ref m2, .ref m3, .ref m4, .ref m5, .ref m6]))] _ := hP
  have hD : va_D A [(m5, .inl (cI, 8, .inl (ho2 (vpw v) (vpa v)))), (m6, .inl (cI, 9, .inl (ke3 (vkw v) (vka v) (vkb v)))), (m0, .inr (4, [.int 0, .int (nI (vnC v)), .int (nI (vnP v)), .int (nI (vnK v)), .ref m1, .ref m2, .ref m3, .ref m4, .ref m5, .ref m6]))] := hD
  rcases hw with ⟨rfl, b_1⟩ | ⟨rfl, b_1⟩
  · skip
    obtain ⟨j_7, hj_7, rfl⟩ := b_1
    have ht_7 := hasT (n := (vnP v)) (by omega) hj_7
    have ix_7 : ix (nI j_7) = j_7 := ix_nI (by omega)
    have hP : va_P D vwCl [(m5, .inl (cI, 8, .inl (ho2 (vpw v) (vpa v)))), (m6, .inl (cI, 9, .inl (ke3 (vkw v) (vka v) (vkb v)))), (m0, .inr (4, [.int 0, .int (nI (vnC v)), .int (nI (vnP v)), .int (nI (vnK v)), .ref m1, .ref m2, .ref m3, .ref m4, .ref m5, .ref m6]))] _ := hP
    have hD : va_D A [(m5, .inl (cI, 8, .inl (ho2 (vpw v) (vpa v)))), (m6, .inl (cI, 9, .inl (ke3 (vkw v) (vka v) (vkb v)))), (m0, .inr (4, [.int 0, .int (nI (vnC v)), .int (nI (vnP v)), .int (nI (vnK v)), .ref m1, .ref m2, .ref m3, .ref m4, .ref m5, .ref m6]))] := hD
    have hl : lv_has ls 7 [(0, .ref m0), (1, .int (nI j_7)), (2, .int y2), (3, .int y3)] := hl
    refine lv_if_eq (tgt := 21) hx hb dX4_draw_10 (by decide) (fun h => absurd h (by decide)) (fun _ => ?_)
    refine lv_aload_n hx hb dX4_draw_13 rfl (lv_at hl 0 rfl) ?_
    refine lv_iload_n hx hb dX4_draw_14 rfl (lv_at hl 2 rfl) ?_
    refine k_i (wr := [(m5, .inl (cI, 8, .inl (ho2 (vpw v) (vpa v)))), (m6, .inl (cI, 9, .inl (ke3 (vkw v) (vka v) (vkb v))))]) (rV (As := [.int y2]) (rest := []) F hG hK (hP.sub (ws' := [(m0, .inr (4, [.int 0, .int (nI (vnC v)), .int (nI (vnP v)), .int (nI (vnK v)), .ref m1, .ref m2, .ref m3, .ref m4, .ref m5, .ref m6]))]) [2] rfl) ((hD.sub (ws' := [(m0, .inr (4, [.int 0, .int (nI (vnC v)), .int (nI (vnP v)), .int (nI (vnK v)), .ref m1, .ref m2, .ref m3, .ref m4, .ref m5, .ref m6]))]) [2] (by decide) rfl).weaken (fun _ _ _ _ => trivial)) s_RX4_62 (c_X4_isPan l D cI cZ cJ m0 m1 m2 m3 m4 m5 m6 (vnC v) (vnP v) (vnK v) 0 y2 (by first | assumption | omega) _) 4 0 rfl rfl rfl rfl hl.1 rfl (Nat.le_of_ble_eq_true rfl) dX4_draw_15 ⟨(Nat.le_of_ble_eq_true rfl), (Nat.le_of_ble_eq_true rfl)⟩ ⟨(Nat.le_of_ble_eq_true rfl), (Nat.le_of_ble_eq_true rfl)⟩) hP hD hS hA [2] [0, 1] rfl rfl (by decide) (by decide) (fun r_15 uu H locs hw hP hD hS => ?_)
    try dsimp only at hw
    have hP : va_P D vwCl [(m5, .inl (cI, 8, .inl (ho2 (vpw v) (vpa v)))), (m6, .inl (cI, 9, .inl (ke3 (vkw v) (vka v) (vkb v)))), (m0, .inr (4, [.int 0, .int (nI (vnC v)), .int (nI (vnP v)), .int (nI (vnK v)), .ref m1, .ref m2, .ref m3, .ref m4, .ref m5, .ref m6]))] _ := hP
    have hD : va_D A [(m5, .inl (cI, 8, .inl (ho2 (vpw v) (vpa v)))), (m6, .inl (cI, 9, .inl (ke3 (vkw v) (vka v) (vkb v)))), (m0, .inr (4, [.int 0, .int (nI (vnC v)), .int (nI (vnP v)), .int (nI (vnK v)), .ref m1, .ref m2, .ref m3, .ref m4, .ref m5, .ref m6]))] := hD
    rcases hw with ⟨rfl, b_2⟩ | ⟨rfl, b_2⟩
    · skip
      obtain ⟨j_15, hj_15, rfl⟩ := b_2
      have ht_15 := hasT (n := (vnK v)) (by omega) hj_15
      have ix_15 : ix (nI j_15) = j_15 := ix_nI (by omega)
      have hP : va_P D vwCl [(m5, .inl (cI, 8, .inl (ho2 (vpw v) (vpa v)))), (m6, .inl (cI, 9, .inl (ke3 (vkw v) (vka v) (vkb v)))), (m0, .inr (4, [.int 0, .int (nI (vnC v)), .int (nI (vnP v)), .int (nI (vnK v)), .ref m1, .ref m2, .ref m3, .ref m4, .ref m5, .ref m6]))] _ := hP
      have hD : va_D A [(m5, .inl (cI, 8, .inl (ho2 (vpw v) (vpa v)))), (m6, .inl (cI, 9, .inl (ke3 (vkw v) (vka v) (vkb v)))), (m0, .inr (4, [.int 0, .int (nI (vnC v)), .int (nI (vnP v)), .int (nI (vnK v)), .ref m1, .ref m2, .ref m3, .ref m4, .ref m5, .ref m6]))] := hD
      have hl : lv_has ls 7 [(0, .ref m0), (1, .int (nI j_7)), (2, .int (nI j_15)), (3, .int y3)] := hl
      refine lv_if_ne (tgt := 27) hx hb dX4_draw_18 (by decide) (fun _ => ?_) (fun h => absurd h (by decide))
      refine lv_iload_n hx hb dX4_draw_27 rfl (lv_at hl 3 rfl) ?_
      refine lv_iconst (v := 1) hx hb dX4_draw_28 (by decide) ?_
      refine lv_sipush (v := 150) hx hb dX4_draw_29 (by decide) ?_
      refine k_i (wr := [(m5, .inl (cI, 8, .inl (ho2 (vpw v) (vpa v)))), (m6, .inl (cI, 9, .inl (ke3 (vkw v) (vka v) (vkb v)))), (m0, .inr (4, [.int 0, .int (nI (vnC v)), .int (nI (vnP v)), .int (nI (vnK v)), .ref m1, .ref m2, .ref m3, .ref m4, .ref m5, .ref m6]))]) (rS (As := [.int y3, .int 1, .int 150]) (rest := []) F hG hK (hP.sub (ws' := []) [] rfl) ((hD.sub (ws' := []) [] (by decide) rfl).weaken (fun _ _ _ _ => trivial)) s_RX4_35 (c_X4_isIn l D cI cZ cJ y3 1 150 _) rfl hl.1 rfl (Nat.le_of_ble_eq_true rfl) dX4_draw_32 ⟨(Nat.le_of_ble_eq_true rfl), (Nat.le_of_ble_eq_true rfl)⟩ ⟨(Nat.le_of_ble_eq_true rfl), (Nat.le_of_ble_eq_true rfl)⟩) hP hD hS hA [] [0, 1, 2] rfl rfl (by decide) (by decide) (fun r_32 uu H locs hw hP hD hS => ?_)
      try dsimp only at hw
      have hP : va_P D vwCl [(m5, .inl (cI, 8, .inl (ho2 (vpw v) (vpa v)))), (m6, .inl (cI, 9, .inl (ke3 (vkw v) (vka v) (vkb v)))), (m0, .inr (4, [.int 0, .int (nI (vnC v)), .int (nI (vnP v)), .int (nI (vnK v)), .ref m1, .ref m2, .ref m3, .ref m4, .ref m5, .ref m6]))] _ := hP
      have hD : va_D A [(m5, .inl (cI, 8, .inl (ho2 (vpw v) (vpa v)))), (m6, .inl (cI, 9, .inl (ke3 (vkw v) (vka v) (vkb v)))), (m0, .inr (4, [.int 0, .int (nI (vnC v)), .int (nI (vnP v)), .int (nI (vnK v)), .ref m1, .ref m2, .ref m3, .ref m4, .ref m5, .ref m6]))] := hD
      rcases hw with ⟨rfl, b_3⟩ | ⟨rfl, b_3⟩
      · skip
        refine lv_if_ne (tgt := 44) hx hb dX4_draw_35 (by decide) (fun _ => ?_) (fun h => absurd h (by decide))
        refine lv_iconst (v := 2) hx hb dX4_draw_44 (by decide) ?_
        refine lv_iload_n hx hb dX4_draw_45 rfl (lv_at hl 1 rfl) ?_
        refine lv_imul hx hb dX4_draw_46 ?_
        refine t_i (nI (2 * j_7)) (pk_mul 2 j_7) ?_
        refine lv_istore (lv' := [(4, .int (nI (2 * j_7))), (0, .ref m0), (1, .int (nI j_7)), (2, .int (nI j_15)), (3, .int y3)]) hx hb dX4_draw_47 hl (by decide) rfl (fun ls hl => ?_)
        refine lv_iconst (v := 3) hx hb dX4_draw_49 (by decide) ?_
        refine lv_iload_n hx hb dX4_draw_50 rfl (lv_at hl 3 rfl) ?_
        refine lv_imul hx hb dX4_draw_51 ?_
        refine t_i (nI (3 * j_15)) (pk_mul 3 j_15) ?_
        refine lv_istore (lv' := [(5, .int (nI (3 * j_15))), (4, .int (nI (2 * j_7))), (0, .ref m0), (1, .int (nI j_7)), (2, .int (nI j_15)), (3, .int y3)]) hx hb dX4_draw_52 hl (by decide) rfl (fun ls hl => ?_)
        refine lv_aload_n hx hb dX4_draw_54 rfl (lv_at hl 2 rfl) ?_
        refine va_get (D := D) (ci := 4) (v := .ref m5) (C := RX4) (T := TX4) (N := 10) hx hb ht inG_X4 hown hK hP 2 rfl rfl 8 (by decide) (ht _ qF_RX4_22) (fun _ h9 => h9) rfl dX4_draw_55 ?_
        refine lv_iload hx hb dX4_draw_58 (lv_at hl 1 rfl) ?_
        refine aI hx hb hK hP 0 0 rfl rfl (2 * j_7) (rfl) (by omega) (by decide) (v := (vpw v) j_7) (ho2_0 _ _ j_7) dX4_draw_60 ?_
        refine lv_iload_n hx hb dX4_draw_61 rfl (lv_at hl 5 rfl) ?_
        refine lv_icmp_lt (tgt := 80) hx hb dX4_draw_62 (by decide) (fun c_4 => ?_) (fun c_4 => ?_)
        · skip
          have c_4n := Int32.not_le.mpr c_4
          refine lv_aload_n hx hb dX4_draw_80 rfl (lv_at hl 2 rfl) ?_
          refine lv_iconst (v := 3) hx hb dX4_draw_81 (by decide) ?_
          refine k_i (wr := [(m5, .inl (cI, 8, .inl (ho2 (vpw v) (vpa v)))), (m6, .inl (cI, 9, .inl (ke3 (vkw v) (vka v) (vkb v))))]) (rV (As := [.int 3]) (rest := []) F hG hK (hP.sub (ws' := [(m0, .inr (4, [.int 0, .int (nI (vnC v)), .int (nI (vnP v)), .int (nI (vnK v)), .ref m1, .ref m2, .ref m3, .ref m4, .ref m5, .ref m6]))]) [2] rfl) ((hD.sub (ws' := [(m0, .inr (4, [.int 0, .int (nI (vnC v)), .int (nI (vnP v)), .int (nI (vnK v)), .ref m1, .ref m2, .ref m3, .ref m4, .ref m5, .ref m6]))]) [2] (by decide) rfl).weaken (fun _ _ _ _ => trivial)) s_RX4_45 (c_X4_fail l D cI cZ cJ m0 m1 m2 m3 m4 m5 m6 (vnC v) (vnP v) (vnK v) 0 3 _) 4 0 rfl rfl rfl rfl hl.1 rfl (Nat.le_of_ble_eq_true rfl) dX4_draw_82 ⟨(Nat.le_of_ble_eq_true rfl), (Nat.le_of_ble_eq_true rfl)⟩ ⟨(Nat.le_of_ble_eq_true rfl), (Nat.le_of_ble_eq_true rfl)⟩) hP hD hS hA [2] [0, 1] rfl rfl (by decide) (by decide) (fun r_82 uu H locs hw hP hD hS => ?_)
          try dsimp only at hw
          subst hw
          have hP : va_P D vwCl [(m5, .inl (cI, 8, .inl (ho2 (vpw v) (vpa v)))), (m6, .inl (cI, 9, .inl (ke3 (vkw v) (vka v) (vkb v)))), (m0, .inr (4, [.int 3, .int (nI (vnC v)), .int (nI (vnP v)), .int (nI (vnK v)), .ref m1, .ref m2, .ref m3, .ref m4, .ref m5, .ref m6]))] _ := hP
          have hD : va_D A [(m5, .inl (cI, 8, .inl (ho2 (vpw v) (vpa v)))), (m6, .inl (cI, 9, .inl (ke3 (vkw v) (vka v) (vkb v)))), (m0, .inr (4, [.int 3, .int (nI (vnC v)), .int (nI (vnP v)), .int (nI (vnK v)), .ref m1, .ref m2, .ref m3, .ref m4, .ref m5, .ref m6]))] := hD
          exact hend _ _ _ _ _ _ 0 (3, mkV (vsh v) (vco v) (vbu v) (vfl v) (vnC v) (vpw v) (vpa v) (vpb v) (vnP v) (vkw v) (vka v) (vkb v) (vnK v) (vday v) (vcoal v) (vbar v) (vfine v) (vcrs v) (vcoin v) (vship v) (vR v) (vS v)) dX4_draw_85 (⟨by simp (decide := true) only [kDraw, rDraw, eq_true ht_7, ix_7, eq_true ht_15, ix_15, eq_true b_3, eq_true c_4, eq_false c_4n, if_true, if_false, eq_self], by simp (decide := true) only [kDraw, eq_true ht_7, ix_7, eq_true ht_15, ix_15, eq_true b_3, eq_true c_4, eq_false c_4n, if_true, if_false, eq_self], Eq.symm (show nDraw v (nI j_7) (nI j_15) y3 = v by simp (decide := true) only [nDraw, kDraw, eq_true ht_7, ix_7, eq_true ht_15, ix_15, eq_true b_3, eq_true c_4, eq_false c_4n, if_true, if_false, eq_self])⟩) (hP.sub [2, 0, 1] rfl) (hD.sub [2, 0, 1] (by decide) rfl) hS rfl (Nat.le_of_ble_eq_true rfl) (Nat.le_of_ble_eq_true rfl)
        · skip
          have c_4n := Int32.not_lt.mp c_4
          refine lv_aload_n hx hb dX4_draw_65 rfl (lv_at hl 2 rfl) ?_
          refine va_get (D := D) (ci := 4) (v := .ref m6) (C := RX4) (T := TX4) (N := 10) hx hb ht inG_X4 hown hK hP 2 rfl rfl 9 (by decide) (ht _ qF_RX4_25) (fun _ h9 => h9) rfl dX4_draw_66 ?_
          refine lv_iload hx hb dX4_draw_69 (lv_at hl 0 rfl) ?_
          refine aI hx hb hK hP 1 0 rfl rfl (3 * j_15) (rfl) (by omega) (by decide) (v := (vkw v) j_15) (ke3_0 _ _ _ j_15) dX4_draw_71 ?_
          refine lv_iload_n hx hb dX4_draw_72 rfl (lv_at hl 5 rfl) ?_
          refine lv_iadd hx hb dX4_draw_73 ?_
          refine lv_sipush (v := 150) hx hb dX4_draw_74 (by decide) ?_
          refine lv_icmp_le (tgt := 86) hx hb dX4_draw_77 (by decide) (fun c_5 => ?_) (fun c_5 => ?_)
          · skip
            have c_5n := Int32.not_lt.mpr c_5
            refine lv_aload_n hx hb dX4_draw_86 rfl (lv_at hl 2 rfl) ?_
            refine va_get (D := D) (ci := 4) (v := .ref m5) (C := RX4) (T := TX4) (N := 10) hx hb ht inG_X4 hown hK hP 2 rfl rfl 8 (by decide) (ht _ qF_RX4_22) (fun _ h9 => h9) rfl dX4_draw_87 ?_
            refine lv_iload hx hb dX4_draw_90 (lv_at hl 1 rfl) ?_
            refine lv_iconst (v := 1) hx hb dX4_draw_92 (by decide) ?_
            refine lv_iadd hx hb dX4_draw_93 ?_
            refine t_i (nI (2 * j_7 + 1)) (nI_1 (2 * j_7)) ?_
            refine aI hx hb hK hP 0 0 rfl rfl (2 * j_7 + 1) (rfl) (by omega) (by decide) (v := (vpa v) j_7) (ho2_1 _ _ j_7) dX4_draw_94 ?_
            refine lv_iload_n hx hb dX4_draw_95 rfl (lv_at hl 5 rfl) ?_
            refine lv_imul hx hb dX4_draw_96 ?_
            refine lv_aload_n hx hb dX4_draw_97 rfl (lv_at hl 2 rfl) ?_
            refine va_get (D := D) (ci := 4) (v := .ref m5) (C := RX4) (T := TX4) (N := 10) hx hb ht inG_X4 hown hK hP 2 rfl rfl 8 (by decide) (ht _ qF_RX4_22) (fun _ h9 => h9) rfl dX4_draw_98 ?_
            refine lv_iload hx hb dX4_draw_101 (lv_at hl 1 rfl) ?_
            refine aI hx hb hK hP 0 0 rfl rfl (2 * j_7) (rfl) (by omega) (by decide) (v := (vpw v) j_7) (ho2_0 _ _ j_7) dX4_draw_103 ?_
            refine lv_idiv hx hb dX4_draw_104 (by intro q; rw [q] at c_4; exact absurd (Int32.le_trans b_3.1 (Int32.not_lt.mp c_4)) (by decide)) ?_
            refine lv_istore (lv' := [(6, .int ((((vpa v) j_7) * y3) / ((vpw v) j_7))), (5, .int (nI (3 * j_15))), (4, .int (nI (2 * j_7))), (0, .ref m0), (1, .int (nI j_7)), (2, .int (nI j_15)), (3, .int y3)]) hx hb dX4_draw_105 hl (by decide) rfl (fun ls hl => ?_)
            refine lv_aload_n hx hb dX4_draw_107 rfl (lv_at hl 3 rfl) ?_
            refine va_get (D := D) (ci := 4) (v := .ref m5) (C := RX4) (T := TX4) (N := 10) hx hb ht inG_X4 hown hK hP 2 rfl rfl 8 (by decide) (ht _ qF_RX4_22) (fun _ h9 => h9) rfl dX4_draw_108 ?_
            refine lv_iload hx hb dX4_draw_111 (lv_at hl 2 rfl) ?_
            refine lv_dup2_11 hx hb dX4_draw_113 rfl rfl ?_
            refine aI hx hb hK hP 0 0 rfl rfl (2 * j_7) (rfl) (by omega) (by decide) (v := (vpw v) j_7) (ho2_0 _ _ j_7) dX4_draw_114 ?_
            refine lv_iload_n hx hb dX4_draw_115 rfl (lv_at hl 6 rfl) ?_
            refine lv_isub hx hb dX4_draw_116 ?_
            refine sI_ hx hb hK hP hD hS 0 0 rfl rfl (2 * j_7) (rfl) (by omega) (by decide) (ho2 (upd (vpw v) j_7 (((vpw v) j_7) - y3)) (vpa v)) (ho2_u0 _ _ _ _) dX4_draw_117 (fun H locs hP hD hS => ?_)
            have hP : va_P D vwCl [(m5, .inl (cI, 8, .inl (ho2 (upd (vpw v) j_7 (((vpw v) j_7) - y3)) (vpa v)))), (m6, .inl (cI, 9, .inl (ke3 (vkw v) (vka v) (vkb v)))), (m0, .inr (4, [.int 0, .int (nI (vnC v)), .int (nI (vnP v)), .int (nI (vnK v)), .ref m1, .ref m2, .ref m3, .ref m4, .ref m5, .ref m6]))] _ := hP
            have hD : va_D A [(m5, .inl (cI, 8, .inl (ho2 (upd (vpw v) j_7 (((vpw v) j_7) - y3)) (vpa v)))), (m6, .inl (cI, 9, .inl (ke3 (vkw v) (vka v) (vkb v)))), (m0, .inr (4, [.int 0, .int (nI (vnC v)), .int (nI (vnP v)), .int (nI (vnK v)), .ref m1, .ref m2, .ref m3, .ref m4, .ref m5, .ref m6]))] := hD
            refine lv_aload_n hx hb dX4_draw_118 rfl (lv_at hl 3 rfl) ?_
            refine va_get (D := D) (ci := 4) (v := .ref m5) (C := RX4) (T := TX4) (N := 10) hx hb ht inG_X4 hown hK hP 2 rfl rfl 8 (by decide) (ht _ qF_RX4_22) (fun _ h9 => h9) rfl dX4_draw_119 ?_
            refine lv_iload hx hb dX4_draw_122 (lv_at hl 2 rfl) ?_
            refine lv_iconst (v := 1) hx hb dX4_draw_124 (by decide) ?_
            refine lv_iadd hx hb dX4_draw_125 ?_
            refine t_i (nI (2 * j_7 + 1)) (nI_1 (2 * j_7)) ?_
            refine lv_dup2_11 hx hb dX4_draw_126 rfl rfl ?_
            refine aI hx hb hK hP 0 0 rfl rfl (2 * j_7 + 1) (rfl) (by omega) (by decide) (v := (vpa v) j_7) (ho2_1 _ _ j_7) dX4_draw_127 ?_
            refine lv_iload hx hb dX4_draw_128 (lv_at hl 0 rfl) ?_
            refine lv_isub hx hb dX4_draw_130 ?_
            refine sI_ hx hb hK hP hD hS 0 0 rfl rfl (2 * j_7 + 1) (rfl) (by omega) (by decide) (ho2 (upd (vpw v) j_7 (((vpw v) j_7) - y3)) (upd (vpa v) j_7 (((vpa v) j_7) - ((((vpa v) j_7) * y3) / ((vpw v) j_7))))) (ho2_u1 _ _ _ _) dX4_draw_131 (fun H locs hP hD hS => ?_)
            have hP : va_P D vwCl [(m5, .inl (cI, 8, .inl (ho2 (upd (vpw v) j_7 (((vpw v) j_7) - y3)) (upd (vpa v) j_7 (((vpa v) j_7) - ((((vpa v) j_7) * y3) / ((vpw v) j_7))))))), (m6, .inl (cI, 9, .inl (ke3 (vkw v) (vka v) (vkb v)))), (m0, .inr (4, [.int 0, .int (nI (vnC v)), .int (nI (vnP v)), .int (nI (vnK v)), .ref m1, .ref m2, .ref m3, .ref m4, .ref m5, .ref m6]))] _ := hP
            have hD : va_D A [(m5, .inl (cI, 8, .inl (ho2 (upd (vpw v) j_7 (((vpw v) j_7) - y3)) (upd (vpa v) j_7 (((vpa v) j_7) - ((((vpa v) j_7) * y3) / ((vpw v) j_7))))))), (m6, .inl (cI, 9, .inl (ke3 (vkw v) (vka v) (vkb v)))), (m0, .inr (4, [.int 0, .int (nI (vnC v)), .int (nI (vnP v)), .int (nI (vnK v)), .ref m1, .ref m2, .ref m3, .ref m4, .ref m5, .ref m6]))] := hD
            refine lv_aload_n hx hb dX4_draw_132 rfl (lv_at hl 3 rfl) ?_
            refine va_get (D := D) (ci := 4) (v := .ref m6) (C := RX4) (T := TX4) (N := 10) hx hb ht inG_X4 hown hK hP 2 rfl rfl 9 (by decide) (ht _ qF_RX4_25) (fun _ h9 => h9) rfl dX4_draw_133 ?_
            refine lv_iload hx hb dX4_draw_136 (lv_at hl 1 rfl) ?_
            refine lv_dup2_11 hx hb dX4_draw_138 rfl rfl ?_
            refine aI hx hb hK hP 1 0 rfl rfl (3 * j_15) (rfl) (by omega) (by decide) (v := (vkw v) j_15) (ke3_0 _ _ _ j_15) dX4_draw_139 ?_
            refine lv_iload_n hx hb dX4_draw_140 rfl (lv_at hl 6 rfl) ?_
            refine lv_iadd hx hb dX4_draw_141 ?_
            refine sI_ hx hb hK hP hD hS 1 0 rfl rfl (3 * j_15) (rfl) (by omega) (by decide) (ke3 (upd (vkw v) j_15 (((vkw v) j_15) + y3)) (vka v) (vkb v)) (ke3_u0 _ _ _ _ _) dX4_draw_142 (fun H locs hP hD hS => ?_)
            have hP : va_P D vwCl [(m5, .inl (cI, 8, .inl (ho2 (upd (vpw v) j_7 (((vpw v) j_7) - y3)) (upd (vpa v) j_7 (((vpa v) j_7) - ((((vpa v) j_7) * y3) / ((vpw v) j_7))))))), (m6, .inl (cI, 9, .inl (ke3 (upd (vkw v) j_15 (((vkw v) j_15) + y3)) (vka v) (vkb v)))), (m0, .inr (4, [.int 0, .int (nI (vnC v)), .int (nI (vnP v)), .int (nI (vnK v)), .ref m1, .ref m2, .ref m3, .ref m4, .ref m5, .ref m6]))] _ := hP
            have hD : va_D A [(m5, .inl (cI, 8, .inl (ho2 (upd (vpw v) j_7 (((vpw v) j_7) - y3)) (upd (vpa v) j_7 (((vpa v) j_7) - ((((vpa v) j_7) * y3) / ((vpw v) j_7))))))), (m6, .inl (cI, 9, .inl (ke3 (upd (vkw v) j_15 (((vkw v) j_15) + y3)) (vka v) (vkb v)))), (m0, .inr (4, [.int 0, .int (nI (vnC v)), .int (nI (vnP v)), .int (nI (vnK v)), .ref m1, .ref m2, .ref m3, .ref m4, .ref m5, .ref m6]))] := hD
            refine lv_aload_n hx hb dX4_draw_143 rfl (lv_at hl 3 rfl) ?_
            refine va_get (D := D) (ci := 4) (v := .ref m6) (C := RX4) (T := TX4) (N := 10) hx hb ht inG_X4 hown hK hP 2 rfl rfl 9 (by decide) (ht _ qF_RX4_25) (fun _ h9 => h9) rfl dX4_draw_144 ?_
            refine lv_iload hx hb dX4_draw_147 (lv_at hl 1 rfl) ?_
            refine lv_iconst (v := 1) hx hb dX4_draw_149 (by decide) ?_
            refine lv_iadd hx hb dX4_draw_150 ?_
            refine t_i (nI (3 * j_15 + 1)) (nI_1 (3 * j_15)) ?_
            refine lv_dup2_11 hx hb dX4_draw_151 rfl rfl ?_
            refine aI hx hb hK hP 1 0 rfl rfl (3 * j_15 + 1) (rfl) (by omega) (by decide) (v := (vka v) j_15) (ke3_1 _ _ _ j_15) dX4_draw_152 ?_
            refine lv_iload hx hb dX4_draw_153 (lv_at hl 0 rfl) ?_
            refine lv_iadd hx hb dX4_draw_155 ?_
            refine sI_ hx hb hK hP hD hS 1 0 rfl rfl (3 * j_15 + 1) (rfl) (by omega) (by decide) (ke3 (upd (vkw v) j_15 (((vkw v) j_15) + y3)) (upd (vka v) j_15 (((vka v) j_15) + ((((vpa v) j_7) * y3) / ((vpw v) j_7)))) (vkb v)) (ke3_u1 _ _ _ _ _) dX4_draw_156 (fun H locs hP hD hS => ?_)
            have hP : va_P D vwCl [(m5, .inl (cI, 8, .inl (ho2 (upd (vpw v) j_7 (((vpw v) j_7) - y3)) (upd (vpa v) j_7 (((vpa v) j_7) - ((((vpa v) j_7) * y3) / ((vpw v) j_7))))))), (m6, .inl (cI, 9, .inl (ke3 (upd (vkw v) j_15 (((vkw v) j_15) + y3)) (upd (vka v) j_15 (((vka v) j_15) + ((((vpa v) j_7) * y3) / ((vpw v) j_7)))) (vkb v)))), (m0, .inr (4, [.int 0, .int (nI (vnC v)), .int (nI (vnP v)), .int (nI (vnK v)), .ref m1, .ref m2, .ref m3, .ref m4, .ref m5, .ref m6]))] _ := hP
            have hD : va_D A [(m5, .inl (cI, 8, .inl (ho2 (upd (vpw v) j_7 (((vpw v) j_7) - y3)) (upd (vpa v) j_7 (((vpa v) j_7) - ((((vpa v) j_7) * y3) / ((vpw v) j_7))))))), (m6, .inl (cI, 9, .inl (ke3 (upd (vkw v) j_15 (((vkw v) j_15) + y3)) (upd (vka v) j_15 (((vka v) j_15) + ((((vpa v) j_7) * y3) / ((vpw v) j_7)))) (vkb v)))), (m0, .inr (4, [.int 0, .int (nI (vnC v)), .int (nI (vnP v)), .int (nI (vnK v)), .ref m1, .ref m2, .ref m3, .ref m4, .ref m5, .ref m6]))] := hD
            refine lv_iload hx hb dX4_draw_157 (lv_at hl 0 rfl) ?_
            exact hend _ _ _ _ _ _ ((((vpa v) j_7) * y3) / ((vpw v) j_7)) (0, mkV (vsh v) (vco v) (vbu v) (vfl v) (vnC v) (upd (vpw v) j_7 (((vpw v) j_7) - y3)) (upd (vpa v) j_7 (((vpa v) j_7) - ((((vpa v) j_7) * y3) / ((vpw v) j_7)))) (vpb v) (vnP v) (upd (vkw v) j_15 (((vkw v) j_15) + y3)) (upd (vka v) j_15 (((vka v) j_15) + ((((vpa v) j_7) * y3) / ((vpw v) j_7)))) (vkb v) (vnK v) (vday v) (vcoal v) (vbar v) (vfine v) (vcrs v) (vcoin v) (vship v) (vR v) (vS v)) dX4_draw_159 (⟨by simp (decide := true) only [kDraw, rDraw, eq_true ht_7, ix_7, eq_true ht_15, ix_15, eq_true b_3, eq_false c_4, eq_true c_4n, eq_true c_5, eq_false c_5n, if_true, if_false, eq_self], by simp (decide := true) only [kDraw, eq_true ht_7, ix_7, eq_true ht_15, ix_15, eq_true b_3, eq_false c_4, eq_true c_4n, eq_true c_5, eq_false c_5n, if_true, if_false, eq_self], by simp (decide := true) only [nDraw, kDraw, eq_true ht_7, ix_7, eq_true ht_15, ix_15, eq_true b_3, eq_false c_4, eq_true c_4n, eq_true c_5, eq_false c_5n, if_true, if_false, eq_self]⟩) (hP.sub [2, 0, 1] rfl) (hD.sub [2, 0, 1] (by decide) rfl) hS rfl (Nat.le_of_ble_eq_true rfl) (Nat.le_of_ble_eq_true rfl)
          · skip
            have c_5n := Int32.not_le.mp c_5
            refine lv_aload_n hx hb dX4_draw_80 rfl (lv_at hl 2 rfl) ?_
            refine lv_iconst (v := 3) hx hb dX4_draw_81 (by decide) ?_
            refine k_i (wr := [(m5, .inl (cI, 8, .inl (ho2 (vpw v) (vpa v)))), (m6, .inl (cI, 9, .inl (ke3 (vkw v) (vka v) (vkb v))))]) (rV (As := [.int 3]) (rest := []) F hG hK (hP.sub (ws' := [(m0, .inr (4, [.int 0, .int (nI (vnC v)), .int (nI (vnP v)), .int (nI (vnK v)), .ref m1, .ref m2, .ref m3, .ref m4, .ref m5, .ref m6]))]) [2] rfl) ((hD.sub (ws' := [(m0, .inr (4, [.int 0, .int (nI (vnC v)), .int (nI (vnP v)), .int (nI (vnK v)), .ref m1, .ref m2, .ref m3, .ref m4, .ref m5, .ref m6]))]) [2] (by decide) rfl).weaken (fun _ _ _ _ => trivial)) s_RX4_45 (c_X4_fail l D cI cZ cJ m0 m1 m2 m3 m4 m5 m6 (vnC v) (vnP v) (vnK v) 0 3 _) 4 0 rfl rfl rfl rfl hl.1 rfl (Nat.le_of_ble_eq_true rfl) dX4_draw_82 ⟨(Nat.le_of_ble_eq_true rfl), (Nat.le_of_ble_eq_true rfl)⟩ ⟨(Nat.le_of_ble_eq_true rfl), (Nat.le_of_ble_eq_true rfl)⟩) hP hD hS hA [2] [0, 1] rfl rfl (by decide) (by decide) (fun r_82 uu H locs hw hP hD hS => ?_)
            try dsimp only at hw
            subst hw
            have hP : va_P D vwCl [(m5, .inl (cI, 8, .inl (ho2 (vpw v) (vpa v)))), (m6, .inl (cI, 9, .inl (ke3 (vkw v) (vka v) (vkb v)))), (m0, .inr (4, [.int 3, .int (nI (vnC v)), .int (nI (vnP v)), .int (nI (vnK v)), .ref m1, .ref m2, .ref m3, .ref m4, .ref m5, .ref m6]))] _ := hP
            have hD : va_D A [(m5, .inl (cI, 8, .inl (ho2 (vpw v) (vpa v)))), (m6, .inl (cI, 9, .inl (ke3 (vkw v) (vka v) (vkb v)))), (m0, .inr (4, [.int 3, .int (nI (vnC v)), .int (nI (vnP v)), .int (nI (vnK v)), .ref m1, .ref m2, .ref m3, .ref m4, .ref m5, .ref m6]))] := hD
            exact hend _ _ _ _ _ _ 0 (3, mkV (vsh v) (vco v) (vbu v) (vfl v) (vnC v) (vpw v) (vpa v) (vpb v) (vnP v) (vkw v) (vka v) (vkb v) (vnK v) (vday v) (vcoal v) (vbar v) (vfine v) (vcrs v) (vcoin v) (vship v) (vR v) (vS v)) dX4_draw_85 (⟨by simp (decide := true) only [kDraw, rDraw, eq_true ht_7, ix_7, eq_true ht_15, ix_15, eq_true b_3, eq_false c_4, eq_true c_4n, eq_false c_5, eq_true c_5n, if_true, if_false, eq_self], by simp (decide := true) only [kDraw, eq_true ht_7, ix_7, eq_true ht_15, ix_15, eq_true b_3, eq_false c_4, eq_true c_4n, eq_false c_5, eq_true c_5n, if_true, if_false, eq_self], Eq.symm (show nDraw v (nI j_7) (nI j_15) y3 = v by simp (decide := true) only [nDraw, kDraw, eq_true ht_7, ix_7, eq_true ht_15, ix_15, eq_true b_3, eq_false c_4, eq_true c_4n, eq_false c_5, eq_true c_5n, if_true, if_false, eq_self])⟩) (hP.sub [2, 0, 1] rfl) (hD.sub [2, 0, 1] (by decide) rfl) hS rfl (Nat.le_of_ble_eq_true rfl) (Nat.le_of_ble_eq_true rfl)
      · skip
        refine lv_if_ne (tgt := 44) hx hb dX4_draw_35 (by decide) (fun h => absurd (by decide) h) (fun _ => ?_)
        refine lv_aload_n hx hb dX4_draw_38 rfl (lv_at hl 0 rfl) ?_
        refine lv_iconst (v := 2) hx hb dX4_draw_39 (by decide) ?_
        refine k_i (wr := [(m5, .inl (cI, 8, .inl (ho2 (vpw v) (vpa v)))), (m6, .inl (cI, 9, .inl (ke3 (vkw v) (vka v) (vkb v))))]) (rV (As := [.int 2]) (rest := []) F hG hK (hP.sub (ws' := [(m0, .inr (4, [.int 0, .int (nI (vnC v)), .int (nI (vnP v)), .int (nI (vnK v)), .ref m1, .ref m2, .ref m3, .ref m4, .ref m5, .ref m6]))]) [2] rfl) ((hD.sub (ws' := [(m0, .inr (4, [.int 0, .int (nI (vnC v)), .int (nI (vnP v)), .int (nI (vnK v)), .ref m1, .ref m2, .ref m3, .ref m4, .ref m5, .ref m6]))]) [2] (by decide) rfl).weaken (fun _ _ _ _ => trivial)) s_RX4_45 (c_X4_fail l D cI cZ cJ m0 m1 m2 m3 m4 m5 m6 (vnC v) (vnP v) (vnK v) 0 2 _) 4 0 rfl rfl rfl rfl hl.1 rfl (Nat.le_of_ble_eq_true rfl) dX4_draw_40 ⟨(Nat.le_of_ble_eq_true rfl), (Nat.le_of_ble_eq_true rfl)⟩ ⟨(Nat.le_of_ble_eq_true rfl), (Nat.le_of_ble_eq_true rfl)⟩) hP hD hS hA [2] [0, 1] rfl rfl (by decide) (by decide) (fun r_40 uu H locs hw hP hD hS => ?_)
        try dsimp only at hw
        subst hw
        have hP : va_P D vwCl [(m5, .inl (cI, 8, .inl (ho2 (vpw v) (vpa v)))), (m6, .inl (cI, 9, .inl (ke3 (vkw v) (vka v) (vkb v)))), (m0, .inr (4, [.int 2, .int (nI (vnC v)), .int (nI (vnP v)), .int (nI (vnK v)), .ref m1, .ref m2, .ref m3, .ref m4, .ref m5, .ref m6]))] _ := hP
        have hD : va_D A [(m5, .inl (cI, 8, .inl (ho2 (vpw v) (vpa v)))), (m6, .inl (cI, 9, .inl (ke3 (vkw v) (vka v) (vkb v)))), (m0, .inr (4, [.int 2, .int (nI (vnC v)), .int (nI (vnP v)), .int (nI (vnK v)), .ref m1, .ref m2, .ref m3, .ref m4, .ref m5, .ref m6]))] := hD
        exact hend _ _ _ _ _ _ 0 (2, mkV (vsh v) (vco v) (vbu v) (vfl v) (vnC v) (vpw v) (vpa v) (vpb v) (vnP v) (vkw v) (vka v) (vkb v) (vnK v) (vday v) (vcoal v) (vbar v) (vfine v) (vcrs v) (vcoin v) (vship v) (vR v) (vS v)) dX4_draw_43 (⟨by simp (decide := true) only [kDraw, rDraw, eq_true ht_7, ix_7, eq_true ht_15, ix_15, eq_false b_3, if_true, if_false, eq_self], by simp (decide := true) only [kDraw, eq_true ht_7, ix_7, eq_true ht_15, ix_15, eq_false b_3, if_true, if_false, eq_self], Eq.symm (show nDraw v (nI j_7) (nI j_15) y3 = v by simp (decide := true) only [nDraw, kDraw, eq_true ht_7, ix_7, eq_true ht_15, ix_15, eq_false b_3, if_true, if_false, eq_self])⟩) (hP.sub [2, 0, 1] rfl) (hD.sub [2, 0, 1] (by decide) rfl) hS rfl (Nat.le_of_ble_eq_true rfl) (Nat.le_of_ble_eq_true rfl)
    · skip
      refine lv_if_ne (tgt := 27) hx hb dX4_draw_18 (by decide) (fun h => absurd (by decide) h) (fun _ => ?_)
      refine lv_aload_n hx hb dX4_draw_21 rfl (lv_at hl 0 rfl) ?_
      refine lv_iconst (v := 1) hx hb dX4_draw_22 (by decide) ?_
      refine k_i (wr := [(m5, .inl (cI, 8, .inl (ho2 (vpw v) (vpa v)))), (m6, .inl (cI, 9, .inl (ke3 (vkw v) (vka v) (vkb v))))]) (rV (As := [.int 1]) (rest := []) F hG hK (hP.sub (ws' := [(m0, .inr (4, [.int 0, .int (nI (vnC v)), .int (nI (vnP v)), .int (nI (vnK v)), .ref m1, .ref m2, .ref m3, .ref m4, .ref m5, .ref m6]))]) [2] rfl) ((hD.sub (ws' := [(m0, .inr (4, [.int 0, .int (nI (vnC v)), .int (nI (vnP v)), .int (nI (vnK v)), .ref m1, .ref m2, .ref m3, .ref m4, .ref m5, .ref m6]))]) [2] (by decide) rfl).weaken (fun _ _ _ _ => trivial)) s_RX4_45 (c_X4_fail l D cI cZ cJ m0 m1 m2 m3 m4 m5 m6 (vnC v) (vnP v) (vnK v) 0 1 _) 4 0 rfl rfl rfl rfl hl.1 rfl (Nat.le_of_ble_eq_true rfl) dX4_draw_23 ⟨(Nat.le_of_ble_eq_true rfl), (Nat.le_of_ble_eq_true rfl)⟩ ⟨(Nat.le_of_ble_eq_true rfl), (Nat.le_of_ble_eq_true rfl)⟩) hP hD hS hA [2] [0, 1] rfl rfl (by decide) (by decide) (fun r_23 uu H locs hw hP hD hS => ?_)
      try dsimp only at hw
      subst hw
      have hP : va_P D vwCl [(m5, .inl (cI, 8, .inl (ho2 (vpw v) (vpa v)))), (m6, .inl (cI, 9, .inl (ke3 (vkw v) (vka v) (vkb v)))), (m0, .inr (4, [.int 1, .int (nI (vnC v)), .int (nI (vnP v)), .int (nI (vnK v)), .ref m1, .ref m2, .ref m3, .ref m4, .ref m5, .ref m6]))] _ := hP
      have hD : va_D A [(m5, .inl (cI, 8, .inl (ho2 (vpw v) (vpa v)))), (m6, .inl (cI, 9, .inl (ke3 (vkw v) (vka v) (vkb v)))), (m0, .inr (4, [.int 1, .int (nI (vnC v)), .int (nI (vnP v)), .int (nI (vnK v)), .ref m1, .ref m2, .ref m3, .ref m4, .ref m5, .ref m6]))] := hD
      exact hend _ _ _ _ _ _ 0 (1, mkV (vsh v) (vco v) (vbu v) (vfl v) (vnC v) (vpw v) (vpa v) (vpb v) (vnP v) (vkw v) (vka v) (vkb v) (vnK v) (vday v) (vcoal v) (vbar v) (vfine v) (vcrs v) (vcoin v) (vship v) (vR v) (vS v)) dX4_draw_26 (⟨by simp (decide := true) only [kDraw, rDraw, eq_true ht_7, ix_7, eq_false b_2, if_true, if_false, eq_self], by simp (decide := true) only [kDraw, eq_true ht_7, ix_7, eq_false b_2, if_true, if_false, eq_self], Eq.symm (show nDraw v (nI j_7) y2 y3 = v by simp (decide := true) only [nDraw, kDraw, eq_true ht_7, ix_7, eq_false b_2, if_true, if_false, eq_self])⟩) (hP.sub [2, 0, 1] rfl) (hD.sub [2, 0, 1] (by decide) rfl) hS rfl (Nat.le_of_ble_eq_true rfl) (Nat.le_of_ble_eq_true rfl)
  · skip
    refine lv_if_eq (tgt := 21) hx hb dX4_draw_10 (by decide) (fun _ => ?_) (fun h => absurd (by decide) h)
    refine lv_aload_n hx hb dX4_draw_21 rfl (lv_at hl 0 rfl) ?_
    refine lv_iconst (v := 1) hx hb dX4_draw_22 (by decide) ?_
    refine k_i (wr := [(m5, .inl (cI, 8, .inl (ho2 (vpw v) (vpa v)))), (m6, .inl (cI, 9, .inl (ke3 (vkw v) (vka v) (vkb v))))]) (rV (As := [.int 1]) (rest := []) F hG hK (hP.sub (ws' := [(m0, .inr (4, [.int 0, .int (nI (vnC v)), .int (nI (vnP v)), .int (nI (vnK v)), .ref m1, .ref m2, .ref m3, .ref m4, .ref m5, .ref m6]))]) [2] rfl) ((hD.sub (ws' := [(m0, .inr (4, [.int 0, .int (nI (vnC v)), .int (nI (vnP v)), .int (nI (vnK v)), .ref m1, .ref m2, .ref m3, .ref m4, .ref m5, .ref m6]))]) [2] (by decide) rfl).weaken (fun _ _ _ _ => trivial)) s_RX4_45 (c_X4_fail l D cI cZ cJ m0 m1 m2 m3 m4 m5 m6 (vnC v) (vnP v) (vnK v) 0 1 _) 4 0 rfl rfl rfl rfl hl.1 rfl (Nat.le_of_ble_eq_true rfl) dX4_draw_23 ⟨(Nat.le_of_ble_eq_true rfl), (Nat.le_of_ble_eq_true rfl)⟩ ⟨(Nat.le_of_ble_eq_true rfl), (Nat.le_of_ble_eq_true rfl)⟩) hP hD hS hA [2] [0, 1] rfl rfl (by decide) (by decide) (fun r_23 uu H locs hw hP hD hS => ?_)
    try dsimp only at hw
    subst hw
    have hP : va_P D vwCl [(m5, .inl (cI, 8, .inl (ho2 (vpw v) (vpa v)))), (m6, .inl (cI, 9, .inl (ke3 (vkw v) (vka v) (vkb v)))), (m0, .inr (4, [.int 1, .int (nI (vnC v)), .int (nI (vnP v)), .int (nI (vnK v)), .ref m1, .ref m2, .ref m3, .ref m4, .ref m5, .ref m6]))] _ := hP
    have hD : va_D A [(m5, .inl (cI, 8, .inl (ho2 (vpw v) (vpa v)))), (m6, .inl (cI, 9, .inl (ke3 (vkw v) (vka v) (vkb v)))), (m0, .inr (4, [.int 1, .int (nI (vnC v)), .int (nI (vnP v)), .int (nI (vnK v)), .ref m1, .ref m2, .ref m3, .ref m4, .ref m5, .ref m6]))] := hD
    exact hend _ _ _ _ _ _ 0 (1, mkV (vsh v) (vco v) (vbu v) (vfl v) (vnC v) (vpw v) (vpa v) (vpb v) (vnP v) (vkw v) (vka v) (vkb v) (vnK v) (vday v) (vcoal v) (vbar v) (vfine v) (vcrs v) (vcoin v) (vship v) (vR v) (vS v)) dX4_draw_26 (⟨by simp (decide := true) only [kDraw, rDraw, eq_false b_1, if_true, if_false, eq_self], by simp (decide := true) only [kDraw, eq_false b_1, if_true, if_false, eq_self], Eq.symm (show nDraw v y1 y2 y3 = v by simp (decide := true) only [nDraw, kDraw, eq_false b_1, if_true, if_false, eq_self])⟩) (hP.sub [2, 0, 1] rfl) (hD.sub [2, 0, 1] (by decide) rfl) hS rfl (Nat.le_of_ble_eq_true rfl) (Nat.le_of_ble_eq_true rfl)

def rm_X4_boil : Room := { frames := 2, cells := 0, slots := 0, locals := 43 }
set_option maxHeartbeats 4000000 in
set_option maxRecDepth 100000 in
theorem c_X4_boil (l : Launch) (D : va_G) (cI cZ cJ : ClassId) (m0 m1 m2 m3 m4 m5 m6 : Nat) (th : Int32) (v : VT) (y1 : Int32) (hI : IS v) : Mi l yX4_boil cX4_boil 2 (some .boolean) rm_X4_boil D (TY cI cZ cJ) [.ref m0, .int y1] [(m0, .inr (4, [.int th, .int (nI (vnC v)), .int (nI (vnP v)), .int (nI (vnK v)), .ref m1, .ref m2, .ref m3, .ref m4, .ref m5, .ref m6])), (m6, .inl (cI, 9, .inl (ke3 (vkw v) (vka v) (vkb v))))] (fun (r : Int32) (u : Int32 × VT) => r = (if kBoil v y1 = 0 then rBoil v y1 else 0) ∧ u.1 = kBoil v y1 ∧ u.2 = nBoil v y1) (fun (u : Int32 × VT) => [(m0, .inr (4, [.int u.1, .int (nI (vnC u.2)), .int (nI (vnP u.2)), .int (nI (vnK u.2)), .ref m1, .ref m2, .ref m3, .ref m4, .ref m5, .ref m6])), (m6, .inl (cI, 9, .inl (ke3 (vkw u.2) (vka u.2) (vkb u.2))))]) := by
  refine Mi.ofQ (by decide) (Nat.le_of_ble_eq_true rfl) ?_
  intro p e s m args below meth c A ls Q hF hK hP hD hA hl hend
  obtain ⟨F, hr, hlocks, hG⟩ := hF
  have hx := F.1
  have hb := F.2.1
  have hown := F.2.2.2.1
  have ht := F.2.2.2.2
  have hS : va_S A s.heap s.heap [] := va_S.rf
  have hl : lv_has ls 2 [(0, .ref m0), (1, .int y1)] := hl
  obtain ⟨hC4, hP4, hK3, hAH, hf1, hf2, hf3, hdy⟩ := hI
  refine lv_aload_n hx hb dX4_boil_0 rfl (lv_at hl 0 rfl) ?_
  refine lv_aload_n hx hb dX4_boil_1 rfl (lv_at hl 0 rfl) ?_
  refine lv_iload_n hx hb dX4_boil_2 rfl (lv_at hl 1 rfl) ?_
  refine k_i (wr := [(m6, .inl (cI, 9, .inl (ke3 (vkw v) (vka v) (vkb v))))]) (rV (As := [.int y1]) (rest := [.ref m0]) F hG hK (hP.sub (ws' := [(m0, .inr (4, [.int th, .int (nI (vnC v)), .int (nI (vnP v)), .int (nI (vnK v)), .ref m1, .ref m2, .ref m3, .ref m4, .ref m5, .ref m6]))]) [0] rfl) ((hD.sub (ws' := [(m0, .inr (4, [.int th, .int (nI (vnC v)), .int (nI (vnP v)), .int (nI (vnK v)), .ref m1, .ref m2, .ref m3, .ref m4, .ref m5, .ref m6]))]) [0] (by decide) rfl).weaken (fun _ _ _ _ => trivial)) s_RX4_62 (c_X4_isPan l D cI cZ cJ m0 m1 m2 m3 m4 m5 m6 (vnC v) (vnP v) (vnK v) th y1 (by first | assumption | omega) _) 4 0 rfl rfl rfl rfl hl.1 rfl (Nat.le_of_ble_eq_true rfl) dX4_boil_3 ⟨(Nat.le_of_ble_eq_true rfl), (Nat.le_of_ble_eq_true rfl)⟩ ⟨(Nat.le_of_ble_eq_true rfl), (Nat.le_of_ble_eq_true rfl)⟩) hP hD hS hA [0] [1] rfl rfl (by decide) (by decide) (fun r_3 uu H locs hw hP hD hS => ?_)
  try dsimp only at hw
  have hP : va_P D vwCl [(m6, .inl (cI, 9, .inl (ke3 (vkw v) (vka v) (vkb v)))), (m0, .inr (4, [.int th, .int (nI (vnC v)), .int (nI (vnP v)), .int (nI (vnK v)), .ref m1, .ref m2, .ref m3, .ref m4, .ref m5, .ref m6]))] _ := hP
  have hD : va_D A [(m6, .inl (cI, 9, .inl (ke3 (vkw v) (vka v) (vkb v)))), (m0, .inr (4, [.int th, .int (nI (vnC v)), .int (nI (vnP v)), .int (nI (vnK v)), .ref m1, .ref m2, .ref m3, .ref m4, .ref m5, .ref m6]))] := hD
  rcases hw with ⟨rfl, b_1⟩ | ⟨rfl, b_1⟩
  · skip
    obtain ⟨j_3, hj_3, rfl⟩ := b_1
    have ht_3 := hasT (n := (vnK v)) (by omega) hj_3
    have ix_3 : ix (nI j_3) = j_3 := ix_nI (by omega)
    have hP : va_P D vwCl [(m6, .inl (cI, 9, .inl (ke3 (vkw v) (vka v) (vkb v)))), (m0, .inr (4, [.int th, .int (nI (vnC v)), .int (nI (vnP v)), .int (nI (vnK v)), .ref m1, .ref m2, .ref m3, .ref m4, .ref m5, .ref m6]))] _ := hP
    have hD : va_D A [(m6, .inl (cI, 9, .inl (ke3 (vkw v) (vka v) (vkb v)))), (m0, .inr (4, [.int th, .int (nI (vnC v)), .int (nI (vnP v)), .int (nI (vnK v)), .ref m1, .ref m2, .ref m3, .ref m4, .ref m5, .ref m6]))] := hD
    have hl : lv_has ls 2 [(0, .ref m0), (1, .int (nI j_3))] := hl
    refine lv_if_eq (tgt := 13) hx hb dX4_boil_6 (by decide) (fun h => absurd h (by decide)) (fun _ => ?_)
    refine lv_iconst (v := 0) hx hb dX4_boil_9 (by decide) ?_
    refine lv_goto (tgt := 14) hx hb dX4_boil_10 (by decide) ?_
    refine va_put (D := D) (ci := 4) (v := .int 0) (C := RX4) (T := TX4) (N := 10) hx hb ht inG_X4 tyX4 tyX4_ok nmX4 hown hK hP hD hS 1 rfl rfl 0 (by decide) (ht _ qF_RX4_28) (fun _ h9 => h9) rfl (tyX4_ok 0 (by decide)) rfl rfl (Nat.le_of_ble_eq_true rfl) dX4_boil_14 (fun H locs hP hD hS => ?_)
    have hP : va_P D vwCl [(m6, .inl (cI, 9, .inl (ke3 (vkw v) (vka v) (vkb v)))), (m0, .inr (4, [.int 0, .int (nI (vnC v)), .int (nI (vnP v)), .int (nI (vnK v)), .ref m1, .ref m2, .ref m3, .ref m4, .ref m5, .ref m6]))] _ := hP
    have hD : va_D A [(m6, .inl (cI, 9, .inl (ke3 (vkw v) (vka v) (vkb v)))), (m0, .inr (4, [.int 0, .int (nI (vnC v)), .int (nI (vnP v)), .int (nI (vnK v)), .ref m1, .ref m2, .ref m3, .ref m4, .ref m5, .ref m6]))] := hD
    refine lv_aload_n hx hb dX4_boil_17 rfl (lv_at hl 0 rfl) ?_
    refine va_get (D := D) (ci := 4) (v := .int 0) (C := RX4) (T := TX4) (N := 10) hx hb ht inG_X4 hown hK hP 1 rfl rfl 0 (by decide) (ht _ qF_RX4_28) (fun _ h9 => h9) rfl dX4_boil_18 ?_
    refine lv_if_eq (tgt := 26) hx hb dX4_boil_21 (by decide) (fun _ => ?_) (fun h => absurd (by decide) h)
    refine lv_aload_n hx hb dX4_boil_26 rfl (lv_at hl 0 rfl) ?_
    refine va_get (D := D) (ci := 4) (v := .ref m6) (C := RX4) (T := TX4) (N := 10) hx hb ht inG_X4 hown hK hP 1 rfl rfl 9 (by decide) (ht _ qF_RX4_25) (fun _ h9 => h9) rfl dX4_boil_27 ?_
    refine lv_iconst (v := 3) hx hb dX4_boil_30 (by decide) ?_
    refine lv_iload_n hx hb dX4_boil_31 rfl (lv_at hl 1 rfl) ?_
    refine lv_imul hx hb dX4_boil_32 ?_
    refine t_i (nI (3 * j_3)) (pk_mul 3 j_3) ?_
    refine lv_iconst (v := 2) hx hb dX4_boil_33 (by decide) ?_
    refine lv_iadd hx hb dX4_boil_34 ?_
    refine t_i (nI (3 * j_3 + 2)) (nI_add (3 * j_3) 2) ?_
    refine lv_iconst (v := 1) hx hb dX4_boil_35 (by decide) ?_
    refine lv_aload_n hx hb dX4_boil_36 rfl (lv_at hl 0 rfl) ?_
    refine va_get (D := D) (ci := 4) (v := .ref m6) (C := RX4) (T := TX4) (N := 10) hx hb ht inG_X4 hown hK hP 1 rfl rfl 9 (by decide) (ht _ qF_RX4_25) (fun _ h9 => h9) rfl dX4_boil_37 ?_
    refine lv_iconst (v := 3) hx hb dX4_boil_40 (by decide) ?_
    refine lv_iload_n hx hb dX4_boil_41 rfl (lv_at hl 1 rfl) ?_
    refine lv_imul hx hb dX4_boil_42 ?_
    refine t_i (nI (3 * j_3)) (pk_mul 3 j_3) ?_
    refine lv_iconst (v := 2) hx hb dX4_boil_43 (by decide) ?_
    refine lv_iadd hx hb dX4_boil_44 ?_
    refine t_i (nI (3 * j_3 + 2)) (nI_add (3 * j_3) 2) ?_
    refine aI hx hb hK hP 0 0 rfl rfl (3 * j_3 + 2) (rfl) (by omega) (by decide) (v := (vkb v) j_3) (ke3_2 _ _ _ j_3) dX4_boil_45 ?_
    refine lv_isub hx hb dX4_boil_46 ?_
    refine t_i (tog (vkb v j_3)) (one_tog (hf3 _)) ?_
    refine sI_ hx hb hK hP hD hS 0 0 rfl rfl (3 * j_3 + 2) (rfl) (by omega) (by decide) (ke3 (vkw v) (vka v) (upd (vkb v) j_3 (tog (vkb v j_3)))) (ke3_u2 _ _ _ _ _) dX4_boil_47 (fun H locs hP hD hS => ?_)
    have hP : va_P D vwCl [(m6, .inl (cI, 9, .inl (ke3 (vkw v) (vka v) (upd (vkb v) j_3 (tog (vkb v j_3)))))), (m0, .inr (4, [.int 0, .int (nI (vnC v)), .int (nI (vnP v)), .int (nI (vnK v)), .ref m1, .ref m2, .ref m3, .ref m4, .ref m5, .ref m6]))] _ := hP
    have hD : va_D A [(m6, .inl (cI, 9, .inl (ke3 (vkw v) (vka v) (upd (vkb v) j_3 (tog (vkb v j_3)))))), (m0, .inr (4, [.int 0, .int (nI (vnC v)), .int (nI (vnP v)), .int (nI (vnK v)), .ref m1, .ref m2, .ref m3, .ref m4, .ref m5, .ref m6]))] := hD
    refine lv_aload_n hx hb dX4_boil_48 rfl (lv_at hl 0 rfl) ?_
    refine va_get (D := D) (ci := 4) (v := .ref m6) (C := RX4) (T := TX4) (N := 10) hx hb ht inG_X4 hown hK hP 1 rfl rfl 9 (by decide) (ht _ qF_RX4_25) (fun _ h9 => h9) rfl dX4_boil_49 ?_
    refine lv_iconst (v := 3) hx hb dX4_boil_52 (by decide) ?_
    refine lv_iload_n hx hb dX4_boil_53 rfl (lv_at hl 1 rfl) ?_
    refine lv_imul hx hb dX4_boil_54 ?_
    refine t_i (nI (3 * j_3)) (pk_mul 3 j_3) ?_
    refine lv_iconst (v := 2) hx hb dX4_boil_55 (by decide) ?_
    refine lv_iadd hx hb dX4_boil_56 ?_
    refine t_i (nI (3 * j_3 + 2)) (nI_add (3 * j_3) 2) ?_
    refine aI hx hb hK hP 0 0 rfl rfl (3 * j_3 + 2) (rfl) (by omega) (by decide) (v := tog (vkb v j_3)) ((ke3_2 _ _ _ j_3).trans pk_us) dX4_boil_57 ?_
    refine lv_iconst (v := 1) hx hb dX4_boil_58 (by decide) ?_
    refine lv_icmp_ne (tgt := 66) hx hb dX4_boil_59 (by decide) (fun c_2 => ?_) (fun c_2 => ?_)
    · skip
      refine lv_iconst (v := 0) hx hb dX4_boil_66 (by decide) ?_
      exact hend _ _ _ _ _ _ 0 (0, mkV (vsh v) (vco v) (vbu v) (vfl v) (vnC v) (vpw v) (vpa v) (vpb v) (vnP v) (vkw v) (vka v) (upd (vkb v) j_3 (tog (vkb v j_3))) (vnK v) (vday v) (vcoal v) (vbar v) (vfine v) (vcrs v) (vcoin v) (vship v) (vR v) (vS v)) dX4_boil_67 (⟨by simp (decide := true) only [kBoil, rBoil, ht_3, ix_3, if_true, if_false, eq_self]; exact (tog_n1 c_2).symm, by simp (decide := true) only [kBoil, eq_true ht_3, ix_3, eq_false c_2, if_true, if_false, eq_self], by simp (decide := true) only [nBoil, kBoil, eq_true ht_3, ix_3, eq_false c_2, if_true, if_false, eq_self]⟩) (hP.sub [1, 0] rfl) (hD.sub [1, 0] (by decide) rfl) hS (by decide) (Nat.le_of_ble_eq_true rfl) (Nat.le_of_ble_eq_true rfl)
    · skip
      refine lv_iconst (v := 1) hx hb dX4_boil_62 (by decide) ?_
      refine lv_goto (tgt := 67) hx hb dX4_boil_63 (by decide) ?_
      exact hend _ _ _ _ _ _ 1 (0, mkV (vsh v) (vco v) (vbu v) (vfl v) (vnC v) (vpw v) (vpa v) (vpb v) (vnP v) (vkw v) (vka v) (upd (vkb v) j_3 (tog (vkb v j_3))) (vnK v) (vday v) (vcoal v) (vbar v) (vfine v) (vcrs v) (vcoin v) (vship v) (vR v) (vS v)) dX4_boil_67 (⟨by simp (decide := true) only [kBoil, rBoil, ht_3, ix_3, if_true, if_false, eq_self]; exact (id c_2).symm, by simp (decide := true) only [kBoil, eq_true ht_3, ix_3, eq_true c_2, if_true, if_false, eq_self], by simp (decide := true) only [nBoil, kBoil, eq_true ht_3, ix_3, eq_true c_2, if_true, if_false, eq_self]⟩) (hP.sub [1, 0] rfl) (hD.sub [1, 0] (by decide) rfl) hS (by decide) (Nat.le_of_ble_eq_true rfl) (Nat.le_of_ble_eq_true rfl)
  · skip
    refine lv_if_eq (tgt := 13) hx hb dX4_boil_6 (by decide) (fun _ => ?_) (fun h => absurd (by decide) h)
    refine lv_iconst (v := 1) hx hb dX4_boil_13 (by decide) ?_
    refine va_put (D := D) (ci := 4) (v := .int 1) (C := RX4) (T := TX4) (N := 10) hx hb ht inG_X4 tyX4 tyX4_ok nmX4 hown hK hP hD hS 1 rfl rfl 0 (by decide) (ht _ qF_RX4_28) (fun _ h9 => h9) rfl (tyX4_ok 0 (by decide)) rfl rfl (Nat.le_of_ble_eq_true rfl) dX4_boil_14 (fun H locs hP hD hS => ?_)
    have hP : va_P D vwCl [(m6, .inl (cI, 9, .inl (ke3 (vkw v) (vka v) (vkb v)))), (m0, .inr (4, [.int 1, .int (nI (vnC v)), .int (nI (vnP v)), .int (nI (vnK v)), .ref m1, .ref m2, .ref m3, .ref m4, .ref m5, .ref m6]))] _ := hP
    have hD : va_D A [(m6, .inl (cI, 9, .inl (ke3 (vkw v) (vka v) (vkb v)))), (m0, .inr (4, [.int 1, .int (nI (vnC v)), .int (nI (vnP v)), .int (nI (vnK v)), .ref m1, .ref m2, .ref m3, .ref m4, .ref m5, .ref m6]))] := hD
    refine lv_aload_n hx hb dX4_boil_17 rfl (lv_at hl 0 rfl) ?_
    refine va_get (D := D) (ci := 4) (v := .int 1) (C := RX4) (T := TX4) (N := 10) hx hb ht inG_X4 hown hK hP 1 rfl rfl 0 (by decide) (ht _ qF_RX4_28) (fun _ h9 => h9) rfl dX4_boil_18 ?_
    refine lv_if_eq (tgt := 26) hx hb dX4_boil_21 (by decide) (fun h => absurd h (by decide)) (fun _ => ?_)
    refine lv_iconst (v := 0) hx hb dX4_boil_24 (by decide) ?_
    exact hend _ _ _ _ _ _ 0 (1, mkV (vsh v) (vco v) (vbu v) (vfl v) (vnC v) (vpw v) (vpa v) (vpb v) (vnP v) (vkw v) (vka v) (vkb v) (vnK v) (vday v) (vcoal v) (vbar v) (vfine v) (vcrs v) (vcoin v) (vship v) (vR v) (vS v)) dX4_boil_25 (⟨by simp (decide := true) only [kBoil, rBoil, eq_false b_1, if_true, if_false, eq_self], by simp (decide := true) only [kBoil, eq_false b_1, if_true, if_false, eq_self], Eq.symm (show nBoil v y1 = v by simp (decide := true) only [nBoil, kBoil, eq_false b_1, if_true, if_false, eq_self])⟩) (hP.sub [1, 0] rfl) (hD.sub [1, 0] (by decide) rfl) hS (by decide) (Nat.le_of_ble_eq_true rfl) (Nat.le_of_ble_eq_true rfl)

def rm_X4_panEgg : Room := { frames := 1, cells := 0, slots := 0, locals := 21 }
set_option maxHeartbeats 4000000 in
set_option maxRecDepth 100000 in
theorem c_X4_panEgg (l : Launch) (D : va_G) (cI cZ cJ : ClassId) (m0 m1 m2 m3 m4 m5 m6 : Nat) (th : Int32) (v : VT) (k : Nat) (hk : k < 3) (h0 : 0 ≤ vkw v k + vka v k) : Mi l yX4_panEgg cX4_panEgg 2 (some .int) rm_X4_panEgg D (TY cI cZ cJ) [.ref m0, .int (nI k)] [(m0, .inr (4, [.int th, .int (nI (vnC v)), .int (nI (vnP v)), .int (nI (vnK v)), .ref m1, .ref m2, .ref m3, .ref m4, .ref m5, .ref m6])), (m6, .inl (cI, 9, .inl (ke3 (vkw v) (vka v) (vkb v))))] (fun (r : Int32) (u : Unit) => r = eggB (strg (vkw v k) (vka v k))) (fun (u : Unit) => [(m0, .inr (4, [.int th, .int (nI (vnC v)), .int (nI (vnP v)), .int (nI (vnK v)), .ref m1, .ref m2, .ref m3, .ref m4, .ref m5, .ref m6])), (m6, .inl (cI, 9, .inl (ke3 (vkw v) (vka v) (vkb v))))]) := by
  refine Mi.ofQ (by decide) (Nat.le_of_ble_eq_true rfl) ?_
  intro p e s m args below meth c A ls Q hF hK hP hD hA hl hend
  obtain ⟨F, hr, hlocks, hG⟩ := hF
  have hx := F.1
  have hb := F.2.1
  have hown := F.2.2.2.1
  have ht := F.2.2.2.2
  have hS : va_S A s.heap s.heap [] := va_S.rf
  have hl : lv_has ls 2 [(0, .ref m0), (1, .int (nI k))] := hl
  refine lv_aload_n hx hb dX4_panEgg_0 rfl (lv_at hl 0 rfl) ?_
  refine va_get (D := D) (ci := 4) (v := .ref m6) (C := RX4) (T := TX4) (N := 10) hx hb ht inG_X4 hown hK hP 0 rfl rfl 9 (by decide) (ht _ qF_RX4_25) (fun _ h9 => h9) rfl dX4_panEgg_1 ?_
  refine lv_iconst (v := 3) hx hb dX4_panEgg_4 (by decide) ?_
  refine lv_iload_n hx hb dX4_panEgg_5 rfl (lv_at hl 1 rfl) ?_
  refine lv_imul hx hb dX4_panEgg_6 ?_
  refine t_i (nI (3 * k)) (pk_mul 3 k) ?_
  refine aI hx hb hK hP 1 0 rfl rfl (3 * k) (rfl) (by omega) (by decide) (v := (vkw v) k) (ke3_0 _ _ _ k) dX4_panEgg_7 ?_
  refine lv_aload_n hx hb dX4_panEgg_8 rfl (lv_at hl 0 rfl) ?_
  refine va_get (D := D) (ci := 4) (v := .ref m6) (C := RX4) (T := TX4) (N := 10) hx hb ht inG_X4 hown hK hP 0 rfl rfl 9 (by decide) (ht _ qF_RX4_25) (fun _ h9 => h9) rfl dX4_panEgg_9 ?_
  refine lv_iconst (v := 3) hx hb dX4_panEgg_12 (by decide) ?_
  refine lv_iload_n hx hb dX4_panEgg_13 rfl (lv_at hl 1 rfl) ?_
  refine lv_imul hx hb dX4_panEgg_14 ?_
  refine t_i (nI (3 * k)) (pk_mul 3 k) ?_
  refine lv_iconst (v := 1) hx hb dX4_panEgg_15 (by decide) ?_
  refine lv_iadd hx hb dX4_panEgg_16 ?_
  refine t_i (nI (3 * k + 1)) (nI_1 (3 * k)) ?_
  refine aI hx hb hK hP 1 0 rfl rfl (3 * k + 1) (rfl) (by omega) (by decide) (v := (vka v) k) (ke3_1 _ _ _ k) dX4_panEgg_17 ?_
  refine k_i (wr := [(m0, .inr (4, [.int th, .int (nI (vnC v)), .int (nI (vnP v)), .int (nI (vnK v)), .ref m1, .ref m2, .ref m3, .ref m4, .ref m5, .ref m6])), (m6, .inl (cI, 9, .inl (ke3 (vkw v) (vka v) (vkb v))))]) (rS (As := [.int ((vkw v) k), .int ((vka v) k)]) (rest := []) F hG hK (hP.sub (ws' := []) [] rfl) ((hD.sub (ws' := []) [] (by decide) rfl).weaken (fun _ _ _ _ => trivial)) s_RX4_65 (c_X4_strength l D cI cZ cJ ((vkw v) k) ((vka v) k) h0 _) rfl hl.1 rfl (Nat.le_of_ble_eq_true rfl) dX4_panEgg_18 ⟨(Nat.le_of_ble_eq_true rfl), (Nat.le_of_ble_eq_true rfl)⟩ ⟨(Nat.le_of_ble_eq_true rfl), (Nat.le_of_ble_eq_true rfl)⟩) hP hD hS hA [] [0, 1] rfl rfl (by decide) (by decide) (fun r_18 uu H locs hw hP hD hS => ?_)
  try dsimp only at hw
  subst hw
  have hP : va_P D vwCl [(m0, .inr (4, [.int th, .int (nI (vnC v)), .int (nI (vnP v)), .int (nI (vnK v)), .ref m1, .ref m2, .ref m3, .ref m4, .ref m5, .ref m6])), (m6, .inl (cI, 9, .inl (ke3 (vkw v) (vka v) (vkb v))))] _ := hP
  have hD : va_D A [(m0, .inr (4, [.int th, .int (nI (vnC v)), .int (nI (vnP v)), .int (nI (vnK v)), .ref m1, .ref m2, .ref m3, .ref m4, .ref m5, .ref m6])), (m6, .inl (cI, 9, .inl (ke3 (vkw v) (vka v) (vkb v))))] := hD
  refine k_i (wr := [(m0, .inr (4, [.int th, .int (nI (vnC v)), .int (nI (vnP v)), .int (nI (vnK v)), .ref m1, .ref m2, .ref m3, .ref m4, .ref m5, .ref m6])), (m6, .inl (cI, 9, .inl (ke3 (vkw v) (vka v) (vkb v))))]) (rS (As := [.int (strg ((vkw v) k) ((vka v) k))]) (rest := []) F hG hK (hP.sub (ws' := []) [] rfl) ((hD.sub (ws' := []) [] (by decide) rfl).weaken (fun _ _ _ _ => trivial)) s_RX4_68 (c_X4_egg l D cI cZ cJ (strg ((vkw v) k) ((vka v) k)) _) rfl hl.1 rfl (Nat.le_of_ble_eq_true rfl) dX4_panEgg_21 ⟨(Nat.le_of_ble_eq_true rfl), (Nat.le_of_ble_eq_true rfl)⟩ ⟨(Nat.le_of_ble_eq_true rfl), (Nat.le_of_ble_eq_true rfl)⟩) hP hD hS hA [] [0, 1] rfl rfl (by decide) (by decide) (fun r_21 uu H locs hw hP hD hS => ?_)
  try dsimp only at hw
  subst hw
  have hP : va_P D vwCl [(m0, .inr (4, [.int th, .int (nI (vnC v)), .int (nI (vnP v)), .int (nI (vnK v)), .ref m1, .ref m2, .ref m3, .ref m4, .ref m5, .ref m6])), (m6, .inl (cI, 9, .inl (ke3 (vkw v) (vka v) (vkb v))))] _ := hP
  have hD : va_D A [(m0, .inr (4, [.int th, .int (nI (vnC v)), .int (nI (vnP v)), .int (nI (vnK v)), .ref m1, .ref m2, .ref m3, .ref m4, .ref m5, .ref m6])), (m6, .inl (cI, 9, .inl (ke3 (vkw v) (vka v) (vkb v))))] := hD
  exact hend _ _ _ _ _ _ (eggB (strg ((vkw v) k) ((vka v) k))) () dX4_panEgg_24 (rfl) hP hD hS rfl (Nat.le_of_ble_eq_true rfl) (Nat.le_of_ble_eq_true rfl)

def rm_X4_comes : Room := { frames := 2, cells := 0, slots := 0, locals := 42 }
set_option maxHeartbeats 4000000 in
set_option maxRecDepth 100000 in
theorem c_X4_comes (l : Launch) (D : va_G) (cI cZ cJ : ClassId) (m0 m1 m2 m3 m4 m5 m6 : Nat) (th : Int32) (v : VT) (k : Nat) (x : Int32) (hk : k < 3) (h0 : 0 ≤ vkw v k + vka v k) : Mi l yX4_comes cX4_comes 4 (some .int) rm_X4_comes D (TY cI cZ cJ) [.ref m0, .int (nI k), .int x] [(m0, .inr (4, [.int th, .int (nI (vnC v)), .int (nI (vnP v)), .int (nI (vnK v)), .ref m1, .ref m2, .ref m3, .ref m4, .ref m5, .ref m6])), (m6, .inl (cI, 9, .inl (ke3 (vkw v) (vka v) (vkb v))))] (fun (r : Int32) (u : Unit) => r = crys (vkw v k) (vka v k) x) (fun (u : Unit) => [(m0, .inr (4, [.int th, .int (nI (vnC v)), .int (nI (vnP v)), .int (nI (vnK v)), .ref m1, .ref m2, .ref m3, .ref m4, .ref m5, .ref m6])), (m6, .inl (cI, 9, .inl (ke3 (vkw v) (vka v) (vkb v))))]) := by
  refine Mi.ofQ (by decide) (Nat.le_of_ble_eq_true rfl) ?_
  intro p e s m args below meth c A ls Q hF hK hP hD hA hl hend
  obtain ⟨F, hr, hlocks, hG⟩ := hF
  have hx := F.1
  have hb := F.2.1
  have hown := F.2.2.2.1
  have ht := F.2.2.2.2
  have hS : va_S A s.heap s.heap [] := va_S.rf
  have hl : lv_has ls 4 [(0, .ref m0), (1, .int (nI k)), (2, .int x)] := hl
  refine lv_aload_n hx hb dX4_comes_0 rfl (lv_at hl 0 rfl) ?_
  refine lv_iload_n hx hb dX4_comes_1 rfl (lv_at hl 1 rfl) ?_
  refine k_i (wr := []) (rV (As := [.int (nI k)]) (rest := []) F hG hK (hP.sub (ws' := [(m0, .inr (4, [.int th, .int (nI (vnC v)), .int (nI (vnP v)), .int (nI (vnK v)), .ref m1, .ref m2, .ref m3, .ref m4, .ref m5, .ref m6])), (m6, .inl (cI, 9, .inl (ke3 (vkw v) (vka v) (vkb v))))]) [0, 1] rfl) ((hD.sub (ws' := [(m0, .inr (4, [.int th, .int (nI (vnC v)), .int (nI (vnP v)), .int (nI (vnK v)), .ref m1, .ref m2, .ref m3, .ref m4, .ref m5, .ref m6])), (m6, .inl (cI, 9, .inl (ke3 (vkw v) (vka v) (vkb v))))]) [0, 1] (by decide) rfl).weaken (fun _ _ _ _ => trivial)) s_RX4_71 (c_X4_panEgg l D cI cZ cJ m0 m1 m2 m3 m4 m5 m6 th v k (by first | assumption | omega) h0 _) 4 0 rfl rfl rfl rfl hl.1 rfl (Nat.le_of_ble_eq_true rfl) dX4_comes_2 ⟨(Nat.le_of_ble_eq_true rfl), (Nat.le_of_ble_eq_true rfl)⟩ ⟨(Nat.le_of_ble_eq_true rfl), (Nat.le_of_ble_eq_true rfl)⟩) hP hD hS hA [0, 1] [] rfl rfl (by decide) (by decide) (fun r_2 uu H locs hw hP hD hS => ?_)
  try dsimp only at hw
  subst hw
  have hP : va_P D vwCl [(m0, .inr (4, [.int th, .int (nI (vnC v)), .int (nI (vnP v)), .int (nI (vnK v)), .ref m1, .ref m2, .ref m3, .ref m4, .ref m5, .ref m6])), (m6, .inl (cI, 9, .inl (ke3 (vkw v) (vka v) (vkb v))))] _ := hP
  have hD : va_D A [(m0, .inr (4, [.int th, .int (nI (vnC v)), .int (nI (vnP v)), .int (nI (vnK v)), .ref m1, .ref m2, .ref m3, .ref m4, .ref m5, .ref m6])), (m6, .inl (cI, 9, .inl (ke3 (vkw v) (vka v) (vkb v))))] := hD
  refine lv_istore_n (lv' := [(3, .int (eggB (strg (vkw v k) (vka v k)))), (0, .ref m0), (1, .int (nI k)), (2, .int x)]) hx hb dX4_comes_5 rfl hl (by decide) rfl (fun ls hl => ?_)
  refine lv_aload_n hx hb dX4_comes_6 rfl (lv_at hl 1 rfl) ?_
  refine va_get (D := D) (ci := 4) (v := .ref m6) (C := RX4) (T := TX4) (N := 10) hx hb ht inG_X4 hown hK hP 0 rfl rfl 9 (by decide) (ht _ qF_RX4_25) (fun _ h9 => h9) rfl dX4_comes_7 ?_
  refine lv_iconst (v := 3) hx hb dX4_comes_10 (by decide) ?_
  refine lv_iload_n hx hb dX4_comes_11 rfl (lv_at hl 2 rfl) ?_
  refine lv_imul hx hb dX4_comes_12 ?_
  refine t_i (nI (3 * k)) (pk_mul 3 k) ?_
  refine lv_iconst (v := 1) hx hb dX4_comes_13 (by decide) ?_
  refine lv_iadd hx hb dX4_comes_14 ?_
  refine t_i (nI (3 * k + 1)) (nI_1 (3 * k)) ?_
  refine aI hx hb hK hP 1 0 rfl rfl (3 * k + 1) (rfl) (by omega) (by decide) (v := (vka v) k) (ke3_1 _ _ _ k) dX4_comes_15 ?_
  refine lv_iload_n hx hb dX4_comes_16 rfl (lv_at hl 3 rfl) ?_
  refine lv_iload_n hx hb dX4_comes_17 rfl (lv_at hl 0 rfl) ?_
  refine lv_if_ne (tgt := 25) hx hb dX4_comes_18 (by decide) (fun c_1 => ?_) (fun c_1 => ?_)
  · skip
    refine lv_iload_n hx hb dX4_comes_25 rfl (lv_at hl 0 rfl) ?_
    refine lv_iconst (v := 1) hx hb dX4_comes_26 (by decide) ?_
    refine lv_icmp_ne (tgt := 34) hx hb dX4_comes_27 (by decide) (fun c_2 => ?_) (fun c_2 => ?_)
    · skip
      refine lv_iconst (v := 3) hx hb dX4_comes_34 (by decide) ?_
      refine lv_imul hx hb dX4_comes_35 ?_
      refine k_min F qM_RX4_49 hl.1 (Nat.le_of_ble_eq_true rfl) (Nat.le_of_ble_eq_true rfl) (Nat.le_of_ble_eq_true rfl) (Nat.le_of_ble_eq_true rfl) dX4_comes_36 ?_
      exact hend _ _ _ _ _ _ (mn ((vka v) k) (x * 3)) () dX4_comes_39 (by simp (decide := true) only [crys, cby, eq_false c_1, eq_false c_2, if_true, if_false]; rw [Int32.mul_comm]) hP hD hS rfl (Nat.le_of_ble_eq_true rfl) (Nat.le_of_ble_eq_true rfl)
    · skip
      refine lv_iconst (v := 5) hx hb dX4_comes_30 (by decide) ?_
      refine lv_goto (tgt := 35) hx hb dX4_comes_31 (by decide) ?_
      refine lv_imul hx hb dX4_comes_35 ?_
      refine k_min F qM_RX4_49 hl.1 (Nat.le_of_ble_eq_true rfl) (Nat.le_of_ble_eq_true rfl) (Nat.le_of_ble_eq_true rfl) (Nat.le_of_ble_eq_true rfl) dX4_comes_36 ?_
      exact hend _ _ _ _ _ _ (mn ((vka v) k) (x * 5)) () dX4_comes_39 (by simp (decide := true) only [crys, cby, eq_false c_1, eq_true c_2, if_true, if_false]; rw [Int32.mul_comm]) hP hD hS rfl (Nat.le_of_ble_eq_true rfl) (Nat.le_of_ble_eq_true rfl)
  · skip
    refine lv_iconst (v := 2) hx hb dX4_comes_21 (by decide) ?_
    refine lv_goto (tgt := 35) hx hb dX4_comes_22 (by decide) ?_
    refine lv_imul hx hb dX4_comes_35 ?_
    refine k_min F qM_RX4_49 hl.1 (Nat.le_of_ble_eq_true rfl) (Nat.le_of_ble_eq_true rfl) (Nat.le_of_ble_eq_true rfl) (Nat.le_of_ble_eq_true rfl) dX4_comes_36 ?_
    exact hend _ _ _ _ _ _ (mn ((vka v) k) (x * 2)) () dX4_comes_39 (by simp (decide := true) only [crys, cby, eq_true c_1, if_true, if_false]; rw [Int32.mul_comm]) hP hD hS rfl (Nat.le_of_ble_eq_true rfl) (Nat.le_of_ble_eq_true rfl)

def rm_X4_pour : Room := { frames := 3, cells := 0, slots := 0, locals := 65 }
set_option maxHeartbeats 4000000 in
set_option maxRecDepth 100000 in
theorem c_X4_pour (l : Launch) (D : va_G) (cI cZ cJ : ClassId) (m0 m1 m2 m3 m4 m5 m6 : Nat) (th : Int32) (v : VT) (y1 y2 : Int32) (hI : IS v) (hN : NN v) : Mi l yX4_pour cX4_pour 6 (some .int) rm_X4_pour D (TY cI cZ cJ) [.ref m0, .int y1, .int y2] [(m0, .inr (4, [.int th, .int (nI (vnC v)), .int (nI (vnP v)), .int (nI (vnK v)), .ref m1, .ref m2, .ref m3, .ref m4, .ref m5, .ref m6])), (m1, .inl (cI, 7, .inl (st7 (nI (vday v)) (vcoal v) (vbar v) (vfine v) (vcrs v) (vcoin v) (vship v)))), (m6, .inl (cI, 9, .inl (ke3 (vkw v) (vka v) (vkb v))))] (fun (r : Int32) (u : Int32 × VT) => r = (if kPour v y1 y2 = 0 then rPour v y1 y2 else 0) ∧ u.1 = kPour v y1 y2 ∧ u.2 = nPour v y1 y2) (fun (u : Int32 × VT) => [(m0, .inr (4, [.int u.1, .int (nI (vnC u.2)), .int (nI (vnP u.2)), .int (nI (vnK u.2)), .ref m1, .ref m2, .ref m3, .ref m4, .ref m5, .ref m6])), (m1, .inl (cI, 7, .inl (st7 (nI (vday u.2)) (vcoal u.2) (vbar u.2) (vfine u.2) (vcrs u.2) (vcoin u.2) (vship u.2)))), (m6, .inl (cI, 9, .inl (ke3 (vkw u.2) (vka u.2) (vkb u.2))))]) := by
  refine Mi.ofQ (by decide) (Nat.le_of_ble_eq_true rfl) ?_
  intro p e s m args below meth c A ls Q hF hK hP hD hA hl hend
  obtain ⟨F, hr, hlocks, hG⟩ := hF
  have hx := F.1
  have hb := F.2.1
  have hown := F.2.2.2.1
  have ht := F.2.2.2.2
  have hS : va_S A s.heap s.heap [] := va_S.rf
  have hl : lv_has ls 6 [(0, .ref m0), (1, .int y1), (2, .int y2)] := hl
  obtain ⟨hC4, hP4, hK3, hAH, hf1, hf2, hf3, hdy⟩ := hI
  refine lv_aload_n hx hb dX4_pour_0 rfl (lv_at hl 0 rfl) ?_
  refine lv_iconst (v := 0) hx hb dX4_pour_1 (by decide) ?_
  refine va_put (D := D) (ci := 4) (v := .int 0) (C := RX4) (T := TX4) (N := 10) hx hb ht inG_X4 tyX4 tyX4_ok nmX4 hown hK hP hD hS 0 rfl rfl 0 (by decide) (ht _ qF_RX4_28) (fun _ h9 => h9) rfl (tyX4_ok 0 (by decide)) rfl rfl (Nat.le_of_ble_eq_true rfl) dX4_pour_2 (fun H locs hP hD hS => ?_)
  have hP : va_P D vwCl [(m0, .inr (4, [.int 0, .int (nI (vnC v)), .int (nI (vnP v)), .int (nI (vnK v)), .ref m1, .ref m2, .ref m3, .ref m4, .ref m5, .ref m6])), (m1, .inl (cI, 7, .inl (st7 (nI (vday v)) (vcoal v) (vbar v) (vfine v) (vcrs v) (vcoin v) (vship v)))), (m6, .inl (cI, 9, .inl (ke3 (vkw v) (vka v) (vkb v))))] _ := hP
  have hD : va_D A [(m0, .inr (4, [.int 0, .int (nI (vnC v)), .int (nI (vnP v)), .int (nI (vnK v)), .ref m1, .ref m2, .ref m3, .ref m4, .ref m5, .ref m6])), (m1, .inl (cI, 7, .inl (st7 (nI (vday v)) (vcoal v) (vbar v) (vfine v) (vcrs v) (vcoin v) (vship v)))), (m6, .inl (cI, 9, .inl (ke3 (vkw v) (vka v) (vkb v))))] := hD
  refine lv_aload_n hx hb dX4_pour_5 rfl (lv_at hl 0 rfl) ?_
  refine lv_iload_n hx hb dX4_pour_6 rfl (lv_at hl 1 rfl) ?_
  refine k_i (wr := [(m1, .inl (cI, 7, .inl (st7 (nI (vday v)) (vcoal v) (vbar v) (vfine v) (vcrs v) (vcoin v) (vship v)))), (m6, .inl (cI, 9, .inl (ke3 (vkw v) (vka v) (vkb v))))]) (rV (As := [.int y1]) (rest := []) F hG hK (hP.sub (ws' := [(m0, .inr (4, [.int 0, .int (nI (vnC v)), .int (nI (vnP v)), .int (nI (vnK v)), .ref m1, .ref m2, .ref m3, .ref m4, .ref m5, .ref m6]))]) [0] rfl) ((hD.sub (ws' := [(m0, .inr (4, [.int 0, .int (nI (vnC v)), .int (nI (vnP v)), .int (nI (vnK v)), .ref m1, .ref m2, .ref m3, .ref m4, .ref m5, .ref m6]))]) [0] (by decide) rfl).weaken (fun _ _ _ _ => trivial)) s_RX4_62 (c_X4_isPan l D cI cZ cJ m0 m1 m2 m3 m4 m5 m6 (vnC v) (vnP v) (vnK v) 0 y1 (by first | assumption | omega) _) 4 0 rfl rfl rfl rfl hl.1 rfl (Nat.le_of_ble_eq_true rfl) dX4_pour_7 ⟨(Nat.le_of_ble_eq_true rfl), (Nat.le_of_ble_eq_true rfl)⟩ ⟨(Nat.le_of_ble_eq_true rfl), (Nat.le_of_ble_eq_true rfl)⟩) hP hD hS hA [0] [1, 2] rfl rfl (by decide) (by decide) (fun r_7 uu H locs hw hP hD hS => ?_)
  try dsimp only at hw
  have hP : va_P D vwCl [(m1, .inl (cI, 7, .inl (st7 (nI (vday v)) (vcoal v) (vbar v) (vfine v) (vcrs v) (vcoin v) (vship v)))), (m6, .inl (cI, 9, .inl (ke3 (vkw v) (vka v) (vkb v)))), (m0, .inr (4, [.int 0, .int (nI (vnC v)), .int (nI (vnP v)), .int (nI (vnK v)), .ref m1, .ref m2, .ref m3, .ref m4, .ref m5, .ref m6]))] _ := hP
  have hD : va_D A [(m1, .inl (cI, 7, .inl (st7 (nI (vday v)) (vcoal v) (vbar v) (vfine v) (vcrs v) (vcoin v) (vship v)))), (m6, .inl (cI, 9, .inl (ke3 (vkw v) (vka v) (vkb v)))), (m0, .inr (4, [.int 0, .int (nI (vnC v)), .int (nI (vnP v)), .int (nI (vnK v)), .ref m1, .ref m2, .ref m3, .ref m4, .ref m5, .ref m6]))] := hD
  rcases hw with ⟨rfl, b_1⟩ | ⟨rfl, b_1⟩
  · skip
    obtain ⟨j_7, hj_7, rfl⟩ := b_1
    have ht_7 := hasT (n := (vnK v)) (by omega) hj_7
    have ix_7 : ix (nI j_7) = j_7 := ix_nI (by omega)
    have hP : va_P D vwCl [(m1, .inl (cI, 7, .inl (st7 (nI (vday v)) (vcoal v) (vbar v) (vfine v) (vcrs v) (vcoin v) (vship v)))), (m6, .inl (cI, 9, .inl (ke3 (vkw v) (vka v) (vkb v)))), (m0, .inr (4, [.int 0, .int (nI (vnC v)), .int (nI (vnP v)), .int (nI (vnK v)), .ref m1, .ref m2, .ref m3, .ref m4, .ref m5, .ref m6]))] _ := hP
    have hD : va_D A [(m1, .inl (cI, 7, .inl (st7 (nI (vday v)) (vcoal v) (vbar v) (vfine v) (vcrs v) (vcoin v) (vship v)))), (m6, .inl (cI, 9, .inl (ke3 (vkw v) (vka v) (vkb v)))), (m0, .inr (4, [.int 0, .int (nI (vnC v)), .int (nI (vnP v)), .int (nI (vnK v)), .ref m1, .ref m2, .ref m3, .ref m4, .ref m5, .ref m6]))] := hD
    have hl : lv_has ls 6 [(0, .ref m0), (1, .int (nI j_7)), (2, .int y2)] := hl
    refine lv_if_ne (tgt := 19) hx hb dX4_pour_10 (by decide) (fun _ => ?_) (fun h => absurd h (by decide))
    refine lv_iload_n hx hb dX4_pour_19 rfl (lv_at hl 2 rfl) ?_
    refine lv_iconst (v := 1) hx hb dX4_pour_20 (by decide) ?_
    refine lv_bipush (v := 20) hx hb dX4_pour_21 (by decide) ?_
    refine k_i (wr := [(m1, .inl (cI, 7, .inl (st7 (nI (vday v)) (vcoal v) (vbar v) (vfine v) (vcrs v) (vcoin v) (vship v)))), (m6, .inl (cI, 9, .inl (ke3 (vkw v) (vka v) (vkb v)))), (m0, .inr (4, [.int 0, .int (nI (vnC v)), .int (nI (vnP v)), .int (nI (vnK v)), .ref m1, .ref m2, .ref m3, .ref m4, .ref m5, .ref m6]))]) (rS (As := [.int y2, .int 1, .int 20]) (rest := []) F hG hK (hP.sub (ws' := []) [] rfl) ((hD.sub (ws' := []) [] (by decide) rfl).weaken (fun _ _ _ _ => trivial)) s_RX4_35 (c_X4_isIn l D cI cZ cJ y2 1 20 _) rfl hl.1 rfl (Nat.le_of_ble_eq_true rfl) dX4_pour_23 ⟨(Nat.le_of_ble_eq_true rfl), (Nat.le_of_ble_eq_true rfl)⟩ ⟨(Nat.le_of_ble_eq_true rfl), (Nat.le_of_ble_eq_true rfl)⟩) hP hD hS hA [] [0, 1, 2] rfl rfl (by decide) (by decide) (fun r_23 uu H locs hw hP hD hS => ?_)
    try dsimp only at hw
    have hP : va_P D vwCl [(m1, .inl (cI, 7, .inl (st7 (nI (vday v)) (vcoal v) (vbar v) (vfine v) (vcrs v) (vcoin v) (vship v)))), (m6, .inl (cI, 9, .inl (ke3 (vkw v) (vka v) (vkb v)))), (m0, .inr (4, [.int 0, .int (nI (vnC v)), .int (nI (vnP v)), .int (nI (vnK v)), .ref m1, .ref m2, .ref m3, .ref m4, .ref m5, .ref m6]))] _ := hP
    have hD : va_D A [(m1, .inl (cI, 7, .inl (st7 (nI (vday v)) (vcoal v) (vbar v) (vfine v) (vcrs v) (vcoin v) (vship v)))), (m6, .inl (cI, 9, .inl (ke3 (vkw v) (vka v) (vkb v)))), (m0, .inr (4, [.int 0, .int (nI (vnC v)), .int (nI (vnP v)), .int (nI (vnK v)), .ref m1, .ref m2, .ref m3, .ref m4, .ref m5, .ref m6]))] := hD
    rcases hw with ⟨rfl, b_2⟩ | ⟨rfl, b_2⟩
    · skip
      refine lv_if_ne (tgt := 35) hx hb dX4_pour_26 (by decide) (fun _ => ?_) (fun h => absurd h (by decide))
      refine lv_iconst (v := 3) hx hb dX4_pour_35 (by decide) ?_
      refine lv_iload_n hx hb dX4_pour_36 rfl (lv_at hl 1 rfl) ?_
      refine lv_imul hx hb dX4_pour_37 ?_
      refine t_i (nI (3 * j_7)) (pk_mul 3 j_7) ?_
      refine lv_istore_n (lv' := [(3, .int (nI (3 * j_7))), (0, .ref m0), (1, .int (nI j_7)), (2, .int y2)]) hx hb dX4_pour_38 rfl hl (by decide) rfl (fun ls hl => ?_)
      refine lv_aload_n hx hb dX4_pour_39 rfl (lv_at hl 1 rfl) ?_
      refine va_get (D := D) (ci := 4) (v := .ref m1) (C := RX4) (T := TX4) (N := 10) hx hb ht inG_X4 hown hK hP 2 rfl rfl 4 (by decide) (ht _ qF_RX4_7) (fun _ h9 => h9) rfl dX4_pour_40 ?_
      refine lv_iconst (v := 2) hx hb dX4_pour_43 (by decide) ?_
      refine aI hx hb hK hP 0 0 rfl rfl 2 (rfl) (by decide) (by decide) (v := vbar v) (rfl) dX4_pour_44 ?_
      refine lv_iload_n hx hb dX4_pour_45 rfl (lv_at hl 3 rfl) ?_
      refine lv_icmp_lt (tgt := 60) hx hb dX4_pour_46 (by decide) (fun c_3 => ?_) (fun c_3 => ?_)
      · skip
        have c_3n := Int32.not_le.mpr c_3
        refine lv_aload_n hx hb dX4_pour_60 rfl (lv_at hl 1 rfl) ?_
        refine lv_iconst (v := 3) hx hb dX4_pour_61 (by decide) ?_
        refine k_i (wr := [(m1, .inl (cI, 7, .inl (st7 (nI (vday v)) (vcoal v) (vbar v) (vfine v) (vcrs v) (vcoin v) (vship v)))), (m6, .inl (cI, 9, .inl (ke3 (vkw v) (vka v) (vkb v))))]) (rV (As := [.int 3]) (rest := []) F hG hK (hP.sub (ws' := [(m0, .inr (4, [.int 0, .int (nI (vnC v)), .int (nI (vnP v)), .int (nI (vnK v)), .ref m1, .ref m2, .ref m3, .ref m4, .ref m5, .ref m6]))]) [2] rfl) ((hD.sub (ws' := [(m0, .inr (4, [.int 0, .int (nI (vnC v)), .int (nI (vnP v)), .int (nI (vnK v)), .ref m1, .ref m2, .ref m3, .ref m4, .ref m5, .ref m6]))]) [2] (by decide) rfl).weaken (fun _ _ _ _ => trivial)) s_RX4_45 (c_X4_fail l D cI cZ cJ m0 m1 m2 m3 m4 m5 m6 (vnC v) (vnP v) (vnK v) 0 3 _) 4 0 rfl rfl rfl rfl hl.1 rfl (Nat.le_of_ble_eq_true rfl) dX4_pour_62 ⟨(Nat.le_of_ble_eq_true rfl), (Nat.le_of_ble_eq_true rfl)⟩ ⟨(Nat.le_of_ble_eq_true rfl), (Nat.le_of_ble_eq_true rfl)⟩) hP hD hS hA [2] [0, 1] rfl rfl (by decide) (by decide) (fun r_62 uu H locs hw hP hD hS => ?_)
        try dsimp only at hw
        subst hw
        have hP : va_P D vwCl [(m1, .inl (cI, 7, .inl (st7 (nI (vday v)) (vcoal v) (vbar v) (vfine v) (vcrs v) (vcoin v) (vship v)))), (m6, .inl (cI, 9, .inl (ke3 (vkw v) (vka v) (vkb v)))), (m0, .inr (4, [.int 3, .int (nI (vnC v)), .int (nI (vnP v)), .int (nI (vnK v)), .ref m1, .ref m2, .ref m3, .ref m4, .ref m5, .ref m6]))] _ := hP
        have hD : va_D A [(m1, .inl (cI, 7, .inl (st7 (nI (vday v)) (vcoal v) (vbar v) (vfine v) (vcrs v) (vcoin v) (vship v)))), (m6, .inl (cI, 9, .inl (ke3 (vkw v) (vka v) (vkb v)))), (m0, .inr (4, [.int 3, .int (nI (vnC v)), .int (nI (vnP v)), .int (nI (vnK v)), .ref m1, .ref m2, .ref m3, .ref m4, .ref m5, .ref m6]))] := hD
        exact hend _ _ _ _ _ _ 0 (3, mkV (vsh v) (vco v) (vbu v) (vfl v) (vnC v) (vpw v) (vpa v) (vpb v) (vnP v) (vkw v) (vka v) (vkb v) (vnK v) (vday v) (vcoal v) (vbar v) (vfine v) (vcrs v) (vcoin v) (vship v) (vR v) (vS v)) dX4_pour_65 (⟨by simp (decide := true) only [kPour, rPour, eq_true ht_7, ix_7, eq_true b_2, eq_true c_3, eq_false c_3n, if_true, if_false, eq_self, eggK], by simp (decide := true) only [kPour, eq_true ht_7, ix_7, eq_true b_2, eq_true c_3, eq_false c_3n, if_true, if_false, eq_self], Eq.symm (show nPour v (nI j_7) y2 = v by simp (decide := true) only [nPour, kPour, eq_true ht_7, ix_7, eq_true b_2, eq_true c_3, eq_false c_3n, if_true, if_false, eq_self])⟩) (hP.sub [2, 0, 1] rfl) (hD.sub [2, 0, 1] (by decide) rfl) hS rfl (Nat.le_of_ble_eq_true rfl) (Nat.le_of_ble_eq_true rfl)
      · skip
        have c_3n := Int32.not_lt.mp c_3
        refine lv_aload_n hx hb dX4_pour_49 rfl (lv_at hl 1 rfl) ?_
        refine va_get (D := D) (ci := 4) (v := .ref m6) (C := RX4) (T := TX4) (N := 10) hx hb ht inG_X4 hown hK hP 2 rfl rfl 9 (by decide) (ht _ qF_RX4_25) (fun _ h9 => h9) rfl dX4_pour_50 ?_
        refine lv_iload_n hx hb dX4_pour_53 rfl (lv_at hl 0 rfl) ?_
        refine lv_iconst (v := 1) hx hb dX4_pour_54 (by decide) ?_
        refine lv_iadd hx hb dX4_pour_55 ?_
        refine t_i (nI (3 * j_7 + 1)) (nI_1 (3 * j_7)) ?_
        refine aI hx hb hK hP 1 0 rfl rfl (3 * j_7 + 1) (rfl) (by omega) (by decide) (v := (vka v) j_7) (ke3_1 _ _ _ j_7) dX4_pour_56 ?_
        refine lv_if_ne (tgt := 66) hx hb dX4_pour_57 (by decide) (fun c_4 => ?_) (fun c_4 => ?_)
        · skip
          refine lv_aload_n hx hb dX4_pour_66 rfl (lv_at hl 1 rfl) ?_
          refine lv_iload_n hx hb dX4_pour_67 rfl (lv_at hl 2 rfl) ?_
          refine lv_iload_n hx hb dX4_pour_68 rfl (lv_at hl 3 rfl) ?_
          refine k_i (wr := [(m1, .inl (cI, 7, .inl (st7 (nI (vday v)) (vcoal v) (vbar v) (vfine v) (vcrs v) (vcoin v) (vship v))))]) (rV (As := [.int (nI j_7), .int y2]) (rest := []) F hG hK (hP.sub (ws' := [(m0, .inr (4, [.int 0, .int (nI (vnC v)), .int (nI (vnP v)), .int (nI (vnK v)), .ref m1, .ref m2, .ref m3, .ref m4, .ref m5, .ref m6])), (m6, .inl (cI, 9, .inl (ke3 (vkw v) (vka v) (vkb v))))]) [2, 1] rfl) ((hD.sub (ws' := [(m0, .inr (4, [.int 0, .int (nI (vnC v)), .int (nI (vnP v)), .int (nI (vnK v)), .ref m1, .ref m2, .ref m3, .ref m4, .ref m5, .ref m6])), (m6, .inl (cI, 9, .inl (ke3 (vkw v) (vka v) (vkb v))))]) [2, 1] (by decide) rfl).weaken (fun _ _ _ _ => trivial)) s_RX4_74 (c_X4_comes l D cI cZ cJ m0 m1 m2 m3 m4 m5 m6 0 v j_7 y2 (by first | assumption | omega) (hN.k0 (by omega)) _) 4 0 rfl rfl rfl rfl hl.1 rfl (Nat.le_of_ble_eq_true rfl) dX4_pour_69 ⟨(Nat.le_of_ble_eq_true rfl), (Nat.le_of_ble_eq_true rfl)⟩ ⟨(Nat.le_of_ble_eq_true rfl), (Nat.le_of_ble_eq_true rfl)⟩) hP hD hS hA [2, 1] [0] rfl rfl (by decide) (by decide) (fun r_69 uu H locs hw hP hD hS => ?_)
          try dsimp only at hw
          subst hw
          have hP : va_P D vwCl [(m1, .inl (cI, 7, .inl (st7 (nI (vday v)) (vcoal v) (vbar v) (vfine v) (vcrs v) (vcoin v) (vship v)))), (m0, .inr (4, [.int 0, .int (nI (vnC v)), .int (nI (vnP v)), .int (nI (vnK v)), .ref m1, .ref m2, .ref m3, .ref m4, .ref m5, .ref m6])), (m6, .inl (cI, 9, .inl (ke3 (vkw v) (vka v) (vkb v))))] _ := hP
          have hD : va_D A [(m1, .inl (cI, 7, .inl (st7 (nI (vday v)) (vcoal v) (vbar v) (vfine v) (vcrs v) (vcoin v) (vship v)))), (m0, .inr (4, [.int 0, .int (nI (vnC v)), .int (nI (vnP v)), .int (nI (vnK v)), .ref m1, .ref m2, .ref m3, .ref m4, .ref m5, .ref m6])), (m6, .inl (cI, 9, .inl (ke3 (vkw v) (vka v) (vkb v))))] := hD
          refine lv_istore (lv' := [(4, .int (crys (vkw v j_7) (vka v j_7) y2)), (3, .int (nI (3 * j_7))), (0, .ref m0), (1, .int (nI j_7)), (2, .int y2)]) hx hb dX4_pour_72 hl (by decide) rfl (fun ls hl => ?_)
          refine lv_aload_n hx hb dX4_pour_74 rfl (lv_at hl 2 rfl) ?_
          refine va_get (D := D) (ci := 4) (v := .ref m1) (C := RX4) (T := TX4) (N := 10) hx hb ht inG_X4 hown hK hP 1 rfl rfl 4 (by decide) (ht _ qF_RX4_7) (fun _ h9 => h9) rfl dX4_pour_75 ?_
          refine lv_iconst (v := 2) hx hb dX4_pour_78 (by decide) ?_
          refine lv_dup2_11 hx hb dX4_pour_79 rfl rfl ?_
          refine aI hx hb hK hP 0 0 rfl rfl 2 (rfl) (by decide) (by decide) (v := vbar v) (rfl) dX4_pour_80 ?_
          refine lv_iload_n hx hb dX4_pour_81 rfl (lv_at hl 4 rfl) ?_
          refine lv_isub hx hb dX4_pour_82 ?_
          refine sI_ hx hb hK hP hD hS 0 0 rfl rfl 2 (rfl) (by decide) (by decide) (st7 (nI (vday v)) (vcoal v) ((vbar v) - y2) (vfine v) (vcrs v) (vcoin v) (vship v)) (st7_u2 _ _ _ _ _ _ _ _) dX4_pour_83 (fun H locs hP hD hS => ?_)
          have hP : va_P D vwCl [(m1, .inl (cI, 7, .inl (st7 (nI (vday v)) (vcoal v) ((vbar v) - y2) (vfine v) (vcrs v) (vcoin v) (vship v)))), (m0, .inr (4, [.int 0, .int (nI (vnC v)), .int (nI (vnP v)), .int (nI (vnK v)), .ref m1, .ref m2, .ref m3, .ref m4, .ref m5, .ref m6])), (m6, .inl (cI, 9, .inl (ke3 (vkw v) (vka v) (vkb v))))] _ := hP
          have hD : va_D A [(m1, .inl (cI, 7, .inl (st7 (nI (vday v)) (vcoal v) ((vbar v) - y2) (vfine v) (vcrs v) (vcoin v) (vship v)))), (m0, .inr (4, [.int 0, .int (nI (vnC v)), .int (nI (vnP v)), .int (nI (vnK v)), .ref m1, .ref m2, .ref m3, .ref m4, .ref m5, .ref m6])), (m6, .inl (cI, 9, .inl (ke3 (vkw v) (vka v) (vkb v))))] := hD
          refine lv_aload_n hx hb dX4_pour_84 rfl (lv_at hl 2 rfl) ?_
          refine va_get (D := D) (ci := 4) (v := .ref m1) (C := RX4) (T := TX4) (N := 10) hx hb ht inG_X4 hown hK hP 1 rfl rfl 4 (by decide) (ht _ qF_RX4_7) (fun _ h9 => h9) rfl dX4_pour_85 ?_
          refine lv_aload_n hx hb dX4_pour_88 rfl (lv_at hl 2 rfl) ?_
          refine lv_iload_n hx hb dX4_pour_89 rfl (lv_at hl 3 rfl) ?_
          refine k_i (wr := [(m1, .inl (cI, 7, .inl (st7 (nI (vday v)) (vcoal v) ((vbar v) - y2) (vfine v) (vcrs v) (vcoin v) (vship v))))]) (rV (As := [.int (nI j_7)]) (rest := [.ref m1]) F hG hK (hP.sub (ws' := [(m0, .inr (4, [.int 0, .int (nI (vnC v)), .int (nI (vnP v)), .int (nI (vnK v)), .ref m1, .ref m2, .ref m3, .ref m4, .ref m5, .ref m6])), (m6, .inl (cI, 9, .inl (ke3 (vkw v) (vka v) (vkb v))))]) [1, 2] rfl) ((hD.sub (ws' := [(m0, .inr (4, [.int 0, .int (nI (vnC v)), .int (nI (vnP v)), .int (nI (vnK v)), .ref m1, .ref m2, .ref m3, .ref m4, .ref m5, .ref m6])), (m6, .inl (cI, 9, .inl (ke3 (vkw v) (vka v) (vkb v))))]) [1, 2] (by decide) rfl).weaken (fun _ _ _ _ => trivial)) s_RX4_71 (c_X4_panEgg l D cI cZ cJ m0 m1 m2 m3 m4 m5 m6 0 v j_7 (by first | assumption | omega) (hN.k0 (by omega)) _) 4 0 rfl rfl rfl rfl hl.1 rfl (Nat.le_of_ble_eq_true rfl) dX4_pour_90 ⟨(Nat.le_of_ble_eq_true rfl), (Nat.le_of_ble_eq_true rfl)⟩ ⟨(Nat.le_of_ble_eq_true rfl), (Nat.le_of_ble_eq_true rfl)⟩) hP hD hS hA [1, 2] [0] rfl rfl (by decide) (by decide) (fun r_90 uu H locs hw hP hD hS => ?_)
          try dsimp only at hw
          subst hw
          have hP : va_P D vwCl [(m1, .inl (cI, 7, .inl (st7 (nI (vday v)) (vcoal v) ((vbar v) - y2) (vfine v) (vcrs v) (vcoin v) (vship v)))), (m0, .inr (4, [.int 0, .int (nI (vnC v)), .int (nI (vnP v)), .int (nI (vnK v)), .ref m1, .ref m2, .ref m3, .ref m4, .ref m5, .ref m6])), (m6, .inl (cI, 9, .inl (ke3 (vkw v) (vka v) (vkb v))))] _ := hP
          have hD : va_D A [(m1, .inl (cI, 7, .inl (st7 (nI (vday v)) (vcoal v) ((vbar v) - y2) (vfine v) (vcrs v) (vcoin v) (vship v)))), (m0, .inr (4, [.int 0, .int (nI (vnC v)), .int (nI (vnP v)), .int (nI (vnK v)), .ref m1, .ref m2, .ref m3, .ref m4, .ref m5, .ref m6])), (m6, .inl (cI, 9, .inl (ke3 (vkw v) (vka v) (vkb v))))] := hD
          refine lv_iconst (v := 1) hx hb dX4_pour_93 (by decide) ?_
          refine lv_icmp_ne (tgt := 101) hx hb dX4_pour_94 (by decide) (fun c_5 => ?_) (fun c_5 => ?_)
          · skip
            refine lv_iconst (v := 4) hx hb dX4_pour_101 (by decide) ?_
            refine lv_dup2_11 hx hb dX4_pour_102 rfl rfl ?_
            refine aI hx hb hK hP 0 0 rfl rfl 4 (rfl) (by decide) (by decide) (v := vcrs v) (rfl) dX4_pour_103 ?_
            refine lv_iload hx hb dX4_pour_104 (lv_at hl 0 rfl) ?_
            refine lv_iadd hx hb dX4_pour_106 ?_
            refine sI_ hx hb hK hP hD hS 0 0 rfl rfl 4 (rfl) (by decide) (by decide) (st7 (nI (vday v)) (vcoal v) ((vbar v) - y2) (vfine v) ((vcrs v) + (crys (vkw v j_7) (vka v j_7) y2)) (vcoin v) (vship v)) (st7_u4 _ _ _ _ _ _ _ _) dX4_pour_107 (fun H locs hP hD hS => ?_)
            have hP : va_P D vwCl [(m1, .inl (cI, 7, .inl (st7 (nI (vday v)) (vcoal v) ((vbar v) - y2) (vfine v) ((vcrs v) + (crys (vkw v j_7) (vka v j_7) y2)) (vcoin v) (vship v)))), (m0, .inr (4, [.int 0, .int (nI (vnC v)), .int (nI (vnP v)), .int (nI (vnK v)), .ref m1, .ref m2, .ref m3, .ref m4, .ref m5, .ref m6])), (m6, .inl (cI, 9, .inl (ke3 (vkw v) (vka v) (vkb v))))] _ := hP
            have hD : va_D A [(m1, .inl (cI, 7, .inl (st7 (nI (vday v)) (vcoal v) ((vbar v) - y2) (vfine v) ((vcrs v) + (crys (vkw v j_7) (vka v j_7) y2)) (vcoin v) (vship v)))), (m0, .inr (4, [.int 0, .int (nI (vnC v)), .int (nI (vnP v)), .int (nI (vnK v)), .ref m1, .ref m2, .ref m3, .ref m4, .ref m5, .ref m6])), (m6, .inl (cI, 9, .inl (ke3 (vkw v) (vka v) (vkb v))))] := hD
            refine lv_iconst (v := 0) hx hb dX4_pour_108 (by decide) ?_
            refine lv_istore (lv' := [(5, .int 0), (4, .int (crys (vkw v j_7) (vka v j_7) y2)), (3, .int (nI (3 * j_7))), (0, .ref m0), (1, .int (nI j_7)), (2, .int y2)]) hx hb dX4_pour_109 hl (by decide) rfl (fun ls hl => ?_)
            refine lv_iload hx hb dX4_pour_111 (lv_at hl 0 rfl) ?_
            refine lv_iconst (v := 3) hx hb dX4_pour_113 (by decide) ?_
            refine lv_icmp_ge (tgt := 133) hx hb dX4_pour_114 (by decide) (fun h => absurd h (by decide)) (fun _ => ?_)
            refine lv_aload_n hx hb dX4_pour_117 rfl (lv_at hl 3 rfl) ?_
            refine va_get (D := D) (ci := 4) (v := .ref m6) (C := RX4) (T := TX4) (N := 10) hx hb ht inG_X4 hown hK hP 1 rfl rfl 9 (by decide) (ht _ qF_RX4_25) (fun _ h9 => h9) rfl dX4_pour_118 ?_
            refine lv_iload_n hx hb dX4_pour_121 rfl (lv_at hl 2 rfl) ?_
            refine lv_iload hx hb dX4_pour_122 (lv_at hl 0 rfl) ?_
            refine lv_iadd hx hb dX4_pour_124 ?_
            refine t_i (nI (3 * j_7)) (Int32.add_zero _) ?_
            refine lv_iconst (v := 0) hx hb dX4_pour_125 (by decide) ?_
            refine sI_ hx hb hK hP hD hS 2 0 rfl rfl (3 * j_7) (rfl) (by omega) (by decide) (ke3 (upd (vkw v) j_7 0) (vka v) (vkb v)) (ke3_u0 _ _ _ _ _) dX4_pour_126 (fun H locs hP hD hS => ?_)
            have hP : va_P D vwCl [(m1, .inl (cI, 7, .inl (st7 (nI (vday v)) (vcoal v) ((vbar v) - y2) (vfine v) ((vcrs v) + (crys (vkw v j_7) (vka v j_7) y2)) (vcoin v) (vship v)))), (m0, .inr (4, [.int 0, .int (nI (vnC v)), .int (nI (vnP v)), .int (nI (vnK v)), .ref m1, .ref m2, .ref m3, .ref m4, .ref m5, .ref m6])), (m6, .inl (cI, 9, .inl (ke3 (upd (vkw v) j_7 0) (vka v) (vkb v))))] _ := hP
            have hD : va_D A [(m1, .inl (cI, 7, .inl (st7 (nI (vday v)) (vcoal v) ((vbar v) - y2) (vfine v) ((vcrs v) + (crys (vkw v j_7) (vka v j_7) y2)) (vcoin v) (vship v)))), (m0, .inr (4, [.int 0, .int (nI (vnC v)), .int (nI (vnP v)), .int (nI (vnK v)), .ref m1, .ref m2, .ref m3, .ref m4, .ref m5, .ref m6])), (m6, .inl (cI, 9, .inl (ke3 (upd (vkw v) j_7 0) (vka v) (vkb v))))] := hD
            refine lv_iinc (v := 1) (lv' := [(5, .int 1), (4, .int (crys (vkw v j_7) (vka v j_7) y2)), (3, .int (nI (3 * j_7))), (0, .ref m0), (1, .int (nI j_7)), (2, .int y2)]) hx hb dX4_pour_127 hl (k := 0) rfl (by decide) (by decide) rfl (fun ls hl => ?_)
            refine lv_goto (tgt := 111) hx hb dX4_pour_130 (by decide) ?_
            refine lv_iload hx hb dX4_pour_111 (lv_at hl 0 rfl) ?_
            refine lv_iconst (v := 3) hx hb dX4_pour_113 (by decide) ?_
            refine lv_icmp_ge (tgt := 133) hx hb dX4_pour_114 (by decide) (fun h => absurd h (by decide)) (fun _ => ?_)
            refine lv_aload_n hx hb dX4_pour_117 rfl (lv_at hl 3 rfl) ?_
            refine va_get (D := D) (ci := 4) (v := .ref m6) (C := RX4) (T := TX4) (N := 10) hx hb ht inG_X4 hown hK hP 1 rfl rfl 9 (by decide) (ht _ qF_RX4_25) (fun _ h9 => h9) rfl dX4_pour_118 ?_
            refine lv_iload_n hx hb dX4_pour_121 rfl (lv_at hl 2 rfl) ?_
            refine lv_iload hx hb dX4_pour_122 (lv_at hl 0 rfl) ?_
            refine lv_iadd hx hb dX4_pour_124 ?_
            refine t_i (nI (3 * j_7 + 1)) (nI_1 (3 * j_7)) ?_
            refine lv_iconst (v := 0) hx hb dX4_pour_125 (by decide) ?_
            refine sI_ hx hb hK hP hD hS 2 0 rfl rfl (3 * j_7 + 1) (rfl) (by omega) (by decide) (ke3 (upd (vkw v) j_7 0) (upd (vka v) j_7 0) (vkb v)) (ke3_u1 _ _ _ _ _) dX4_pour_126 (fun H locs hP hD hS => ?_)
            have hP : va_P D vwCl [(m1, .inl (cI, 7, .inl (st7 (nI (vday v)) (vcoal v) ((vbar v) - y2) (vfine v) ((vcrs v) + (crys (vkw v j_7) (vka v j_7) y2)) (vcoin v) (vship v)))), (m0, .inr (4, [.int 0, .int (nI (vnC v)), .int (nI (vnP v)), .int (nI (vnK v)), .ref m1, .ref m2, .ref m3, .ref m4, .ref m5, .ref m6])), (m6, .inl (cI, 9, .inl (ke3 (upd (vkw v) j_7 0) (upd (vka v) j_7 0) (vkb v))))] _ := hP
            have hD : va_D A [(m1, .inl (cI, 7, .inl (st7 (nI (vday v)) (vcoal v) ((vbar v) - y2) (vfine v) ((vcrs v) + (crys (vkw v j_7) (vka v j_7) y2)) (vcoin v) (vship v)))), (m0, .inr (4, [.int 0, .int (nI (vnC v)), .int (nI (vnP v)), .int (nI (vnK v)), .ref m1, .ref m2, .ref m3, .ref m4, .ref m5, .ref m6])), (m6, .inl (cI, 9, .inl (ke3 (upd (vkw v) j_7 0) (upd (vka v) j_7 0) (vkb v))))] := hD
            refine lv_iinc (v := 2) (lv' := [(5, .int 2), (4, .int (crys (vkw v j_7) (vka v j_7) y2)), (3, .int (nI (3 * j_7))), (0, .ref m0), (1, .int (nI j_7)), (2, .int y2)]) hx hb dX4_pour_127 hl (k := 0) rfl (by decide) (by decide) rfl (fun ls hl => ?_)
            refine lv_goto (tgt := 111) hx hb dX4_pour_130 (by decide) ?_
            refine lv_iload hx hb dX4_pour_111 (lv_at hl 0 rfl) ?_
            refine lv_iconst (v := 3) hx hb dX4_pour_113 (by decide) ?_
            refine lv_icmp_ge (tgt := 133) hx hb dX4_pour_114 (by decide) (fun h => absurd h (by decide)) (fun _ => ?_)
            refine lv_aload_n hx hb dX4_pour_117 rfl (lv_at hl 3 rfl) ?_
            refine va_get (D := D) (ci := 4) (v := .ref m6) (C := RX4) (T := TX4) (N := 10) hx hb ht inG_X4 hown hK hP 1 rfl rfl 9 (by decide) (ht _ qF_RX4_25) (fun _ h9 => h9) rfl dX4_pour_118 ?_
            refine lv_iload_n hx hb dX4_pour_121 rfl (lv_at hl 2 rfl) ?_
            refine lv_iload hx hb dX4_pour_122 (lv_at hl 0 rfl) ?_
            refine lv_iadd hx hb dX4_pour_124 ?_
            refine t_i (nI (3 * j_7 + 2)) (nI_add (3 * j_7) 2) ?_
            refine lv_iconst (v := 0) hx hb dX4_pour_125 (by decide) ?_
            refine sI_ hx hb hK hP hD hS 2 0 rfl rfl (3 * j_7 + 2) (rfl) (by omega) (by decide) (ke3 (upd (vkw v) j_7 0) (upd (vka v) j_7 0) (upd (vkb v) j_7 0)) (ke3_u2 _ _ _ _ _) dX4_pour_126 (fun H locs hP hD hS => ?_)
            have hP : va_P D vwCl [(m1, .inl (cI, 7, .inl (st7 (nI (vday v)) (vcoal v) ((vbar v) - y2) (vfine v) ((vcrs v) + (crys (vkw v j_7) (vka v j_7) y2)) (vcoin v) (vship v)))), (m0, .inr (4, [.int 0, .int (nI (vnC v)), .int (nI (vnP v)), .int (nI (vnK v)), .ref m1, .ref m2, .ref m3, .ref m4, .ref m5, .ref m6])), (m6, .inl (cI, 9, .inl (ke3 (upd (vkw v) j_7 0) (upd (vka v) j_7 0) (upd (vkb v) j_7 0))))] _ := hP
            have hD : va_D A [(m1, .inl (cI, 7, .inl (st7 (nI (vday v)) (vcoal v) ((vbar v) - y2) (vfine v) ((vcrs v) + (crys (vkw v j_7) (vka v j_7) y2)) (vcoin v) (vship v)))), (m0, .inr (4, [.int 0, .int (nI (vnC v)), .int (nI (vnP v)), .int (nI (vnK v)), .ref m1, .ref m2, .ref m3, .ref m4, .ref m5, .ref m6])), (m6, .inl (cI, 9, .inl (ke3 (upd (vkw v) j_7 0) (upd (vka v) j_7 0) (upd (vkb v) j_7 0))))] := hD
            refine lv_iinc (v := 3) (lv' := [(5, .int 3), (4, .int (crys (vkw v j_7) (vka v j_7) y2)), (3, .int (nI (3 * j_7))), (0, .ref m0), (1, .int (nI j_7)), (2, .int y2)]) hx hb dX4_pour_127 hl (k := 0) rfl (by decide) (by decide) rfl (fun ls hl => ?_)
            refine lv_goto (tgt := 111) hx hb dX4_pour_130 (by decide) ?_
            refine lv_iload hx hb dX4_pour_111 (lv_at hl 0 rfl) ?_
            refine lv_iconst (v := 3) hx hb dX4_pour_113 (by decide) ?_
            refine lv_icmp_ge (tgt := 133) hx hb dX4_pour_114 (by decide) (fun _ => ?_) (fun h => absurd (by decide) h)
            refine lv_iload hx hb dX4_pour_133 (lv_at hl 1 rfl) ?_
            exact hend _ _ _ _ _ _ (crys (vkw v j_7) (vka v j_7) y2) (0, mkV (vsh v) (vco v) (vbu v) (vfl v) (vnC v) (vpw v) (vpa v) (vpb v) (vnP v) (upd (vkw v) j_7 0) (upd (vka v) j_7 0) (upd (vkb v) j_7 0) (vnK v) (vday v) (vcoal v) ((vbar v) - y2) (vfine v) ((vcrs v) + (crys (vkw v j_7) (vka v j_7) y2)) (vcoin v) (vship v) (vR v) (vS v)) dX4_pour_135 (⟨by simp (decide := true) only [kPour, rPour, eq_true ht_7, ix_7, eq_true b_2, eq_false c_3, eq_true c_3n, eq_false c_4, eq_false c_5, if_true, if_false, eq_self, eggK], by simp (decide := true) only [kPour, eq_true ht_7, ix_7, eq_true b_2, eq_false c_3, eq_true c_3n, eq_false c_4, eq_false c_5, if_true, if_false, eq_self], by simp (decide := true) only [nPour, kPour, eq_true ht_7, ix_7, eq_true b_2, eq_false c_3, eq_true c_3n, eq_false c_4, eq_false c_5, if_true, if_false, eq_self, eggK]⟩) (hP.sub [1, 0, 2] rfl) (hD.sub [1, 0, 2] (by decide) rfl) hS rfl (Nat.le_of_ble_eq_true rfl) (Nat.le_of_ble_eq_true rfl)
          · skip
            refine lv_iconst (v := 3) hx hb dX4_pour_97 (by decide) ?_
            refine lv_goto (tgt := 102) hx hb dX4_pour_98 (by decide) ?_
            refine lv_dup2_11 hx hb dX4_pour_102 rfl rfl ?_
            refine aI hx hb hK hP 0 0 rfl rfl 3 (rfl) (by decide) (by decide) (v := vfine v) (rfl) dX4_pour_103 ?_
            refine lv_iload hx hb dX4_pour_104 (lv_at hl 0 rfl) ?_
            refine lv_iadd hx hb dX4_pour_106 ?_
            refine sI_ hx hb hK hP hD hS 0 0 rfl rfl 3 (rfl) (by decide) (by decide) (st7 (nI (vday v)) (vcoal v) ((vbar v) - y2) ((vfine v) + (crys (vkw v j_7) (vka v j_7) y2)) (vcrs v) (vcoin v) (vship v)) (st7_u3 _ _ _ _ _ _ _ _) dX4_pour_107 (fun H locs hP hD hS => ?_)
            have hP : va_P D vwCl [(m1, .inl (cI, 7, .inl (st7 (nI (vday v)) (vcoal v) ((vbar v) - y2) ((vfine v) + (crys (vkw v j_7) (vka v j_7) y2)) (vcrs v) (vcoin v) (vship v)))), (m0, .inr (4, [.int 0, .int (nI (vnC v)), .int (nI (vnP v)), .int (nI (vnK v)), .ref m1, .ref m2, .ref m3, .ref m4, .ref m5, .ref m6])), (m6, .inl (cI, 9, .inl (ke3 (vkw v) (vka v) (vkb v))))] _ := hP
            have hD : va_D A [(m1, .inl (cI, 7, .inl (st7 (nI (vday v)) (vcoal v) ((vbar v) - y2) ((vfine v) + (crys (vkw v j_7) (vka v j_7) y2)) (vcrs v) (vcoin v) (vship v)))), (m0, .inr (4, [.int 0, .int (nI (vnC v)), .int (nI (vnP v)), .int (nI (vnK v)), .ref m1, .ref m2, .ref m3, .ref m4, .ref m5, .ref m6])), (m6, .inl (cI, 9, .inl (ke3 (vkw v) (vka v) (vkb v))))] := hD
            refine lv_iconst (v := 0) hx hb dX4_pour_108 (by decide) ?_
            refine lv_istore (lv' := [(5, .int 0), (4, .int (crys (vkw v j_7) (vka v j_7) y2)), (3, .int (nI (3 * j_7))), (0, .ref m0), (1, .int (nI j_7)), (2, .int y2)]) hx hb dX4_pour_109 hl (by decide) rfl (fun ls hl => ?_)
            refine lv_iload hx hb dX4_pour_111 (lv_at hl 0 rfl) ?_
            refine lv_iconst (v := 3) hx hb dX4_pour_113 (by decide) ?_
            refine lv_icmp_ge (tgt := 133) hx hb dX4_pour_114 (by decide) (fun h => absurd h (by decide)) (fun _ => ?_)
            refine lv_aload_n hx hb dX4_pour_117 rfl (lv_at hl 3 rfl) ?_
            refine va_get (D := D) (ci := 4) (v := .ref m6) (C := RX4) (T := TX4) (N := 10) hx hb ht inG_X4 hown hK hP 1 rfl rfl 9 (by decide) (ht _ qF_RX4_25) (fun _ h9 => h9) rfl dX4_pour_118 ?_
            refine lv_iload_n hx hb dX4_pour_121 rfl (lv_at hl 2 rfl) ?_
            refine lv_iload hx hb dX4_pour_122 (lv_at hl 0 rfl) ?_
            refine lv_iadd hx hb dX4_pour_124 ?_
            refine t_i (nI (3 * j_7)) (Int32.add_zero _) ?_
            refine lv_iconst (v := 0) hx hb dX4_pour_125 (by decide) ?_
            refine sI_ hx hb hK hP hD hS 2 0 rfl rfl (3 * j_7) (rfl) (by omega) (by decide) (ke3 (upd (vkw v) j_7 0) (vka v) (vkb v)) (ke3_u0 _ _ _ _ _) dX4_pour_126 (fun H locs hP hD hS => ?_)
            have hP : va_P D vwCl [(m1, .inl (cI, 7, .inl (st7 (nI (vday v)) (vcoal v) ((vbar v) - y2) ((vfine v) + (crys (vkw v j_7) (vka v j_7) y2)) (vcrs v) (vcoin v) (vship v)))), (m0, .inr (4, [.int 0, .int (nI (vnC v)), .int (nI (vnP v)), .int (nI (vnK v)), .ref m1, .ref m2, .ref m3, .ref m4, .ref m5, .ref m6])), (m6, .inl (cI, 9, .inl (ke3 (upd (vkw v) j_7 0) (vka v) (vkb v))))] _ := hP
            have hD : va_D A [(m1, .inl (cI, 7, .inl (st7 (nI (vday v)) (vcoal v) ((vbar v) - y2) ((vfine v) + (crys (vkw v j_7) (vka v j_7) y2)) (vcrs v) (vcoin v) (vship v)))), (m0, .inr (4, [.int 0, .int (nI (vnC v)), .int (nI (vnP v)), .int (nI (vnK v)), .ref m1, .ref m2, .ref m3, .ref m4, .ref m5, .ref m6])), (m6, .inl (cI, 9, .inl (ke3 (upd (vkw v) j_7 0) (vka v) (vkb v))))] := hD
            refine lv_iinc (v := 1) (lv' := [(5, .int 1), (4, .int (crys (vkw v j_7) (vka v j_7) y2)), (3, .int (nI (3 * j_7))), (0, .ref m0), (1, .int (nI j_7)), (2, .int y2)]) hx hb dX4_pour_127 hl (k := 0) rfl (by decide) (by decide) rfl (fun ls hl => ?_)
            refine lv_goto (tgt := 111) hx hb dX4_pour_130 (by decide) ?_
            refine lv_iload hx hb dX4_pour_111 (lv_at hl 0 rfl) ?_
            refine lv_iconst (v := 3) hx hb dX4_pour_113 (by decide) ?_
            refine lv_icmp_ge (tgt := 133) hx hb dX4_pour_114 (by decide) (fun h => absurd h (by decide)) (fun _ => ?_)
            refine lv_aload_n hx hb dX4_pour_117 rfl (lv_at hl 3 rfl) ?_
            refine va_get (D := D) (ci := 4) (v := .ref m6) (C := RX4) (T := TX4) (N := 10) hx hb ht inG_X4 hown hK hP 1 rfl rfl 9 (by decide) (ht _ qF_RX4_25) (fun _ h9 => h9) rfl dX4_pour_118 ?_
            refine lv_iload_n hx hb dX4_pour_121 rfl (lv_at hl 2 rfl) ?_
            refine lv_iload hx hb dX4_pour_122 (lv_at hl 0 rfl) ?_
            refine lv_iadd hx hb dX4_pour_124 ?_
            refine t_i (nI (3 * j_7 + 1)) (nI_1 (3 * j_7)) ?_
            refine lv_iconst (v := 0) hx hb dX4_pour_125 (by decide) ?_
            refine sI_ hx hb hK hP hD hS 2 0 rfl rfl (3 * j_7 + 1) (rfl) (by omega) (by decide) (ke3 (upd (vkw v) j_7 0) (upd (vka v) j_7 0) (vkb v)) (ke3_u1 _ _ _ _ _) dX4_pour_126 (fun H locs hP hD hS => ?_)
            have hP : va_P D vwCl [(m1, .inl (cI, 7, .inl (st7 (nI (vday v)) (vcoal v) ((vbar v) - y2) ((vfine v) + (crys (vkw v j_7) (vka v j_7) y2)) (vcrs v) (vcoin v) (vship v)))), (m0, .inr (4, [.int 0, .int (nI (vnC v)), .int (nI (vnP v)), .int (nI (vnK v)), .ref m1, .ref m2, .ref m3, .ref m4, .ref m5, .ref m6])), (m6, .inl (cI, 9, .inl (ke3 (upd (vkw v) j_7 0) (upd (vka v) j_7 0) (vkb v))))] _ := hP
            have hD : va_D A [(m1, .inl (cI, 7, .inl (st7 (nI (vday v)) (vcoal v) ((vbar v) - y2) ((vfine v) + (crys (vkw v j_7) (vka v j_7) y2)) (vcrs v) (vcoin v) (vship v)))), (m0, .inr (4, [.int 0, .int (nI (vnC v)), .int (nI (vnP v)), .int (nI (vnK v)), .ref m1, .ref m2, .ref m3, .ref m4, .ref m5, .ref m6])), (m6, .inl (cI, 9, .inl (ke3 (upd (vkw v) j_7 0) (upd (vka v) j_7 0) (vkb v))))] := hD
            refine lv_iinc (v := 2) (lv' := [(5, .int 2), (4, .int (crys (vkw v j_7) (vka v j_7) y2)), (3, .int (nI (3 * j_7))), (0, .ref m0), (1, .int (nI j_7)), (2, .int y2)]) hx hb dX4_pour_127 hl (k := 0) rfl (by decide) (by decide) rfl (fun ls hl => ?_)
            refine lv_goto (tgt := 111) hx hb dX4_pour_130 (by decide) ?_
            refine lv_iload hx hb dX4_pour_111 (lv_at hl 0 rfl) ?_
            refine lv_iconst (v := 3) hx hb dX4_pour_113 (by decide) ?_
            refine lv_icmp_ge (tgt := 133) hx hb dX4_pour_114 (by decide) (fun h => absurd h (by decide)) (fun _ => ?_)
            refine lv_aload_n hx hb dX4_pour_117 rfl (lv_at hl 3 rfl) ?_
            refine va_get (D := D) (ci := 4) (v := .ref m6) (C := RX4) (T := TX4) (N := 10) hx hb ht inG_X4 hown hK hP 1 rfl rfl 9 (by decide) (ht _ qF_RX4_25) (fun _ h9 => h9) rfl dX4_pour_118 ?_
            refine lv_iload_n hx hb dX4_pour_121 rfl (lv_at hl 2 rfl) ?_
            refine lv_iload hx hb dX4_pour_122 (lv_at hl 0 rfl) ?_
            refine lv_iadd hx hb dX4_pour_124 ?_
            refine t_i (nI (3 * j_7 + 2)) (nI_add (3 * j_7) 2) ?_
            refine lv_iconst (v := 0) hx hb dX4_pour_125 (by decide) ?_
            refine sI_ hx hb hK hP hD hS 2 0 rfl rfl (3 * j_7 + 2) (rfl) (by omega) (by decide) (ke3 (upd (vkw v) j_7 0) (upd (vka v) j_7 0) (upd (vkb v) j_7 0)) (ke3_u2 _ _ _ _ _) dX4_pour_126 (fun H locs hP hD hS => ?_)
            have hP : va_P D vwCl [(m1, .inl (cI, 7, .inl (st7 (nI (vday v)) (vcoal v) ((vbar v) - y2) ((vfine v) + (crys (vkw v j_7) (vka v j_7) y2)) (vcrs v) (vcoin v) (vship v)))), (m0, .inr (4, [.int 0, .int (nI (vnC v)), .int (nI (vnP v)), .int (nI (vnK v)), .ref m1, .ref m2, .ref m3, .ref m4, .ref m5, .ref m6])), (m6, .inl (cI, 9, .inl (ke3 (upd (vkw v) j_7 0) (upd (vka v) j_7 0) (upd (vkb v) j_7 0))))] _ := hP
            have hD : va_D A [(m1, .inl (cI, 7, .inl (st7 (nI (vday v)) (vcoal v) ((vbar v) - y2) ((vfine v) + (crys (vkw v j_7) (vka v j_7) y2)) (vcrs v) (vcoin v) (vship v)))), (m0, .inr (4, [.int 0, .int (nI (vnC v)), .int (nI (vnP v)), .int (nI (vnK v)), .ref m1, .ref m2, .ref m3, .ref m4, .ref m5, .ref m6])), (m6, .inl (cI, 9, .inl (ke3 (upd (vkw v) j_7 0) (upd (vka v) j_7 0) (upd (vkb v) j_7 0))))] := hD
            refine lv_iinc (v := 3) (lv' := [(5, .int 3), (4, .int (crys (vkw v j_7) (vka v j_7) y2)), (3, .int (nI (3 * j_7))), (0, .ref m0), (1, .int (nI j_7)), (2, .int y2)]) hx hb dX4_pour_127 hl (k := 0) rfl (by decide) (by decide) rfl (fun ls hl => ?_)
            refine lv_goto (tgt := 111) hx hb dX4_pour_130 (by decide) ?_
            refine lv_iload hx hb dX4_pour_111 (lv_at hl 0 rfl) ?_
            refine lv_iconst (v := 3) hx hb dX4_pour_113 (by decide) ?_
            refine lv_icmp_ge (tgt := 133) hx hb dX4_pour_114 (by decide) (fun _ => ?_) (fun h => absurd (by decide) h)
            refine lv_iload hx hb dX4_pour_133 (lv_at hl 1 rfl) ?_
            exact hend _ _ _ _ _ _ (crys (vkw v j_7) (vka v j_7) y2) (0, mkV (vsh v) (vco v) (vbu v) (vfl v) (vnC v) (vpw v) (vpa v) (vpb v) (vnP v) (upd (vkw v) j_7 0) (upd (vka v) j_7 0) (upd (vkb v) j_7 0) (vnK v) (vday v) (vcoal v) ((vbar v) - y2) ((vfine v) + (crys (vkw v j_7) (vka v j_7) y2)) (vcrs v) (vcoin v) (vship v) (vR v) (vS v)) dX4_pour_135 (⟨by simp (decide := true) only [kPour, rPour, eq_true ht_7, ix_7, eq_true b_2, eq_false c_3, eq_true c_3n, eq_false c_4, eq_true c_5, if_true, if_false, eq_self, eggK], by simp (decide := true) only [kPour, eq_true ht_7, ix_7, eq_true b_2, eq_false c_3, eq_true c_3n, eq_false c_4, eq_true c_5, if_true, if_false, eq_self], by simp (decide := true) only [nPour, kPour, eq_true ht_7, ix_7, eq_true b_2, eq_false c_3, eq_true c_3n, eq_false c_4, eq_true c_5, if_true, if_false, eq_self, eggK]⟩) (hP.sub [1, 0, 2] rfl) (hD.sub [1, 0, 2] (by decide) rfl) hS rfl (Nat.le_of_ble_eq_true rfl) (Nat.le_of_ble_eq_true rfl)
        · skip
          refine lv_aload_n hx hb dX4_pour_60 rfl (lv_at hl 1 rfl) ?_
          refine lv_iconst (v := 3) hx hb dX4_pour_61 (by decide) ?_
          refine k_i (wr := [(m1, .inl (cI, 7, .inl (st7 (nI (vday v)) (vcoal v) (vbar v) (vfine v) (vcrs v) (vcoin v) (vship v)))), (m6, .inl (cI, 9, .inl (ke3 (vkw v) (vka v) (vkb v))))]) (rV (As := [.int 3]) (rest := []) F hG hK (hP.sub (ws' := [(m0, .inr (4, [.int 0, .int (nI (vnC v)), .int (nI (vnP v)), .int (nI (vnK v)), .ref m1, .ref m2, .ref m3, .ref m4, .ref m5, .ref m6]))]) [2] rfl) ((hD.sub (ws' := [(m0, .inr (4, [.int 0, .int (nI (vnC v)), .int (nI (vnP v)), .int (nI (vnK v)), .ref m1, .ref m2, .ref m3, .ref m4, .ref m5, .ref m6]))]) [2] (by decide) rfl).weaken (fun _ _ _ _ => trivial)) s_RX4_45 (c_X4_fail l D cI cZ cJ m0 m1 m2 m3 m4 m5 m6 (vnC v) (vnP v) (vnK v) 0 3 _) 4 0 rfl rfl rfl rfl hl.1 rfl (Nat.le_of_ble_eq_true rfl) dX4_pour_62 ⟨(Nat.le_of_ble_eq_true rfl), (Nat.le_of_ble_eq_true rfl)⟩ ⟨(Nat.le_of_ble_eq_true rfl), (Nat.le_of_ble_eq_true rfl)⟩) hP hD hS hA [2] [0, 1] rfl rfl (by decide) (by decide) (fun r_62 uu H locs hw hP hD hS => ?_)
          try dsimp only at hw
          subst hw
          have hP : va_P D vwCl [(m1, .inl (cI, 7, .inl (st7 (nI (vday v)) (vcoal v) (vbar v) (vfine v) (vcrs v) (vcoin v) (vship v)))), (m6, .inl (cI, 9, .inl (ke3 (vkw v) (vka v) (vkb v)))), (m0, .inr (4, [.int 3, .int (nI (vnC v)), .int (nI (vnP v)), .int (nI (vnK v)), .ref m1, .ref m2, .ref m3, .ref m4, .ref m5, .ref m6]))] _ := hP
          have hD : va_D A [(m1, .inl (cI, 7, .inl (st7 (nI (vday v)) (vcoal v) (vbar v) (vfine v) (vcrs v) (vcoin v) (vship v)))), (m6, .inl (cI, 9, .inl (ke3 (vkw v) (vka v) (vkb v)))), (m0, .inr (4, [.int 3, .int (nI (vnC v)), .int (nI (vnP v)), .int (nI (vnK v)), .ref m1, .ref m2, .ref m3, .ref m4, .ref m5, .ref m6]))] := hD
          exact hend _ _ _ _ _ _ 0 (3, mkV (vsh v) (vco v) (vbu v) (vfl v) (vnC v) (vpw v) (vpa v) (vpb v) (vnP v) (vkw v) (vka v) (vkb v) (vnK v) (vday v) (vcoal v) (vbar v) (vfine v) (vcrs v) (vcoin v) (vship v) (vR v) (vS v)) dX4_pour_65 (⟨by simp (decide := true) only [kPour, rPour, eq_true ht_7, ix_7, eq_true b_2, eq_false c_3, eq_true c_3n, eq_true c_4, if_true, if_false, eq_self, eggK], by simp (decide := true) only [kPour, eq_true ht_7, ix_7, eq_true b_2, eq_false c_3, eq_true c_3n, eq_true c_4, if_true, if_false, eq_self], Eq.symm (show nPour v (nI j_7) y2 = v by simp (decide := true) only [nPour, kPour, eq_true ht_7, ix_7, eq_true b_2, eq_false c_3, eq_true c_3n, eq_true c_4, if_true, if_false, eq_self])⟩) (hP.sub [2, 0, 1] rfl) (hD.sub [2, 0, 1] (by decide) rfl) hS rfl (Nat.le_of_ble_eq_true rfl) (Nat.le_of_ble_eq_true rfl)
    · skip
      refine lv_if_ne (tgt := 35) hx hb dX4_pour_26 (by decide) (fun h => absurd (by decide) h) (fun _ => ?_)
      refine lv_aload_n hx hb dX4_pour_29 rfl (lv_at hl 0 rfl) ?_
      refine lv_iconst (v := 2) hx hb dX4_pour_30 (by decide) ?_
      refine k_i (wr := [(m1, .inl (cI, 7, .inl (st7 (nI (vday v)) (vcoal v) (vbar v) (vfine v) (vcrs v) (vcoin v) (vship v)))), (m6, .inl (cI, 9, .inl (ke3 (vkw v) (vka v) (vkb v))))]) (rV (As := [.int 2]) (rest := []) F hG hK (hP.sub (ws' := [(m0, .inr (4, [.int 0, .int (nI (vnC v)), .int (nI (vnP v)), .int (nI (vnK v)), .ref m1, .ref m2, .ref m3, .ref m4, .ref m5, .ref m6]))]) [2] rfl) ((hD.sub (ws' := [(m0, .inr (4, [.int 0, .int (nI (vnC v)), .int (nI (vnP v)), .int (nI (vnK v)), .ref m1, .ref m2, .ref m3, .ref m4, .ref m5, .ref m6]))]) [2] (by decide) rfl).weaken (fun _ _ _ _ => trivial)) s_RX4_45 (c_X4_fail l D cI cZ cJ m0 m1 m2 m3 m4 m5 m6 (vnC v) (vnP v) (vnK v) 0 2 _) 4 0 rfl rfl rfl rfl hl.1 rfl (Nat.le_of_ble_eq_true rfl) dX4_pour_31 ⟨(Nat.le_of_ble_eq_true rfl), (Nat.le_of_ble_eq_true rfl)⟩ ⟨(Nat.le_of_ble_eq_true rfl), (Nat.le_of_ble_eq_true rfl)⟩) hP hD hS hA [2] [0, 1] rfl rfl (by decide) (by decide) (fun r_31 uu H locs hw hP hD hS => ?_)
      try dsimp only at hw
      subst hw
      have hP : va_P D vwCl [(m1, .inl (cI, 7, .inl (st7 (nI (vday v)) (vcoal v) (vbar v) (vfine v) (vcrs v) (vcoin v) (vship v)))), (m6, .inl (cI, 9, .inl (ke3 (vkw v) (vka v) (vkb v)))), (m0, .inr (4, [.int 2, .int (nI (vnC v)), .int (nI (vnP v)), .int (nI (vnK v)), .ref m1, .ref m2, .ref m3, .ref m4, .ref m5, .ref m6]))] _ := hP
      have hD : va_D A [(m1, .inl (cI, 7, .inl (st7 (nI (vday v)) (vcoal v) (vbar v) (vfine v) (vcrs v) (vcoin v) (vship v)))), (m6, .inl (cI, 9, .inl (ke3 (vkw v) (vka v) (vkb v)))), (m0, .inr (4, [.int 2, .int (nI (vnC v)), .int (nI (vnP v)), .int (nI (vnK v)), .ref m1, .ref m2, .ref m3, .ref m4, .ref m5, .ref m6]))] := hD
      exact hend _ _ _ _ _ _ 0 (2, mkV (vsh v) (vco v) (vbu v) (vfl v) (vnC v) (vpw v) (vpa v) (vpb v) (vnP v) (vkw v) (vka v) (vkb v) (vnK v) (vday v) (vcoal v) (vbar v) (vfine v) (vcrs v) (vcoin v) (vship v) (vR v) (vS v)) dX4_pour_34 (⟨by simp (decide := true) only [kPour, rPour, eq_true ht_7, ix_7, eq_false b_2, if_true, if_false, eq_self, eggK], by simp (decide := true) only [kPour, eq_true ht_7, ix_7, eq_false b_2, if_true, if_false, eq_self], Eq.symm (show nPour v (nI j_7) y2 = v by simp (decide := true) only [nPour, kPour, eq_true ht_7, ix_7, eq_false b_2, if_true, if_false, eq_self])⟩) (hP.sub [2, 0, 1] rfl) (hD.sub [2, 0, 1] (by decide) rfl) hS rfl (Nat.le_of_ble_eq_true rfl) (Nat.le_of_ble_eq_true rfl)
  · skip
    refine lv_if_ne (tgt := 19) hx hb dX4_pour_10 (by decide) (fun h => absurd (by decide) h) (fun _ => ?_)
    refine lv_aload_n hx hb dX4_pour_13 rfl (lv_at hl 0 rfl) ?_
    refine lv_iconst (v := 1) hx hb dX4_pour_14 (by decide) ?_
    refine k_i (wr := [(m1, .inl (cI, 7, .inl (st7 (nI (vday v)) (vcoal v) (vbar v) (vfine v) (vcrs v) (vcoin v) (vship v)))), (m6, .inl (cI, 9, .inl (ke3 (vkw v) (vka v) (vkb v))))]) (rV (As := [.int 1]) (rest := []) F hG hK (hP.sub (ws' := [(m0, .inr (4, [.int 0, .int (nI (vnC v)), .int (nI (vnP v)), .int (nI (vnK v)), .ref m1, .ref m2, .ref m3, .ref m4, .ref m5, .ref m6]))]) [2] rfl) ((hD.sub (ws' := [(m0, .inr (4, [.int 0, .int (nI (vnC v)), .int (nI (vnP v)), .int (nI (vnK v)), .ref m1, .ref m2, .ref m3, .ref m4, .ref m5, .ref m6]))]) [2] (by decide) rfl).weaken (fun _ _ _ _ => trivial)) s_RX4_45 (c_X4_fail l D cI cZ cJ m0 m1 m2 m3 m4 m5 m6 (vnC v) (vnP v) (vnK v) 0 1 _) 4 0 rfl rfl rfl rfl hl.1 rfl (Nat.le_of_ble_eq_true rfl) dX4_pour_15 ⟨(Nat.le_of_ble_eq_true rfl), (Nat.le_of_ble_eq_true rfl)⟩ ⟨(Nat.le_of_ble_eq_true rfl), (Nat.le_of_ble_eq_true rfl)⟩) hP hD hS hA [2] [0, 1] rfl rfl (by decide) (by decide) (fun r_15 uu H locs hw hP hD hS => ?_)
    try dsimp only at hw
    subst hw
    have hP : va_P D vwCl [(m1, .inl (cI, 7, .inl (st7 (nI (vday v)) (vcoal v) (vbar v) (vfine v) (vcrs v) (vcoin v) (vship v)))), (m6, .inl (cI, 9, .inl (ke3 (vkw v) (vka v) (vkb v)))), (m0, .inr (4, [.int 1, .int (nI (vnC v)), .int (nI (vnP v)), .int (nI (vnK v)), .ref m1, .ref m2, .ref m3, .ref m4, .ref m5, .ref m6]))] _ := hP
    have hD : va_D A [(m1, .inl (cI, 7, .inl (st7 (nI (vday v)) (vcoal v) (vbar v) (vfine v) (vcrs v) (vcoin v) (vship v)))), (m6, .inl (cI, 9, .inl (ke3 (vkw v) (vka v) (vkb v)))), (m0, .inr (4, [.int 1, .int (nI (vnC v)), .int (nI (vnP v)), .int (nI (vnK v)), .ref m1, .ref m2, .ref m3, .ref m4, .ref m5, .ref m6]))] := hD
    exact hend _ _ _ _ _ _ 0 (1, mkV (vsh v) (vco v) (vbu v) (vfl v) (vnC v) (vpw v) (vpa v) (vpb v) (vnP v) (vkw v) (vka v) (vkb v) (vnK v) (vday v) (vcoal v) (vbar v) (vfine v) (vcrs v) (vcoin v) (vship v) (vR v) (vS v)) dX4_pour_18 (⟨by simp (decide := true) only [kPour, rPour, eq_false b_1, if_true, if_false, eq_self, eggK], by simp (decide := true) only [kPour, eq_false b_1, if_true, if_false, eq_self], Eq.symm (show nPour v y1 y2 = v by simp (decide := true) only [nPour, kPour, eq_false b_1, if_true, if_false, eq_self])⟩) (hP.sub [2, 0, 1] rfl) (hD.sub [2, 0, 1] (by decide) rfl) hS rfl (Nat.le_of_ble_eq_true rfl) (Nat.le_of_ble_eq_true rfl)

def rm_X4_clamp : Room := { frames := 2, cells := 0, slots := 0, locals := 43 }
set_option maxHeartbeats 4000000 in
set_option maxRecDepth 100000 in
theorem c_X4_clamp (l : Launch) (D : va_G) (cI cZ cJ : ClassId) (m0 m1 m2 m3 m4 m5 m6 : Nat) (th : Int32) (v : VT) (y1 y2 : Int32) (hI : IS v) : Mi l yX4_clamp cX4_clamp 3 (some .int) rm_X4_clamp D (TY cI cZ cJ) [.ref m0, .int y1, .int y2] [(m0, .inr (4, [.int th, .int (nI (vnC v)), .int (nI (vnP v)), .int (nI (vnK v)), .ref m1, .ref m2, .ref m3, .ref m4, .ref m5, .ref m6])), (m4, .inl (cI, 16, .inl (hp4 (vsh v) (vco v) (vbu v) (vfl v))))] (fun (r : Int32) (u : Int32) => r = (if kClamp v y1 y2 = 0 then rClamp v y1 y2 else 0) ∧ u = kClamp v y1 y2) (fun (u : Int32) => [(m0, .inr (4, [.int u, .int (nI (vnC v)), .int (nI (vnP v)), .int (nI (vnK v)), .ref m1, .ref m2, .ref m3, .ref m4, .ref m5, .ref m6])), (m4, .inl (cI, 16, .inl (hp4 (vsh v) (vco v) (vbu v) (vfl v))))]) := by
  refine Mi.ofQ (by decide) (Nat.le_of_ble_eq_true rfl) ?_
  intro p e s m args below meth c A ls Q hF hK hP hD hA hl hend
  obtain ⟨F, hr, hlocks, hG⟩ := hF
  have hx := F.1
  have hb := F.2.1
  have hown := F.2.2.2.1
  have ht := F.2.2.2.2
  have hS : va_S A s.heap s.heap [] := va_S.rf
  have hl : lv_has ls 3 [(0, .ref m0), (1, .int y1), (2, .int y2)] := hl
  obtain ⟨hC4, hP4, hK3, hAH, hf1, hf2, hf3, hdy⟩ := hI
  refine lv_aload_n hx hb dX4_clamp_0 rfl (lv_at hl 0 rfl) ?_
  refine lv_iconst (v := 0) hx hb dX4_clamp_1 (by decide) ?_
  refine va_put (D := D) (ci := 4) (v := .int 0) (C := RX4) (T := TX4) (N := 10) hx hb ht inG_X4 tyX4 tyX4_ok nmX4 hown hK hP hD hS 0 rfl rfl 0 (by decide) (ht _ qF_RX4_28) (fun _ h9 => h9) rfl (tyX4_ok 0 (by decide)) rfl rfl (Nat.le_of_ble_eq_true rfl) dX4_clamp_2 (fun H locs hP hD hS => ?_)
  have hP : va_P D vwCl [(m0, .inr (4, [.int 0, .int (nI (vnC v)), .int (nI (vnP v)), .int (nI (vnK v)), .ref m1, .ref m2, .ref m3, .ref m4, .ref m5, .ref m6])), (m4, .inl (cI, 16, .inl (hp4 (vsh v) (vco v) (vbu v) (vfl v))))] _ := hP
  have hD : va_D A [(m0, .inr (4, [.int 0, .int (nI (vnC v)), .int (nI (vnP v)), .int (nI (vnK v)), .ref m1, .ref m2, .ref m3, .ref m4, .ref m5, .ref m6])), (m4, .inl (cI, 16, .inl (hp4 (vsh v) (vco v) (vbu v) (vfl v))))] := hD
  refine lv_aload_n hx hb dX4_clamp_5 rfl (lv_at hl 0 rfl) ?_
  refine lv_iload_n hx hb dX4_clamp_6 rfl (lv_at hl 1 rfl) ?_
  refine k_i (wr := [(m4, .inl (cI, 16, .inl (hp4 (vsh v) (vco v) (vbu v) (vfl v))))]) (rV (As := [.int y1]) (rest := []) F hG hK (hP.sub (ws' := [(m0, .inr (4, [.int 0, .int (nI (vnC v)), .int (nI (vnP v)), .int (nI (vnK v)), .ref m1, .ref m2, .ref m3, .ref m4, .ref m5, .ref m6]))]) [0] rfl) ((hD.sub (ws' := [(m0, .inr (4, [.int 0, .int (nI (vnC v)), .int (nI (vnP v)), .int (nI (vnK v)), .ref m1, .ref m2, .ref m3, .ref m4, .ref m5, .ref m6]))]) [0] (by decide) rfl).weaken (fun _ _ _ _ => trivial)) s_RX4_55 (c_X4_isClamp l D cI cZ cJ m0 m1 m2 m3 m4 m5 m6 (vnP v) (vnK v) (vnC v) 0 y1 (by first | assumption | omega) _) 4 0 rfl rfl rfl rfl hl.1 rfl (Nat.le_of_ble_eq_true rfl) dX4_clamp_7 ⟨(Nat.le_of_ble_eq_true rfl), (Nat.le_of_ble_eq_true rfl)⟩ ⟨(Nat.le_of_ble_eq_true rfl), (Nat.le_of_ble_eq_true rfl)⟩) hP hD hS hA [0] [1] rfl rfl (by decide) (by decide) (fun r_7 uu H locs hw hP hD hS => ?_)
  try dsimp only at hw
  have hP : va_P D vwCl [(m4, .inl (cI, 16, .inl (hp4 (vsh v) (vco v) (vbu v) (vfl v)))), (m0, .inr (4, [.int 0, .int (nI (vnC v)), .int (nI (vnP v)), .int (nI (vnK v)), .ref m1, .ref m2, .ref m3, .ref m4, .ref m5, .ref m6]))] _ := hP
  have hD : va_D A [(m4, .inl (cI, 16, .inl (hp4 (vsh v) (vco v) (vbu v) (vfl v)))), (m0, .inr (4, [.int 0, .int (nI (vnC v)), .int (nI (vnP v)), .int (nI (vnK v)), .ref m1, .ref m2, .ref m3, .ref m4, .ref m5, .ref m6]))] := hD
  rcases hw with ⟨rfl, b_1⟩ | ⟨rfl, b_1⟩
  · skip
    obtain ⟨j_7, hj_7, rfl⟩ := b_1
    have ht_7 := hasT (n := (vnC v)) (by omega) hj_7
    have ix_7 : ix (nI j_7) = j_7 := ix_nI (by omega)
    have hP : va_P D vwCl [(m4, .inl (cI, 16, .inl (hp4 (vsh v) (vco v) (vbu v) (vfl v)))), (m0, .inr (4, [.int 0, .int (nI (vnC v)), .int (nI (vnP v)), .int (nI (vnK v)), .ref m1, .ref m2, .ref m3, .ref m4, .ref m5, .ref m6]))] _ := hP
    have hD : va_D A [(m4, .inl (cI, 16, .inl (hp4 (vsh v) (vco v) (vbu v) (vfl v)))), (m0, .inr (4, [.int 0, .int (nI (vnC v)), .int (nI (vnP v)), .int (nI (vnK v)), .ref m1, .ref m2, .ref m3, .ref m4, .ref m5, .ref m6]))] := hD
    have hl : lv_has ls 3 [(0, .ref m0), (1, .int (nI j_7)), (2, .int y2)] := hl
    refine lv_if_eq (tgt := 35) hx hb dX4_clamp_10 (by decide) (fun h => absurd h (by decide)) (fun _ => ?_)
    refine lv_iload_n hx hb dX4_clamp_13 rfl (lv_at hl 2 rfl) ?_
    refine lv_iconst (v := 0) hx hb dX4_clamp_14 (by decide) ?_
    refine lv_iconst (v := 3) hx hb dX4_clamp_15 (by decide) ?_
    refine k_i (wr := [(m4, .inl (cI, 16, .inl (hp4 (vsh v) (vco v) (vbu v) (vfl v)))), (m0, .inr (4, [.int 0, .int (nI (vnC v)), .int (nI (vnP v)), .int (nI (vnK v)), .ref m1, .ref m2, .ref m3, .ref m4, .ref m5, .ref m6]))]) (rS (As := [.int y2, .int 0, .int 3]) (rest := []) F hG hK (hP.sub (ws' := []) [] rfl) ((hD.sub (ws' := []) [] (by decide) rfl).weaken (fun _ _ _ _ => trivial)) s_RX4_35 (c_X4_isIn l D cI cZ cJ y2 0 3 _) rfl hl.1 rfl (Nat.le_of_ble_eq_true rfl) dX4_clamp_16 ⟨(Nat.le_of_ble_eq_true rfl), (Nat.le_of_ble_eq_true rfl)⟩ ⟨(Nat.le_of_ble_eq_true rfl), (Nat.le_of_ble_eq_true rfl)⟩) hP hD hS hA [] [0, 1] rfl rfl (by decide) (by decide) (fun r_16 uu H locs hw hP hD hS => ?_)
    try dsimp only at hw
    have hP : va_P D vwCl [(m4, .inl (cI, 16, .inl (hp4 (vsh v) (vco v) (vbu v) (vfl v)))), (m0, .inr (4, [.int 0, .int (nI (vnC v)), .int (nI (vnP v)), .int (nI (vnK v)), .ref m1, .ref m2, .ref m3, .ref m4, .ref m5, .ref m6]))] _ := hP
    have hD : va_D A [(m4, .inl (cI, 16, .inl (hp4 (vsh v) (vco v) (vbu v) (vfl v)))), (m0, .inr (4, [.int 0, .int (nI (vnC v)), .int (nI (vnP v)), .int (nI (vnK v)), .ref m1, .ref m2, .ref m3, .ref m4, .ref m5, .ref m6]))] := hD
    rcases hw with ⟨rfl, b_2⟩ | ⟨rfl, b_2⟩
    · skip
      rcases in03 b_2 with rfl | rfl | rfl | rfl
      · skip
        have hP : va_P D vwCl [(m4, .inl (cI, 16, .inl (hp4 (vsh v) (vco v) (vbu v) (vfl v)))), (m0, .inr (4, [.int 0, .int (nI (vnC v)), .int (nI (vnP v)), .int (nI (vnK v)), .ref m1, .ref m2, .ref m3, .ref m4, .ref m5, .ref m6]))] _ := hP
        have hD : va_D A [(m4, .inl (cI, 16, .inl (hp4 (vsh v) (vco v) (vbu v) (vfl v)))), (m0, .inr (4, [.int 0, .int (nI (vnC v)), .int (nI (vnP v)), .int (nI (vnK v)), .ref m1, .ref m2, .ref m3, .ref m4, .ref m5, .ref m6]))] := hD
        have hl : lv_has ls 3 [(0, .ref m0), (1, .int (nI j_7)), (2, .int 0)] := hl
        refine lv_if_eq (tgt := 35) hx hb dX4_clamp_19 (by decide) (fun h => absurd h (by decide)) (fun _ => ?_)
        refine lv_aload_n hx hb dX4_clamp_22 rfl (lv_at hl 0 rfl) ?_
        refine va_get (D := D) (ci := 4) (v := .ref m4) (C := RX4) (T := TX4) (N := 10) hx hb ht inG_X4 hown hK hP 1 rfl rfl 7 (by decide) (ht _ qF_RX4_19) (fun _ h9 => h9) rfl dX4_clamp_23 ?_
        refine lv_iconst (v := 4) hx hb dX4_clamp_26 (by decide) ?_
        refine lv_iload_n hx hb dX4_clamp_27 rfl (lv_at hl 1 rfl) ?_
        refine lv_imul hx hb dX4_clamp_28 ?_
        refine t_i (nI (4 * j_7)) (pk_mul 4 j_7) ?_
        refine lv_iload_n hx hb dX4_clamp_29 rfl (lv_at hl 2 rfl) ?_
        refine lv_iadd hx hb dX4_clamp_30 ?_
        refine t_i (nI (4 * j_7)) (Int32.add_zero _) ?_
        refine aI hx hb hK hP 0 0 rfl rfl (4 * j_7) (rfl) (by omega) (by decide) (v := (vsh v) j_7) (hp4_0 _ _ _ _ j_7) dX4_clamp_31 ?_
        refine lv_goto (tgt := 40) hx hb dX4_clamp_32 (by decide) ?_
        exact hend _ _ _ _ _ _ ((vsh v) j_7) 0 dX4_clamp_40 (⟨by simp (decide := true) only [kClamp, rClamp, eq_true ht_7, ix_7, eq_true b_2, if_true, if_false, eq_self, ctell, b01_of (hf1 _)], by simp (decide := true) only [kClamp, eq_true ht_7, ix_7, eq_true b_2, if_true, if_false, eq_self]⟩) (hP.sub [1, 0] rfl) (hD.sub [1, 0] (by decide) rfl) hS rfl (Nat.le_of_ble_eq_true rfl) (Nat.le_of_ble_eq_true rfl)
      · skip
        have hP : va_P D vwCl [(m4, .inl (cI, 16, .inl (hp4 (vsh v) (vco v) (vbu v) (vfl v)))), (m0, .inr (4, [.int 0, .int (nI (vnC v)), .int (nI (vnP v)), .int (nI (vnK v)), .ref m1, .ref m2, .ref m3, .ref m4, .ref m5, .ref m6]))] _ := hP
        have hD : va_D A [(m4, .inl (cI, 16, .inl (hp4 (vsh v) (vco v) (vbu v) (vfl v)))), (m0, .inr (4, [.int 0, .int (nI (vnC v)), .int (nI (vnP v)), .int (nI (vnK v)), .ref m1, .ref m2, .ref m3, .ref m4, .ref m5, .ref m6]))] := hD
        have hl : lv_has ls 3 [(0, .ref m0), (1, .int (nI j_7)), (2, .int 1)] := hl
        refine lv_if_eq (tgt := 35) hx hb dX4_clamp_19 (by decide) (fun h => absurd h (by decide)) (fun _ => ?_)
        refine lv_aload_n hx hb dX4_clamp_22 rfl (lv_at hl 0 rfl) ?_
        refine va_get (D := D) (ci := 4) (v := .ref m4) (C := RX4) (T := TX4) (N := 10) hx hb ht inG_X4 hown hK hP 1 rfl rfl 7 (by decide) (ht _ qF_RX4_19) (fun _ h9 => h9) rfl dX4_clamp_23 ?_
        refine lv_iconst (v := 4) hx hb dX4_clamp_26 (by decide) ?_
        refine lv_iload_n hx hb dX4_clamp_27 rfl (lv_at hl 1 rfl) ?_
        refine lv_imul hx hb dX4_clamp_28 ?_
        refine t_i (nI (4 * j_7)) (pk_mul 4 j_7) ?_
        refine lv_iload_n hx hb dX4_clamp_29 rfl (lv_at hl 2 rfl) ?_
        refine lv_iadd hx hb dX4_clamp_30 ?_
        refine t_i (nI (4 * j_7 + 1)) (nI_1 (4 * j_7)) ?_
        refine aI hx hb hK hP 0 0 rfl rfl (4 * j_7 + 1) (rfl) (by omega) (by decide) (v := (vco v) j_7) (hp4_1 _ _ _ _ j_7) dX4_clamp_31 ?_
        refine lv_goto (tgt := 40) hx hb dX4_clamp_32 (by decide) ?_
        exact hend _ _ _ _ _ _ ((vco v) j_7) 0 dX4_clamp_40 (⟨by simp (decide := true) only [kClamp, rClamp, eq_true ht_7, ix_7, eq_true b_2, if_true, if_false, eq_self, ctell, b01_of (hf1 _)], by simp (decide := true) only [kClamp, eq_true ht_7, ix_7, eq_true b_2, if_true, if_false, eq_self]⟩) (hP.sub [1, 0] rfl) (hD.sub [1, 0] (by decide) rfl) hS rfl (Nat.le_of_ble_eq_true rfl) (Nat.le_of_ble_eq_true rfl)
      · skip
        have hP : va_P D vwCl [(m4, .inl (cI, 16, .inl (hp4 (vsh v) (vco v) (vbu v) (vfl v)))), (m0, .inr (4, [.int 0, .int (nI (vnC v)), .int (nI (vnP v)), .int (nI (vnK v)), .ref m1, .ref m2, .ref m3, .ref m4, .ref m5, .ref m6]))] _ := hP
        have hD : va_D A [(m4, .inl (cI, 16, .inl (hp4 (vsh v) (vco v) (vbu v) (vfl v)))), (m0, .inr (4, [.int 0, .int (nI (vnC v)), .int (nI (vnP v)), .int (nI (vnK v)), .ref m1, .ref m2, .ref m3, .ref m4, .ref m5, .ref m6]))] := hD
        have hl : lv_has ls 3 [(0, .ref m0), (1, .int (nI j_7)), (2, .int 2)] := hl
        refine lv_if_eq (tgt := 35) hx hb dX4_clamp_19 (by decide) (fun h => absurd h (by decide)) (fun _ => ?_)
        refine lv_aload_n hx hb dX4_clamp_22 rfl (lv_at hl 0 rfl) ?_
        refine va_get (D := D) (ci := 4) (v := .ref m4) (C := RX4) (T := TX4) (N := 10) hx hb ht inG_X4 hown hK hP 1 rfl rfl 7 (by decide) (ht _ qF_RX4_19) (fun _ h9 => h9) rfl dX4_clamp_23 ?_
        refine lv_iconst (v := 4) hx hb dX4_clamp_26 (by decide) ?_
        refine lv_iload_n hx hb dX4_clamp_27 rfl (lv_at hl 1 rfl) ?_
        refine lv_imul hx hb dX4_clamp_28 ?_
        refine t_i (nI (4 * j_7)) (pk_mul 4 j_7) ?_
        refine lv_iload_n hx hb dX4_clamp_29 rfl (lv_at hl 2 rfl) ?_
        refine lv_iadd hx hb dX4_clamp_30 ?_
        refine t_i (nI (4 * j_7 + 2)) (nI_add (4 * j_7) 2) ?_
        refine aI hx hb hK hP 0 0 rfl rfl (4 * j_7 + 2) (rfl) (by omega) (by decide) (v := (vbu v) j_7) (hp4_2 _ _ _ _ j_7) dX4_clamp_31 ?_
        refine lv_goto (tgt := 40) hx hb dX4_clamp_32 (by decide) ?_
        exact hend _ _ _ _ _ _ ((vbu v) j_7) 0 dX4_clamp_40 (⟨by simp (decide := true) only [kClamp, rClamp, eq_true ht_7, ix_7, eq_true b_2, if_true, if_false, eq_self, ctell, b01_of (hf1 _)], by simp (decide := true) only [kClamp, eq_true ht_7, ix_7, eq_true b_2, if_true, if_false, eq_self]⟩) (hP.sub [1, 0] rfl) (hD.sub [1, 0] (by decide) rfl) hS rfl (Nat.le_of_ble_eq_true rfl) (Nat.le_of_ble_eq_true rfl)
      · skip
        have hP : va_P D vwCl [(m4, .inl (cI, 16, .inl (hp4 (vsh v) (vco v) (vbu v) (vfl v)))), (m0, .inr (4, [.int 0, .int (nI (vnC v)), .int (nI (vnP v)), .int (nI (vnK v)), .ref m1, .ref m2, .ref m3, .ref m4, .ref m5, .ref m6]))] _ := hP
        have hD : va_D A [(m4, .inl (cI, 16, .inl (hp4 (vsh v) (vco v) (vbu v) (vfl v)))), (m0, .inr (4, [.int 0, .int (nI (vnC v)), .int (nI (vnP v)), .int (nI (vnK v)), .ref m1, .ref m2, .ref m3, .ref m4, .ref m5, .ref m6]))] := hD
        have hl : lv_has ls 3 [(0, .ref m0), (1, .int (nI j_7)), (2, .int 3)] := hl
        refine lv_if_eq (tgt := 35) hx hb dX4_clamp_19 (by decide) (fun h => absurd h (by decide)) (fun _ => ?_)
        refine lv_aload_n hx hb dX4_clamp_22 rfl (lv_at hl 0 rfl) ?_
        refine va_get (D := D) (ci := 4) (v := .ref m4) (C := RX4) (T := TX4) (N := 10) hx hb ht inG_X4 hown hK hP 1 rfl rfl 7 (by decide) (ht _ qF_RX4_19) (fun _ h9 => h9) rfl dX4_clamp_23 ?_
        refine lv_iconst (v := 4) hx hb dX4_clamp_26 (by decide) ?_
        refine lv_iload_n hx hb dX4_clamp_27 rfl (lv_at hl 1 rfl) ?_
        refine lv_imul hx hb dX4_clamp_28 ?_
        refine t_i (nI (4 * j_7)) (pk_mul 4 j_7) ?_
        refine lv_iload_n hx hb dX4_clamp_29 rfl (lv_at hl 2 rfl) ?_
        refine lv_iadd hx hb dX4_clamp_30 ?_
        refine t_i (nI (4 * j_7 + 3)) (nI_add (4 * j_7) 3) ?_
        refine aI hx hb hK hP 0 0 rfl rfl (4 * j_7 + 3) (rfl) (by omega) (by decide) (v := (vfl v) j_7) (hp4_3 _ _ _ _ j_7) dX4_clamp_31 ?_
        refine lv_goto (tgt := 40) hx hb dX4_clamp_32 (by decide) ?_
        exact hend _ _ _ _ _ _ ((vfl v) j_7) 0 dX4_clamp_40 (⟨by simp (decide := true) only [kClamp, rClamp, eq_true ht_7, ix_7, eq_true b_2, if_true, if_false, eq_self, ctell, b01_of (hf1 _)], by simp (decide := true) only [kClamp, eq_true ht_7, ix_7, eq_true b_2, if_true, if_false, eq_self]⟩) (hP.sub [1, 0] rfl) (hD.sub [1, 0] (by decide) rfl) hS rfl (Nat.le_of_ble_eq_true rfl) (Nat.le_of_ble_eq_true rfl)
    · skip
      refine lv_if_eq (tgt := 35) hx hb dX4_clamp_19 (by decide) (fun _ => ?_) (fun h => absurd (by decide) h)
      refine lv_aload_n hx hb dX4_clamp_35 rfl (lv_at hl 0 rfl) ?_
      refine lv_iconst (v := 1) hx hb dX4_clamp_36 (by decide) ?_
      refine k_i (wr := [(m4, .inl (cI, 16, .inl (hp4 (vsh v) (vco v) (vbu v) (vfl v))))]) (rV (As := [.int 1]) (rest := []) F hG hK (hP.sub (ws' := [(m0, .inr (4, [.int 0, .int (nI (vnC v)), .int (nI (vnP v)), .int (nI (vnK v)), .ref m1, .ref m2, .ref m3, .ref m4, .ref m5, .ref m6]))]) [1] rfl) ((hD.sub (ws' := [(m0, .inr (4, [.int 0, .int (nI (vnC v)), .int (nI (vnP v)), .int (nI (vnK v)), .ref m1, .ref m2, .ref m3, .ref m4, .ref m5, .ref m6]))]) [1] (by decide) rfl).weaken (fun _ _ _ _ => trivial)) s_RX4_45 (c_X4_fail l D cI cZ cJ m0 m1 m2 m3 m4 m5 m6 (vnC v) (vnP v) (vnK v) 0 1 _) 4 0 rfl rfl rfl rfl hl.1 rfl (Nat.le_of_ble_eq_true rfl) dX4_clamp_37 ⟨(Nat.le_of_ble_eq_true rfl), (Nat.le_of_ble_eq_true rfl)⟩ ⟨(Nat.le_of_ble_eq_true rfl), (Nat.le_of_ble_eq_true rfl)⟩) hP hD hS hA [1] [0] rfl rfl (by decide) (by decide) (fun r_37 uu H locs hw hP hD hS => ?_)
      try dsimp only at hw
      subst hw
      have hP : va_P D vwCl [(m4, .inl (cI, 16, .inl (hp4 (vsh v) (vco v) (vbu v) (vfl v)))), (m0, .inr (4, [.int 1, .int (nI (vnC v)), .int (nI (vnP v)), .int (nI (vnK v)), .ref m1, .ref m2, .ref m3, .ref m4, .ref m5, .ref m6]))] _ := hP
      have hD : va_D A [(m4, .inl (cI, 16, .inl (hp4 (vsh v) (vco v) (vbu v) (vfl v)))), (m0, .inr (4, [.int 1, .int (nI (vnC v)), .int (nI (vnP v)), .int (nI (vnK v)), .ref m1, .ref m2, .ref m3, .ref m4, .ref m5, .ref m6]))] := hD
      exact hend _ _ _ _ _ _ 0 1 dX4_clamp_40 (⟨by simp (decide := true) only [kClamp, rClamp, eq_true ht_7, ix_7, eq_false b_2, if_true, if_false, eq_self, ctell, b01_of (hf1 _)], by simp (decide := true) only [kClamp, eq_true ht_7, ix_7, eq_false b_2, if_true, if_false, eq_self]⟩) (hP.sub [1, 0] rfl) (hD.sub [1, 0] (by decide) rfl) hS rfl (Nat.le_of_ble_eq_true rfl) (Nat.le_of_ble_eq_true rfl)
  · skip
    refine lv_if_eq (tgt := 35) hx hb dX4_clamp_10 (by decide) (fun _ => ?_) (fun h => absurd (by decide) h)
    refine lv_aload_n hx hb dX4_clamp_35 rfl (lv_at hl 0 rfl) ?_
    refine lv_iconst (v := 1) hx hb dX4_clamp_36 (by decide) ?_
    refine k_i (wr := [(m4, .inl (cI, 16, .inl (hp4 (vsh v) (vco v) (vbu v) (vfl v))))]) (rV (As := [.int 1]) (rest := []) F hG hK (hP.sub (ws' := [(m0, .inr (4, [.int 0, .int (nI (vnC v)), .int (nI (vnP v)), .int (nI (vnK v)), .ref m1, .ref m2, .ref m3, .ref m4, .ref m5, .ref m6]))]) [1] rfl) ((hD.sub (ws' := [(m0, .inr (4, [.int 0, .int (nI (vnC v)), .int (nI (vnP v)), .int (nI (vnK v)), .ref m1, .ref m2, .ref m3, .ref m4, .ref m5, .ref m6]))]) [1] (by decide) rfl).weaken (fun _ _ _ _ => trivial)) s_RX4_45 (c_X4_fail l D cI cZ cJ m0 m1 m2 m3 m4 m5 m6 (vnC v) (vnP v) (vnK v) 0 1 _) 4 0 rfl rfl rfl rfl hl.1 rfl (Nat.le_of_ble_eq_true rfl) dX4_clamp_37 ⟨(Nat.le_of_ble_eq_true rfl), (Nat.le_of_ble_eq_true rfl)⟩ ⟨(Nat.le_of_ble_eq_true rfl), (Nat.le_of_ble_eq_true rfl)⟩) hP hD hS hA [1] [0] rfl rfl (by decide) (by decide) (fun r_37 uu H locs hw hP hD hS => ?_)
    try dsimp only at hw
    subst hw
    have hP : va_P D vwCl [(m4, .inl (cI, 16, .inl (hp4 (vsh v) (vco v) (vbu v) (vfl v)))), (m0, .inr (4, [.int 1, .int (nI (vnC v)), .int (nI (vnP v)), .int (nI (vnK v)), .ref m1, .ref m2, .ref m3, .ref m4, .ref m5, .ref m6]))] _ := hP
    have hD : va_D A [(m4, .inl (cI, 16, .inl (hp4 (vsh v) (vco v) (vbu v) (vfl v)))), (m0, .inr (4, [.int 1, .int (nI (vnC v)), .int (nI (vnP v)), .int (nI (vnK v)), .ref m1, .ref m2, .ref m3, .ref m4, .ref m5, .ref m6]))] := hD
    exact hend _ _ _ _ _ _ 0 1 dX4_clamp_40 (⟨by simp (decide := true) only [kClamp, rClamp, eq_false b_1, if_true, if_false, eq_self, ctell, b01_of (hf1 _)], by simp (decide := true) only [kClamp, eq_false b_1, if_true, if_false, eq_self]⟩) (hP.sub [1, 0] rfl) (hD.sub [1, 0] (by decide) rfl) hS rfl (Nat.le_of_ble_eq_true rfl) (Nat.le_of_ble_eq_true rfl)

def rm_X4_told : Room := { frames := 1, cells := 0, slots := 0, locals := 21 }
set_option maxHeartbeats 4000000 in
set_option maxRecDepth 100000 in
theorem c_X4_told (l : Launch) (D : va_G) (cI cZ cJ : ClassId) (w a x : Int32) (h0 : 0 ≤ w + a) : Mi l yX4_told cX4_told 3 (some .int) rm_X4_told D (TY cI cZ cJ) [.int w, .int a, .int x] [] (fun (r : Int32) (u : Unit) => r = tld w a x) (fun (u : Unit) => []) := by
  refine Mi.ofQ (by decide) (Nat.le_of_ble_eq_true rfl) ?_
  intro p e s m args below meth c A ls Q hF hK hP hD hA hl hend
  obtain ⟨F, hr, hlocks, hG⟩ := hF
  have hx := F.1
  have hb := F.2.1
  have hown := F.2.2.2.1
  have ht := F.2.2.2.2
  have hS : va_S A s.heap s.heap [] := va_S.rf
  have hl : lv_has ls 3 [(0, .int w), (1, .int a), (2, .int x)] := hl
  refine lv_iload_n hx hb dX4_told_0 rfl (lv_at hl 2 rfl) ?_
  refine lv_if_ne (tgt := 8) hx hb dX4_told_1 (by decide) (fun c_1 => ?_) (fun c_1 => ?_)
  · skip
    refine lv_iload_n hx hb dX4_told_8 rfl (lv_at hl 2 rfl) ?_
    refine lv_iconst (v := 1) hx hb dX4_told_9 (by decide) ?_
    refine lv_icmp_ne (tgt := 17) hx hb dX4_told_10 (by decide) (fun c_2 => ?_) (fun c_2 => ?_)
    · skip
      refine lv_iload_n hx hb dX4_told_17 rfl (lv_at hl 2 rfl) ?_
      refine lv_iconst (v := 2) hx hb dX4_told_18 (by decide) ?_
      refine lv_icmp_ne (tgt := 30) hx hb dX4_told_19 (by decide) (fun c_3 => ?_) (fun c_3 => ?_)
      · skip
        refine lv_iload_n hx hb dX4_told_30 rfl (lv_at hl 0 rfl) ?_
        refine lv_iload_n hx hb dX4_told_31 rfl (lv_at hl 1 rfl) ?_
        refine k_i (wr := []) (rS (As := [.int w, .int a]) (rest := []) F hG hK (hP.sub (ws' := []) [] rfl) ((hD.sub (ws' := []) [] (by decide) rfl).weaken (fun _ _ _ _ => trivial)) s_RX4_65 (c_X4_strength l D cI cZ cJ w a (by first | assumption | omega) _) rfl hl.1 rfl (Nat.le_of_ble_eq_true rfl) dX4_told_32 ⟨(Nat.le_of_ble_eq_true rfl), (Nat.le_of_ble_eq_true rfl)⟩ ⟨(Nat.le_of_ble_eq_true rfl), (Nat.le_of_ble_eq_true rfl)⟩) hP hD hS hA [] [] rfl rfl (by decide) (by decide) (fun r_32 uu H locs hw hP hD hS => ?_)
        try dsimp only at hw
        subst hw
        have hP : va_P D vwCl [] _ := hP
        have hD : va_D A [] := hD
        refine k_i (wr := []) (rS (As := [.int (strg w a)]) (rest := []) F hG hK (hP.sub (ws' := []) [] rfl) ((hD.sub (ws' := []) [] (by decide) rfl).weaken (fun _ _ _ _ => trivial)) s_RX4_68 (c_X4_egg l D cI cZ cJ (strg w a) _) rfl hl.1 rfl (Nat.le_of_ble_eq_true rfl) dX4_told_35 ⟨(Nat.le_of_ble_eq_true rfl), (Nat.le_of_ble_eq_true rfl)⟩ ⟨(Nat.le_of_ble_eq_true rfl), (Nat.le_of_ble_eq_true rfl)⟩) hP hD hS hA [] [] rfl rfl (by decide) (by decide) (fun r_35 uu H locs hw hP hD hS => ?_)
        try dsimp only at hw
        subst hw
        have hP : va_P D vwCl [] _ := hP
        have hD : va_D A [] := hD
        exact hend _ _ _ _ _ _ (eggB (strg w a)) () dX4_told_38 (by simp (decide := true) only [tld, eq_false c_1, eq_false c_2, eq_false c_3, if_true, if_false]) hP hD hS rfl (Nat.le_of_ble_eq_true rfl) (Nat.le_of_ble_eq_true rfl)
      · skip
        refine lv_iload_n hx hb dX4_told_22 rfl (lv_at hl 0 rfl) ?_
        refine lv_iload_n hx hb dX4_told_23 rfl (lv_at hl 1 rfl) ?_
        refine k_i (wr := []) (rS (As := [.int w, .int a]) (rest := []) F hG hK (hP.sub (ws' := []) [] rfl) ((hD.sub (ws' := []) [] (by decide) rfl).weaken (fun _ _ _ _ => trivial)) s_RX4_65 (c_X4_strength l D cI cZ cJ w a (by first | assumption | omega) _) rfl hl.1 rfl (Nat.le_of_ble_eq_true rfl) dX4_told_24 ⟨(Nat.le_of_ble_eq_true rfl), (Nat.le_of_ble_eq_true rfl)⟩ ⟨(Nat.le_of_ble_eq_true rfl), (Nat.le_of_ble_eq_true rfl)⟩) hP hD hS hA [] [] rfl rfl (by decide) (by decide) (fun r_24 uu H locs hw hP hD hS => ?_)
        try dsimp only at hw
        subst hw
        have hP : va_P D vwCl [] _ := hP
        have hD : va_D A [] := hD
        refine lv_goto (tgt := 38) hx hb dX4_told_27 (by decide) ?_
        exact hend _ _ _ _ _ _ (strg w a) () dX4_told_38 (by simp (decide := true) only [tld, eq_false c_1, eq_false c_2, eq_true c_3, if_true, if_false]) hP hD hS rfl (Nat.le_of_ble_eq_true rfl) (Nat.le_of_ble_eq_true rfl)
    · skip
      refine lv_iload_n hx hb dX4_told_13 rfl (lv_at hl 1 rfl) ?_
      refine lv_goto (tgt := 38) hx hb dX4_told_14 (by decide) ?_
      exact hend _ _ _ _ _ _ a () dX4_told_38 (by simp (decide := true) only [tld, eq_false c_1, eq_true c_2, if_true, if_false]) hP hD hS rfl (Nat.le_of_ble_eq_true rfl) (Nat.le_of_ble_eq_true rfl)
  · skip
    refine lv_iload_n hx hb dX4_told_4 rfl (lv_at hl 0 rfl) ?_
    refine lv_goto (tgt := 38) hx hb dX4_told_5 (by decide) ?_
    exact hend _ _ _ _ _ _ w () dX4_told_38 (by simp (decide := true) only [tld, eq_true c_1, if_true, if_false]) hP hD hS rfl (Nat.le_of_ble_eq_true rfl) (Nat.le_of_ble_eq_true rfl)

def rm_X4_pitTold : Room := { frames := 2, cells := 0, slots := 0, locals := 43 }
set_option maxHeartbeats 4000000 in
set_option maxRecDepth 100000 in
theorem c_X4_pitTold (l : Launch) (D : va_G) (cI cZ cJ : ClassId) (m0 m1 m2 m3 m4 m5 m6 : Nat) (th : Int32) (v : VT) (k : Nat) (x : Int32) (hk : k < 4) (h0 : 0 ≤ vpw v k + vpa v k) : Mi l yX4_pitTold cX4_pitTold 3 (some .int) rm_X4_pitTold D (TY cI cZ cJ) [.ref m0, .int (nI k), .int x] [(m0, .inr (4, [.int th, .int (nI (vnC v)), .int (nI (vnP v)), .int (nI (vnK v)), .ref m1, .ref m2, .ref m3, .ref m4, .ref m5, .ref m6])), (m5, .inl (cI, 8, .inl (ho2 (vpw v) (vpa v))))] (fun (r : Int32) (u : Unit) => r = tld (vpw v k) (vpa v k) x) (fun (u : Unit) => [(m0, .inr (4, [.int th, .int (nI (vnC v)), .int (nI (vnP v)), .int (nI (vnK v)), .ref m1, .ref m2, .ref m3, .ref m4, .ref m5, .ref m6])), (m5, .inl (cI, 8, .inl (ho2 (vpw v) (vpa v))))]) := by
  refine Mi.ofQ (by decide) (Nat.le_of_ble_eq_true rfl) ?_
  intro p e s m args below meth c A ls Q hF hK hP hD hA hl hend
  obtain ⟨F, hr, hlocks, hG⟩ := hF
  have hx := F.1
  have hb := F.2.1
  have hown := F.2.2.2.1
  have ht := F.2.2.2.2
  have hS : va_S A s.heap s.heap [] := va_S.rf
  have hl : lv_has ls 3 [(0, .ref m0), (1, .int (nI k)), (2, .int x)] := hl
  refine lv_aload_n hx hb dX4_pitTold_0 rfl (lv_at hl 0 rfl) ?_
  refine va_get (D := D) (ci := 4) (v := .ref m5) (C := RX4) (T := TX4) (N := 10) hx hb ht inG_X4 hown hK hP 0 rfl rfl 8 (by decide) (ht _ qF_RX4_22) (fun _ h9 => h9) rfl dX4_pitTold_1 ?_
  refine lv_iconst (v := 2) hx hb dX4_pitTold_4 (by decide) ?_
  refine lv_iload_n hx hb dX4_pitTold_5 rfl (lv_at hl 1 rfl) ?_
  refine lv_imul hx hb dX4_pitTold_6 ?_
  refine t_i (nI (2 * k)) (pk_mul 2 k) ?_
  refine aI hx hb hK hP 1 0 rfl rfl (2 * k) (rfl) (by omega) (by decide) (v := (vpw v) k) (ho2_0 _ _ k) dX4_pitTold_7 ?_
  refine lv_aload_n hx hb dX4_pitTold_8 rfl (lv_at hl 0 rfl) ?_
  refine va_get (D := D) (ci := 4) (v := .ref m5) (C := RX4) (T := TX4) (N := 10) hx hb ht inG_X4 hown hK hP 0 rfl rfl 8 (by decide) (ht _ qF_RX4_22) (fun _ h9 => h9) rfl dX4_pitTold_9 ?_
  refine lv_iconst (v := 2) hx hb dX4_pitTold_12 (by decide) ?_
  refine lv_iload_n hx hb dX4_pitTold_13 rfl (lv_at hl 1 rfl) ?_
  refine lv_imul hx hb dX4_pitTold_14 ?_
  refine t_i (nI (2 * k)) (pk_mul 2 k) ?_
  refine lv_iconst (v := 1) hx hb dX4_pitTold_15 (by decide) ?_
  refine lv_iadd hx hb dX4_pitTold_16 ?_
  refine t_i (nI (2 * k + 1)) (nI_1 (2 * k)) ?_
  refine aI hx hb hK hP 1 0 rfl rfl (2 * k + 1) (rfl) (by omega) (by decide) (v := (vpa v) k) (ho2_1 _ _ k) dX4_pitTold_17 ?_
  refine lv_iload_n hx hb dX4_pitTold_18 rfl (lv_at hl 2 rfl) ?_
  refine k_i (wr := [(m0, .inr (4, [.int th, .int (nI (vnC v)), .int (nI (vnP v)), .int (nI (vnK v)), .ref m1, .ref m2, .ref m3, .ref m4, .ref m5, .ref m6])), (m5, .inl (cI, 8, .inl (ho2 (vpw v) (vpa v))))]) (rS (As := [.int ((vpw v) k), .int ((vpa v) k), .int x]) (rest := []) F hG hK (hP.sub (ws' := []) [] rfl) ((hD.sub (ws' := []) [] (by decide) rfl).weaken (fun _ _ _ _ => trivial)) s_RX4_77 (c_X4_told l D cI cZ cJ ((vpw v) k) ((vpa v) k) x (by first | assumption | omega) _) rfl hl.1 rfl (Nat.le_of_ble_eq_true rfl) dX4_pitTold_19 ⟨(Nat.le_of_ble_eq_true rfl), (Nat.le_of_ble_eq_true rfl)⟩ ⟨(Nat.le_of_ble_eq_true rfl), (Nat.le_of_ble_eq_true rfl)⟩) hP hD hS hA [] [0, 1] rfl rfl (by decide) (by decide) (fun r_19 uu H locs hw hP hD hS => ?_)
  try dsimp only at hw
  subst hw
  have hP : va_P D vwCl [(m0, .inr (4, [.int th, .int (nI (vnC v)), .int (nI (vnP v)), .int (nI (vnK v)), .ref m1, .ref m2, .ref m3, .ref m4, .ref m5, .ref m6])), (m5, .inl (cI, 8, .inl (ho2 (vpw v) (vpa v))))] _ := hP
  have hD : va_D A [(m0, .inr (4, [.int th, .int (nI (vnC v)), .int (nI (vnP v)), .int (nI (vnK v)), .ref m1, .ref m2, .ref m3, .ref m4, .ref m5, .ref m6])), (m5, .inl (cI, 8, .inl (ho2 (vpw v) (vpa v))))] := hD
  exact hend _ _ _ _ _ _ (tld ((vpw v) k) ((vpa v) k) x) () dX4_pitTold_22 (rfl) hP hD hS rfl (Nat.le_of_ble_eq_true rfl) (Nat.le_of_ble_eq_true rfl)

def rm_X4_panTold : Room := { frames := 2, cells := 0, slots := 0, locals := 43 }
set_option maxHeartbeats 4000000 in
set_option maxRecDepth 100000 in
theorem c_X4_panTold (l : Launch) (D : va_G) (cI cZ cJ : ClassId) (m0 m1 m2 m3 m4 m5 m6 : Nat) (th : Int32) (v : VT) (k : Nat) (x : Int32) (hk : k < 3) (h0 : 0 ≤ vkw v k + vka v k) : Mi l yX4_panTold cX4_panTold 3 (some .int) rm_X4_panTold D (TY cI cZ cJ) [.ref m0, .int (nI k), .int x] [(m0, .inr (4, [.int th, .int (nI (vnC v)), .int (nI (vnP v)), .int (nI (vnK v)), .ref m1, .ref m2, .ref m3, .ref m4, .ref m5, .ref m6])), (m6, .inl (cI, 9, .inl (ke3 (vkw v) (vka v) (vkb v))))] (fun (r : Int32) (u : Unit) => r = (if x = 4 then vkb v k else tld (vkw v k) (vka v k) x)) (fun (u : Unit) => [(m0, .inr (4, [.int th, .int (nI (vnC v)), .int (nI (vnP v)), .int (nI (vnK v)), .ref m1, .ref m2, .ref m3, .ref m4, .ref m5, .ref m6])), (m6, .inl (cI, 9, .inl (ke3 (vkw v) (vka v) (vkb v))))]) := by
  refine Mi.ofQ (by decide) (Nat.le_of_ble_eq_true rfl) ?_
  intro p e s m args below meth c A ls Q hF hK hP hD hA hl hend
  obtain ⟨F, hr, hlocks, hG⟩ := hF
  have hx := F.1
  have hb := F.2.1
  have hown := F.2.2.2.1
  have ht := F.2.2.2.2
  have hS : va_S A s.heap s.heap [] := va_S.rf
  have hl : lv_has ls 3 [(0, .ref m0), (1, .int (nI k)), (2, .int x)] := hl
  refine lv_iload_n hx hb dX4_panTold_0 rfl (lv_at hl 2 rfl) ?_
  refine lv_iconst (v := 4) hx hb dX4_panTold_1 (by decide) ?_
  refine lv_icmp_ne (tgt := 18) hx hb dX4_panTold_2 (by decide) (fun c_1 => ?_) (fun c_1 => ?_)
  · skip
    refine lv_aload_n hx hb dX4_panTold_18 rfl (lv_at hl 0 rfl) ?_
    refine va_get (D := D) (ci := 4) (v := .ref m6) (C := RX4) (T := TX4) (N := 10) hx hb ht inG_X4 hown hK hP 0 rfl rfl 9 (by decide) (ht _ qF_RX4_25) (fun _ h9 => h9) rfl dX4_panTold_19 ?_
    refine lv_iconst (v := 3) hx hb dX4_panTold_22 (by decide) ?_
    refine lv_iload_n hx hb dX4_panTold_23 rfl (lv_at hl 1 rfl) ?_
    refine lv_imul hx hb dX4_panTold_24 ?_
    refine t_i (nI (3 * k)) (pk_mul 3 k) ?_
    refine aI hx hb hK hP 1 0 rfl rfl (3 * k) (rfl) (by omega) (by decide) (v := (vkw v) k) (ke3_0 _ _ _ k) dX4_panTold_25 ?_
    refine lv_aload_n hx hb dX4_panTold_26 rfl (lv_at hl 0 rfl) ?_
    refine va_get (D := D) (ci := 4) (v := .ref m6) (C := RX4) (T := TX4) (N := 10) hx hb ht inG_X4 hown hK hP 0 rfl rfl 9 (by decide) (ht _ qF_RX4_25) (fun _ h9 => h9) rfl dX4_panTold_27 ?_
    refine lv_iconst (v := 3) hx hb dX4_panTold_30 (by decide) ?_
    refine lv_iload_n hx hb dX4_panTold_31 rfl (lv_at hl 1 rfl) ?_
    refine lv_imul hx hb dX4_panTold_32 ?_
    refine t_i (nI (3 * k)) (pk_mul 3 k) ?_
    refine lv_iconst (v := 1) hx hb dX4_panTold_33 (by decide) ?_
    refine lv_iadd hx hb dX4_panTold_34 ?_
    refine t_i (nI (3 * k + 1)) (nI_1 (3 * k)) ?_
    refine aI hx hb hK hP 1 0 rfl rfl (3 * k + 1) (rfl) (by omega) (by decide) (v := (vka v) k) (ke3_1 _ _ _ k) dX4_panTold_35 ?_
    refine lv_iload_n hx hb dX4_panTold_36 rfl (lv_at hl 2 rfl) ?_
    refine k_i (wr := [(m0, .inr (4, [.int th, .int (nI (vnC v)), .int (nI (vnP v)), .int (nI (vnK v)), .ref m1, .ref m2, .ref m3, .ref m4, .ref m5, .ref m6])), (m6, .inl (cI, 9, .inl (ke3 (vkw v) (vka v) (vkb v))))]) (rS (As := [.int ((vkw v) k), .int ((vka v) k), .int x]) (rest := []) F hG hK (hP.sub (ws' := []) [] rfl) ((hD.sub (ws' := []) [] (by decide) rfl).weaken (fun _ _ _ _ => trivial)) s_RX4_77 (c_X4_told l D cI cZ cJ ((vkw v) k) ((vka v) k) x (by first | assumption | omega) _) rfl hl.1 rfl (Nat.le_of_ble_eq_true rfl) dX4_panTold_37 ⟨(Nat.le_of_ble_eq_true rfl), (Nat.le_of_ble_eq_true rfl)⟩ ⟨(Nat.le_of_ble_eq_true rfl), (Nat.le_of_ble_eq_true rfl)⟩) hP hD hS hA [] [0, 1] rfl rfl (by decide) (by decide) (fun r_37 uu H locs hw hP hD hS => ?_)
    try dsimp only at hw
    subst hw
    have hP : va_P D vwCl [(m0, .inr (4, [.int th, .int (nI (vnC v)), .int (nI (vnP v)), .int (nI (vnK v)), .ref m1, .ref m2, .ref m3, .ref m4, .ref m5, .ref m6])), (m6, .inl (cI, 9, .inl (ke3 (vkw v) (vka v) (vkb v))))] _ := hP
    have hD : va_D A [(m0, .inr (4, [.int th, .int (nI (vnC v)), .int (nI (vnP v)), .int (nI (vnK v)), .ref m1, .ref m2, .ref m3, .ref m4, .ref m5, .ref m6])), (m6, .inl (cI, 9, .inl (ke3 (vkw v) (vka v) (vkb v))))] := hD
    exact hend _ _ _ _ _ _ (tld ((vkw v) k) ((vka v) k) x) () dX4_panTold_40 (by simp (decide := true) only [eq_false c_1, if_true, if_false]) hP hD hS rfl (Nat.le_of_ble_eq_true rfl) (Nat.le_of_ble_eq_true rfl)
  · skip
    refine lv_aload_n hx hb dX4_panTold_5 rfl (lv_at hl 0 rfl) ?_
    refine va_get (D := D) (ci := 4) (v := .ref m6) (C := RX4) (T := TX4) (N := 10) hx hb ht inG_X4 hown hK hP 0 rfl rfl 9 (by decide) (ht _ qF_RX4_25) (fun _ h9 => h9) rfl dX4_panTold_6 ?_
    refine lv_iconst (v := 3) hx hb dX4_panTold_9 (by decide) ?_
    refine lv_iload_n hx hb dX4_panTold_10 rfl (lv_at hl 1 rfl) ?_
    refine lv_imul hx hb dX4_panTold_11 ?_
    refine t_i (nI (3 * k)) (pk_mul 3 k) ?_
    refine lv_iconst (v := 2) hx hb dX4_panTold_12 (by decide) ?_
    refine lv_iadd hx hb dX4_panTold_13 ?_
    refine t_i (nI (3 * k + 2)) (nI_add (3 * k) 2) ?_
    refine aI hx hb hK hP 1 0 rfl rfl (3 * k + 2) (rfl) (by omega) (by decide) (v := (vkb v) k) (ke3_2 _ _ _ k) dX4_panTold_14 ?_
    refine lv_goto (tgt := 40) hx hb dX4_panTold_15 (by decide) ?_
    exact hend _ _ _ _ _ _ ((vkb v) k) () dX4_panTold_40 (by simp (decide := true) only [eq_true c_1, if_true, if_false]) hP hD hS rfl (Nat.le_of_ble_eq_true rfl) (Nat.le_of_ble_eq_true rfl)

def rm_X4_pit : Room := { frames := 3, cells := 0, slots := 0, locals := 65 }
set_option maxHeartbeats 4000000 in
set_option maxRecDepth 100000 in
theorem c_X4_pit (l : Launch) (D : va_G) (cI cZ cJ : ClassId) (m0 m1 m2 m3 m4 m5 m6 : Nat) (th : Int32) (v : VT) (y1 y2 : Int32) (hI : IS v) (hN : NN v) : Mi l yX4_pit cX4_pit 3 (some .int) rm_X4_pit D (TY cI cZ cJ) [.ref m0, .int y1, .int y2] [(m0, .inr (4, [.int th, .int (nI (vnC v)), .int (nI (vnP v)), .int (nI (vnK v)), .ref m1, .ref m2, .ref m3, .ref m4, .ref m5, .ref m6])), (m5, .inl (cI, 8, .inl (ho2 (vpw v) (vpa v))))] (fun (r : Int32) (u : Int32) => r = (if kPit v y1 y2 = 0 then rPit v y1 y2 else 0) ∧ u = kPit v y1 y2) (fun (u : Int32) => [(m0, .inr (4, [.int u, .int (nI (vnC v)), .int (nI (vnP v)), .int (nI (vnK v)), .ref m1, .ref m2, .ref m3, .ref m4, .ref m5, .ref m6])), (m5, .inl (cI, 8, .inl (ho2 (vpw v) (vpa v))))]) := by
  refine Mi.ofQ (by decide) (Nat.le_of_ble_eq_true rfl) ?_
  intro p e s m args below meth c A ls Q hF hK hP hD hA hl hend
  obtain ⟨F, hr, hlocks, hG⟩ := hF
  have hx := F.1
  have hb := F.2.1
  have hown := F.2.2.2.1
  have ht := F.2.2.2.2
  have hS : va_S A s.heap s.heap [] := va_S.rf
  have hl : lv_has ls 3 [(0, .ref m0), (1, .int y1), (2, .int y2)] := hl
  obtain ⟨hC4, hP4, hK3, hAH, hf1, hf2, hf3, hdy⟩ := hI
  refine lv_aload_n hx hb dX4_pit_0 rfl (lv_at hl 0 rfl) ?_
  refine lv_iconst (v := 0) hx hb dX4_pit_1 (by decide) ?_
  refine va_put (D := D) (ci := 4) (v := .int 0) (C := RX4) (T := TX4) (N := 10) hx hb ht inG_X4 tyX4 tyX4_ok nmX4 hown hK hP hD hS 0 rfl rfl 0 (by decide) (ht _ qF_RX4_28) (fun _ h9 => h9) rfl (tyX4_ok 0 (by decide)) rfl rfl (Nat.le_of_ble_eq_true rfl) dX4_pit_2 (fun H locs hP hD hS => ?_)
  have hP : va_P D vwCl [(m0, .inr (4, [.int 0, .int (nI (vnC v)), .int (nI (vnP v)), .int (nI (vnK v)), .ref m1, .ref m2, .ref m3, .ref m4, .ref m5, .ref m6])), (m5, .inl (cI, 8, .inl (ho2 (vpw v) (vpa v))))] _ := hP
  have hD : va_D A [(m0, .inr (4, [.int 0, .int (nI (vnC v)), .int (nI (vnP v)), .int (nI (vnK v)), .ref m1, .ref m2, .ref m3, .ref m4, .ref m5, .ref m6])), (m5, .inl (cI, 8, .inl (ho2 (vpw v) (vpa v))))] := hD
  refine lv_aload_n hx hb dX4_pit_5 rfl (lv_at hl 0 rfl) ?_
  refine lv_iload_n hx hb dX4_pit_6 rfl (lv_at hl 1 rfl) ?_
  refine k_i (wr := [(m5, .inl (cI, 8, .inl (ho2 (vpw v) (vpa v))))]) (rV (As := [.int y1]) (rest := []) F hG hK (hP.sub (ws' := [(m0, .inr (4, [.int 0, .int (nI (vnC v)), .int (nI (vnP v)), .int (nI (vnK v)), .ref m1, .ref m2, .ref m3, .ref m4, .ref m5, .ref m6]))]) [0] rfl) ((hD.sub (ws' := [(m0, .inr (4, [.int 0, .int (nI (vnC v)), .int (nI (vnP v)), .int (nI (vnK v)), .ref m1, .ref m2, .ref m3, .ref m4, .ref m5, .ref m6]))]) [0] (by decide) rfl).weaken (fun _ _ _ _ => trivial)) s_RX4_59 (c_X4_isPit l D cI cZ cJ m0 m1 m2 m3 m4 m5 m6 (vnC v) (vnK v) (vnP v) 0 y1 (by first | assumption | omega) _) 4 0 rfl rfl rfl rfl hl.1 rfl (Nat.le_of_ble_eq_true rfl) dX4_pit_7 ⟨(Nat.le_of_ble_eq_true rfl), (Nat.le_of_ble_eq_true rfl)⟩ ⟨(Nat.le_of_ble_eq_true rfl), (Nat.le_of_ble_eq_true rfl)⟩) hP hD hS hA [0] [1] rfl rfl (by decide) (by decide) (fun r_7 uu H locs hw hP hD hS => ?_)
  try dsimp only at hw
  have hP : va_P D vwCl [(m5, .inl (cI, 8, .inl (ho2 (vpw v) (vpa v)))), (m0, .inr (4, [.int 0, .int (nI (vnC v)), .int (nI (vnP v)), .int (nI (vnK v)), .ref m1, .ref m2, .ref m3, .ref m4, .ref m5, .ref m6]))] _ := hP
  have hD : va_D A [(m5, .inl (cI, 8, .inl (ho2 (vpw v) (vpa v)))), (m0, .inr (4, [.int 0, .int (nI (vnC v)), .int (nI (vnP v)), .int (nI (vnK v)), .ref m1, .ref m2, .ref m3, .ref m4, .ref m5, .ref m6]))] := hD
  rcases hw with ⟨rfl, b_1⟩ | ⟨rfl, b_1⟩
  · skip
    obtain ⟨j_7, hj_7, rfl⟩ := b_1
    have ht_7 := hasT (n := (vnP v)) (by omega) hj_7
    have ix_7 : ix (nI j_7) = j_7 := ix_nI (by omega)
    have hP : va_P D vwCl [(m5, .inl (cI, 8, .inl (ho2 (vpw v) (vpa v)))), (m0, .inr (4, [.int 0, .int (nI (vnC v)), .int (nI (vnP v)), .int (nI (vnK v)), .ref m1, .ref m2, .ref m3, .ref m4, .ref m5, .ref m6]))] _ := hP
    have hD : va_D A [(m5, .inl (cI, 8, .inl (ho2 (vpw v) (vpa v)))), (m0, .inr (4, [.int 0, .int (nI (vnC v)), .int (nI (vnP v)), .int (nI (vnK v)), .ref m1, .ref m2, .ref m3, .ref m4, .ref m5, .ref m6]))] := hD
    have hl : lv_has ls 3 [(0, .ref m0), (1, .int (nI j_7)), (2, .int y2)] := hl
    refine lv_if_eq (tgt := 31) hx hb dX4_pit_10 (by decide) (fun h => absurd h (by decide)) (fun _ => ?_)
    refine lv_iload_n hx hb dX4_pit_13 rfl (lv_at hl 2 rfl) ?_
    refine lv_iconst (v := 0) hx hb dX4_pit_14 (by decide) ?_
    refine lv_iconst (v := 3) hx hb dX4_pit_15 (by decide) ?_
    refine k_i (wr := [(m5, .inl (cI, 8, .inl (ho2 (vpw v) (vpa v)))), (m0, .inr (4, [.int 0, .int (nI (vnC v)), .int (nI (vnP v)), .int (nI (vnK v)), .ref m1, .ref m2, .ref m3, .ref m4, .ref m5, .ref m6]))]) (rS (As := [.int y2, .int 0, .int 3]) (rest := []) F hG hK (hP.sub (ws' := []) [] rfl) ((hD.sub (ws' := []) [] (by decide) rfl).weaken (fun _ _ _ _ => trivial)) s_RX4_35 (c_X4_isIn l D cI cZ cJ y2 0 3 _) rfl hl.1 rfl (Nat.le_of_ble_eq_true rfl) dX4_pit_16 ⟨(Nat.le_of_ble_eq_true rfl), (Nat.le_of_ble_eq_true rfl)⟩ ⟨(Nat.le_of_ble_eq_true rfl), (Nat.le_of_ble_eq_true rfl)⟩) hP hD hS hA [] [0, 1] rfl rfl (by decide) (by decide) (fun r_16 uu H locs hw hP hD hS => ?_)
    try dsimp only at hw
    have hP : va_P D vwCl [(m5, .inl (cI, 8, .inl (ho2 (vpw v) (vpa v)))), (m0, .inr (4, [.int 0, .int (nI (vnC v)), .int (nI (vnP v)), .int (nI (vnK v)), .ref m1, .ref m2, .ref m3, .ref m4, .ref m5, .ref m6]))] _ := hP
    have hD : va_D A [(m5, .inl (cI, 8, .inl (ho2 (vpw v) (vpa v)))), (m0, .inr (4, [.int 0, .int (nI (vnC v)), .int (nI (vnP v)), .int (nI (vnK v)), .ref m1, .ref m2, .ref m3, .ref m4, .ref m5, .ref m6]))] := hD
    rcases hw with ⟨rfl, b_2⟩ | ⟨rfl, b_2⟩
    · skip
      rcases in03 b_2 with rfl | rfl | rfl | rfl
      · skip
        have hP : va_P D vwCl [(m5, .inl (cI, 8, .inl (ho2 (vpw v) (vpa v)))), (m0, .inr (4, [.int 0, .int (nI (vnC v)), .int (nI (vnP v)), .int (nI (vnK v)), .ref m1, .ref m2, .ref m3, .ref m4, .ref m5, .ref m6]))] _ := hP
        have hD : va_D A [(m5, .inl (cI, 8, .inl (ho2 (vpw v) (vpa v)))), (m0, .inr (4, [.int 0, .int (nI (vnC v)), .int (nI (vnP v)), .int (nI (vnK v)), .ref m1, .ref m2, .ref m3, .ref m4, .ref m5, .ref m6]))] := hD
        have hl : lv_has ls 3 [(0, .ref m0), (1, .int (nI j_7)), (2, .int 0)] := hl
        refine lv_if_eq (tgt := 31) hx hb dX4_pit_19 (by decide) (fun h => absurd h (by decide)) (fun _ => ?_)
        refine lv_aload_n hx hb dX4_pit_22 rfl (lv_at hl 0 rfl) ?_
        refine lv_iload_n hx hb dX4_pit_23 rfl (lv_at hl 1 rfl) ?_
        refine lv_iload_n hx hb dX4_pit_24 rfl (lv_at hl 2 rfl) ?_
        refine k_i (wr := []) (rV (As := [.int (nI j_7), .int 0]) (rest := []) F hG hK (hP.sub (ws' := [(m0, .inr (4, [.int 0, .int (nI (vnC v)), .int (nI (vnP v)), .int (nI (vnK v)), .ref m1, .ref m2, .ref m3, .ref m4, .ref m5, .ref m6])), (m5, .inl (cI, 8, .inl (ho2 (vpw v) (vpa v))))]) [1, 0] rfl) ((hD.sub (ws' := [(m0, .inr (4, [.int 0, .int (nI (vnC v)), .int (nI (vnP v)), .int (nI (vnK v)), .ref m1, .ref m2, .ref m3, .ref m4, .ref m5, .ref m6])), (m5, .inl (cI, 8, .inl (ho2 (vpw v) (vpa v))))]) [1, 0] (by decide) rfl).weaken (fun _ _ _ _ => trivial)) s_RX4_81 (c_X4_pitTold l D cI cZ cJ m0 m1 m2 m3 m4 m5 m6 0 v j_7 0 (by first | assumption | omega) (hN.p0 (by omega)) _) 4 0 rfl rfl rfl rfl hl.1 rfl (Nat.le_of_ble_eq_true rfl) dX4_pit_25 ⟨(Nat.le_of_ble_eq_true rfl), (Nat.le_of_ble_eq_true rfl)⟩ ⟨(Nat.le_of_ble_eq_true rfl), (Nat.le_of_ble_eq_true rfl)⟩) hP hD hS hA [1, 0] [] rfl rfl (by decide) (by decide) (fun r_25 uu H locs hw hP hD hS => ?_)
        try dsimp only at hw
        subst hw
        have hP : va_P D vwCl [(m0, .inr (4, [.int 0, .int (nI (vnC v)), .int (nI (vnP v)), .int (nI (vnK v)), .ref m1, .ref m2, .ref m3, .ref m4, .ref m5, .ref m6])), (m5, .inl (cI, 8, .inl (ho2 (vpw v) (vpa v))))] _ := hP
        have hD : va_D A [(m0, .inr (4, [.int 0, .int (nI (vnC v)), .int (nI (vnP v)), .int (nI (vnK v)), .ref m1, .ref m2, .ref m3, .ref m4, .ref m5, .ref m6])), (m5, .inl (cI, 8, .inl (ho2 (vpw v) (vpa v))))] := hD
        refine lv_goto (tgt := 36) hx hb dX4_pit_28 (by decide) ?_
        exact hend _ _ _ _ _ _ (tld (vpw v j_7) (vpa v j_7) 0) 0 dX4_pit_36 (⟨by simp (decide := true) only [kPit, rPit, eq_true ht_7, ix_7, eq_true b_2, if_true, if_false, eq_self, tld, ltell], by simp (decide := true) only [kPit, eq_true ht_7, ix_7, eq_true b_2, if_true, if_false, eq_self]⟩) hP hD hS rfl (Nat.le_of_ble_eq_true rfl) (Nat.le_of_ble_eq_true rfl)
      · skip
        have hP : va_P D vwCl [(m5, .inl (cI, 8, .inl (ho2 (vpw v) (vpa v)))), (m0, .inr (4, [.int 0, .int (nI (vnC v)), .int (nI (vnP v)), .int (nI (vnK v)), .ref m1, .ref m2, .ref m3, .ref m4, .ref m5, .ref m6]))] _ := hP
        have hD : va_D A [(m5, .inl (cI, 8, .inl (ho2 (vpw v) (vpa v)))), (m0, .inr (4, [.int 0, .int (nI (vnC v)), .int (nI (vnP v)), .int (nI (vnK v)), .ref m1, .ref m2, .ref m3, .ref m4, .ref m5, .ref m6]))] := hD
        have hl : lv_has ls 3 [(0, .ref m0), (1, .int (nI j_7)), (2, .int 1)] := hl
        refine lv_if_eq (tgt := 31) hx hb dX4_pit_19 (by decide) (fun h => absurd h (by decide)) (fun _ => ?_)
        refine lv_aload_n hx hb dX4_pit_22 rfl (lv_at hl 0 rfl) ?_
        refine lv_iload_n hx hb dX4_pit_23 rfl (lv_at hl 1 rfl) ?_
        refine lv_iload_n hx hb dX4_pit_24 rfl (lv_at hl 2 rfl) ?_
        refine k_i (wr := []) (rV (As := [.int (nI j_7), .int 1]) (rest := []) F hG hK (hP.sub (ws' := [(m0, .inr (4, [.int 0, .int (nI (vnC v)), .int (nI (vnP v)), .int (nI (vnK v)), .ref m1, .ref m2, .ref m3, .ref m4, .ref m5, .ref m6])), (m5, .inl (cI, 8, .inl (ho2 (vpw v) (vpa v))))]) [1, 0] rfl) ((hD.sub (ws' := [(m0, .inr (4, [.int 0, .int (nI (vnC v)), .int (nI (vnP v)), .int (nI (vnK v)), .ref m1, .ref m2, .ref m3, .ref m4, .ref m5, .ref m6])), (m5, .inl (cI, 8, .inl (ho2 (vpw v) (vpa v))))]) [1, 0] (by decide) rfl).weaken (fun _ _ _ _ => trivial)) s_RX4_81 (c_X4_pitTold l D cI cZ cJ m0 m1 m2 m3 m4 m5 m6 0 v j_7 1 (by first | assumption | omega) (hN.p0 (by omega)) _) 4 0 rfl rfl rfl rfl hl.1 rfl (Nat.le_of_ble_eq_true rfl) dX4_pit_25 ⟨(Nat.le_of_ble_eq_true rfl), (Nat.le_of_ble_eq_true rfl)⟩ ⟨(Nat.le_of_ble_eq_true rfl), (Nat.le_of_ble_eq_true rfl)⟩) hP hD hS hA [1, 0] [] rfl rfl (by decide) (by decide) (fun r_25 uu H locs hw hP hD hS => ?_)
        try dsimp only at hw
        subst hw
        have hP : va_P D vwCl [(m0, .inr (4, [.int 0, .int (nI (vnC v)), .int (nI (vnP v)), .int (nI (vnK v)), .ref m1, .ref m2, .ref m3, .ref m4, .ref m5, .ref m6])), (m5, .inl (cI, 8, .inl (ho2 (vpw v) (vpa v))))] _ := hP
        have hD : va_D A [(m0, .inr (4, [.int 0, .int (nI (vnC v)), .int (nI (vnP v)), .int (nI (vnK v)), .ref m1, .ref m2, .ref m3, .ref m4, .ref m5, .ref m6])), (m5, .inl (cI, 8, .inl (ho2 (vpw v) (vpa v))))] := hD
        refine lv_goto (tgt := 36) hx hb dX4_pit_28 (by decide) ?_
        exact hend _ _ _ _ _ _ (tld (vpw v j_7) (vpa v j_7) 1) 0 dX4_pit_36 (⟨by simp (decide := true) only [kPit, rPit, eq_true ht_7, ix_7, eq_true b_2, if_true, if_false, eq_self, tld, ltell], by simp (decide := true) only [kPit, eq_true ht_7, ix_7, eq_true b_2, if_true, if_false, eq_self]⟩) hP hD hS rfl (Nat.le_of_ble_eq_true rfl) (Nat.le_of_ble_eq_true rfl)
      · skip
        have hP : va_P D vwCl [(m5, .inl (cI, 8, .inl (ho2 (vpw v) (vpa v)))), (m0, .inr (4, [.int 0, .int (nI (vnC v)), .int (nI (vnP v)), .int (nI (vnK v)), .ref m1, .ref m2, .ref m3, .ref m4, .ref m5, .ref m6]))] _ := hP
        have hD : va_D A [(m5, .inl (cI, 8, .inl (ho2 (vpw v) (vpa v)))), (m0, .inr (4, [.int 0, .int (nI (vnC v)), .int (nI (vnP v)), .int (nI (vnK v)), .ref m1, .ref m2, .ref m3, .ref m4, .ref m5, .ref m6]))] := hD
        have hl : lv_has ls 3 [(0, .ref m0), (1, .int (nI j_7)), (2, .int 2)] := hl
        refine lv_if_eq (tgt := 31) hx hb dX4_pit_19 (by decide) (fun h => absurd h (by decide)) (fun _ => ?_)
        refine lv_aload_n hx hb dX4_pit_22 rfl (lv_at hl 0 rfl) ?_
        refine lv_iload_n hx hb dX4_pit_23 rfl (lv_at hl 1 rfl) ?_
        refine lv_iload_n hx hb dX4_pit_24 rfl (lv_at hl 2 rfl) ?_
        refine k_i (wr := []) (rV (As := [.int (nI j_7), .int 2]) (rest := []) F hG hK (hP.sub (ws' := [(m0, .inr (4, [.int 0, .int (nI (vnC v)), .int (nI (vnP v)), .int (nI (vnK v)), .ref m1, .ref m2, .ref m3, .ref m4, .ref m5, .ref m6])), (m5, .inl (cI, 8, .inl (ho2 (vpw v) (vpa v))))]) [1, 0] rfl) ((hD.sub (ws' := [(m0, .inr (4, [.int 0, .int (nI (vnC v)), .int (nI (vnP v)), .int (nI (vnK v)), .ref m1, .ref m2, .ref m3, .ref m4, .ref m5, .ref m6])), (m5, .inl (cI, 8, .inl (ho2 (vpw v) (vpa v))))]) [1, 0] (by decide) rfl).weaken (fun _ _ _ _ => trivial)) s_RX4_81 (c_X4_pitTold l D cI cZ cJ m0 m1 m2 m3 m4 m5 m6 0 v j_7 2 (by first | assumption | omega) (hN.p0 (by omega)) _) 4 0 rfl rfl rfl rfl hl.1 rfl (Nat.le_of_ble_eq_true rfl) dX4_pit_25 ⟨(Nat.le_of_ble_eq_true rfl), (Nat.le_of_ble_eq_true rfl)⟩ ⟨(Nat.le_of_ble_eq_true rfl), (Nat.le_of_ble_eq_true rfl)⟩) hP hD hS hA [1, 0] [] rfl rfl (by decide) (by decide) (fun r_25 uu H locs hw hP hD hS => ?_)
        try dsimp only at hw
        subst hw
        have hP : va_P D vwCl [(m0, .inr (4, [.int 0, .int (nI (vnC v)), .int (nI (vnP v)), .int (nI (vnK v)), .ref m1, .ref m2, .ref m3, .ref m4, .ref m5, .ref m6])), (m5, .inl (cI, 8, .inl (ho2 (vpw v) (vpa v))))] _ := hP
        have hD : va_D A [(m0, .inr (4, [.int 0, .int (nI (vnC v)), .int (nI (vnP v)), .int (nI (vnK v)), .ref m1, .ref m2, .ref m3, .ref m4, .ref m5, .ref m6])), (m5, .inl (cI, 8, .inl (ho2 (vpw v) (vpa v))))] := hD
        refine lv_goto (tgt := 36) hx hb dX4_pit_28 (by decide) ?_
        exact hend _ _ _ _ _ _ (tld (vpw v j_7) (vpa v j_7) 2) 0 dX4_pit_36 (⟨by simp (decide := true) only [kPit, rPit, eq_true ht_7, ix_7, eq_true b_2, if_true, if_false, eq_self, tld, ltell], by simp (decide := true) only [kPit, eq_true ht_7, ix_7, eq_true b_2, if_true, if_false, eq_self]⟩) hP hD hS rfl (Nat.le_of_ble_eq_true rfl) (Nat.le_of_ble_eq_true rfl)
      · skip
        have hP : va_P D vwCl [(m5, .inl (cI, 8, .inl (ho2 (vpw v) (vpa v)))), (m0, .inr (4, [.int 0, .int (nI (vnC v)), .int (nI (vnP v)), .int (nI (vnK v)), .ref m1, .ref m2, .ref m3, .ref m4, .ref m5, .ref m6]))] _ := hP
        have hD : va_D A [(m5, .inl (cI, 8, .inl (ho2 (vpw v) (vpa v)))), (m0, .inr (4, [.int 0, .int (nI (vnC v)), .int (nI (vnP v)), .int (nI (vnK v)), .ref m1, .ref m2, .ref m3, .ref m4, .ref m5, .ref m6]))] := hD
        have hl : lv_has ls 3 [(0, .ref m0), (1, .int (nI j_7)), (2, .int 3)] := hl
        refine lv_if_eq (tgt := 31) hx hb dX4_pit_19 (by decide) (fun h => absurd h (by decide)) (fun _ => ?_)
        refine lv_aload_n hx hb dX4_pit_22 rfl (lv_at hl 0 rfl) ?_
        refine lv_iload_n hx hb dX4_pit_23 rfl (lv_at hl 1 rfl) ?_
        refine lv_iload_n hx hb dX4_pit_24 rfl (lv_at hl 2 rfl) ?_
        refine k_i (wr := []) (rV (As := [.int (nI j_7), .int 3]) (rest := []) F hG hK (hP.sub (ws' := [(m0, .inr (4, [.int 0, .int (nI (vnC v)), .int (nI (vnP v)), .int (nI (vnK v)), .ref m1, .ref m2, .ref m3, .ref m4, .ref m5, .ref m6])), (m5, .inl (cI, 8, .inl (ho2 (vpw v) (vpa v))))]) [1, 0] rfl) ((hD.sub (ws' := [(m0, .inr (4, [.int 0, .int (nI (vnC v)), .int (nI (vnP v)), .int (nI (vnK v)), .ref m1, .ref m2, .ref m3, .ref m4, .ref m5, .ref m6])), (m5, .inl (cI, 8, .inl (ho2 (vpw v) (vpa v))))]) [1, 0] (by decide) rfl).weaken (fun _ _ _ _ => trivial)) s_RX4_81 (c_X4_pitTold l D cI cZ cJ m0 m1 m2 m3 m4 m5 m6 0 v j_7 3 (by first | assumption | omega) (hN.p0 (by omega)) _) 4 0 rfl rfl rfl rfl hl.1 rfl (Nat.le_of_ble_eq_true rfl) dX4_pit_25 ⟨(Nat.le_of_ble_eq_true rfl), (Nat.le_of_ble_eq_true rfl)⟩ ⟨(Nat.le_of_ble_eq_true rfl), (Nat.le_of_ble_eq_true rfl)⟩) hP hD hS hA [1, 0] [] rfl rfl (by decide) (by decide) (fun r_25 uu H locs hw hP hD hS => ?_)
        try dsimp only at hw
        subst hw
        have hP : va_P D vwCl [(m0, .inr (4, [.int 0, .int (nI (vnC v)), .int (nI (vnP v)), .int (nI (vnK v)), .ref m1, .ref m2, .ref m3, .ref m4, .ref m5, .ref m6])), (m5, .inl (cI, 8, .inl (ho2 (vpw v) (vpa v))))] _ := hP
        have hD : va_D A [(m0, .inr (4, [.int 0, .int (nI (vnC v)), .int (nI (vnP v)), .int (nI (vnK v)), .ref m1, .ref m2, .ref m3, .ref m4, .ref m5, .ref m6])), (m5, .inl (cI, 8, .inl (ho2 (vpw v) (vpa v))))] := hD
        refine lv_goto (tgt := 36) hx hb dX4_pit_28 (by decide) ?_
        exact hend _ _ _ _ _ _ (tld (vpw v j_7) (vpa v j_7) 3) 0 dX4_pit_36 (⟨by simp (decide := true) only [kPit, rPit, eq_true ht_7, ix_7, eq_true b_2, if_true, if_false, eq_self, tld, ltell], by simp (decide := true) only [kPit, eq_true ht_7, ix_7, eq_true b_2, if_true, if_false, eq_self]⟩) hP hD hS rfl (Nat.le_of_ble_eq_true rfl) (Nat.le_of_ble_eq_true rfl)
    · skip
      refine lv_if_eq (tgt := 31) hx hb dX4_pit_19 (by decide) (fun _ => ?_) (fun h => absurd (by decide) h)
      refine lv_aload_n hx hb dX4_pit_31 rfl (lv_at hl 0 rfl) ?_
      refine lv_iconst (v := 1) hx hb dX4_pit_32 (by decide) ?_
      refine k_i (wr := [(m5, .inl (cI, 8, .inl (ho2 (vpw v) (vpa v))))]) (rV (As := [.int 1]) (rest := []) F hG hK (hP.sub (ws' := [(m0, .inr (4, [.int 0, .int (nI (vnC v)), .int (nI (vnP v)), .int (nI (vnK v)), .ref m1, .ref m2, .ref m3, .ref m4, .ref m5, .ref m6]))]) [1] rfl) ((hD.sub (ws' := [(m0, .inr (4, [.int 0, .int (nI (vnC v)), .int (nI (vnP v)), .int (nI (vnK v)), .ref m1, .ref m2, .ref m3, .ref m4, .ref m5, .ref m6]))]) [1] (by decide) rfl).weaken (fun _ _ _ _ => trivial)) s_RX4_45 (c_X4_fail l D cI cZ cJ m0 m1 m2 m3 m4 m5 m6 (vnC v) (vnP v) (vnK v) 0 1 _) 4 0 rfl rfl rfl rfl hl.1 rfl (Nat.le_of_ble_eq_true rfl) dX4_pit_33 ⟨(Nat.le_of_ble_eq_true rfl), (Nat.le_of_ble_eq_true rfl)⟩ ⟨(Nat.le_of_ble_eq_true rfl), (Nat.le_of_ble_eq_true rfl)⟩) hP hD hS hA [1] [0] rfl rfl (by decide) (by decide) (fun r_33 uu H locs hw hP hD hS => ?_)
      try dsimp only at hw
      subst hw
      have hP : va_P D vwCl [(m5, .inl (cI, 8, .inl (ho2 (vpw v) (vpa v)))), (m0, .inr (4, [.int 1, .int (nI (vnC v)), .int (nI (vnP v)), .int (nI (vnK v)), .ref m1, .ref m2, .ref m3, .ref m4, .ref m5, .ref m6]))] _ := hP
      have hD : va_D A [(m5, .inl (cI, 8, .inl (ho2 (vpw v) (vpa v)))), (m0, .inr (4, [.int 1, .int (nI (vnC v)), .int (nI (vnP v)), .int (nI (vnK v)), .ref m1, .ref m2, .ref m3, .ref m4, .ref m5, .ref m6]))] := hD
      exact hend _ _ _ _ _ _ 0 1 dX4_pit_36 (⟨by simp (decide := true) only [kPit, rPit, eq_true ht_7, ix_7, eq_false b_2, if_true, if_false, eq_self, tld, ltell], by simp (decide := true) only [kPit, eq_true ht_7, ix_7, eq_false b_2, if_true, if_false, eq_self]⟩) (hP.sub [1, 0] rfl) (hD.sub [1, 0] (by decide) rfl) hS rfl (Nat.le_of_ble_eq_true rfl) (Nat.le_of_ble_eq_true rfl)
  · skip
    refine lv_if_eq (tgt := 31) hx hb dX4_pit_10 (by decide) (fun _ => ?_) (fun h => absurd (by decide) h)
    refine lv_aload_n hx hb dX4_pit_31 rfl (lv_at hl 0 rfl) ?_
    refine lv_iconst (v := 1) hx hb dX4_pit_32 (by decide) ?_
    refine k_i (wr := [(m5, .inl (cI, 8, .inl (ho2 (vpw v) (vpa v))))]) (rV (As := [.int 1]) (rest := []) F hG hK (hP.sub (ws' := [(m0, .inr (4, [.int 0, .int (nI (vnC v)), .int (nI (vnP v)), .int (nI (vnK v)), .ref m1, .ref m2, .ref m3, .ref m4, .ref m5, .ref m6]))]) [1] rfl) ((hD.sub (ws' := [(m0, .inr (4, [.int 0, .int (nI (vnC v)), .int (nI (vnP v)), .int (nI (vnK v)), .ref m1, .ref m2, .ref m3, .ref m4, .ref m5, .ref m6]))]) [1] (by decide) rfl).weaken (fun _ _ _ _ => trivial)) s_RX4_45 (c_X4_fail l D cI cZ cJ m0 m1 m2 m3 m4 m5 m6 (vnC v) (vnP v) (vnK v) 0 1 _) 4 0 rfl rfl rfl rfl hl.1 rfl (Nat.le_of_ble_eq_true rfl) dX4_pit_33 ⟨(Nat.le_of_ble_eq_true rfl), (Nat.le_of_ble_eq_true rfl)⟩ ⟨(Nat.le_of_ble_eq_true rfl), (Nat.le_of_ble_eq_true rfl)⟩) hP hD hS hA [1] [0] rfl rfl (by decide) (by decide) (fun r_33 uu H locs hw hP hD hS => ?_)
    try dsimp only at hw
    subst hw
    have hP : va_P D vwCl [(m5, .inl (cI, 8, .inl (ho2 (vpw v) (vpa v)))), (m0, .inr (4, [.int 1, .int (nI (vnC v)), .int (nI (vnP v)), .int (nI (vnK v)), .ref m1, .ref m2, .ref m3, .ref m4, .ref m5, .ref m6]))] _ := hP
    have hD : va_D A [(m5, .inl (cI, 8, .inl (ho2 (vpw v) (vpa v)))), (m0, .inr (4, [.int 1, .int (nI (vnC v)), .int (nI (vnP v)), .int (nI (vnK v)), .ref m1, .ref m2, .ref m3, .ref m4, .ref m5, .ref m6]))] := hD
    exact hend _ _ _ _ _ _ 0 1 dX4_pit_36 (⟨by simp (decide := true) only [kPit, rPit, eq_false b_1, if_true, if_false, eq_self, tld, ltell], by simp (decide := true) only [kPit, eq_false b_1, if_true, if_false, eq_self]⟩) (hP.sub [1, 0] rfl) (hD.sub [1, 0] (by decide) rfl) hS rfl (Nat.le_of_ble_eq_true rfl) (Nat.le_of_ble_eq_true rfl)

def rm_X4_about : Room := { frames := 3, cells := 0, slots := 0, locals := 65 }
set_option maxHeartbeats 4000000 in
set_option maxRecDepth 100000 in
theorem c_X4_about (l : Launch) (D : va_G) (cI cZ cJ : ClassId) (m0 m1 m2 m3 m4 m5 m6 : Nat) (th : Int32) (v : VT) (y1 y2 : Int32) (hI : IS v) (hN : NN v) : Mi l yX4_about cX4_about 3 (some .int) rm_X4_about D (TY cI cZ cJ) [.ref m0, .int y1, .int y2] [(m0, .inr (4, [.int th, .int (nI (vnC v)), .int (nI (vnP v)), .int (nI (vnK v)), .ref m1, .ref m2, .ref m3, .ref m4, .ref m5, .ref m6])), (m6, .inl (cI, 9, .inl (ke3 (vkw v) (vka v) (vkb v))))] (fun (r : Int32) (u : Int32) => r = (if kAbout v y1 y2 = 0 then rAbout v y1 y2 else 0) ∧ u = kAbout v y1 y2) (fun (u : Int32) => [(m0, .inr (4, [.int u, .int (nI (vnC v)), .int (nI (vnP v)), .int (nI (vnK v)), .ref m1, .ref m2, .ref m3, .ref m4, .ref m5, .ref m6])), (m6, .inl (cI, 9, .inl (ke3 (vkw v) (vka v) (vkb v))))]) := by
  refine Mi.ofQ (by decide) (Nat.le_of_ble_eq_true rfl) ?_
  intro p e s m args below meth c A ls Q hF hK hP hD hA hl hend
  obtain ⟨F, hr, hlocks, hG⟩ := hF
  have hx := F.1
  have hb := F.2.1
  have hown := F.2.2.2.1
  have ht := F.2.2.2.2
  have hS : va_S A s.heap s.heap [] := va_S.rf
  have hl : lv_has ls 3 [(0, .ref m0), (1, .int y1), (2, .int y2)] := hl
  obtain ⟨hC4, hP4, hK3, hAH, hf1, hf2, hf3, hdy⟩ := hI
  refine lv_aload_n hx hb dX4_about_0 rfl (lv_at hl 0 rfl) ?_
  refine lv_iconst (v := 0) hx hb dX4_about_1 (by decide) ?_
  refine va_put (D := D) (ci := 4) (v := .int 0) (C := RX4) (T := TX4) (N := 10) hx hb ht inG_X4 tyX4 tyX4_ok nmX4 hown hK hP hD hS 0 rfl rfl 0 (by decide) (ht _ qF_RX4_28) (fun _ h9 => h9) rfl (tyX4_ok 0 (by decide)) rfl rfl (Nat.le_of_ble_eq_true rfl) dX4_about_2 (fun H locs hP hD hS => ?_)
  have hP : va_P D vwCl [(m0, .inr (4, [.int 0, .int (nI (vnC v)), .int (nI (vnP v)), .int (nI (vnK v)), .ref m1, .ref m2, .ref m3, .ref m4, .ref m5, .ref m6])), (m6, .inl (cI, 9, .inl (ke3 (vkw v) (vka v) (vkb v))))] _ := hP
  have hD : va_D A [(m0, .inr (4, [.int 0, .int (nI (vnC v)), .int (nI (vnP v)), .int (nI (vnK v)), .ref m1, .ref m2, .ref m3, .ref m4, .ref m5, .ref m6])), (m6, .inl (cI, 9, .inl (ke3 (vkw v) (vka v) (vkb v))))] := hD
  refine lv_aload_n hx hb dX4_about_5 rfl (lv_at hl 0 rfl) ?_
  refine lv_iload_n hx hb dX4_about_6 rfl (lv_at hl 1 rfl) ?_
  refine k_i (wr := [(m6, .inl (cI, 9, .inl (ke3 (vkw v) (vka v) (vkb v))))]) (rV (As := [.int y1]) (rest := []) F hG hK (hP.sub (ws' := [(m0, .inr (4, [.int 0, .int (nI (vnC v)), .int (nI (vnP v)), .int (nI (vnK v)), .ref m1, .ref m2, .ref m3, .ref m4, .ref m5, .ref m6]))]) [0] rfl) ((hD.sub (ws' := [(m0, .inr (4, [.int 0, .int (nI (vnC v)), .int (nI (vnP v)), .int (nI (vnK v)), .ref m1, .ref m2, .ref m3, .ref m4, .ref m5, .ref m6]))]) [0] (by decide) rfl).weaken (fun _ _ _ _ => trivial)) s_RX4_62 (c_X4_isPan l D cI cZ cJ m0 m1 m2 m3 m4 m5 m6 (vnC v) (vnP v) (vnK v) 0 y1 (by first | assumption | omega) _) 4 0 rfl rfl rfl rfl hl.1 rfl (Nat.le_of_ble_eq_true rfl) dX4_about_7 ⟨(Nat.le_of_ble_eq_true rfl), (Nat.le_of_ble_eq_true rfl)⟩ ⟨(Nat.le_of_ble_eq_true rfl), (Nat.le_of_ble_eq_true rfl)⟩) hP hD hS hA [0] [1] rfl rfl (by decide) (by decide) (fun r_7 uu H locs hw hP hD hS => ?_)
  try dsimp only at hw
  have hP : va_P D vwCl [(m6, .inl (cI, 9, .inl (ke3 (vkw v) (vka v) (vkb v)))), (m0, .inr (4, [.int 0, .int (nI (vnC v)), .int (nI (vnP v)), .int (nI (vnK v)), .ref m1, .ref m2, .ref m3, .ref m4, .ref m5, .ref m6]))] _ := hP
  have hD : va_D A [(m6, .inl (cI, 9, .inl (ke3 (vkw v) (vka v) (vkb v)))), (m0, .inr (4, [.int 0, .int (nI (vnC v)), .int (nI (vnP v)), .int (nI (vnK v)), .ref m1, .ref m2, .ref m3, .ref m4, .ref m5, .ref m6]))] := hD
  rcases hw with ⟨rfl, b_1⟩ | ⟨rfl, b_1⟩
  · skip
    obtain ⟨j_7, hj_7, rfl⟩ := b_1
    have ht_7 := hasT (n := (vnK v)) (by omega) hj_7
    have ix_7 : ix (nI j_7) = j_7 := ix_nI (by omega)
    have hP : va_P D vwCl [(m6, .inl (cI, 9, .inl (ke3 (vkw v) (vka v) (vkb v)))), (m0, .inr (4, [.int 0, .int (nI (vnC v)), .int (nI (vnP v)), .int (nI (vnK v)), .ref m1, .ref m2, .ref m3, .ref m4, .ref m5, .ref m6]))] _ := hP
    have hD : va_D A [(m6, .inl (cI, 9, .inl (ke3 (vkw v) (vka v) (vkb v)))), (m0, .inr (4, [.int 0, .int (nI (vnC v)), .int (nI (vnP v)), .int (nI (vnK v)), .ref m1, .ref m2, .ref m3, .ref m4, .ref m5, .ref m6]))] := hD
    have hl : lv_has ls 3 [(0, .ref m0), (1, .int (nI j_7)), (2, .int y2)] := hl
    refine lv_if_eq (tgt := 31) hx hb dX4_about_10 (by decide) (fun h => absurd h (by decide)) (fun _ => ?_)
    refine lv_iload_n hx hb dX4_about_13 rfl (lv_at hl 2 rfl) ?_
    refine lv_iconst (v := 0) hx hb dX4_about_14 (by decide) ?_
    refine lv_iconst (v := 4) hx hb dX4_about_15 (by decide) ?_
    refine k_i (wr := [(m6, .inl (cI, 9, .inl (ke3 (vkw v) (vka v) (vkb v)))), (m0, .inr (4, [.int 0, .int (nI (vnC v)), .int (nI (vnP v)), .int (nI (vnK v)), .ref m1, .ref m2, .ref m3, .ref m4, .ref m5, .ref m6]))]) (rS (As := [.int y2, .int 0, .int 4]) (rest := []) F hG hK (hP.sub (ws' := []) [] rfl) ((hD.sub (ws' := []) [] (by decide) rfl).weaken (fun _ _ _ _ => trivial)) s_RX4_35 (c_X4_isIn l D cI cZ cJ y2 0 4 _) rfl hl.1 rfl (Nat.le_of_ble_eq_true rfl) dX4_about_16 ⟨(Nat.le_of_ble_eq_true rfl), (Nat.le_of_ble_eq_true rfl)⟩ ⟨(Nat.le_of_ble_eq_true rfl), (Nat.le_of_ble_eq_true rfl)⟩) hP hD hS hA [] [0, 1] rfl rfl (by decide) (by decide) (fun r_16 uu H locs hw hP hD hS => ?_)
    try dsimp only at hw
    have hP : va_P D vwCl [(m6, .inl (cI, 9, .inl (ke3 (vkw v) (vka v) (vkb v)))), (m0, .inr (4, [.int 0, .int (nI (vnC v)), .int (nI (vnP v)), .int (nI (vnK v)), .ref m1, .ref m2, .ref m3, .ref m4, .ref m5, .ref m6]))] _ := hP
    have hD : va_D A [(m6, .inl (cI, 9, .inl (ke3 (vkw v) (vka v) (vkb v)))), (m0, .inr (4, [.int 0, .int (nI (vnC v)), .int (nI (vnP v)), .int (nI (vnK v)), .ref m1, .ref m2, .ref m3, .ref m4, .ref m5, .ref m6]))] := hD
    rcases hw with ⟨rfl, b_2⟩ | ⟨rfl, b_2⟩
    · skip
      rcases in04 b_2 with rfl | rfl | rfl | rfl | rfl
      · skip
        have hP : va_P D vwCl [(m6, .inl (cI, 9, .inl (ke3 (vkw v) (vka v) (vkb v)))), (m0, .inr (4, [.int 0, .int (nI (vnC v)), .int (nI (vnP v)), .int (nI (vnK v)), .ref m1, .ref m2, .ref m3, .ref m4, .ref m5, .ref m6]))] _ := hP
        have hD : va_D A [(m6, .inl (cI, 9, .inl (ke3 (vkw v) (vka v) (vkb v)))), (m0, .inr (4, [.int 0, .int (nI (vnC v)), .int (nI (vnP v)), .int (nI (vnK v)), .ref m1, .ref m2, .ref m3, .ref m4, .ref m5, .ref m6]))] := hD
        have hl : lv_has ls 3 [(0, .ref m0), (1, .int (nI j_7)), (2, .int 0)] := hl
        refine lv_if_eq (tgt := 31) hx hb dX4_about_19 (by decide) (fun h => absurd h (by decide)) (fun _ => ?_)
        refine lv_aload_n hx hb dX4_about_22 rfl (lv_at hl 0 rfl) ?_
        refine lv_iload_n hx hb dX4_about_23 rfl (lv_at hl 1 rfl) ?_
        refine lv_iload_n hx hb dX4_about_24 rfl (lv_at hl 2 rfl) ?_
        refine k_i (wr := []) (rV (As := [.int (nI j_7), .int 0]) (rest := []) F hG hK (hP.sub (ws' := [(m0, .inr (4, [.int 0, .int (nI (vnC v)), .int (nI (vnP v)), .int (nI (vnK v)), .ref m1, .ref m2, .ref m3, .ref m4, .ref m5, .ref m6])), (m6, .inl (cI, 9, .inl (ke3 (vkw v) (vka v) (vkb v))))]) [1, 0] rfl) ((hD.sub (ws' := [(m0, .inr (4, [.int 0, .int (nI (vnC v)), .int (nI (vnP v)), .int (nI (vnK v)), .ref m1, .ref m2, .ref m3, .ref m4, .ref m5, .ref m6])), (m6, .inl (cI, 9, .inl (ke3 (vkw v) (vka v) (vkb v))))]) [1, 0] (by decide) rfl).weaken (fun _ _ _ _ => trivial)) s_RX4_84 (c_X4_panTold l D cI cZ cJ m0 m1 m2 m3 m4 m5 m6 0 v j_7 0 (by first | assumption | omega) (hN.k0 (by omega)) _) 4 0 rfl rfl rfl rfl hl.1 rfl (Nat.le_of_ble_eq_true rfl) dX4_about_25 ⟨(Nat.le_of_ble_eq_true rfl), (Nat.le_of_ble_eq_true rfl)⟩ ⟨(Nat.le_of_ble_eq_true rfl), (Nat.le_of_ble_eq_true rfl)⟩) hP hD hS hA [1, 0] [] rfl rfl (by decide) (by decide) (fun r_25 uu H locs hw hP hD hS => ?_)
        try dsimp only at hw
        subst hw
        have hP : va_P D vwCl [(m0, .inr (4, [.int 0, .int (nI (vnC v)), .int (nI (vnP v)), .int (nI (vnK v)), .ref m1, .ref m2, .ref m3, .ref m4, .ref m5, .ref m6])), (m6, .inl (cI, 9, .inl (ke3 (vkw v) (vka v) (vkb v))))] _ := hP
        have hD : va_D A [(m0, .inr (4, [.int 0, .int (nI (vnC v)), .int (nI (vnP v)), .int (nI (vnK v)), .ref m1, .ref m2, .ref m3, .ref m4, .ref m5, .ref m6])), (m6, .inl (cI, 9, .inl (ke3 (vkw v) (vka v) (vkb v))))] := hD
        refine lv_goto (tgt := 36) hx hb dX4_about_28 (by decide) ?_
        exact hend _ _ _ _ _ _ (if 0 = 4 then vkb v j_7 else tld (vkw v j_7) (vka v j_7) 0) 0 dX4_about_36 (⟨by simp (decide := true) only [kAbout, rAbout, eq_true ht_7, ix_7, eq_true b_2, if_true, if_false, eq_self, tld, ltell, b01_of (hf3 _)], by simp (decide := true) only [kAbout, eq_true ht_7, ix_7, eq_true b_2, if_true, if_false, eq_self]⟩) hP hD hS rfl (Nat.le_of_ble_eq_true rfl) (Nat.le_of_ble_eq_true rfl)
      · skip
        have hP : va_P D vwCl [(m6, .inl (cI, 9, .inl (ke3 (vkw v) (vka v) (vkb v)))), (m0, .inr (4, [.int 0, .int (nI (vnC v)), .int (nI (vnP v)), .int (nI (vnK v)), .ref m1, .ref m2, .ref m3, .ref m4, .ref m5, .ref m6]))] _ := hP
        have hD : va_D A [(m6, .inl (cI, 9, .inl (ke3 (vkw v) (vka v) (vkb v)))), (m0, .inr (4, [.int 0, .int (nI (vnC v)), .int (nI (vnP v)), .int (nI (vnK v)), .ref m1, .ref m2, .ref m3, .ref m4, .ref m5, .ref m6]))] := hD
        have hl : lv_has ls 3 [(0, .ref m0), (1, .int (nI j_7)), (2, .int 1)] := hl
        refine lv_if_eq (tgt := 31) hx hb dX4_about_19 (by decide) (fun h => absurd h (by decide)) (fun _ => ?_)
        refine lv_aload_n hx hb dX4_about_22 rfl (lv_at hl 0 rfl) ?_
        refine lv_iload_n hx hb dX4_about_23 rfl (lv_at hl 1 rfl) ?_
        refine lv_iload_n hx hb dX4_about_24 rfl (lv_at hl 2 rfl) ?_
        refine k_i (wr := []) (rV (As := [.int (nI j_7), .int 1]) (rest := []) F hG hK (hP.sub (ws' := [(m0, .inr (4, [.int 0, .int (nI (vnC v)), .int (nI (vnP v)), .int (nI (vnK v)), .ref m1, .ref m2, .ref m3, .ref m4, .ref m5, .ref m6])), (m6, .inl (cI, 9, .inl (ke3 (vkw v) (vka v) (vkb v))))]) [1, 0] rfl) ((hD.sub (ws' := [(m0, .inr (4, [.int 0, .int (nI (vnC v)), .int (nI (vnP v)), .int (nI (vnK v)), .ref m1, .ref m2, .ref m3, .ref m4, .ref m5, .ref m6])), (m6, .inl (cI, 9, .inl (ke3 (vkw v) (vka v) (vkb v))))]) [1, 0] (by decide) rfl).weaken (fun _ _ _ _ => trivial)) s_RX4_84 (c_X4_panTold l D cI cZ cJ m0 m1 m2 m3 m4 m5 m6 0 v j_7 1 (by first | assumption | omega) (hN.k0 (by omega)) _) 4 0 rfl rfl rfl rfl hl.1 rfl (Nat.le_of_ble_eq_true rfl) dX4_about_25 ⟨(Nat.le_of_ble_eq_true rfl), (Nat.le_of_ble_eq_true rfl)⟩ ⟨(Nat.le_of_ble_eq_true rfl), (Nat.le_of_ble_eq_true rfl)⟩) hP hD hS hA [1, 0] [] rfl rfl (by decide) (by decide) (fun r_25 uu H locs hw hP hD hS => ?_)
        try dsimp only at hw
        subst hw
        have hP : va_P D vwCl [(m0, .inr (4, [.int 0, .int (nI (vnC v)), .int (nI (vnP v)), .int (nI (vnK v)), .ref m1, .ref m2, .ref m3, .ref m4, .ref m5, .ref m6])), (m6, .inl (cI, 9, .inl (ke3 (vkw v) (vka v) (vkb v))))] _ := hP
        have hD : va_D A [(m0, .inr (4, [.int 0, .int (nI (vnC v)), .int (nI (vnP v)), .int (nI (vnK v)), .ref m1, .ref m2, .ref m3, .ref m4, .ref m5, .ref m6])), (m6, .inl (cI, 9, .inl (ke3 (vkw v) (vka v) (vkb v))))] := hD
        refine lv_goto (tgt := 36) hx hb dX4_about_28 (by decide) ?_
        exact hend _ _ _ _ _ _ (if 1 = 4 then vkb v j_7 else tld (vkw v j_7) (vka v j_7) 1) 0 dX4_about_36 (⟨by simp (decide := true) only [kAbout, rAbout, eq_true ht_7, ix_7, eq_true b_2, if_true, if_false, eq_self, tld, ltell, b01_of (hf3 _)], by simp (decide := true) only [kAbout, eq_true ht_7, ix_7, eq_true b_2, if_true, if_false, eq_self]⟩) hP hD hS rfl (Nat.le_of_ble_eq_true rfl) (Nat.le_of_ble_eq_true rfl)
      · skip
        have hP : va_P D vwCl [(m6, .inl (cI, 9, .inl (ke3 (vkw v) (vka v) (vkb v)))), (m0, .inr (4, [.int 0, .int (nI (vnC v)), .int (nI (vnP v)), .int (nI (vnK v)), .ref m1, .ref m2, .ref m3, .ref m4, .ref m5, .ref m6]))] _ := hP
        have hD : va_D A [(m6, .inl (cI, 9, .inl (ke3 (vkw v) (vka v) (vkb v)))), (m0, .inr (4, [.int 0, .int (nI (vnC v)), .int (nI (vnP v)), .int (nI (vnK v)), .ref m1, .ref m2, .ref m3, .ref m4, .ref m5, .ref m6]))] := hD
        have hl : lv_has ls 3 [(0, .ref m0), (1, .int (nI j_7)), (2, .int 2)] := hl
        refine lv_if_eq (tgt := 31) hx hb dX4_about_19 (by decide) (fun h => absurd h (by decide)) (fun _ => ?_)
        refine lv_aload_n hx hb dX4_about_22 rfl (lv_at hl 0 rfl) ?_
        refine lv_iload_n hx hb dX4_about_23 rfl (lv_at hl 1 rfl) ?_
        refine lv_iload_n hx hb dX4_about_24 rfl (lv_at hl 2 rfl) ?_
        refine k_i (wr := []) (rV (As := [.int (nI j_7), .int 2]) (rest := []) F hG hK (hP.sub (ws' := [(m0, .inr (4, [.int 0, .int (nI (vnC v)), .int (nI (vnP v)), .int (nI (vnK v)), .ref m1, .ref m2, .ref m3, .ref m4, .ref m5, .ref m6])), (m6, .inl (cI, 9, .inl (ke3 (vkw v) (vka v) (vkb v))))]) [1, 0] rfl) ((hD.sub (ws' := [(m0, .inr (4, [.int 0, .int (nI (vnC v)), .int (nI (vnP v)), .int (nI (vnK v)), .ref m1, .ref m2, .ref m3, .ref m4, .ref m5, .ref m6])), (m6, .inl (cI, 9, .inl (ke3 (vkw v) (vka v) (vkb v))))]) [1, 0] (by decide) rfl).weaken (fun _ _ _ _ => trivial)) s_RX4_84 (c_X4_panTold l D cI cZ cJ m0 m1 m2 m3 m4 m5 m6 0 v j_7 2 (by first | assumption | omega) (hN.k0 (by omega)) _) 4 0 rfl rfl rfl rfl hl.1 rfl (Nat.le_of_ble_eq_true rfl) dX4_about_25 ⟨(Nat.le_of_ble_eq_true rfl), (Nat.le_of_ble_eq_true rfl)⟩ ⟨(Nat.le_of_ble_eq_true rfl), (Nat.le_of_ble_eq_true rfl)⟩) hP hD hS hA [1, 0] [] rfl rfl (by decide) (by decide) (fun r_25 uu H locs hw hP hD hS => ?_)
        try dsimp only at hw
        subst hw
        have hP : va_P D vwCl [(m0, .inr (4, [.int 0, .int (nI (vnC v)), .int (nI (vnP v)), .int (nI (vnK v)), .ref m1, .ref m2, .ref m3, .ref m4, .ref m5, .ref m6])), (m6, .inl (cI, 9, .inl (ke3 (vkw v) (vka v) (vkb v))))] _ := hP
        have hD : va_D A [(m0, .inr (4, [.int 0, .int (nI (vnC v)), .int (nI (vnP v)), .int (nI (vnK v)), .ref m1, .ref m2, .ref m3, .ref m4, .ref m5, .ref m6])), (m6, .inl (cI, 9, .inl (ke3 (vkw v) (vka v) (vkb v))))] := hD
        refine lv_goto (tgt := 36) hx hb dX4_about_28 (by decide) ?_
        exact hend _ _ _ _ _ _ (if 2 = 4 then vkb v j_7 else tld (vkw v j_7) (vka v j_7) 2) 0 dX4_about_36 (⟨by simp (decide := true) only [kAbout, rAbout, eq_true ht_7, ix_7, eq_true b_2, if_true, if_false, eq_self, tld, ltell, b01_of (hf3 _)], by simp (decide := true) only [kAbout, eq_true ht_7, ix_7, eq_true b_2, if_true, if_false, eq_self]⟩) hP hD hS rfl (Nat.le_of_ble_eq_true rfl) (Nat.le_of_ble_eq_true rfl)
      · skip
        have hP : va_P D vwCl [(m6, .inl (cI, 9, .inl (ke3 (vkw v) (vka v) (vkb v)))), (m0, .inr (4, [.int 0, .int (nI (vnC v)), .int (nI (vnP v)), .int (nI (vnK v)), .ref m1, .ref m2, .ref m3, .ref m4, .ref m5, .ref m6]))] _ := hP
        have hD : va_D A [(m6, .inl (cI, 9, .inl (ke3 (vkw v) (vka v) (vkb v)))), (m0, .inr (4, [.int 0, .int (nI (vnC v)), .int (nI (vnP v)), .int (nI (vnK v)), .ref m1, .ref m2, .ref m3, .ref m4, .ref m5, .ref m6]))] := hD
        have hl : lv_has ls 3 [(0, .ref m0), (1, .int (nI j_7)), (2, .int 3)] := hl
        refine lv_if_eq (tgt := 31) hx hb dX4_about_19 (by decide) (fun h => absurd h (by decide)) (fun _ => ?_)
        refine lv_aload_n hx hb dX4_about_22 rfl (lv_at hl 0 rfl) ?_
        refine lv_iload_n hx hb dX4_about_23 rfl (lv_at hl 1 rfl) ?_
        refine lv_iload_n hx hb dX4_about_24 rfl (lv_at hl 2 rfl) ?_
        refine k_i (wr := []) (rV (As := [.int (nI j_7), .int 3]) (rest := []) F hG hK (hP.sub (ws' := [(m0, .inr (4, [.int 0, .int (nI (vnC v)), .int (nI (vnP v)), .int (nI (vnK v)), .ref m1, .ref m2, .ref m3, .ref m4, .ref m5, .ref m6])), (m6, .inl (cI, 9, .inl (ke3 (vkw v) (vka v) (vkb v))))]) [1, 0] rfl) ((hD.sub (ws' := [(m0, .inr (4, [.int 0, .int (nI (vnC v)), .int (nI (vnP v)), .int (nI (vnK v)), .ref m1, .ref m2, .ref m3, .ref m4, .ref m5, .ref m6])), (m6, .inl (cI, 9, .inl (ke3 (vkw v) (vka v) (vkb v))))]) [1, 0] (by decide) rfl).weaken (fun _ _ _ _ => trivial)) s_RX4_84 (c_X4_panTold l D cI cZ cJ m0 m1 m2 m3 m4 m5 m6 0 v j_7 3 (by first | assumption | omega) (hN.k0 (by omega)) _) 4 0 rfl rfl rfl rfl hl.1 rfl (Nat.le_of_ble_eq_true rfl) dX4_about_25 ⟨(Nat.le_of_ble_eq_true rfl), (Nat.le_of_ble_eq_true rfl)⟩ ⟨(Nat.le_of_ble_eq_true rfl), (Nat.le_of_ble_eq_true rfl)⟩) hP hD hS hA [1, 0] [] rfl rfl (by decide) (by decide) (fun r_25 uu H locs hw hP hD hS => ?_)
        try dsimp only at hw
        subst hw
        have hP : va_P D vwCl [(m0, .inr (4, [.int 0, .int (nI (vnC v)), .int (nI (vnP v)), .int (nI (vnK v)), .ref m1, .ref m2, .ref m3, .ref m4, .ref m5, .ref m6])), (m6, .inl (cI, 9, .inl (ke3 (vkw v) (vka v) (vkb v))))] _ := hP
        have hD : va_D A [(m0, .inr (4, [.int 0, .int (nI (vnC v)), .int (nI (vnP v)), .int (nI (vnK v)), .ref m1, .ref m2, .ref m3, .ref m4, .ref m5, .ref m6])), (m6, .inl (cI, 9, .inl (ke3 (vkw v) (vka v) (vkb v))))] := hD
        refine lv_goto (tgt := 36) hx hb dX4_about_28 (by decide) ?_
        exact hend _ _ _ _ _ _ (if 3 = 4 then vkb v j_7 else tld (vkw v j_7) (vka v j_7) 3) 0 dX4_about_36 (⟨by simp (decide := true) only [kAbout, rAbout, eq_true ht_7, ix_7, eq_true b_2, if_true, if_false, eq_self, tld, ltell, b01_of (hf3 _)], by simp (decide := true) only [kAbout, eq_true ht_7, ix_7, eq_true b_2, if_true, if_false, eq_self]⟩) hP hD hS rfl (Nat.le_of_ble_eq_true rfl) (Nat.le_of_ble_eq_true rfl)
      · skip
        have hP : va_P D vwCl [(m6, .inl (cI, 9, .inl (ke3 (vkw v) (vka v) (vkb v)))), (m0, .inr (4, [.int 0, .int (nI (vnC v)), .int (nI (vnP v)), .int (nI (vnK v)), .ref m1, .ref m2, .ref m3, .ref m4, .ref m5, .ref m6]))] _ := hP
        have hD : va_D A [(m6, .inl (cI, 9, .inl (ke3 (vkw v) (vka v) (vkb v)))), (m0, .inr (4, [.int 0, .int (nI (vnC v)), .int (nI (vnP v)), .int (nI (vnK v)), .ref m1, .ref m2, .ref m3, .ref m4, .ref m5, .ref m6]))] := hD
        have hl : lv_has ls 3 [(0, .ref m0), (1, .int (nI j_7)), (2, .int 4)] := hl
        refine lv_if_eq (tgt := 31) hx hb dX4_about_19 (by decide) (fun h => absurd h (by decide)) (fun _ => ?_)
        refine lv_aload_n hx hb dX4_about_22 rfl (lv_at hl 0 rfl) ?_
        refine lv_iload_n hx hb dX4_about_23 rfl (lv_at hl 1 rfl) ?_
        refine lv_iload_n hx hb dX4_about_24 rfl (lv_at hl 2 rfl) ?_
        refine k_i (wr := []) (rV (As := [.int (nI j_7), .int 4]) (rest := []) F hG hK (hP.sub (ws' := [(m0, .inr (4, [.int 0, .int (nI (vnC v)), .int (nI (vnP v)), .int (nI (vnK v)), .ref m1, .ref m2, .ref m3, .ref m4, .ref m5, .ref m6])), (m6, .inl (cI, 9, .inl (ke3 (vkw v) (vka v) (vkb v))))]) [1, 0] rfl) ((hD.sub (ws' := [(m0, .inr (4, [.int 0, .int (nI (vnC v)), .int (nI (vnP v)), .int (nI (vnK v)), .ref m1, .ref m2, .ref m3, .ref m4, .ref m5, .ref m6])), (m6, .inl (cI, 9, .inl (ke3 (vkw v) (vka v) (vkb v))))]) [1, 0] (by decide) rfl).weaken (fun _ _ _ _ => trivial)) s_RX4_84 (c_X4_panTold l D cI cZ cJ m0 m1 m2 m3 m4 m5 m6 0 v j_7 4 (by first | assumption | omega) (hN.k0 (by omega)) _) 4 0 rfl rfl rfl rfl hl.1 rfl (Nat.le_of_ble_eq_true rfl) dX4_about_25 ⟨(Nat.le_of_ble_eq_true rfl), (Nat.le_of_ble_eq_true rfl)⟩ ⟨(Nat.le_of_ble_eq_true rfl), (Nat.le_of_ble_eq_true rfl)⟩) hP hD hS hA [1, 0] [] rfl rfl (by decide) (by decide) (fun r_25 uu H locs hw hP hD hS => ?_)
        try dsimp only at hw
        subst hw
        have hP : va_P D vwCl [(m0, .inr (4, [.int 0, .int (nI (vnC v)), .int (nI (vnP v)), .int (nI (vnK v)), .ref m1, .ref m2, .ref m3, .ref m4, .ref m5, .ref m6])), (m6, .inl (cI, 9, .inl (ke3 (vkw v) (vka v) (vkb v))))] _ := hP
        have hD : va_D A [(m0, .inr (4, [.int 0, .int (nI (vnC v)), .int (nI (vnP v)), .int (nI (vnK v)), .ref m1, .ref m2, .ref m3, .ref m4, .ref m5, .ref m6])), (m6, .inl (cI, 9, .inl (ke3 (vkw v) (vka v) (vkb v))))] := hD
        refine lv_goto (tgt := 36) hx hb dX4_about_28 (by decide) ?_
        exact hend _ _ _ _ _ _ (if 4 = 4 then vkb v j_7 else tld (vkw v j_7) (vka v j_7) 4) 0 dX4_about_36 (⟨by simp (decide := true) only [kAbout, rAbout, eq_true ht_7, ix_7, eq_true b_2, if_true, if_false, eq_self, tld, ltell, b01_of (hf3 _)], by simp (decide := true) only [kAbout, eq_true ht_7, ix_7, eq_true b_2, if_true, if_false, eq_self]⟩) hP hD hS rfl (Nat.le_of_ble_eq_true rfl) (Nat.le_of_ble_eq_true rfl)
    · skip
      refine lv_if_eq (tgt := 31) hx hb dX4_about_19 (by decide) (fun _ => ?_) (fun h => absurd (by decide) h)
      refine lv_aload_n hx hb dX4_about_31 rfl (lv_at hl 0 rfl) ?_
      refine lv_iconst (v := 1) hx hb dX4_about_32 (by decide) ?_
      refine k_i (wr := [(m6, .inl (cI, 9, .inl (ke3 (vkw v) (vka v) (vkb v))))]) (rV (As := [.int 1]) (rest := []) F hG hK (hP.sub (ws' := [(m0, .inr (4, [.int 0, .int (nI (vnC v)), .int (nI (vnP v)), .int (nI (vnK v)), .ref m1, .ref m2, .ref m3, .ref m4, .ref m5, .ref m6]))]) [1] rfl) ((hD.sub (ws' := [(m0, .inr (4, [.int 0, .int (nI (vnC v)), .int (nI (vnP v)), .int (nI (vnK v)), .ref m1, .ref m2, .ref m3, .ref m4, .ref m5, .ref m6]))]) [1] (by decide) rfl).weaken (fun _ _ _ _ => trivial)) s_RX4_45 (c_X4_fail l D cI cZ cJ m0 m1 m2 m3 m4 m5 m6 (vnC v) (vnP v) (vnK v) 0 1 _) 4 0 rfl rfl rfl rfl hl.1 rfl (Nat.le_of_ble_eq_true rfl) dX4_about_33 ⟨(Nat.le_of_ble_eq_true rfl), (Nat.le_of_ble_eq_true rfl)⟩ ⟨(Nat.le_of_ble_eq_true rfl), (Nat.le_of_ble_eq_true rfl)⟩) hP hD hS hA [1] [0] rfl rfl (by decide) (by decide) (fun r_33 uu H locs hw hP hD hS => ?_)
      try dsimp only at hw
      subst hw
      have hP : va_P D vwCl [(m6, .inl (cI, 9, .inl (ke3 (vkw v) (vka v) (vkb v)))), (m0, .inr (4, [.int 1, .int (nI (vnC v)), .int (nI (vnP v)), .int (nI (vnK v)), .ref m1, .ref m2, .ref m3, .ref m4, .ref m5, .ref m6]))] _ := hP
      have hD : va_D A [(m6, .inl (cI, 9, .inl (ke3 (vkw v) (vka v) (vkb v)))), (m0, .inr (4, [.int 1, .int (nI (vnC v)), .int (nI (vnP v)), .int (nI (vnK v)), .ref m1, .ref m2, .ref m3, .ref m4, .ref m5, .ref m6]))] := hD
      exact hend _ _ _ _ _ _ 0 1 dX4_about_36 (⟨by simp (decide := true) only [kAbout, rAbout, eq_true ht_7, ix_7, eq_false b_2, if_true, if_false, eq_self, tld, ltell, b01_of (hf3 _)], by simp (decide := true) only [kAbout, eq_true ht_7, ix_7, eq_false b_2, if_true, if_false, eq_self]⟩) (hP.sub [1, 0] rfl) (hD.sub [1, 0] (by decide) rfl) hS rfl (Nat.le_of_ble_eq_true rfl) (Nat.le_of_ble_eq_true rfl)
  · skip
    refine lv_if_eq (tgt := 31) hx hb dX4_about_10 (by decide) (fun _ => ?_) (fun h => absurd (by decide) h)
    refine lv_aload_n hx hb dX4_about_31 rfl (lv_at hl 0 rfl) ?_
    refine lv_iconst (v := 1) hx hb dX4_about_32 (by decide) ?_
    refine k_i (wr := [(m6, .inl (cI, 9, .inl (ke3 (vkw v) (vka v) (vkb v))))]) (rV (As := [.int 1]) (rest := []) F hG hK (hP.sub (ws' := [(m0, .inr (4, [.int 0, .int (nI (vnC v)), .int (nI (vnP v)), .int (nI (vnK v)), .ref m1, .ref m2, .ref m3, .ref m4, .ref m5, .ref m6]))]) [1] rfl) ((hD.sub (ws' := [(m0, .inr (4, [.int 0, .int (nI (vnC v)), .int (nI (vnP v)), .int (nI (vnK v)), .ref m1, .ref m2, .ref m3, .ref m4, .ref m5, .ref m6]))]) [1] (by decide) rfl).weaken (fun _ _ _ _ => trivial)) s_RX4_45 (c_X4_fail l D cI cZ cJ m0 m1 m2 m3 m4 m5 m6 (vnC v) (vnP v) (vnK v) 0 1 _) 4 0 rfl rfl rfl rfl hl.1 rfl (Nat.le_of_ble_eq_true rfl) dX4_about_33 ⟨(Nat.le_of_ble_eq_true rfl), (Nat.le_of_ble_eq_true rfl)⟩ ⟨(Nat.le_of_ble_eq_true rfl), (Nat.le_of_ble_eq_true rfl)⟩) hP hD hS hA [1] [0] rfl rfl (by decide) (by decide) (fun r_33 uu H locs hw hP hD hS => ?_)
    try dsimp only at hw
    subst hw
    have hP : va_P D vwCl [(m6, .inl (cI, 9, .inl (ke3 (vkw v) (vka v) (vkb v)))), (m0, .inr (4, [.int 1, .int (nI (vnC v)), .int (nI (vnP v)), .int (nI (vnK v)), .ref m1, .ref m2, .ref m3, .ref m4, .ref m5, .ref m6]))] _ := hP
    have hD : va_D A [(m6, .inl (cI, 9, .inl (ke3 (vkw v) (vka v) (vkb v)))), (m0, .inr (4, [.int 1, .int (nI (vnC v)), .int (nI (vnP v)), .int (nI (vnK v)), .ref m1, .ref m2, .ref m3, .ref m4, .ref m5, .ref m6]))] := hD
    exact hend _ _ _ _ _ _ 0 1 dX4_about_36 (⟨by simp (decide := true) only [kAbout, rAbout, eq_false b_1, if_true, if_false, eq_self, tld, ltell, b01_of (hf3 _)], by simp (decide := true) only [kAbout, eq_false b_1, if_true, if_false, eq_self]⟩) (hP.sub [1, 0] rfl) (hD.sub [1, 0] (by decide) rfl) hS rfl (Nat.le_of_ble_eq_true rfl) (Nat.le_of_ble_eq_true rfl)

def rm_X4_rain : Room := { frames := 0, cells := 0, slots := 0, locals := 0 }
set_option maxHeartbeats 4000000 in
set_option maxRecDepth 100000 in
theorem c_X4_rain (l : Launch) (D : va_G) (cI cZ cJ : ClassId) (m0 m1 m2 m3 m4 m5 m6 : Nat) (nC nP nK : Nat) (th : Int32) (dy : Nat) (z1 z2 z3 z4 z5 z6 : Int32) (R : Nat → Int32) (hd : dy < 2147483648) : Mi l yX4_rain cX4_rain 1 (some .int) rm_X4_rain D (TY cI cZ cJ) [.ref m0] [(m0, .inr (4, [.int th, .int (nI nC), .int (nI nP), .int (nI nK), .ref m1, .ref m2, .ref m3, .ref m4, .ref m5, .ref m6])), (m1, .inl (cI, 7, .inl (st7 (nI dy) z1 z2 z3 z4 z5 z6))), (m2, .inl (cI, 6, .inl R))] (fun (r : Int32) (u : Unit) => r = R (dy % 6)) (fun (u : Unit) => [(m0, .inr (4, [.int th, .int (nI nC), .int (nI nP), .int (nI nK), .ref m1, .ref m2, .ref m3, .ref m4, .ref m5, .ref m6])), (m1, .inl (cI, 7, .inl (st7 (nI dy) z1 z2 z3 z4 z5 z6))), (m2, .inl (cI, 6, .inl R))]) := by
  refine Mi.ofQ (by decide) (Nat.le_of_ble_eq_true rfl) ?_
  intro p e s m args below meth c A ls Q hF hK hP hD hA hl hend
  obtain ⟨F, hr, hlocks, hG⟩ := hF
  have hx := F.1
  have hb := F.2.1
  have hown := F.2.2.2.1
  have ht := F.2.2.2.2
  have hS : va_S A s.heap s.heap [] := va_S.rf
  have hl : lv_has ls 1 [(0, .ref m0)] := hl
  refine lv_aload_n hx hb dX4_rain_0 rfl (lv_at hl 0 rfl) ?_
  refine va_get (D := D) (ci := 4) (v := .ref m2) (C := RX4) (T := TX4) (N := 10) hx hb ht inG_X4 hown hK hP 0 rfl rfl 5 (by decide) (ht _ qF_RX4_13) (fun _ h9 => h9) rfl dX4_rain_1 ?_
  refine lv_aload_n hx hb dX4_rain_4 rfl (lv_at hl 0 rfl) ?_
  refine va_get (D := D) (ci := 4) (v := .ref m1) (C := RX4) (T := TX4) (N := 10) hx hb ht inG_X4 hown hK hP 0 rfl rfl 4 (by decide) (ht _ qF_RX4_7) (fun _ h9 => h9) rfl dX4_rain_5 ?_
  refine lv_iconst (v := 0) hx hb dX4_rain_8 (by decide) ?_
  refine aI hx hb hK hP 1 0 rfl rfl 0 (rfl) (by decide) (by decide) (v := nI dy) (rfl) dX4_rain_9 ?_
  refine lv_bipush (v := 6) hx hb dX4_rain_10 (by decide) ?_
  refine lv_irem hx hb dX4_rain_12 (by decide) ?_
  refine t_i (nI (dy % 6)) (pk_rem hd (by decide) (by decide)) ?_
  refine aI hx hb hK hP 2 0 rfl rfl (dy % 6) (rfl) (by omega) (by decide) (v := R (dy % 6)) (rfl) dX4_rain_13 ?_
  exact hend _ _ _ _ _ _ (R (dy % 6)) () dX4_rain_14 (rfl) hP hD hS rfl (Nat.le_of_ble_eq_true rfl) (Nat.le_of_ble_eq_true rfl)

def rm_X4_counted : Room := { frames := 1, cells := 0, slots := 0, locals := 20 }
set_option maxHeartbeats 4000000 in
set_option maxRecDepth 100000 in
theorem c_X4_counted (l : Launch) (D : va_G) (cI cZ cJ : ClassId) (m0 m1 m2 m3 m4 m5 m6 : Nat) (th : Int32) (v : VT) (x : Int32) (hC4 : vnC v ≤ 4) (hP4 : vnP v ≤ 4) (hK3 : vnK v ≤ 3) (hf1 : ∀ j, vfl v j = 0 ∨ vfl v j = 1) (hd : vday v < 2147483648) (hx09 : 0 ≤ x ∧ x ≤ 9) : Mi l yX4_counted cX4_counted 4 (some .int) rm_X4_counted D (TY cI cZ cJ) [.ref m0, .int x] [(m0, .inr (4, [.int th, .int (nI (vnC v)), .int (nI (vnP v)), .int (nI (vnK v)), .ref m1, .ref m2, .ref m3, .ref m4, .ref m5, .ref m6])), (m1, .inl (cI, 7, .inl (st7 (nI (vday v)) (vcoal v) (vbar v) (vfine v) (vcrs v) (vcoin v) (vship v)))), (m2, .inl (cI, 6, .inl (vR v))), (m4, .inl (cI, 16, .inl (hp4 (vsh v) (vco v) (vbu v) (vfl v)))), (m5, .inl (cI, 8, .inl (ho2 (vpw v) (vpa v)))), (m6, .inl (cI, 9, .inl (ke3 (vkw v) (vka v) (vkb v))))] (fun (r : Int32) (u : Unit) => r = cntR (vR v) v x) (fun (u : Unit) => [(m0, .inr (4, [.int th, .int (nI (vnC v)), .int (nI (vnP v)), .int (nI (vnK v)), .ref m1, .ref m2, .ref m3, .ref m4, .ref m5, .ref m6])), (m1, .inl (cI, 7, .inl (st7 (nI (vday v)) (vcoal v) (vbar v) (vfine v) (vcrs v) (vcoin v) (vship v)))), (m2, .inl (cI, 6, .inl (vR v))), (m4, .inl (cI, 16, .inl (hp4 (vsh v) (vco v) (vbu v) (vfl v)))), (m5, .inl (cI, 8, .inl (ho2 (vpw v) (vpa v)))), (m6, .inl (cI, 9, .inl (ke3 (vkw v) (vka v) (vkb v))))]) := by
  refine Mi.ofQ (by decide) (Nat.le_of_ble_eq_true rfl) ?_
  intro p e s m args below meth c A ls Q hF hK hP hD hA hl hend
  obtain ⟨F, hr, hlocks, hG⟩ := hF
  have hx := F.1
  have hb := F.2.1
  have hown := F.2.2.2.1
  have ht := F.2.2.2.2
  have hS : va_S A s.heap s.heap [] := va_S.rf
  have hl : lv_has ls 4 [(0, .ref m0), (1, .int x)] := hl
  rcases in09 hx09 with rfl | rfl | rfl | rfl | rfl | rfl | rfl | rfl | rfl | rfl
  · skip
    have hP : va_P D vwCl [(m0, .inr (4, [.int th, .int (nI (vnC v)), .int (nI (vnP v)), .int (nI (vnK v)), .ref m1, .ref m2, .ref m3, .ref m4, .ref m5, .ref m6])), (m1, .inl (cI, 7, .inl (st7 (nI (vday v)) (vcoal v) (vbar v) (vfine v) (vcrs v) (vcoin v) (vship v)))), (m2, .inl (cI, 6, .inl (vR v))), (m4, .inl (cI, 16, .inl (hp4 (vsh v) (vco v) (vbu v) (vfl v)))), (m5, .inl (cI, 8, .inl (ho2 (vpw v) (vpa v)))), (m6, .inl (cI, 9, .inl (ke3 (vkw v) (vka v) (vkb v))))] _ := hP
    have hD : va_D A [(m0, .inr (4, [.int th, .int (nI (vnC v)), .int (nI (vnP v)), .int (nI (vnK v)), .ref m1, .ref m2, .ref m3, .ref m4, .ref m5, .ref m6])), (m1, .inl (cI, 7, .inl (st7 (nI (vday v)) (vcoal v) (vbar v) (vfine v) (vcrs v) (vcoin v) (vship v)))), (m2, .inl (cI, 6, .inl (vR v))), (m4, .inl (cI, 16, .inl (hp4 (vsh v) (vco v) (vbu v) (vfl v)))), (m5, .inl (cI, 8, .inl (ho2 (vpw v) (vpa v)))), (m6, .inl (cI, 9, .inl (ke3 (vkw v) (vka v) (vkb v))))] := hD
    have hl : lv_has ls 4 [(0, .ref m0), (1, .int 0)] := hl
    refine lv_iconst (v := 0) hx hb dX4_counted_0 (by decide) ?_
    refine lv_istore_n (lv' := [(2, .int 0), (0, .ref m0), (1, .int 0)]) hx hb dX4_counted_1 rfl hl (by decide) rfl (fun ls hl => ?_)
    refine lv_iload_n hx hb dX4_counted_2 rfl (lv_at hl 2 rfl) ?_
    refine lv_tableIn (off := 53) (tgt := 56) hx hb dX4_counted_3 (by decide) (by decide) (by decide) (by decide) ?_
    refine lv_aload_n hx hb dX4_counted_56 rfl (lv_at hl 1 rfl) ?_
    refine va_get (D := D) (ci := 4) (v := .ref m1) (C := RX4) (T := TX4) (N := 10) hx hb ht inG_X4 hown hK hP 0 rfl rfl 4 (by decide) (ht _ qF_RX4_7) (fun _ h9 => h9) rfl dX4_counted_57 ?_
    refine lv_iconst (v := 0) hx hb dX4_counted_60 (by decide) ?_
    refine aI hx hb hK hP 1 0 rfl rfl 0 (rfl) (by decide) (by decide) (v := nI (vday v)) (rfl) dX4_counted_61 ?_
    exact hend _ _ _ _ _ _ (nI (vday v)) () dX4_counted_62 (by simp (decide := true) only [cntR, if_true, if_true, if_false, eq_self]) hP hD hS rfl (Nat.le_of_ble_eq_true rfl) (Nat.le_of_ble_eq_true rfl)
  · skip
    have hP : va_P D vwCl [(m0, .inr (4, [.int th, .int (nI (vnC v)), .int (nI (vnP v)), .int (nI (vnK v)), .ref m1, .ref m2, .ref m3, .ref m4, .ref m5, .ref m6])), (m1, .inl (cI, 7, .inl (st7 (nI (vday v)) (vcoal v) (vbar v) (vfine v) (vcrs v) (vcoin v) (vship v)))), (m2, .inl (cI, 6, .inl (vR v))), (m4, .inl (cI, 16, .inl (hp4 (vsh v) (vco v) (vbu v) (vfl v)))), (m5, .inl (cI, 8, .inl (ho2 (vpw v) (vpa v)))), (m6, .inl (cI, 9, .inl (ke3 (vkw v) (vka v) (vkb v))))] _ := hP
    have hD : va_D A [(m0, .inr (4, [.int th, .int (nI (vnC v)), .int (nI (vnP v)), .int (nI (vnK v)), .ref m1, .ref m2, .ref m3, .ref m4, .ref m5, .ref m6])), (m1, .inl (cI, 7, .inl (st7 (nI (vday v)) (vcoal v) (vbar v) (vfine v) (vcrs v) (vcoin v) (vship v)))), (m2, .inl (cI, 6, .inl (vR v))), (m4, .inl (cI, 16, .inl (hp4 (vsh v) (vco v) (vbu v) (vfl v)))), (m5, .inl (cI, 8, .inl (ho2 (vpw v) (vpa v)))), (m6, .inl (cI, 9, .inl (ke3 (vkw v) (vka v) (vkb v))))] := hD
    have hl : lv_has ls 4 [(0, .ref m0), (1, .int 1)] := hl
    refine lv_iconst (v := 0) hx hb dX4_counted_0 (by decide) ?_
    refine lv_istore_n (lv' := [(2, .int 0), (0, .ref m0), (1, .int 1)]) hx hb dX4_counted_1 rfl hl (by decide) rfl (fun ls hl => ?_)
    refine lv_iload_n hx hb dX4_counted_2 rfl (lv_at hl 2 rfl) ?_
    refine lv_tableIn (off := 60) (tgt := 63) hx hb dX4_counted_3 (by decide) (by decide) (by decide) (by decide) ?_
    refine lv_aload_n hx hb dX4_counted_63 rfl (lv_at hl 1 rfl) ?_
    refine k_i (wr := [(m4, .inl (cI, 16, .inl (hp4 (vsh v) (vco v) (vbu v) (vfl v)))), (m5, .inl (cI, 8, .inl (ho2 (vpw v) (vpa v)))), (m6, .inl (cI, 9, .inl (ke3 (vkw v) (vka v) (vkb v))))]) (rV (As := []) (rest := []) F hG hK (hP.sub (ws' := [(m0, .inr (4, [.int th, .int (nI (vnC v)), .int (nI (vnP v)), .int (nI (vnK v)), .ref m1, .ref m2, .ref m3, .ref m4, .ref m5, .ref m6])), (m1, .inl (cI, 7, .inl (st7 (nI (vday v)) (vcoal v) (vbar v) (vfine v) (vcrs v) (vcoin v) (vship v)))), (m2, .inl (cI, 6, .inl (vR v)))]) [0, 1, 2] rfl) ((hD.sub (ws' := [(m0, .inr (4, [.int th, .int (nI (vnC v)), .int (nI (vnP v)), .int (nI (vnK v)), .ref m1, .ref m2, .ref m3, .ref m4, .ref m5, .ref m6])), (m1, .inl (cI, 7, .inl (st7 (nI (vday v)) (vcoal v) (vbar v) (vfine v) (vcrs v) (vcoin v) (vship v)))), (m2, .inl (cI, 6, .inl (vR v)))]) [0, 1, 2] (by decide) rfl).weaken (fun _ _ _ _ => trivial)) s_RX4_87 (c_X4_rain l D cI cZ cJ m0 m1 m2 m3 m4 m5 m6 (vnC v) (vnP v) (vnK v) th (vday v) (vcoal v) (vbar v) (vfine v) (vcrs v) (vcoin v) (vship v) (vR v) (by first | assumption | omega) _) 4 0 rfl rfl rfl rfl hl.1 rfl (Nat.le_of_ble_eq_true rfl) dX4_counted_64 ⟨(Nat.le_of_ble_eq_true rfl), (Nat.le_of_ble_eq_true rfl)⟩ ⟨(Nat.le_of_ble_eq_true rfl), (Nat.le_of_ble_eq_true rfl)⟩) hP hD hS hA [0, 1, 2] [3, 4, 5] rfl rfl (by decide) (by decide) (fun r_64 uu H locs hw hP hD hS => ?_)
    try dsimp only at hw
    subst hw
    have hP : va_P D vwCl [(m4, .inl (cI, 16, .inl (hp4 (vsh v) (vco v) (vbu v) (vfl v)))), (m5, .inl (cI, 8, .inl (ho2 (vpw v) (vpa v)))), (m6, .inl (cI, 9, .inl (ke3 (vkw v) (vka v) (vkb v)))), (m0, .inr (4, [.int th, .int (nI (vnC v)), .int (nI (vnP v)), .int (nI (vnK v)), .ref m1, .ref m2, .ref m3, .ref m4, .ref m5, .ref m6])), (m1, .inl (cI, 7, .inl (st7 (nI (vday v)) (vcoal v) (vbar v) (vfine v) (vcrs v) (vcoin v) (vship v)))), (m2, .inl (cI, 6, .inl (vR v)))] _ := hP
    have hD : va_D A [(m4, .inl (cI, 16, .inl (hp4 (vsh v) (vco v) (vbu v) (vfl v)))), (m5, .inl (cI, 8, .inl (ho2 (vpw v) (vpa v)))), (m6, .inl (cI, 9, .inl (ke3 (vkw v) (vka v) (vkb v)))), (m0, .inr (4, [.int th, .int (nI (vnC v)), .int (nI (vnP v)), .int (nI (vnK v)), .ref m1, .ref m2, .ref m3, .ref m4, .ref m5, .ref m6])), (m1, .inl (cI, 7, .inl (st7 (nI (vday v)) (vcoal v) (vbar v) (vfine v) (vcrs v) (vcoin v) (vship v)))), (m2, .inl (cI, 6, .inl (vR v)))] := hD
    exact hend _ _ _ _ _ _ ((vR v) ((vday v) % 6)) () dX4_counted_67 (by simp (decide := true) only [cntR, if_true, if_true, if_false, eq_self]) (hP.sub [3, 4, 5, 0, 1, 2] rfl) (hD.sub [3, 4, 5, 0, 1, 2] (by decide) rfl) hS rfl (Nat.le_of_ble_eq_true rfl) (Nat.le_of_ble_eq_true rfl)
  · skip
    have hP : va_P D vwCl [(m0, .inr (4, [.int th, .int (nI (vnC v)), .int (nI (vnP v)), .int (nI (vnK v)), .ref m1, .ref m2, .ref m3, .ref m4, .ref m5, .ref m6])), (m1, .inl (cI, 7, .inl (st7 (nI (vday v)) (vcoal v) (vbar v) (vfine v) (vcrs v) (vcoin v) (vship v)))), (m2, .inl (cI, 6, .inl (vR v))), (m4, .inl (cI, 16, .inl (hp4 (vsh v) (vco v) (vbu v) (vfl v)))), (m5, .inl (cI, 8, .inl (ho2 (vpw v) (vpa v)))), (m6, .inl (cI, 9, .inl (ke3 (vkw v) (vka v) (vkb v))))] _ := hP
    have hD : va_D A [(m0, .inr (4, [.int th, .int (nI (vnC v)), .int (nI (vnP v)), .int (nI (vnK v)), .ref m1, .ref m2, .ref m3, .ref m4, .ref m5, .ref m6])), (m1, .inl (cI, 7, .inl (st7 (nI (vday v)) (vcoal v) (vbar v) (vfine v) (vcrs v) (vcoin v) (vship v)))), (m2, .inl (cI, 6, .inl (vR v))), (m4, .inl (cI, 16, .inl (hp4 (vsh v) (vco v) (vbu v) (vfl v)))), (m5, .inl (cI, 8, .inl (ho2 (vpw v) (vpa v)))), (m6, .inl (cI, 9, .inl (ke3 (vkw v) (vka v) (vkb v))))] := hD
    have hl : lv_has ls 4 [(0, .ref m0), (1, .int 2)] := hl
    refine lv_iconst (v := 0) hx hb dX4_counted_0 (by decide) ?_
    refine lv_istore_n (lv' := [(2, .int 0), (0, .ref m0), (1, .int 2)]) hx hb dX4_counted_1 rfl hl (by decide) rfl (fun ls hl => ?_)
    refine lv_iload_n hx hb dX4_counted_2 rfl (lv_at hl 2 rfl) ?_
    refine lv_tableIn (off := 164) (tgt := 167) hx hb dX4_counted_3 (by decide) (by decide) (by decide) (by decide) ?_
    refine lv_aload_n hx hb dX4_counted_167 rfl (lv_at hl 1 rfl) ?_
    refine va_get (D := D) (ci := 4) (v := .ref m1) (C := RX4) (T := TX4) (N := 10) hx hb ht inG_X4 hown hK hP 0 rfl rfl 4 (by decide) (ht _ qF_RX4_7) (fun _ h9 => h9) rfl dX4_counted_168 ?_
    refine lv_iload_n hx hb dX4_counted_171 rfl (lv_at hl 2 rfl) ?_
    refine lv_iconst (v := 1) hx hb dX4_counted_172 (by decide) ?_
    refine lv_isub hx hb dX4_counted_173 ?_
    refine t_i 1 (by decide) ?_
    refine aI hx hb hK hP 1 0 rfl rfl 1 (rfl) (by decide) (by decide) (v := vcoal v) (rfl) dX4_counted_174 ?_
    exact hend _ _ _ _ _ _ (vcoal v) () dX4_counted_175 (by simp (decide := true) only [cntR, if_true, if_true, if_false, eq_self]) hP hD hS rfl (Nat.le_of_ble_eq_true rfl) (Nat.le_of_ble_eq_true rfl)
  · skip
    have hP : va_P D vwCl [(m0, .inr (4, [.int th, .int (nI (vnC v)), .int (nI (vnP v)), .int (nI (vnK v)), .ref m1, .ref m2, .ref m3, .ref m4, .ref m5, .ref m6])), (m1, .inl (cI, 7, .inl (st7 (nI (vday v)) (vcoal v) (vbar v) (vfine v) (vcrs v) (vcoin v) (vship v)))), (m2, .inl (cI, 6, .inl (vR v))), (m4, .inl (cI, 16, .inl (hp4 (vsh v) (vco v) (vbu v) (vfl v)))), (m5, .inl (cI, 8, .inl (ho2 (vpw v) (vpa v)))), (m6, .inl (cI, 9, .inl (ke3 (vkw v) (vka v) (vkb v))))] _ := hP
    have hD : va_D A [(m0, .inr (4, [.int th, .int (nI (vnC v)), .int (nI (vnP v)), .int (nI (vnK v)), .ref m1, .ref m2, .ref m3, .ref m4, .ref m5, .ref m6])), (m1, .inl (cI, 7, .inl (st7 (nI (vday v)) (vcoal v) (vbar v) (vfine v) (vcrs v) (vcoin v) (vship v)))), (m2, .inl (cI, 6, .inl (vR v))), (m4, .inl (cI, 16, .inl (hp4 (vsh v) (vco v) (vbu v) (vfl v)))), (m5, .inl (cI, 8, .inl (ho2 (vpw v) (vpa v)))), (m6, .inl (cI, 9, .inl (ke3 (vkw v) (vka v) (vkb v))))] := hD
    have hl : lv_has ls 4 [(0, .ref m0), (1, .int 3)] := hl
    refine lv_iconst (v := 0) hx hb dX4_counted_0 (by decide) ?_
    refine lv_istore_n (lv' := [(2, .int 0), (0, .ref m0), (1, .int 3)]) hx hb dX4_counted_1 rfl hl (by decide) rfl (fun ls hl => ?_)
    refine lv_iload_n hx hb dX4_counted_2 rfl (lv_at hl 2 rfl) ?_
    refine lv_tableIn (off := 164) (tgt := 167) hx hb dX4_counted_3 (by decide) (by decide) (by decide) (by decide) ?_
    refine lv_aload_n hx hb dX4_counted_167 rfl (lv_at hl 1 rfl) ?_
    refine va_get (D := D) (ci := 4) (v := .ref m1) (C := RX4) (T := TX4) (N := 10) hx hb ht inG_X4 hown hK hP 0 rfl rfl 4 (by decide) (ht _ qF_RX4_7) (fun _ h9 => h9) rfl dX4_counted_168 ?_
    refine lv_iload_n hx hb dX4_counted_171 rfl (lv_at hl 2 rfl) ?_
    refine lv_iconst (v := 1) hx hb dX4_counted_172 (by decide) ?_
    refine lv_isub hx hb dX4_counted_173 ?_
    refine t_i 2 (by decide) ?_
    refine aI hx hb hK hP 1 0 rfl rfl 2 (rfl) (by decide) (by decide) (v := vbar v) (rfl) dX4_counted_174 ?_
    exact hend _ _ _ _ _ _ (vbar v) () dX4_counted_175 (by simp (decide := true) only [cntR, if_true, if_true, if_false, eq_self]) hP hD hS rfl (Nat.le_of_ble_eq_true rfl) (Nat.le_of_ble_eq_true rfl)
  · skip
    have hP : va_P D vwCl [(m0, .inr (4, [.int th, .int (nI (vnC v)), .int (nI (vnP v)), .int (nI (vnK v)), .ref m1, .ref m2, .ref m3, .ref m4, .ref m5, .ref m6])), (m1, .inl (cI, 7, .inl (st7 (nI (vday v)) (vcoal v) (vbar v) (vfine v) (vcrs v) (vcoin v) (vship v)))), (m2, .inl (cI, 6, .inl (vR v))), (m4, .inl (cI, 16, .inl (hp4 (vsh v) (vco v) (vbu v) (vfl v)))), (m5, .inl (cI, 8, .inl (ho2 (vpw v) (vpa v)))), (m6, .inl (cI, 9, .inl (ke3 (vkw v) (vka v) (vkb v))))] _ := hP
    have hD : va_D A [(m0, .inr (4, [.int th, .int (nI (vnC v)), .int (nI (vnP v)), .int (nI (vnK v)), .ref m1, .ref m2, .ref m3, .ref m4, .ref m5, .ref m6])), (m1, .inl (cI, 7, .inl (st7 (nI (vday v)) (vcoal v) (vbar v) (vfine v) (vcrs v) (vcoin v) (vship v)))), (m2, .inl (cI, 6, .inl (vR v))), (m4, .inl (cI, 16, .inl (hp4 (vsh v) (vco v) (vbu v) (vfl v)))), (m5, .inl (cI, 8, .inl (ho2 (vpw v) (vpa v)))), (m6, .inl (cI, 9, .inl (ke3 (vkw v) (vka v) (vkb v))))] := hD
    have hl : lv_has ls 4 [(0, .ref m0), (1, .int 4)] := hl
    refine lv_iconst (v := 0) hx hb dX4_counted_0 (by decide) ?_
    refine lv_istore_n (lv' := [(2, .int 0), (0, .ref m0), (1, .int 4)]) hx hb dX4_counted_1 rfl hl (by decide) rfl (fun ls hl => ?_)
    refine lv_iload_n hx hb dX4_counted_2 rfl (lv_at hl 2 rfl) ?_
    refine lv_tableIn (off := 164) (tgt := 167) hx hb dX4_counted_3 (by decide) (by decide) (by decide) (by decide) ?_
    refine lv_aload_n hx hb dX4_counted_167 rfl (lv_at hl 1 rfl) ?_
    refine va_get (D := D) (ci := 4) (v := .ref m1) (C := RX4) (T := TX4) (N := 10) hx hb ht inG_X4 hown hK hP 0 rfl rfl 4 (by decide) (ht _ qF_RX4_7) (fun _ h9 => h9) rfl dX4_counted_168 ?_
    refine lv_iload_n hx hb dX4_counted_171 rfl (lv_at hl 2 rfl) ?_
    refine lv_iconst (v := 1) hx hb dX4_counted_172 (by decide) ?_
    refine lv_isub hx hb dX4_counted_173 ?_
    refine t_i 3 (by decide) ?_
    refine aI hx hb hK hP 1 0 rfl rfl 3 (rfl) (by decide) (by decide) (v := vfine v) (rfl) dX4_counted_174 ?_
    exact hend _ _ _ _ _ _ (vfine v) () dX4_counted_175 (by simp (decide := true) only [cntR, if_true, if_true, if_false, eq_self]) hP hD hS rfl (Nat.le_of_ble_eq_true rfl) (Nat.le_of_ble_eq_true rfl)
  · skip
    have hP : va_P D vwCl [(m0, .inr (4, [.int th, .int (nI (vnC v)), .int (nI (vnP v)), .int (nI (vnK v)), .ref m1, .ref m2, .ref m3, .ref m4, .ref m5, .ref m6])), (m1, .inl (cI, 7, .inl (st7 (nI (vday v)) (vcoal v) (vbar v) (vfine v) (vcrs v) (vcoin v) (vship v)))), (m2, .inl (cI, 6, .inl (vR v))), (m4, .inl (cI, 16, .inl (hp4 (vsh v) (vco v) (vbu v) (vfl v)))), (m5, .inl (cI, 8, .inl (ho2 (vpw v) (vpa v)))), (m6, .inl (cI, 9, .inl (ke3 (vkw v) (vka v) (vkb v))))] _ := hP
    have hD : va_D A [(m0, .inr (4, [.int th, .int (nI (vnC v)), .int (nI (vnP v)), .int (nI (vnK v)), .ref m1, .ref m2, .ref m3, .ref m4, .ref m5, .ref m6])), (m1, .inl (cI, 7, .inl (st7 (nI (vday v)) (vcoal v) (vbar v) (vfine v) (vcrs v) (vcoin v) (vship v)))), (m2, .inl (cI, 6, .inl (vR v))), (m4, .inl (cI, 16, .inl (hp4 (vsh v) (vco v) (vbu v) (vfl v)))), (m5, .inl (cI, 8, .inl (ho2 (vpw v) (vpa v)))), (m6, .inl (cI, 9, .inl (ke3 (vkw v) (vka v) (vkb v))))] := hD
    have hl : lv_has ls 4 [(0, .ref m0), (1, .int 5)] := hl
    refine lv_iconst (v := 0) hx hb dX4_counted_0 (by decide) ?_
    refine lv_istore_n (lv' := [(2, .int 0), (0, .ref m0), (1, .int 5)]) hx hb dX4_counted_1 rfl hl (by decide) rfl (fun ls hl => ?_)
    refine lv_iload_n hx hb dX4_counted_2 rfl (lv_at hl 2 rfl) ?_
    refine lv_tableIn (off := 164) (tgt := 167) hx hb dX4_counted_3 (by decide) (by decide) (by decide) (by decide) ?_
    refine lv_aload_n hx hb dX4_counted_167 rfl (lv_at hl 1 rfl) ?_
    refine va_get (D := D) (ci := 4) (v := .ref m1) (C := RX4) (T := TX4) (N := 10) hx hb ht inG_X4 hown hK hP 0 rfl rfl 4 (by decide) (ht _ qF_RX4_7) (fun _ h9 => h9) rfl dX4_counted_168 ?_
    refine lv_iload_n hx hb dX4_counted_171 rfl (lv_at hl 2 rfl) ?_
    refine lv_iconst (v := 1) hx hb dX4_counted_172 (by decide) ?_
    refine lv_isub hx hb dX4_counted_173 ?_
    refine t_i 4 (by decide) ?_
    refine aI hx hb hK hP 1 0 rfl rfl 4 (rfl) (by decide) (by decide) (v := vcrs v) (rfl) dX4_counted_174 ?_
    exact hend _ _ _ _ _ _ (vcrs v) () dX4_counted_175 (by simp (decide := true) only [cntR, if_true, if_true, if_false, eq_self]) hP hD hS rfl (Nat.le_of_ble_eq_true rfl) (Nat.le_of_ble_eq_true rfl)
  · skip
    have hP : va_P D vwCl [(m0, .inr (4, [.int th, .int (nI (vnC v)), .int (nI (vnP v)), .int (nI (vnK v)), .ref m1, .ref m2, .ref m3, .ref m4, .ref m5, .ref m6])), (m1, .inl (cI, 7, .inl (st7 (nI (vday v)) (vcoal v) (vbar v) (vfine v) (vcrs v) (vcoin v) (vship v)))), (m2, .inl (cI, 6, .inl (vR v))), (m4, .inl (cI, 16, .inl (hp4 (vsh v) (vco v) (vbu v) (vfl v)))), (m5, .inl (cI, 8, .inl (ho2 (vpw v) (vpa v)))), (m6, .inl (cI, 9, .inl (ke3 (vkw v) (vka v) (vkb v))))] _ := hP
    have hD : va_D A [(m0, .inr (4, [.int th, .int (nI (vnC v)), .int (nI (vnP v)), .int (nI (vnK v)), .ref m1, .ref m2, .ref m3, .ref m4, .ref m5, .ref m6])), (m1, .inl (cI, 7, .inl (st7 (nI (vday v)) (vcoal v) (vbar v) (vfine v) (vcrs v) (vcoin v) (vship v)))), (m2, .inl (cI, 6, .inl (vR v))), (m4, .inl (cI, 16, .inl (hp4 (vsh v) (vco v) (vbu v) (vfl v)))), (m5, .inl (cI, 8, .inl (ho2 (vpw v) (vpa v)))), (m6, .inl (cI, 9, .inl (ke3 (vkw v) (vka v) (vkb v))))] := hD
    have hl : lv_has ls 4 [(0, .ref m0), (1, .int 6)] := hl
    refine lv_iconst (v := 0) hx hb dX4_counted_0 (by decide) ?_
    refine lv_istore_n (lv' := [(2, .int 0), (0, .ref m0), (1, .int 6)]) hx hb dX4_counted_1 rfl hl (by decide) rfl (fun ls hl => ?_)
    refine lv_iload_n hx hb dX4_counted_2 rfl (lv_at hl 2 rfl) ?_
    refine lv_tableIn (off := 164) (tgt := 167) hx hb dX4_counted_3 (by decide) (by decide) (by decide) (by decide) ?_
    refine lv_aload_n hx hb dX4_counted_167 rfl (lv_at hl 1 rfl) ?_
    refine va_get (D := D) (ci := 4) (v := .ref m1) (C := RX4) (T := TX4) (N := 10) hx hb ht inG_X4 hown hK hP 0 rfl rfl 4 (by decide) (ht _ qF_RX4_7) (fun _ h9 => h9) rfl dX4_counted_168 ?_
    refine lv_iload_n hx hb dX4_counted_171 rfl (lv_at hl 2 rfl) ?_
    refine lv_iconst (v := 1) hx hb dX4_counted_172 (by decide) ?_
    refine lv_isub hx hb dX4_counted_173 ?_
    refine t_i 5 (by decide) ?_
    refine aI hx hb hK hP 1 0 rfl rfl 5 (rfl) (by decide) (by decide) (v := vcoin v) (rfl) dX4_counted_174 ?_
    exact hend _ _ _ _ _ _ (vcoin v) () dX4_counted_175 (by simp (decide := true) only [cntR, if_true, if_true, if_false, eq_self]) hP hD hS rfl (Nat.le_of_ble_eq_true rfl) (Nat.le_of_ble_eq_true rfl)
  · skip
    have hP : va_P D vwCl [(m0, .inr (4, [.int th, .int (nI (vnC v)), .int (nI (vnP v)), .int (nI (vnK v)), .ref m1, .ref m2, .ref m3, .ref m4, .ref m5, .ref m6])), (m1, .inl (cI, 7, .inl (st7 (nI (vday v)) (vcoal v) (vbar v) (vfine v) (vcrs v) (vcoin v) (vship v)))), (m2, .inl (cI, 6, .inl (vR v))), (m4, .inl (cI, 16, .inl (hp4 (vsh v) (vco v) (vbu v) (vfl v)))), (m5, .inl (cI, 8, .inl (ho2 (vpw v) (vpa v)))), (m6, .inl (cI, 9, .inl (ke3 (vkw v) (vka v) (vkb v))))] _ := hP
    have hD : va_D A [(m0, .inr (4, [.int th, .int (nI (vnC v)), .int (nI (vnP v)), .int (nI (vnK v)), .ref m1, .ref m2, .ref m3, .ref m4, .ref m5, .ref m6])), (m1, .inl (cI, 7, .inl (st7 (nI (vday v)) (vcoal v) (vbar v) (vfine v) (vcrs v) (vcoin v) (vship v)))), (m2, .inl (cI, 6, .inl (vR v))), (m4, .inl (cI, 16, .inl (hp4 (vsh v) (vco v) (vbu v) (vfl v)))), (m5, .inl (cI, 8, .inl (ho2 (vpw v) (vpa v)))), (m6, .inl (cI, 9, .inl (ke3 (vkw v) (vka v) (vkb v))))] := hD
    have hl : lv_has ls 4 [(0, .ref m0), (1, .int 7)] := hl
    refine lv_iconst (v := 0) hx hb dX4_counted_0 (by decide) ?_
    refine lv_istore_n (lv' := [(2, .int 0), (0, .ref m0), (1, .int 7)]) hx hb dX4_counted_1 rfl hl (by decide) rfl (fun ls hl => ?_)
    refine lv_iload_n hx hb dX4_counted_2 rfl (lv_at hl 2 rfl) ?_
    refine lv_tableIn (off := 65) (tgt := 68) hx hb dX4_counted_3 (by decide) (by decide) (by decide) (by decide) ?_
    refine lv_iconst (v := 0) hx hb dX4_counted_68 (by decide) ?_
    refine lv_istore_n (lv' := [(3, .int 0), (2, .int 0), (0, .ref m0), (1, .int 7)]) hx hb dX4_counted_69 rfl hl (by decide) rfl (fun ls hl => ?_)
    have loop70 : ∀ (kf70 i : Nat), i ≤ (vnC v) → (vnC v) < i + kf70 → ∀ (sm7 : Int32), sm7 = sumF (fun j => b01 (vfl v j)) i → ∀ (H : Heap) (locs : List Loc), va_P D vwCl [(m0, .inr (4, [.int th, .int (nI (vnC v)), .int (nI (vnP v)), .int (nI (vnK v)), .ref m1, .ref m2, .ref m3, .ref m4, .ref m5, .ref m6])), (m1, .inl (cI, 7, .inl (st7 (nI (vday v)) (vcoal v) (vbar v) (vfine v) (vcrs v) (vcoin v) (vship v)))), (m2, .inl (cI, 6, .inl (vR v))), (m4, .inl (cI, 16, .inl (hp4 (vsh v) (vco v) (vbu v) (vfl v)))), (m5, .inl (cI, 8, .inl (ho2 (vpw v) (vpa v)))), (m6, .inl (cI, 9, .inl (ke3 (vkw v) (vka v) (vkb v))))] H → va_D A [(m0, .inr (4, [.int th, .int (nI (vnC v)), .int (nI (vnP v)), .int (nI (vnK v)), .ref m1, .ref m2, .ref m3, .ref m4, .ref m5, .ref m6])), (m1, .inl (cI, 7, .inl (st7 (nI (vday v)) (vcoal v) (vbar v) (vfine v) (vcrs v) (vcoin v) (vship v)))), (m2, .inl (cI, 6, .inl (vR v))), (m4, .inl (cI, 16, .inl (hp4 (vsh v) (vco v) (vbu v) (vfl v)))), (m5, .inl (cI, 8, .inl (ho2 (vpw v) (vpa v)))), (m6, .inl (cI, 9, .inl (ke3 (vkw v) (vka v) (vkb v))))] → va_S A s.heap H locs → ∀ (ls : Array Slot), lv_has ls 4 [(0, .ref m0), (1, .int 7), (2, .int sm7), (3, .int (nI i))] → W p l e rm_X4_counted s m args below meth c H locs 0 0 Q (F0 m 70 ls []) := by
      intro kf70
      induction kf70 with
      | zero =>
        intro i hle70 hlt70
        exact absurd hlt70 (by omega)
      | succ kf70 ih70 =>
        intro i hle70 hlt70 sm7 e_sm7 H locs hP hD hS ls hl
        refine lv_iload_n hx hb dX4_counted_70 rfl (lv_at hl 3 rfl) ?_
        refine lv_aload_n hx hb dX4_counted_71 rfl (lv_at hl 0 rfl) ?_
        refine va_get (D := D) (ci := 4) (v := .int (nI (vnC v))) (C := RX4) (T := TX4) (N := 10) hx hb ht inG_X4 hown hK hP 0 rfl rfl 1 (by decide) (ht _ qF_RX4_32) (fun _ h9 => h9) rfl dX4_counted_72 ?_
        refine lv_icmp_ge (tgt := 97) hx hb dX4_counted_75 (by decide) (fun c_1 => ?_) (fun c_1 => ?_)
        · skip
          have c_1n := Int32.not_lt.mpr c_1
          have c_1m := (nI_leI (a := vnC v) (b := i) (by omega) (by omega)).mp c_1
          refine lv_iload_n hx hb dX4_counted_97 rfl (lv_at hl 2 rfl) ?_
          exact hend _ _ _ _ _ _ sm7 () dX4_counted_98 (by simp (decide := true) only [cntR, eq_true c_1, eq_false c_1n, if_true, if_false, eq_self]; rw [e_sm7, show i = vnC v by omega]) hP hD hS rfl (Nat.le_of_ble_eq_true rfl) (Nat.le_of_ble_eq_true rfl)
        · skip
          have c_1n := Int32.not_le.mp c_1
          have c_1m := (nI_ltI (a := i) (b := vnC v) (by omega) (by omega)).mp c_1n
          refine lv_iload_n hx hb dX4_counted_78 rfl (lv_at hl 2 rfl) ?_
          refine lv_aload_n hx hb dX4_counted_79 rfl (lv_at hl 0 rfl) ?_
          refine va_get (D := D) (ci := 4) (v := .ref m4) (C := RX4) (T := TX4) (N := 10) hx hb ht inG_X4 hown hK hP 0 rfl rfl 7 (by decide) (ht _ qF_RX4_19) (fun _ h9 => h9) rfl dX4_counted_80 ?_
          refine lv_iconst (v := 4) hx hb dX4_counted_83 (by decide) ?_
          refine lv_iload_n hx hb dX4_counted_84 rfl (lv_at hl 3 rfl) ?_
          refine lv_imul hx hb dX4_counted_85 ?_
          refine t_i (nI (4 * i)) (pk_mul 4 i) ?_
          refine lv_iconst (v := 3) hx hb dX4_counted_86 (by decide) ?_
          refine lv_iadd hx hb dX4_counted_87 ?_
          refine t_i (nI (4 * i + 3)) (nI_add (4 * i) 3) ?_
          refine aI hx hb hK hP 3 0 rfl rfl (4 * i + 3) (rfl) (by omega) (by decide) (v := (vfl v) i) (hp4_3 _ _ _ _ i) dX4_counted_88 ?_
          refine lv_iadd hx hb dX4_counted_89 ?_
          refine lv_istore_n (lv' := [(2, .int (sm7 + ((vfl v) i))), (0, .ref m0), (1, .int 7), (3, .int (nI i))]) hx hb dX4_counted_90 rfl hl (by decide) rfl (fun ls hl => ?_)
          refine lv_iinc (v := nI (i + 1)) (lv' := [(3, .int (nI (i + 1))), (2, .int (sm7 + ((vfl v) i))), (0, .ref m0), (1, .int 7)]) hx hb dX4_counted_91 hl (k := 3) rfl (nI_1 i) (by decide) rfl (fun ls hl => ?_)
          refine lv_goto (tgt := 70) hx hb dX4_counted_94 (by decide) ?_
          exact ih70 (i + 1) (by omega) (by omega) (sm7 + ((vfl v) i)) (by rw [e_sm7]; simp only [sumF, b01_of (hf1 _)]) _ _ (hP.sub [0, 1, 2, 3, 4, 5] rfl) (hD.sub [0, 1, 2, 3, 4, 5] (by decide) rfl) hS _ (lv_sub hl [2, 3, 1, 0] rfl)
    exact loop70 ((vnC v) + 1) 0 (Nat.zero_le _) (by omega) 0 rfl _ _ (hP.sub [0, 1, 2, 3, 4, 5] rfl) (hD.sub [0, 1, 2, 3, 4, 5] (by decide) rfl) hS _ (lv_sub hl [2, 3, 1, 0] rfl)
  · skip
    have hP : va_P D vwCl [(m0, .inr (4, [.int th, .int (nI (vnC v)), .int (nI (vnP v)), .int (nI (vnK v)), .ref m1, .ref m2, .ref m3, .ref m4, .ref m5, .ref m6])), (m1, .inl (cI, 7, .inl (st7 (nI (vday v)) (vcoal v) (vbar v) (vfine v) (vcrs v) (vcoin v) (vship v)))), (m2, .inl (cI, 6, .inl (vR v))), (m4, .inl (cI, 16, .inl (hp4 (vsh v) (vco v) (vbu v) (vfl v)))), (m5, .inl (cI, 8, .inl (ho2 (vpw v) (vpa v)))), (m6, .inl (cI, 9, .inl (ke3 (vkw v) (vka v) (vkb v))))] _ := hP
    have hD : va_D A [(m0, .inr (4, [.int th, .int (nI (vnC v)), .int (nI (vnP v)), .int (nI (vnK v)), .ref m1, .ref m2, .ref m3, .ref m4, .ref m5, .ref m6])), (m1, .inl (cI, 7, .inl (st7 (nI (vday v)) (vcoal v) (vbar v) (vfine v) (vcrs v) (vcoin v) (vship v)))), (m2, .inl (cI, 6, .inl (vR v))), (m4, .inl (cI, 16, .inl (hp4 (vsh v) (vco v) (vbu v) (vfl v)))), (m5, .inl (cI, 8, .inl (ho2 (vpw v) (vpa v)))), (m6, .inl (cI, 9, .inl (ke3 (vkw v) (vka v) (vkb v))))] := hD
    have hl : lv_has ls 4 [(0, .ref m0), (1, .int 8)] := hl
    refine lv_iconst (v := 0) hx hb dX4_counted_0 (by decide) ?_
    refine lv_istore_n (lv' := [(2, .int 0), (0, .ref m0), (1, .int 8)]) hx hb dX4_counted_1 rfl hl (by decide) rfl (fun ls hl => ?_)
    refine lv_iload_n hx hb dX4_counted_2 rfl (lv_at hl 2 rfl) ?_
    refine lv_tableIn (off := 96) (tgt := 99) hx hb dX4_counted_3 (by decide) (by decide) (by decide) (by decide) ?_
    refine lv_iconst (v := 0) hx hb dX4_counted_99 (by decide) ?_
    refine lv_istore_n (lv' := [(3, .int 0), (2, .int 0), (0, .ref m0), (1, .int 8)]) hx hb dX4_counted_100 rfl hl (by decide) rfl (fun ls hl => ?_)
    have loop101 : ∀ (kf101 i8 : Nat), i8 ≤ (vnP v) → (vnP v) < i8 + kf101 → ∀ (sm8 : Int32), sm8 = sumF (vpa v) i8 → ∀ (H : Heap) (locs : List Loc), va_P D vwCl [(m0, .inr (4, [.int th, .int (nI (vnC v)), .int (nI (vnP v)), .int (nI (vnK v)), .ref m1, .ref m2, .ref m3, .ref m4, .ref m5, .ref m6])), (m1, .inl (cI, 7, .inl (st7 (nI (vday v)) (vcoal v) (vbar v) (vfine v) (vcrs v) (vcoin v) (vship v)))), (m2, .inl (cI, 6, .inl (vR v))), (m4, .inl (cI, 16, .inl (hp4 (vsh v) (vco v) (vbu v) (vfl v)))), (m5, .inl (cI, 8, .inl (ho2 (vpw v) (vpa v)))), (m6, .inl (cI, 9, .inl (ke3 (vkw v) (vka v) (vkb v))))] H → va_D A [(m0, .inr (4, [.int th, .int (nI (vnC v)), .int (nI (vnP v)), .int (nI (vnK v)), .ref m1, .ref m2, .ref m3, .ref m4, .ref m5, .ref m6])), (m1, .inl (cI, 7, .inl (st7 (nI (vday v)) (vcoal v) (vbar v) (vfine v) (vcrs v) (vcoin v) (vship v)))), (m2, .inl (cI, 6, .inl (vR v))), (m4, .inl (cI, 16, .inl (hp4 (vsh v) (vco v) (vbu v) (vfl v)))), (m5, .inl (cI, 8, .inl (ho2 (vpw v) (vpa v)))), (m6, .inl (cI, 9, .inl (ke3 (vkw v) (vka v) (vkb v))))] → va_S A s.heap H locs → ∀ (ls : Array Slot), lv_has ls 4 [(0, .ref m0), (1, .int 8), (2, .int sm8), (3, .int (nI i8))] → W p l e rm_X4_counted s m args below meth c H locs 0 0 Q (F0 m 101 ls []) := by
      intro kf101
      induction kf101 with
      | zero =>
        intro i8 hle101 hlt101
        exact absurd hlt101 (by omega)
      | succ kf101 ih101 =>
        intro i8 hle101 hlt101 sm8 e_sm8 H locs hP hD hS ls hl
        refine lv_iload_n hx hb dX4_counted_101 rfl (lv_at hl 3 rfl) ?_
        refine lv_aload_n hx hb dX4_counted_102 rfl (lv_at hl 0 rfl) ?_
        refine va_get (D := D) (ci := 4) (v := .int (nI (vnP v))) (C := RX4) (T := TX4) (N := 10) hx hb ht inG_X4 hown hK hP 0 rfl rfl 2 (by decide) (ht _ qF_RX4_39) (fun _ h9 => h9) rfl dX4_counted_103 ?_
        refine lv_icmp_ge (tgt := 128) hx hb dX4_counted_106 (by decide) (fun c_2 => ?_) (fun c_2 => ?_)
        · skip
          have c_2n := Int32.not_lt.mpr c_2
          have c_2m := (nI_leI (a := vnP v) (b := i8) (by omega) (by omega)).mp c_2
          refine lv_iconst (v := 0) hx hb dX4_counted_128 (by decide) ?_
          refine lv_istore_n (lv' := [(3, .int 0), (0, .ref m0), (1, .int 8), (2, .int sm8)]) hx hb dX4_counted_129 rfl hl (by decide) rfl (fun ls hl => ?_)
          have loop130 : ∀ (kf130 i9 : Nat), i9 ≤ (vnK v) → (vnK v) < i9 + kf130 → ∀ (sm9 : Int32), sm9 = sumF (vpa v) (vnP v) + sumF (vka v) i9 → ∀ (H : Heap) (locs : List Loc), va_P D vwCl [(m0, .inr (4, [.int th, .int (nI (vnC v)), .int (nI (vnP v)), .int (nI (vnK v)), .ref m1, .ref m2, .ref m3, .ref m4, .ref m5, .ref m6])), (m1, .inl (cI, 7, .inl (st7 (nI (vday v)) (vcoal v) (vbar v) (vfine v) (vcrs v) (vcoin v) (vship v)))), (m2, .inl (cI, 6, .inl (vR v))), (m4, .inl (cI, 16, .inl (hp4 (vsh v) (vco v) (vbu v) (vfl v)))), (m5, .inl (cI, 8, .inl (ho2 (vpw v) (vpa v)))), (m6, .inl (cI, 9, .inl (ke3 (vkw v) (vka v) (vkb v))))] H → va_D A [(m0, .inr (4, [.int th, .int (nI (vnC v)), .int (nI (vnP v)), .int (nI (vnK v)), .ref m1, .ref m2, .ref m3, .ref m4, .ref m5, .ref m6])), (m1, .inl (cI, 7, .inl (st7 (nI (vday v)) (vcoal v) (vbar v) (vfine v) (vcrs v) (vcoin v) (vship v)))), (m2, .inl (cI, 6, .inl (vR v))), (m4, .inl (cI, 16, .inl (hp4 (vsh v) (vco v) (vbu v) (vfl v)))), (m5, .inl (cI, 8, .inl (ho2 (vpw v) (vpa v)))), (m6, .inl (cI, 9, .inl (ke3 (vkw v) (vka v) (vkb v))))] → va_S A s.heap H locs → ∀ (ls : Array Slot), lv_has ls 4 [(0, .ref m0), (1, .int 8), (2, .int sm9), (3, .int (nI i9))] → W p l e rm_X4_counted s m args below meth c H locs 0 0 Q (F0 m 130 ls []) := by
            intro kf130
            induction kf130 with
            | zero =>
              intro i9 hle130 hlt130
              exact absurd hlt130 (by omega)
            | succ kf130 ih130 =>
              intro i9 hle130 hlt130 sm9 e_sm9 H locs hP hD hS ls hl
              refine lv_iload_n hx hb dX4_counted_130 rfl (lv_at hl 3 rfl) ?_
              refine lv_aload_n hx hb dX4_counted_131 rfl (lv_at hl 0 rfl) ?_
              refine va_get (D := D) (ci := 4) (v := .int (nI (vnK v))) (C := RX4) (T := TX4) (N := 10) hx hb ht inG_X4 hown hK hP 0 rfl rfl 3 (by decide) (ht _ qF_RX4_42) (fun _ h9 => h9) rfl dX4_counted_132 ?_
              refine lv_icmp_ge (tgt := 157) hx hb dX4_counted_135 (by decide) (fun c_3 => ?_) (fun c_3 => ?_)
              · skip
                have c_3n := Int32.not_lt.mpr c_3
                have c_3m := (nI_leI (a := vnK v) (b := i9) (by omega) (by omega)).mp c_3
                refine lv_iload_n hx hb dX4_counted_157 rfl (lv_at hl 2 rfl) ?_
                exact hend _ _ _ _ _ _ sm9 () dX4_counted_158 (by simp (decide := true) only [cntR, eq_true c_2, eq_false c_2n, eq_true c_3, eq_false c_3n, if_true, if_false, eq_self]; rw [e_sm9, show i9 = vnK v by omega]) hP hD hS rfl (Nat.le_of_ble_eq_true rfl) (Nat.le_of_ble_eq_true rfl)
              · skip
                have c_3n := Int32.not_le.mp c_3
                have c_3m := (nI_ltI (a := i9) (b := vnK v) (by omega) (by omega)).mp c_3n
                refine lv_iload_n hx hb dX4_counted_138 rfl (lv_at hl 2 rfl) ?_
                refine lv_aload_n hx hb dX4_counted_139 rfl (lv_at hl 0 rfl) ?_
                refine va_get (D := D) (ci := 4) (v := .ref m6) (C := RX4) (T := TX4) (N := 10) hx hb ht inG_X4 hown hK hP 0 rfl rfl 9 (by decide) (ht _ qF_RX4_25) (fun _ h9 => h9) rfl dX4_counted_140 ?_
                refine lv_iconst (v := 3) hx hb dX4_counted_143 (by decide) ?_
                refine lv_iload_n hx hb dX4_counted_144 rfl (lv_at hl 3 rfl) ?_
                refine lv_imul hx hb dX4_counted_145 ?_
                refine t_i (nI (3 * i9)) (pk_mul 3 i9) ?_
                refine lv_iconst (v := 1) hx hb dX4_counted_146 (by decide) ?_
                refine lv_iadd hx hb dX4_counted_147 ?_
                refine t_i (nI (3 * i9 + 1)) (nI_1 (3 * i9)) ?_
                refine aI hx hb hK hP 5 0 rfl rfl (3 * i9 + 1) (rfl) (by omega) (by decide) (v := (vka v) i9) (ke3_1 _ _ _ i9) dX4_counted_148 ?_
                refine lv_iadd hx hb dX4_counted_149 ?_
                refine lv_istore_n (lv' := [(2, .int (sm9 + ((vka v) i9))), (0, .ref m0), (1, .int 8), (3, .int (nI i9))]) hx hb dX4_counted_150 rfl hl (by decide) rfl (fun ls hl => ?_)
                refine lv_iinc (v := nI (i9 + 1)) (lv' := [(3, .int (nI (i9 + 1))), (2, .int (sm9 + ((vka v) i9))), (0, .ref m0), (1, .int 8)]) hx hb dX4_counted_151 hl (k := 3) rfl (nI_1 i9) (by decide) rfl (fun ls hl => ?_)
                refine lv_goto (tgt := 130) hx hb dX4_counted_154 (by decide) ?_
                exact ih130 (i9 + 1) (by omega) (by omega) (sm9 + ((vka v) i9)) (by rw [e_sm9]; exact Int32.add_assoc _ _ _) _ _ (hP.sub [0, 1, 2, 3, 4, 5] rfl) (hD.sub [0, 1, 2, 3, 4, 5] (by decide) rfl) hS _ (lv_sub hl [2, 3, 1, 0] rfl)
          exact loop130 ((vnK v) + 1) 0 (Nat.zero_le _) (by omega) sm8 (by rw [e_sm8, show i8 = vnP v by omega]; exact (Int32.add_zero _).symm) _ _ (hP.sub [0, 1, 2, 3, 4, 5] rfl) (hD.sub [0, 1, 2, 3, 4, 5] (by decide) rfl) hS _ (lv_sub hl [1, 2, 3, 0] rfl)
        · skip
          have c_2n := Int32.not_le.mp c_2
          have c_2m := (nI_ltI (a := i8) (b := vnP v) (by omega) (by omega)).mp c_2n
          refine lv_iload_n hx hb dX4_counted_109 rfl (lv_at hl 2 rfl) ?_
          refine lv_aload_n hx hb dX4_counted_110 rfl (lv_at hl 0 rfl) ?_
          refine va_get (D := D) (ci := 4) (v := .ref m5) (C := RX4) (T := TX4) (N := 10) hx hb ht inG_X4 hown hK hP 0 rfl rfl 8 (by decide) (ht _ qF_RX4_22) (fun _ h9 => h9) rfl dX4_counted_111 ?_
          refine lv_iconst (v := 2) hx hb dX4_counted_114 (by decide) ?_
          refine lv_iload_n hx hb dX4_counted_115 rfl (lv_at hl 3 rfl) ?_
          refine lv_imul hx hb dX4_counted_116 ?_
          refine t_i (nI (2 * i8)) (pk_mul 2 i8) ?_
          refine lv_iconst (v := 1) hx hb dX4_counted_117 (by decide) ?_
          refine lv_iadd hx hb dX4_counted_118 ?_
          refine t_i (nI (2 * i8 + 1)) (nI_1 (2 * i8)) ?_
          refine aI hx hb hK hP 4 0 rfl rfl (2 * i8 + 1) (rfl) (by omega) (by decide) (v := (vpa v) i8) (ho2_1 _ _ i8) dX4_counted_119 ?_
          refine lv_iadd hx hb dX4_counted_120 ?_
          refine lv_istore_n (lv' := [(2, .int (sm8 + ((vpa v) i8))), (0, .ref m0), (1, .int 8), (3, .int (nI i8))]) hx hb dX4_counted_121 rfl hl (by decide) rfl (fun ls hl => ?_)
          refine lv_iinc (v := nI (i8 + 1)) (lv' := [(3, .int (nI (i8 + 1))), (2, .int (sm8 + ((vpa v) i8))), (0, .ref m0), (1, .int 8)]) hx hb dX4_counted_122 hl (k := 3) rfl (nI_1 i8) (by decide) rfl (fun ls hl => ?_)
          refine lv_goto (tgt := 101) hx hb dX4_counted_125 (by decide) ?_
          exact ih101 (i8 + 1) (by omega) (by omega) (sm8 + ((vpa v) i8)) (by rw [e_sm8]; rfl) _ _ (hP.sub [0, 1, 2, 3, 4, 5] rfl) (hD.sub [0, 1, 2, 3, 4, 5] (by decide) rfl) hS _ (lv_sub hl [2, 3, 1, 0] rfl)
    exact loop101 ((vnP v) + 1) 0 (Nat.zero_le _) (by omega) 0 rfl _ _ (hP.sub [0, 1, 2, 3, 4, 5] rfl) (hD.sub [0, 1, 2, 3, 4, 5] (by decide) rfl) hS _ (lv_sub hl [2, 3, 1, 0] rfl)
  · skip
    have hP : va_P D vwCl [(m0, .inr (4, [.int th, .int (nI (vnC v)), .int (nI (vnP v)), .int (nI (vnK v)), .ref m1, .ref m2, .ref m3, .ref m4, .ref m5, .ref m6])), (m1, .inl (cI, 7, .inl (st7 (nI (vday v)) (vcoal v) (vbar v) (vfine v) (vcrs v) (vcoin v) (vship v)))), (m2, .inl (cI, 6, .inl (vR v))), (m4, .inl (cI, 16, .inl (hp4 (vsh v) (vco v) (vbu v) (vfl v)))), (m5, .inl (cI, 8, .inl (ho2 (vpw v) (vpa v)))), (m6, .inl (cI, 9, .inl (ke3 (vkw v) (vka v) (vkb v))))] _ := hP
    have hD : va_D A [(m0, .inr (4, [.int th, .int (nI (vnC v)), .int (nI (vnP v)), .int (nI (vnK v)), .ref m1, .ref m2, .ref m3, .ref m4, .ref m5, .ref m6])), (m1, .inl (cI, 7, .inl (st7 (nI (vday v)) (vcoal v) (vbar v) (vfine v) (vcrs v) (vcoin v) (vship v)))), (m2, .inl (cI, 6, .inl (vR v))), (m4, .inl (cI, 16, .inl (hp4 (vsh v) (vco v) (vbu v) (vfl v)))), (m5, .inl (cI, 8, .inl (ho2 (vpw v) (vpa v)))), (m6, .inl (cI, 9, .inl (ke3 (vkw v) (vka v) (vkb v))))] := hD
    have hl : lv_has ls 4 [(0, .ref m0), (1, .int 9)] := hl
    refine lv_iconst (v := 0) hx hb dX4_counted_0 (by decide) ?_
    refine lv_istore_n (lv' := [(2, .int 0), (0, .ref m0), (1, .int 9)]) hx hb dX4_counted_1 rfl hl (by decide) rfl (fun ls hl => ?_)
    refine lv_iload_n hx hb dX4_counted_2 rfl (lv_at hl 2 rfl) ?_
    refine lv_tableIn (off := 156) (tgt := 159) hx hb dX4_counted_3 (by decide) (by decide) (by decide) (by decide) ?_
    refine lv_aload_n hx hb dX4_counted_159 rfl (lv_at hl 1 rfl) ?_
    refine va_get (D := D) (ci := 4) (v := .ref m1) (C := RX4) (T := TX4) (N := 10) hx hb ht inG_X4 hown hK hP 0 rfl rfl 4 (by decide) (ht _ qF_RX4_7) (fun _ h9 => h9) rfl dX4_counted_160 ?_
    refine lv_bipush (v := 6) hx hb dX4_counted_163 (by decide) ?_
    refine aI hx hb hK hP 1 0 rfl rfl 6 (rfl) (by decide) (by decide) (v := vship v) (rfl) dX4_counted_165 ?_
    exact hend _ _ _ _ _ _ (vship v) () dX4_counted_166 (by simp (decide := true) only [cntR, if_true, if_true, if_false, eq_self]) hP hD hS rfl (Nat.le_of_ble_eq_true rfl) (Nat.le_of_ble_eq_true rfl)

def rm_X4_count : Room := { frames := 2, cells := 0, slots := 0, locals := 43 }
set_option maxHeartbeats 4000000 in
set_option maxRecDepth 100000 in
theorem c_X4_count (l : Launch) (D : va_G) (cI cZ cJ : ClassId) (m0 m1 m2 m3 m4 m5 m6 : Nat) (th : Int32) (v : VT) (y1 : Int32) (hI : IS v) : Mi l yX4_count cX4_count 2 (some .int) rm_X4_count D (TY cI cZ cJ) [.ref m0, .int y1] [(m0, .inr (4, [.int th, .int (nI (vnC v)), .int (nI (vnP v)), .int (nI (vnK v)), .ref m1, .ref m2, .ref m3, .ref m4, .ref m5, .ref m6])), (m1, .inl (cI, 7, .inl (st7 (nI (vday v)) (vcoal v) (vbar v) (vfine v) (vcrs v) (vcoin v) (vship v)))), (m2, .inl (cI, 6, .inl (vR v))), (m4, .inl (cI, 16, .inl (hp4 (vsh v) (vco v) (vbu v) (vfl v)))), (m5, .inl (cI, 8, .inl (ho2 (vpw v) (vpa v)))), (m6, .inl (cI, 9, .inl (ke3 (vkw v) (vka v) (vkb v))))] (fun (r : Int32) (u : Int32) => r = (if kCount v y1 = 0 then rCount v y1 else 0) ∧ u = kCount v y1) (fun (u : Int32) => [(m0, .inr (4, [.int u, .int (nI (vnC v)), .int (nI (vnP v)), .int (nI (vnK v)), .ref m1, .ref m2, .ref m3, .ref m4, .ref m5, .ref m6])), (m1, .inl (cI, 7, .inl (st7 (nI (vday v)) (vcoal v) (vbar v) (vfine v) (vcrs v) (vcoin v) (vship v)))), (m2, .inl (cI, 6, .inl (vR v))), (m4, .inl (cI, 16, .inl (hp4 (vsh v) (vco v) (vbu v) (vfl v)))), (m5, .inl (cI, 8, .inl (ho2 (vpw v) (vpa v)))), (m6, .inl (cI, 9, .inl (ke3 (vkw v) (vka v) (vkb v))))]) := by
  refine Mi.ofQ (by decide) (Nat.le_of_ble_eq_true rfl) ?_
  intro p e s m args below meth c A ls Q hF hK hP hD hA hl hend
  obtain ⟨F, hr, hlocks, hG⟩ := hF
  have hx := F.1
  have hb := F.2.1
  have hown := F.2.2.2.1
  have ht := F.2.2.2.2
  have hS : va_S A s.heap s.heap [] := va_S.rf
  have hl : lv_has ls 2 [(0, .ref m0), (1, .int y1)] := hl
  obtain ⟨hC4, hP4, hK3, hAH, hf1, hf2, hf3, hdy⟩ := hI
  refine lv_aload_n hx hb dX4_count_0 rfl (lv_at hl 0 rfl) ?_
  refine lv_iconst (v := 0) hx hb dX4_count_1 (by decide) ?_
  refine va_put (D := D) (ci := 4) (v := .int 0) (C := RX4) (T := TX4) (N := 10) hx hb ht inG_X4 tyX4 tyX4_ok nmX4 hown hK hP hD hS 0 rfl rfl 0 (by decide) (ht _ qF_RX4_28) (fun _ h9 => h9) rfl (tyX4_ok 0 (by decide)) rfl rfl (Nat.le_of_ble_eq_true rfl) dX4_count_2 (fun H locs hP hD hS => ?_)
  have hP : va_P D vwCl [(m0, .inr (4, [.int 0, .int (nI (vnC v)), .int (nI (vnP v)), .int (nI (vnK v)), .ref m1, .ref m2, .ref m3, .ref m4, .ref m5, .ref m6])), (m1, .inl (cI, 7, .inl (st7 (nI (vday v)) (vcoal v) (vbar v) (vfine v) (vcrs v) (vcoin v) (vship v)))), (m2, .inl (cI, 6, .inl (vR v))), (m4, .inl (cI, 16, .inl (hp4 (vsh v) (vco v) (vbu v) (vfl v)))), (m5, .inl (cI, 8, .inl (ho2 (vpw v) (vpa v)))), (m6, .inl (cI, 9, .inl (ke3 (vkw v) (vka v) (vkb v))))] _ := hP
  have hD : va_D A [(m0, .inr (4, [.int 0, .int (nI (vnC v)), .int (nI (vnP v)), .int (nI (vnK v)), .ref m1, .ref m2, .ref m3, .ref m4, .ref m5, .ref m6])), (m1, .inl (cI, 7, .inl (st7 (nI (vday v)) (vcoal v) (vbar v) (vfine v) (vcrs v) (vcoin v) (vship v)))), (m2, .inl (cI, 6, .inl (vR v))), (m4, .inl (cI, 16, .inl (hp4 (vsh v) (vco v) (vbu v) (vfl v)))), (m5, .inl (cI, 8, .inl (ho2 (vpw v) (vpa v)))), (m6, .inl (cI, 9, .inl (ke3 (vkw v) (vka v) (vkb v))))] := hD
  refine lv_iload_n hx hb dX4_count_5 rfl (lv_at hl 1 rfl) ?_
  refine lv_iconst (v := 0) hx hb dX4_count_6 (by decide) ?_
  refine lv_bipush (v := 9) hx hb dX4_count_7 (by decide) ?_
  refine k_i (wr := [(m0, .inr (4, [.int 0, .int (nI (vnC v)), .int (nI (vnP v)), .int (nI (vnK v)), .ref m1, .ref m2, .ref m3, .ref m4, .ref m5, .ref m6])), (m1, .inl (cI, 7, .inl (st7 (nI (vday v)) (vcoal v) (vbar v) (vfine v) (vcrs v) (vcoin v) (vship v)))), (m2, .inl (cI, 6, .inl (vR v))), (m4, .inl (cI, 16, .inl (hp4 (vsh v) (vco v) (vbu v) (vfl v)))), (m5, .inl (cI, 8, .inl (ho2 (vpw v) (vpa v)))), (m6, .inl (cI, 9, .inl (ke3 (vkw v) (vka v) (vkb v))))]) (rS (As := [.int y1, .int 0, .int 9]) (rest := []) F hG hK (hP.sub (ws' := []) [] rfl) ((hD.sub (ws' := []) [] (by decide) rfl).weaken (fun _ _ _ _ => trivial)) s_RX4_35 (c_X4_isIn l D cI cZ cJ y1 0 9 _) rfl hl.1 rfl (Nat.le_of_ble_eq_true rfl) dX4_count_9 ⟨(Nat.le_of_ble_eq_true rfl), (Nat.le_of_ble_eq_true rfl)⟩ ⟨(Nat.le_of_ble_eq_true rfl), (Nat.le_of_ble_eq_true rfl)⟩) hP hD hS hA [] [0, 1, 2, 3, 4, 5] rfl rfl (by decide) (by decide) (fun r_9 uu H locs hw hP hD hS => ?_)
  try dsimp only at hw
  have hP : va_P D vwCl [(m0, .inr (4, [.int 0, .int (nI (vnC v)), .int (nI (vnP v)), .int (nI (vnK v)), .ref m1, .ref m2, .ref m3, .ref m4, .ref m5, .ref m6])), (m1, .inl (cI, 7, .inl (st7 (nI (vday v)) (vcoal v) (vbar v) (vfine v) (vcrs v) (vcoin v) (vship v)))), (m2, .inl (cI, 6, .inl (vR v))), (m4, .inl (cI, 16, .inl (hp4 (vsh v) (vco v) (vbu v) (vfl v)))), (m5, .inl (cI, 8, .inl (ho2 (vpw v) (vpa v)))), (m6, .inl (cI, 9, .inl (ke3 (vkw v) (vka v) (vkb v))))] _ := hP
  have hD : va_D A [(m0, .inr (4, [.int 0, .int (nI (vnC v)), .int (nI (vnP v)), .int (nI (vnK v)), .ref m1, .ref m2, .ref m3, .ref m4, .ref m5, .ref m6])), (m1, .inl (cI, 7, .inl (st7 (nI (vday v)) (vcoal v) (vbar v) (vfine v) (vcrs v) (vcoin v) (vship v)))), (m2, .inl (cI, 6, .inl (vR v))), (m4, .inl (cI, 16, .inl (hp4 (vsh v) (vco v) (vbu v) (vfl v)))), (m5, .inl (cI, 8, .inl (ho2 (vpw v) (vpa v)))), (m6, .inl (cI, 9, .inl (ke3 (vkw v) (vka v) (vkb v))))] := hD
  rcases hw with ⟨rfl, b_1⟩ | ⟨rfl, b_1⟩
  · skip
    refine lv_if_eq (tgt := 23) hx hb dX4_count_12 (by decide) (fun h => absurd h (by decide)) (fun _ => ?_)
    refine lv_aload_n hx hb dX4_count_15 rfl (lv_at hl 0 rfl) ?_
    refine lv_iload_n hx hb dX4_count_16 rfl (lv_at hl 1 rfl) ?_
    refine k_i (wr := []) (rV (As := [.int y1]) (rest := []) F hG hK (hP.sub (ws' := [(m0, .inr (4, [.int 0, .int (nI (vnC v)), .int (nI (vnP v)), .int (nI (vnK v)), .ref m1, .ref m2, .ref m3, .ref m4, .ref m5, .ref m6])), (m1, .inl (cI, 7, .inl (st7 (nI (vday v)) (vcoal v) (vbar v) (vfine v) (vcrs v) (vcoin v) (vship v)))), (m2, .inl (cI, 6, .inl (vR v))), (m4, .inl (cI, 16, .inl (hp4 (vsh v) (vco v) (vbu v) (vfl v)))), (m5, .inl (cI, 8, .inl (ho2 (vpw v) (vpa v)))), (m6, .inl (cI, 9, .inl (ke3 (vkw v) (vka v) (vkb v))))]) [0, 1, 2, 3, 4, 5] rfl) ((hD.sub (ws' := [(m0, .inr (4, [.int 0, .int (nI (vnC v)), .int (nI (vnP v)), .int (nI (vnK v)), .ref m1, .ref m2, .ref m3, .ref m4, .ref m5, .ref m6])), (m1, .inl (cI, 7, .inl (st7 (nI (vday v)) (vcoal v) (vbar v) (vfine v) (vcrs v) (vcoin v) (vship v)))), (m2, .inl (cI, 6, .inl (vR v))), (m4, .inl (cI, 16, .inl (hp4 (vsh v) (vco v) (vbu v) (vfl v)))), (m5, .inl (cI, 8, .inl (ho2 (vpw v) (vpa v)))), (m6, .inl (cI, 9, .inl (ke3 (vkw v) (vka v) (vkb v))))]) [0, 1, 2, 3, 4, 5] (by decide) rfl).weaken (fun _ _ _ _ => trivial)) s_RX4_91 (c_X4_counted l D cI cZ cJ m0 m1 m2 m3 m4 m5 m6 0 v y1 (by first | assumption | omega) (by first | assumption | omega) (by first | assumption | omega) (by first | assumption | omega) (by first | assumption | omega) (by first | assumption | omega) _) 4 0 rfl rfl rfl rfl hl.1 rfl (Nat.le_of_ble_eq_true rfl) dX4_count_17 ⟨(Nat.le_of_ble_eq_true rfl), (Nat.le_of_ble_eq_true rfl)⟩ ⟨(Nat.le_of_ble_eq_true rfl), (Nat.le_of_ble_eq_true rfl)⟩) hP hD hS hA [0, 1, 2, 3, 4, 5] [] rfl rfl (by decide) (by decide) (fun r_17 uu H locs hw hP hD hS => ?_)
    try dsimp only at hw
    subst hw
    have hP : va_P D vwCl [(m0, .inr (4, [.int 0, .int (nI (vnC v)), .int (nI (vnP v)), .int (nI (vnK v)), .ref m1, .ref m2, .ref m3, .ref m4, .ref m5, .ref m6])), (m1, .inl (cI, 7, .inl (st7 (nI (vday v)) (vcoal v) (vbar v) (vfine v) (vcrs v) (vcoin v) (vship v)))), (m2, .inl (cI, 6, .inl (vR v))), (m4, .inl (cI, 16, .inl (hp4 (vsh v) (vco v) (vbu v) (vfl v)))), (m5, .inl (cI, 8, .inl (ho2 (vpw v) (vpa v)))), (m6, .inl (cI, 9, .inl (ke3 (vkw v) (vka v) (vkb v))))] _ := hP
    have hD : va_D A [(m0, .inr (4, [.int 0, .int (nI (vnC v)), .int (nI (vnP v)), .int (nI (vnK v)), .ref m1, .ref m2, .ref m3, .ref m4, .ref m5, .ref m6])), (m1, .inl (cI, 7, .inl (st7 (nI (vday v)) (vcoal v) (vbar v) (vfine v) (vcrs v) (vcoin v) (vship v)))), (m2, .inl (cI, 6, .inl (vR v))), (m4, .inl (cI, 16, .inl (hp4 (vsh v) (vco v) (vbu v) (vfl v)))), (m5, .inl (cI, 8, .inl (ho2 (vpw v) (vpa v)))), (m6, .inl (cI, 9, .inl (ke3 (vkw v) (vka v) (vkb v))))] := hD
    refine lv_goto (tgt := 28) hx hb dX4_count_20 (by decide) ?_
    exact hend _ _ _ _ _ _ (cntR (vR v) v y1) 0 dX4_count_28 (⟨by simp (decide := true) only [kCount, rCount, eq_true b_1, if_true, if_false, eq_self], by simp (decide := true) only [kCount, eq_true b_1, if_true, if_false, eq_self]⟩) hP hD hS rfl (Nat.le_of_ble_eq_true rfl) (Nat.le_of_ble_eq_true rfl)
  · skip
    refine lv_if_eq (tgt := 23) hx hb dX4_count_12 (by decide) (fun _ => ?_) (fun h => absurd (by decide) h)
    refine lv_aload_n hx hb dX4_count_23 rfl (lv_at hl 0 rfl) ?_
    refine lv_iconst (v := 1) hx hb dX4_count_24 (by decide) ?_
    refine k_i (wr := [(m1, .inl (cI, 7, .inl (st7 (nI (vday v)) (vcoal v) (vbar v) (vfine v) (vcrs v) (vcoin v) (vship v)))), (m2, .inl (cI, 6, .inl (vR v))), (m4, .inl (cI, 16, .inl (hp4 (vsh v) (vco v) (vbu v) (vfl v)))), (m5, .inl (cI, 8, .inl (ho2 (vpw v) (vpa v)))), (m6, .inl (cI, 9, .inl (ke3 (vkw v) (vka v) (vkb v))))]) (rV (As := [.int 1]) (rest := []) F hG hK (hP.sub (ws' := [(m0, .inr (4, [.int 0, .int (nI (vnC v)), .int (nI (vnP v)), .int (nI (vnK v)), .ref m1, .ref m2, .ref m3, .ref m4, .ref m5, .ref m6]))]) [0] rfl) ((hD.sub (ws' := [(m0, .inr (4, [.int 0, .int (nI (vnC v)), .int (nI (vnP v)), .int (nI (vnK v)), .ref m1, .ref m2, .ref m3, .ref m4, .ref m5, .ref m6]))]) [0] (by decide) rfl).weaken (fun _ _ _ _ => trivial)) s_RX4_45 (c_X4_fail l D cI cZ cJ m0 m1 m2 m3 m4 m5 m6 (vnC v) (vnP v) (vnK v) 0 1 _) 4 0 rfl rfl rfl rfl hl.1 rfl (Nat.le_of_ble_eq_true rfl) dX4_count_25 ⟨(Nat.le_of_ble_eq_true rfl), (Nat.le_of_ble_eq_true rfl)⟩ ⟨(Nat.le_of_ble_eq_true rfl), (Nat.le_of_ble_eq_true rfl)⟩) hP hD hS hA [0] [1, 2, 3, 4, 5] rfl rfl (by decide) (by decide) (fun r_25 uu H locs hw hP hD hS => ?_)
    try dsimp only at hw
    subst hw
    have hP : va_P D vwCl [(m1, .inl (cI, 7, .inl (st7 (nI (vday v)) (vcoal v) (vbar v) (vfine v) (vcrs v) (vcoin v) (vship v)))), (m2, .inl (cI, 6, .inl (vR v))), (m4, .inl (cI, 16, .inl (hp4 (vsh v) (vco v) (vbu v) (vfl v)))), (m5, .inl (cI, 8, .inl (ho2 (vpw v) (vpa v)))), (m6, .inl (cI, 9, .inl (ke3 (vkw v) (vka v) (vkb v)))), (m0, .inr (4, [.int 1, .int (nI (vnC v)), .int (nI (vnP v)), .int (nI (vnK v)), .ref m1, .ref m2, .ref m3, .ref m4, .ref m5, .ref m6]))] _ := hP
    have hD : va_D A [(m1, .inl (cI, 7, .inl (st7 (nI (vday v)) (vcoal v) (vbar v) (vfine v) (vcrs v) (vcoin v) (vship v)))), (m2, .inl (cI, 6, .inl (vR v))), (m4, .inl (cI, 16, .inl (hp4 (vsh v) (vco v) (vbu v) (vfl v)))), (m5, .inl (cI, 8, .inl (ho2 (vpw v) (vpa v)))), (m6, .inl (cI, 9, .inl (ke3 (vkw v) (vka v) (vkb v)))), (m0, .inr (4, [.int 1, .int (nI (vnC v)), .int (nI (vnP v)), .int (nI (vnK v)), .ref m1, .ref m2, .ref m3, .ref m4, .ref m5, .ref m6]))] := hD
    exact hend _ _ _ _ _ _ 0 1 dX4_count_28 (⟨by simp (decide := true) only [kCount, rCount, eq_false b_1, if_true, if_false, eq_self], by simp (decide := true) only [kCount, eq_false b_1, if_true, if_false, eq_self]⟩) (hP.sub [5, 0, 1, 2, 3, 4] rfl) (hD.sub [5, 0, 1, 2, 3, 4] (by decide) rfl) hS rfl (Nat.le_of_ble_eq_true rfl) (Nat.le_of_ble_eq_true rfl)
