/-! the reference's days -/
theorem mn_T (x y : Int32) : (mn x y).toInt = min x.toInt y.toInt := by
  unfold mn
  by_cases h : y < x
  · rw [if_pos h]
    have := Int32.lt_iff_toInt_lt.mp h
    omega
  · rw [if_neg h]
    have := Int32.le_iff_toInt_le.mp (Int32.not_lt.mp h)
    omega
theorem mx_T (x y : Int32) : (mx x y).toInt = max x.toInt y.toInt := by
  unfold mx
  by_cases h : x < y
  · rw [if_pos h]
    have := Int32.lt_iff_toInt_lt.mp h
    omega
  · rw [if_neg h]
    have := Int32.le_iff_toInt_le.mp (Int32.not_lt.mp h)
    omega
theorem mx0_ge (x : Int32) : 0 ≤ mx 0 x := by
  rw [z_le, mx_T]
  have : (0 : Int32).toInt = 0 := by decide
  omega
theorem bPart_T (r : Int32) {s : Int32} (h : 0 ≤ s.toInt) : 0 ≤ (bPart r s).toInt ∧ (bPart r s).toInt ≤ s.toInt := by
  have h8 : (8 : Int32).toInt = 8 := by decide
  have h4 : (4 : Int32).toInt = 4 := by decide
  unfold bPart bDaily
  rw [mn_T]
  by_cases hr : r < 5
  · rw [if_pos hr, h8]; omega
  · rw [if_neg hr, h4]; omega
theorem part_ge (r : Int32) {s : Int32} (h : 0 ≤ s) : 0 ≤ s - bPart r s := by
  have hs := z_le.mp h
  have b := bPart_T r hs
  have h1 := s.toInt_lt
  rw [z_le, tIs (by omega) (by omega)]
  omega
theorem wth_id {w r : Int32} (h0 : 0 ≤ w.toInt) (h1 : w.toInt ≤ 400) (h2 : 0 ≤ r.toInt) (h3 : r.toInt ≤ 9) : mx 0 (mn 400 (w + r) - 0) = mn 400 (w + r) := by
  have e4 : (400 : Int32).toInt = 400 := by decide
  have e0 : (0 : Int32).toInt = 0 := by decide
  have a : (w + r).toInt = w.toInt + r.toInt := tIa (by omega) (by omega)
  have b := mn_T 400 (w + r)
  rw [a, e4] at b
  apply Int32.toInt_inj.mp
  rw [mx_T, tIs (by omega) (by omega), e0]
  omega
theorem wth_T {w r : Int32} (h0 : 0 ≤ w.toInt) (h1 : w.toInt ≤ 400) (h2 : 0 ≤ r.toInt) (h3 : r.toInt ≤ 9) : 0 ≤ (wth r w).toInt ∧ (wth r w).toInt ≤ 400 := by
  have e4 : (400 : Int32).toInt = 400 := by decide
  have e3 : (3 : Int32).toInt = 3 := by decide
  have e0 : (0 : Int32).toInt = 0 := by decide
  have a : (w + r).toInt = w.toInt + r.toInt := tIa (by omega) (by omega)
  have b := mn_T 400 (w + r)
  rw [a, e4] at b
  unfold wth
  by_cases q : w ≤ 0
  · rw [if_pos q]; omega
  · rw [if_neg q]
    by_cases q2 : r = 0
    · rw [if_pos q2, mx_T, tIs (by omega) (by omega), e0, e3]
      omega
    · rw [if_neg q2]; omega
theorem boil_T {w : Int32} (h0 : 0 ≤ w.toInt) (h1 : w.toInt ≤ 150) : 0 ≤ (mx 0 (w - 12)).toInt ∧ (mx 0 (w - 12)).toInt ≤ 150 := by
  have e : (12 : Int32).toInt = 12 := by decide
  have e0 : (0 : Int32).toInt = 0 := by decide
  rw [mx_T, tIs (by omega) (by omega), e, e0]
  omega
theorem NN_day {v : VT} (h : NN v) : NN (dayV v) := by
  obtain ⟨h1, h2, h3, h4, h5⟩ := h
  refine ⟨fun j => ?_, fun j => ?_, fun j => ?_, h4, h5⟩
  · show 0 ≤ (rowF (vnC v) (fSh (vR v (vday v % 6)) (vsh v) (vfl v)) (vsh v) j).toInt ∧ 0 ≤ (rowF (vnC v) (fBu (vR v (vday v % 6)) (vsh v) (vbu v) (vfl v)) (vbu v) j).toInt ∧ (rowF (vnC v) (fSh (vR v (vday v % 6)) (vsh v) (vfl v)) (vsh v) j).toInt + (rowF (vnC v) (fBu (vR v (vday v % 6)) (vsh v) (vbu v) (vfl v)) (vbu v) j).toInt ≤ 200
    generalize vR v (vday v % 6) = r
    have q := h1 j
    unfold toI at q
    unfold rowF
    by_cases hj : j < vnC v
    · simp only [hj, if_true, fSh, fBu]
      by_cases hf : vfl v j = 0
      · simp only [hf, if_true]; exact q
      · simp only [hf, if_false]
        have b := bPart_T r (s := vsh v j) q.1
        rw [tIs (by omega) (by omega), tIa (by omega) (by omega)]
        omega
    · simp only [hj, if_false]; exact q
  · show 0 ≤ (rowF (vnP v) (fun j => wth (vR v (vday v % 6)) (vpw v j)) (vpw v) j).toInt ∧ (rowF (vnP v) (fun j => wth (vR v (vday v % 6)) (vpw v j)) (vpw v) j).toInt ≤ 400 ∧ 0 ≤ toI (vpa v) j
    have q := h2 j
    have q5 := h5 (vday v % 6)
    unfold toI at q q5 ⊢
    unfold rowF
    by_cases hj : j < vnP v
    · simp only [hj, if_true]
      have z := wth_T q.1 q.2.1 q5.1 q5.2
      omega
    · simp only [hj, if_false]; exact q
  · show 0 ≤ (rowF (vnK v) (fKw (vkw v) (vkb v) (cN (vkw v) (vkb v) (vcoal v))) (vkw v) j).toInt ∧ (rowF (vnK v) (fKw (vkw v) (vkb v) (cN (vkw v) (vkb v) (vcoal v))) (vkw v) j).toInt ≤ 150 ∧ 0 ≤ toI (vka v) j
    have q := h3 j
    unfold toI at q ⊢
    unfold rowF
    by_cases hj : j < vnK v
    · simp only [hj, if_true, fKw]
      have z := boil_T q.1 q.2.1
      by_cases a1 : vkb v j = 0
      · simp only [a1, if_true]; exact q
      · by_cases a2 : cN (vkw v) (vkb v) (vcoal v) j < 4
        · simp only [a1, a2, if_true, if_false]; exact q
        · by_cases a3 : vkw v j = 0
          · simp only [a1, a2, if_false]
            rw [if_pos a3]; exact q
          · simp only [a1, a2, if_false]
            rw [if_neg a3]; omega
    · simp only [hj, if_false]; exact q
theorem NN_dIt {v : VT} (h : NN v) (n : Nat) : NN (dIt n v) := by
  induction n with
  | zero => exact h
  | succ n ih => exact NN_day ih
theorem fl_day {v : VT} (h : ∀ j, vfl v j = 0 ∨ vfl v j = 1) (j : Nat) : vfl (dayV v) j = 0 ∨ vfl (dayV v) j = 1 := by
  show rowF (vnC v) (fFl (vR v (vday v % 6)) (vsh v) (vco v) (vfl v)) (vfl v) j = 0 ∨ rowF (vnC v) (fFl (vR v (vday v % 6)) (vsh v) (vco v) (vfl v)) (vfl v) j = 1
  generalize vR v (vday v % 6) = r
  unfold rowF
  by_cases hj : j < vnC v
  · simp only [hj, if_true, fFl]
    by_cases hf : vfl v j = 0
    · rw [if_pos hf]; exact h j
    · rw [if_neg hf]
      unfold bFl
      by_cases q1 : mx 0 (vco v j - 2) ≤ 0
      · rw [if_pos q1]; exact Or.inl rfl
      · rw [if_neg q1]
        by_cases q2 : vsh v j - bPart r (vsh v j) ≤ 0
        · rw [if_pos q2]; exact Or.inl rfl
        · rw [if_neg q2]; exact Or.inr rfl
  · simp only [hj, if_false]; exact h j
theorem fl_dIt {v : VT} (h : ∀ j, vfl v j = 0 ∨ vfl v j = 1) (n : Nat) : ∀ j, vfl (dIt n v) j = 0 ∨ vfl (dIt n v) j = 1 := by
  induction n with
  | zero => exact h
  | succ n ih => exact fl_day ih
theorem kb_day {v : VT} (h : ∀ j, vkb v j = 0 ∨ vkb v j = 1) (j : Nat) : vkb (dayV v) j = 0 ∨ vkb (dayV v) j = 1 := by
  show rowF (vnK v) (fKb (vkw v) (vkb v) (cN (vkw v) (vkb v) (vcoal v))) (vkb v) j = 0 ∨ rowF (vnK v) (fKb (vkw v) (vkb v) (cN (vkw v) (vkb v) (vcoal v))) (vkb v) j = 1
  unfold rowF
  by_cases hj : j < vnK v
  · simp only [hj, if_true, fKb]
    by_cases a1 : vkb v j = 0
    · rw [if_pos a1]; exact h j
    · rw [if_neg a1]
      by_cases a2 : cN (vkw v) (vkb v) (vcoal v) j < 4
      · rw [if_pos a2]; exact Or.inl rfl
      · rw [if_neg a2]
        by_cases a3 : vkw v j = 0
        · rw [if_pos a3]; exact Or.inl rfl
        · rw [if_neg a3]; exact h j
  · simp only [hj, if_false]; exact h j
theorem kb_dIt {v : VT} (h : ∀ j, vkb v j = 0 ∨ vkb v j = 1) (n : Nat) : ∀ j, vkb (dIt n v) j = 0 ∨ vkb (dIt n v) j = 1 := by
  induction n with
  | zero => exact h
  | succ n ih => exact kb_day ih
theorem pb_dIt (v : VT) (n : Nat) : vpb (dIt n v) = vpb v := by
  induction n with
  | zero => rfl
  | succ n ih => exact (show vpb (dayV (dIt n v)) = vpb (dIt n v) from rfl).trans ih
theorem IS_dIt {v : VT} (h : IS v) {n : Nat} (hn : vday v + n ≤ 1000000) : IS (dIt n v) := by
  obtain ⟨h1, h2, h3, h4, h5, h6, h7, h8⟩ := h
  have z := AH_dIt h4 n
  refine ⟨by rw [vnC_dIt]; exact h1, by rw [vnP_dIt]; exact h2, by rw [vnK_dIt]; exact h3, ⟨?_, ?_, ?_⟩, fl_dIt h5 n, by rw [pb_dIt]; exact h6, kb_dIt h7 n, by rw [vday_dIt]; exact hn⟩
  · rw [vnC_dIt]; exact z.1
  · rw [vnP_dIt]; exact z.2.1
  · rw [vnK_dIt]; exact z.2.2
def ckC (c w b : Int32) : Int32 := if b = 0 then c else if c < 4 then c else if w = 0 then c else c - 4
def ckW (c w b : Int32) : Int32 := if b = 0 then w else if c < 4 then w else if w = 0 then w else mx 0 (w - 12)
def ckB (c w b : Int32) : Int32 := if b = 0 then b else if c < 4 then 0 else if w = 0 then 0 else b
theorem s_RX4_101 : sV RX4 101 RX4 yX4_cook cX4_cook 2 none 1 := sV.mk qM_RX4_101 qI_yX4_cook qV_yX4_cook qN_RX4 qC_yX4_cook ⟨rfl, by decide +kernel, by decide +kernel, by decide +kernel⟩
theorem s_RX4_97 : sV RX4 97 RX4 yX4_burn cX4_burn 3 none 1 := sV.mk qM_RX4_97 qI_yX4_burn qV_yX4_burn qN_RX4 qC_yX4_burn ⟨rfl, by decide +kernel, by decide +kernel, by decide +kernel⟩
theorem s_RX4_104 : sV RX4 104 RX4 yX4_dayOn cX4_dayOn 4 none 0 := sV.mk qM_RX4_104 qI_yX4_dayOn qV_yX4_dayOn qN_RX4 qC_yX4_dayOn ⟨rfl, by decide +kernel, by decide +kernel, by decide +kernel⟩
theorem s_RX4_107 : sV RX4 107 RX4 yX4_daysOn cX4_daysOn 3 none 1 := sV.mk qM_RX4_107 qI_yX4_daysOn qV_yX4_daysOn qN_RX4 qC_yX4_daysOn ⟨rfl, by decide +kernel, by decide +kernel, by decide +kernel⟩
def rm_X4_burn : Room := { frames := 1, cells := 0, slots := 0, locals := 21 }
set_option maxHeartbeats 4000000 in
set_option maxRecDepth 100000 in
theorem c_X4_burn (l : Launch) (D : va_G) (cI cZ cJ : ClassId) (m0 m1 m2 m3 m4 m5 m6 : Nat) (nC nP nK : Nat) (th : Int32) (dy : Nat) (z1 z2 z3 z4 z5 z6 : Int32) (R sh co bu fl : Nat → Int32) (k : Nat) (hk : k < 4) (hd : dy < 2147483648) (hs0 : 0 ≤ sh k) (hf : fl k = 0 ∨ fl k = 1) : Mv l yX4_burn cX4_burn 3 rm_X4_burn D (TY cI cZ cJ) [.ref m0, .int (nI (4 * k))] [(m0, .inr (4, [.int th, .int (nI nC), .int (nI nP), .int (nI nK), .ref m1, .ref m2, .ref m3, .ref m4, .ref m5, .ref m6])), (m1, .inl (cI, 7, .inl (st7 (nI dy) z1 z2 z3 z4 z5 z6))), (m2, .inl (cI, 6, .inl R)), (m4, .inl (cI, 16, .inl (hp4 sh co bu fl)))] (fun (u : (Nat → Int32) × (Nat → Int32) × (Nat → Int32) × (Nat → Int32)) => u.1 = upd sh k (fSh (R (dy % 6)) sh fl k) ∧ u.2.1 = upd co k (fCo co fl k) ∧ u.2.2.1 = upd bu k (fBu (R (dy % 6)) sh bu fl k) ∧ u.2.2.2 = upd fl k (fFl (R (dy % 6)) sh co fl k)) (fun (u : (Nat → Int32) × (Nat → Int32) × (Nat → Int32) × (Nat → Int32)) => [(m0, .inr (4, [.int th, .int (nI nC), .int (nI nP), .int (nI nK), .ref m1, .ref m2, .ref m3, .ref m4, .ref m5, .ref m6])), (m1, .inl (cI, 7, .inl (st7 (nI dy) z1 z2 z3 z4 z5 z6))), (m2, .inl (cI, 6, .inl R)), (m4, .inl (cI, 16, .inl (hp4 u.1 u.2.1 u.2.2.1 u.2.2.2)))]) := by
  refine Mv.ofQ (by decide) (Nat.le_of_ble_eq_true rfl) ?_
  intro p e s m args below meth c A ls Q hF hK hP hD hA hl hend hin
  obtain ⟨F, hr, hlocks, hG⟩ := hF
  have hx := F.1
  have hb := F.2.1
  have hown := F.2.2.2.1
  have ht := F.2.2.2.2
  have hS : va_S A s.heap s.heap [] := va_S.rf
  have hl : lv_has ls 3 [(0, .ref m0), (1, .int (nI (4 * k)))] := hl
  refine lv_aload_n hx hb dX4_burn_0 rfl (lv_at hl 0 rfl) ?_
  refine va_get (D := D) (ci := 4) (v := .ref m4) (C := RX4) (T := TX4) (N := 10) hx hb ht inG_X4 hown hK hP 0 rfl rfl 7 (by decide) (ht _ qF_RX4_19) (fun _ h9 => h9) rfl dX4_burn_1 ?_
  refine lv_iload_n hx hb dX4_burn_4 rfl (lv_at hl 1 rfl) ?_
  refine lv_iconst (v := 3) hx hb dX4_burn_5 (by decide) ?_
  refine lv_iadd hx hb dX4_burn_6 ?_
  refine t_i (nI (4 * k + 3)) (nI_add (4 * k) 3) ?_
  refine aI hx hb hK hP 3 0 rfl rfl (4 * k + 3) (rfl) (by omega) (by decide) (v := fl k) (hp4_3 _ _ _ _ k) dX4_burn_7 ?_
  refine lv_if_ne (tgt := 12) hx hb dX4_burn_8 (by decide) (fun c_1 => ?_) (fun c_1 => ?_)
  · skip
    have hfl1 := hf.resolve_left c_1
    refine lv_aload_n hx hb dX4_burn_12 rfl (lv_at hl 0 rfl) ?_
    refine va_get (D := D) (ci := 4) (v := .ref m4) (C := RX4) (T := TX4) (N := 10) hx hb ht inG_X4 hown hK hP 0 rfl rfl 7 (by decide) (ht _ qF_RX4_19) (fun _ h9 => h9) rfl dX4_burn_13 ?_
    refine lv_iload_n hx hb dX4_burn_16 rfl (lv_at hl 1 rfl) ?_
    refine aI hx hb hK hP 3 0 rfl rfl (4 * k) (rfl) (by omega) (by decide) (v := sh k) (hp4_0 _ _ _ _ k) dX4_burn_17 ?_
    refine lv_aload_n hx hb dX4_burn_18 rfl (lv_at hl 0 rfl) ?_
    refine k_i (wr := [(m4, .inl (cI, 16, .inl (hp4 sh co bu fl)))]) (rV (As := []) (rest := [.int (sh k)]) F hG hK (hP.sub (ws' := [(m0, .inr (4, [.int th, .int (nI nC), .int (nI nP), .int (nI nK), .ref m1, .ref m2, .ref m3, .ref m4, .ref m5, .ref m6])), (m1, .inl (cI, 7, .inl (st7 (nI dy) z1 z2 z3 z4 z5 z6))), (m2, .inl (cI, 6, .inl R))]) [0, 1, 2] rfl) ((hD.sub (ws' := [(m0, .inr (4, [.int th, .int (nI nC), .int (nI nP), .int (nI nK), .ref m1, .ref m2, .ref m3, .ref m4, .ref m5, .ref m6])), (m1, .inl (cI, 7, .inl (st7 (nI dy) z1 z2 z3 z4 z5 z6))), (m2, .inl (cI, 6, .inl R))]) [0, 1, 2] (by decide) rfl).weaken (fun _ _ _ _ => trivial)) s_RX4_87 (c_X4_rain l D cI cZ cJ m0 m1 m2 m3 m4 m5 m6 nC nP nK th dy z1 z2 z3 z4 z5 z6 R (by first | assumption | omega) _) 4 0 rfl rfl rfl rfl hl.1 rfl (Nat.le_of_ble_eq_true rfl) dX4_burn_19 ⟨(Nat.le_of_ble_eq_true rfl), (Nat.le_of_ble_eq_true rfl)⟩ ⟨(Nat.le_of_ble_eq_true rfl), (Nat.le_of_ble_eq_true rfl)⟩) hP hD hS hA [0, 1, 2] [3] rfl rfl (by decide) (by decide) (fun r_19 uu H locs hw hP hD hS => ?_)
    try dsimp only at hw
    subst hw
    have hP : va_P D vwCl [(m4, .inl (cI, 16, .inl (hp4 sh co bu fl))), (m0, .inr (4, [.int th, .int (nI nC), .int (nI nP), .int (nI nK), .ref m1, .ref m2, .ref m3, .ref m4, .ref m5, .ref m6])), (m1, .inl (cI, 7, .inl (st7 (nI dy) z1 z2 z3 z4 z5 z6))), (m2, .inl (cI, 6, .inl R))] _ := hP
    have hD : va_D A [(m4, .inl (cI, 16, .inl (hp4 sh co bu fl))), (m0, .inr (4, [.int th, .int (nI nC), .int (nI nP), .int (nI nK), .ref m1, .ref m2, .ref m3, .ref m4, .ref m5, .ref m6])), (m1, .inl (cI, 7, .inl (st7 (nI dy) z1 z2 z3 z4 z5 z6))), (m2, .inl (cI, 6, .inl R))] := hD
    refine lv_iconst (v := 5) hx hb dX4_burn_22 (by decide) ?_
    refine lv_icmp_ge (tgt := 31) hx hb dX4_burn_23 (by decide) (fun c_2 => ?_) (fun c_2 => ?_)
    · skip
      have c_2n := Int32.not_lt.mpr c_2
      refine lv_iconst (v := 4) hx hb dX4_burn_31 (by decide) ?_
      refine k_min F qM_RX4_49 hl.1 (Nat.le_of_ble_eq_true rfl) (Nat.le_of_ble_eq_true rfl) (Nat.le_of_ble_eq_true rfl) (Nat.le_of_ble_eq_true rfl) dX4_burn_32 ?_
      refine t_i (bPart (R (dy % 6)) (sh k)) ((mn_comm _ _).trans (by simp only [bPart, bDaily, eq_false c_1, eq_true c_2, eq_false c_2n, if_true, if_false])) ?_
      refine lv_istore_n (lv' := [(2, .int (bPart (R (dy % 6)) (sh k))), (0, .ref m0), (1, .int (nI (4 * k)))]) hx hb dX4_burn_35 rfl hl (by decide) rfl (fun ls hl => ?_)
      refine lv_aload_n hx hb dX4_burn_36 rfl (lv_at hl 1 rfl) ?_
      refine va_get (D := D) (ci := 4) (v := .ref m4) (C := RX4) (T := TX4) (N := 10) hx hb ht inG_X4 hown hK hP 1 rfl rfl 7 (by decide) (ht _ qF_RX4_19) (fun _ h9 => h9) rfl dX4_burn_37 ?_
      refine lv_iload_n hx hb dX4_burn_40 rfl (lv_at hl 2 rfl) ?_
      refine lv_dup2_11 hx hb dX4_burn_41 rfl rfl ?_
      refine aI hx hb hK hP 0 0 rfl rfl (4 * k) (rfl) (by omega) (by decide) (v := sh k) (hp4_0 _ _ _ _ k) dX4_burn_42 ?_
      refine lv_iload_n hx hb dX4_burn_43 rfl (lv_at hl 0 rfl) ?_
      refine lv_isub hx hb dX4_burn_44 ?_
      refine sI_ hx hb hK hP hD hS 0 0 rfl rfl (4 * k) (rfl) (by omega) (by decide) (hp4 (upd sh k ((sh k) - (bPart (R (dy % 6)) (sh k)))) co bu fl) (hp4_u0 _ _ _ _ _ _) dX4_burn_45 (fun H locs hP hD hS => ?_)
      have hP : va_P D vwCl [(m4, .inl (cI, 16, .inl (hp4 (upd sh k ((sh k) - (bPart (R (dy % 6)) (sh k)))) co bu fl))), (m0, .inr (4, [.int th, .int (nI nC), .int (nI nP), .int (nI nK), .ref m1, .ref m2, .ref m3, .ref m4, .ref m5, .ref m6])), (m1, .inl (cI, 7, .inl (st7 (nI dy) z1 z2 z3 z4 z5 z6))), (m2, .inl (cI, 6, .inl R))] _ := hP
      have hD : va_D A [(m4, .inl (cI, 16, .inl (hp4 (upd sh k ((sh k) - (bPart (R (dy % 6)) (sh k)))) co bu fl))), (m0, .inr (4, [.int th, .int (nI nC), .int (nI nP), .int (nI nK), .ref m1, .ref m2, .ref m3, .ref m4, .ref m5, .ref m6])), (m1, .inl (cI, 7, .inl (st7 (nI dy) z1 z2 z3 z4 z5 z6))), (m2, .inl (cI, 6, .inl R))] := hD
      refine lv_aload_n hx hb dX4_burn_46 rfl (lv_at hl 1 rfl) ?_
      refine va_get (D := D) (ci := 4) (v := .ref m4) (C := RX4) (T := TX4) (N := 10) hx hb ht inG_X4 hown hK hP 1 rfl rfl 7 (by decide) (ht _ qF_RX4_19) (fun _ h9 => h9) rfl dX4_burn_47 ?_
      refine lv_iload_n hx hb dX4_burn_50 rfl (lv_at hl 2 rfl) ?_
      refine lv_iconst (v := 1) hx hb dX4_burn_51 (by decide) ?_
      refine lv_iadd hx hb dX4_burn_52 ?_
      refine t_i (nI (4 * k + 1)) (nI_1 (4 * k)) ?_
      refine lv_iconst (v := 0) hx hb dX4_burn_53 (by decide) ?_
      refine lv_aload_n hx hb dX4_burn_54 rfl (lv_at hl 1 rfl) ?_
      refine va_get (D := D) (ci := 4) (v := .ref m4) (C := RX4) (T := TX4) (N := 10) hx hb ht inG_X4 hown hK hP 1 rfl rfl 7 (by decide) (ht _ qF_RX4_19) (fun _ h9 => h9) rfl dX4_burn_55 ?_
      refine lv_iload_n hx hb dX4_burn_58 rfl (lv_at hl 2 rfl) ?_
      refine lv_iconst (v := 1) hx hb dX4_burn_59 (by decide) ?_
      refine lv_iadd hx hb dX4_burn_60 ?_
      refine t_i (nI (4 * k + 1)) (nI_1 (4 * k)) ?_
      refine aI hx hb hK hP 0 0 rfl rfl (4 * k + 1) (rfl) (by omega) (by decide) (v := co k) (hp4_1 _ _ _ _ k) dX4_burn_61 ?_
      refine lv_iconst (v := 2) hx hb dX4_burn_62 (by decide) ?_
      refine lv_isub hx hb dX4_burn_63 ?_
      refine k_max F qM_RX4_94 hl.1 (Nat.le_of_ble_eq_true rfl) (Nat.le_of_ble_eq_true rfl) (Nat.le_of_ble_eq_true rfl) (Nat.le_of_ble_eq_true rfl) dX4_burn_64 ?_
      refine sI_ hx hb hK hP hD hS 0 0 rfl rfl (4 * k + 1) (rfl) (by omega) (by decide) (hp4 (upd sh k ((sh k) - (bPart (R (dy % 6)) (sh k)))) (upd co k (mx 0 ((co k) - 2))) bu fl) (hp4_u1 _ _ _ _ _ _) dX4_burn_67 (fun H locs hP hD hS => ?_)
      have hP : va_P D vwCl [(m4, .inl (cI, 16, .inl (hp4 (upd sh k ((sh k) - (bPart (R (dy % 6)) (sh k)))) (upd co k (mx 0 ((co k) - 2))) bu fl))), (m0, .inr (4, [.int th, .int (nI nC), .int (nI nP), .int (nI nK), .ref m1, .ref m2, .ref m3, .ref m4, .ref m5, .ref m6])), (m1, .inl (cI, 7, .inl (st7 (nI dy) z1 z2 z3 z4 z5 z6))), (m2, .inl (cI, 6, .inl R))] _ := hP
      have hD : va_D A [(m4, .inl (cI, 16, .inl (hp4 (upd sh k ((sh k) - (bPart (R (dy % 6)) (sh k)))) (upd co k (mx 0 ((co k) - 2))) bu fl))), (m0, .inr (4, [.int th, .int (nI nC), .int (nI nP), .int (nI nK), .ref m1, .ref m2, .ref m3, .ref m4, .ref m5, .ref m6])), (m1, .inl (cI, 7, .inl (st7 (nI dy) z1 z2 z3 z4 z5 z6))), (m2, .inl (cI, 6, .inl R))] := hD
      refine lv_aload_n hx hb dX4_burn_68 rfl (lv_at hl 1 rfl) ?_
      refine va_get (D := D) (ci := 4) (v := .ref m4) (C := RX4) (T := TX4) (N := 10) hx hb ht inG_X4 hown hK hP 1 rfl rfl 7 (by decide) (ht _ qF_RX4_19) (fun _ h9 => h9) rfl dX4_burn_69 ?_
      refine lv_iload_n hx hb dX4_burn_72 rfl (lv_at hl 2 rfl) ?_
      refine lv_iconst (v := 2) hx hb dX4_burn_73 (by decide) ?_
      refine lv_iadd hx hb dX4_burn_74 ?_
      refine t_i (nI (4 * k + 2)) (nI_add (4 * k) 2) ?_
      refine lv_dup2_11 hx hb dX4_burn_75 rfl rfl ?_
      refine aI hx hb hK hP 0 0 rfl rfl (4 * k + 2) (rfl) (by omega) (by decide) (v := bu k) (hp4_2 _ _ _ _ k) dX4_burn_76 ?_
      refine lv_iload_n hx hb dX4_burn_77 rfl (lv_at hl 0 rfl) ?_
      refine lv_iadd hx hb dX4_burn_78 ?_
      refine sI_ hx hb hK hP hD hS 0 0 rfl rfl (4 * k + 2) (rfl) (by omega) (by decide) (hp4 (upd sh k ((sh k) - (bPart (R (dy % 6)) (sh k)))) (upd co k (mx 0 ((co k) - 2))) (upd bu k ((bu k) + (bPart (R (dy % 6)) (sh k)))) fl) (hp4_u2 _ _ _ _ _ _) dX4_burn_79 (fun H locs hP hD hS => ?_)
      have hP : va_P D vwCl [(m4, .inl (cI, 16, .inl (hp4 (upd sh k ((sh k) - (bPart (R (dy % 6)) (sh k)))) (upd co k (mx 0 ((co k) - 2))) (upd bu k ((bu k) + (bPart (R (dy % 6)) (sh k)))) fl))), (m0, .inr (4, [.int th, .int (nI nC), .int (nI nP), .int (nI nK), .ref m1, .ref m2, .ref m3, .ref m4, .ref m5, .ref m6])), (m1, .inl (cI, 7, .inl (st7 (nI dy) z1 z2 z3 z4 z5 z6))), (m2, .inl (cI, 6, .inl R))] _ := hP
      have hD : va_D A [(m4, .inl (cI, 16, .inl (hp4 (upd sh k ((sh k) - (bPart (R (dy % 6)) (sh k)))) (upd co k (mx 0 ((co k) - 2))) (upd bu k ((bu k) + (bPart (R (dy % 6)) (sh k)))) fl))), (m0, .inr (4, [.int th, .int (nI nC), .int (nI nP), .int (nI nK), .ref m1, .ref m2, .ref m3, .ref m4, .ref m5, .ref m6])), (m1, .inl (cI, 7, .inl (st7 (nI dy) z1 z2 z3 z4 z5 z6))), (m2, .inl (cI, 6, .inl R))] := hD
      refine lv_aload_n hx hb dX4_burn_80 rfl (lv_at hl 1 rfl) ?_
      refine va_get (D := D) (ci := 4) (v := .ref m4) (C := RX4) (T := TX4) (N := 10) hx hb ht inG_X4 hown hK hP 1 rfl rfl 7 (by decide) (ht _ qF_RX4_19) (fun _ h9 => h9) rfl dX4_burn_81 ?_
      refine lv_iload_n hx hb dX4_burn_84 rfl (lv_at hl 2 rfl) ?_
      refine aI hx hb hK hP 0 0 rfl rfl (4 * k) (rfl) (by omega) (by decide) (v := (sh k) - (bPart (R (dy % 6)) (sh k))) ((hp4_0 _ _ _ _ k).trans pk_us) dX4_burn_85 ?_
      refine lv_if_eq (tgt := 100) hx hb dX4_burn_86 (by decide) (fun c_3 => ?_) (fun c_3 => ?_)
      · skip
        have c_3z := zero_le0 c_3
        refine lv_aload_n hx hb dX4_burn_100 rfl (lv_at hl 1 rfl) ?_
        refine va_get (D := D) (ci := 4) (v := .ref m4) (C := RX4) (T := TX4) (N := 10) hx hb ht inG_X4 hown hK hP 1 rfl rfl 7 (by decide) (ht _ qF_RX4_19) (fun _ h9 => h9) rfl dX4_burn_101 ?_
        refine lv_iload_n hx hb dX4_burn_104 rfl (lv_at hl 2 rfl) ?_
        refine lv_iconst (v := 3) hx hb dX4_burn_105 (by decide) ?_
        refine lv_iadd hx hb dX4_burn_106 ?_
        refine t_i (nI (4 * k + 3)) (nI_add (4 * k) 3) ?_
        refine lv_iconst (v := 0) hx hb dX4_burn_107 (by decide) ?_
        refine sI_ hx hb hK hP hD hS 0 0 rfl rfl (4 * k + 3) (rfl) (by omega) (by decide) (hp4 (upd sh k ((sh k) - (bPart (R (dy % 6)) (sh k)))) (upd co k (mx 0 ((co k) - 2))) (upd bu k ((bu k) + (bPart (R (dy % 6)) (sh k)))) (upd fl k 0)) (hp4_u3 _ _ _ _ _ _) dX4_burn_108 (fun H locs hP hD hS => ?_)
        have hP : va_P D vwCl [(m4, .inl (cI, 16, .inl (hp4 (upd sh k ((sh k) - (bPart (R (dy % 6)) (sh k)))) (upd co k (mx 0 ((co k) - 2))) (upd bu k ((bu k) + (bPart (R (dy % 6)) (sh k)))) (upd fl k 0)))), (m0, .inr (4, [.int th, .int (nI nC), .int (nI nP), .int (nI nK), .ref m1, .ref m2, .ref m3, .ref m4, .ref m5, .ref m6])), (m1, .inl (cI, 7, .inl (st7 (nI dy) z1 z2 z3 z4 z5 z6))), (m2, .inl (cI, 6, .inl R))] _ := hP
        have hD : va_D A [(m4, .inl (cI, 16, .inl (hp4 (upd sh k ((sh k) - (bPart (R (dy % 6)) (sh k)))) (upd co k (mx 0 ((co k) - 2))) (upd bu k ((bu k) + (bPart (R (dy % 6)) (sh k)))) (upd fl k 0)))), (m0, .inr (4, [.int th, .int (nI nC), .int (nI nP), .int (nI nK), .ref m1, .ref m2, .ref m3, .ref m4, .ref m5, .ref m6])), (m1, .inl (cI, 7, .inl (st7 (nI dy) z1 z2 z3 z4 z5 z6))), (m2, .inl (cI, 6, .inl R))] := hD
        exact hend _ _ _ _ _ _ (upd sh k ((sh k) - (bPart (R (dy % 6)) (sh k))), upd co k (mx 0 ((co k) - 2)), upd bu k ((bu k) + (bPart (R (dy % 6)) (sh k))), upd fl k 0) dX4_burn_109 (⟨by simp only [fSh, bFl, eq_false c_1, eq_true c_2, eq_false c_2n, eq_true c_3, eq_true c_3z, if_true, if_false, ite_self], by simp only [fCo, bFl, eq_false c_1, eq_true c_2, eq_false c_2n, eq_true c_3, eq_true c_3z, if_true, if_false, ite_self], by simp only [fBu, bFl, eq_false c_1, eq_true c_2, eq_false c_2n, eq_true c_3, eq_true c_3z, if_true, if_false, ite_self], by simp only [fFl, bFl, eq_false c_1, eq_true c_2, eq_false c_2n, eq_true c_3, eq_true c_3z, if_true, if_false, ite_self]⟩) (hP.sub [1, 2, 3, 0] rfl) (hD.sub [1, 2, 3, 0] (by decide) rfl) hS (Nat.le_of_ble_eq_true rfl) (Nat.le_of_ble_eq_true rfl)
      · skip
        have c_3z := ne_le0 c_3 (part_ge _ hs0)
        refine lv_aload_n hx hb dX4_burn_89 rfl (lv_at hl 1 rfl) ?_
        refine va_get (D := D) (ci := 4) (v := .ref m4) (C := RX4) (T := TX4) (N := 10) hx hb ht inG_X4 hown hK hP 1 rfl rfl 7 (by decide) (ht _ qF_RX4_19) (fun _ h9 => h9) rfl dX4_burn_90 ?_
        refine lv_iload_n hx hb dX4_burn_93 rfl (lv_at hl 2 rfl) ?_
        refine lv_iconst (v := 1) hx hb dX4_burn_94 (by decide) ?_
        refine lv_iadd hx hb dX4_burn_95 ?_
        refine t_i (nI (4 * k + 1)) (nI_1 (4 * k)) ?_
        refine aI hx hb hK hP 0 0 rfl rfl (4 * k + 1) (rfl) (by omega) (by decide) (v := mx 0 ((co k) - 2)) ((hp4_1 _ _ _ _ k).trans pk_us) dX4_burn_96 ?_
        refine lv_if_ne (tgt := 109) hx hb dX4_burn_97 (by decide) (fun c_4 => ?_) (fun c_4 => ?_)
        · skip
          have c_4z := ne_le0 c_4 (mx0_ge _)
          exact hend _ _ _ _ _ _ (upd sh k ((sh k) - (bPart (R (dy % 6)) (sh k))), upd co k (mx 0 ((co k) - 2)), upd bu k ((bu k) + (bPart (R (dy % 6)) (sh k))), fl) dX4_burn_109 (⟨by simp only [fSh, bFl, eq_false c_1, eq_true c_2, eq_false c_2n, eq_false c_3, eq_false c_3z, eq_false c_4, eq_false c_4z, if_true, if_false, ite_self], by simp only [fCo, bFl, eq_false c_1, eq_true c_2, eq_false c_2n, eq_false c_3, eq_false c_3z, eq_false c_4, eq_false c_4z, if_true, if_false, ite_self], by simp only [fBu, bFl, eq_false c_1, eq_true c_2, eq_false c_2n, eq_false c_3, eq_false c_3z, eq_false c_4, eq_false c_4z, if_true, if_false, ite_self], (upd_self _ _ (by simp only [fFl, bFl, eq_false c_1, eq_true c_2, eq_false c_2n, eq_false c_3, eq_false c_3z, eq_false c_4, eq_false c_4z, if_true, if_false]; exact hfl1.symm)).symm⟩) (hP.sub [1, 2, 3, 0] rfl) (hD.sub [1, 2, 3, 0] (by decide) rfl) hS (Nat.le_of_ble_eq_true rfl) (Nat.le_of_ble_eq_true rfl)
        · skip
          have c_4z := zero_le0 c_4
          refine lv_aload_n hx hb dX4_burn_100 rfl (lv_at hl 1 rfl) ?_
          refine va_get (D := D) (ci := 4) (v := .ref m4) (C := RX4) (T := TX4) (N := 10) hx hb ht inG_X4 hown hK hP 1 rfl rfl 7 (by decide) (ht _ qF_RX4_19) (fun _ h9 => h9) rfl dX4_burn_101 ?_
          refine lv_iload_n hx hb dX4_burn_104 rfl (lv_at hl 2 rfl) ?_
          refine lv_iconst (v := 3) hx hb dX4_burn_105 (by decide) ?_
          refine lv_iadd hx hb dX4_burn_106 ?_
          refine t_i (nI (4 * k + 3)) (nI_add (4 * k) 3) ?_
          refine lv_iconst (v := 0) hx hb dX4_burn_107 (by decide) ?_
          refine sI_ hx hb hK hP hD hS 0 0 rfl rfl (4 * k + 3) (rfl) (by omega) (by decide) (hp4 (upd sh k ((sh k) - (bPart (R (dy % 6)) (sh k)))) (upd co k (mx 0 ((co k) - 2))) (upd bu k ((bu k) + (bPart (R (dy % 6)) (sh k)))) (upd fl k 0)) (hp4_u3 _ _ _ _ _ _) dX4_burn_108 (fun H locs hP hD hS => ?_)
          have hP : va_P D vwCl [(m4, .inl (cI, 16, .inl (hp4 (upd sh k ((sh k) - (bPart (R (dy % 6)) (sh k)))) (upd co k (mx 0 ((co k) - 2))) (upd bu k ((bu k) + (bPart (R (dy % 6)) (sh k)))) (upd fl k 0)))), (m0, .inr (4, [.int th, .int (nI nC), .int (nI nP), .int (nI nK), .ref m1, .ref m2, .ref m3, .ref m4, .ref m5, .ref m6])), (m1, .inl (cI, 7, .inl (st7 (nI dy) z1 z2 z3 z4 z5 z6))), (m2, .inl (cI, 6, .inl R))] _ := hP
          have hD : va_D A [(m4, .inl (cI, 16, .inl (hp4 (upd sh k ((sh k) - (bPart (R (dy % 6)) (sh k)))) (upd co k (mx 0 ((co k) - 2))) (upd bu k ((bu k) + (bPart (R (dy % 6)) (sh k)))) (upd fl k 0)))), (m0, .inr (4, [.int th, .int (nI nC), .int (nI nP), .int (nI nK), .ref m1, .ref m2, .ref m3, .ref m4, .ref m5, .ref m6])), (m1, .inl (cI, 7, .inl (st7 (nI dy) z1 z2 z3 z4 z5 z6))), (m2, .inl (cI, 6, .inl R))] := hD
          exact hend _ _ _ _ _ _ (upd sh k ((sh k) - (bPart (R (dy % 6)) (sh k))), upd co k (mx 0 ((co k) - 2)), upd bu k ((bu k) + (bPart (R (dy % 6)) (sh k))), upd fl k 0) dX4_burn_109 (⟨by simp only [fSh, bFl, eq_false c_1, eq_true c_2, eq_false c_2n, eq_false c_3, eq_false c_3z, eq_true c_4, eq_true c_4z, if_true, if_false, ite_self], by simp only [fCo, bFl, eq_false c_1, eq_true c_2, eq_false c_2n, eq_false c_3, eq_false c_3z, eq_true c_4, eq_true c_4z, if_true, if_false, ite_self], by simp only [fBu, bFl, eq_false c_1, eq_true c_2, eq_false c_2n, eq_false c_3, eq_false c_3z, eq_true c_4, eq_true c_4z, if_true, if_false, ite_self], by simp only [fFl, bFl, eq_false c_1, eq_true c_2, eq_false c_2n, eq_false c_3, eq_false c_3z, eq_true c_4, eq_true c_4z, if_true, if_false, ite_self]⟩) (hP.sub [1, 2, 3, 0] rfl) (hD.sub [1, 2, 3, 0] (by decide) rfl) hS (Nat.le_of_ble_eq_true rfl) (Nat.le_of_ble_eq_true rfl)
    · skip
      have c_2n := Int32.not_le.mp c_2
      refine lv_bipush (v := 8) hx hb dX4_burn_26 (by decide) ?_
      refine lv_goto (tgt := 32) hx hb dX4_burn_28 (by decide) ?_
      refine k_min F qM_RX4_49 hl.1 (Nat.le_of_ble_eq_true rfl) (Nat.le_of_ble_eq_true rfl) (Nat.le_of_ble_eq_true rfl) (Nat.le_of_ble_eq_true rfl) dX4_burn_32 ?_
      refine t_i (bPart (R (dy % 6)) (sh k)) ((mn_comm _ _).trans (by simp only [bPart, bDaily, eq_false c_1, eq_false c_2, eq_true c_2n, if_true, if_false])) ?_
      refine lv_istore_n (lv' := [(2, .int (bPart (R (dy % 6)) (sh k))), (0, .ref m0), (1, .int (nI (4 * k)))]) hx hb dX4_burn_35 rfl hl (by decide) rfl (fun ls hl => ?_)
      refine lv_aload_n hx hb dX4_burn_36 rfl (lv_at hl 1 rfl) ?_
      refine va_get (D := D) (ci := 4) (v := .ref m4) (C := RX4) (T := TX4) (N := 10) hx hb ht inG_X4 hown hK hP 1 rfl rfl 7 (by decide) (ht _ qF_RX4_19) (fun _ h9 => h9) rfl dX4_burn_37 ?_
      refine lv_iload_n hx hb dX4_burn_40 rfl (lv_at hl 2 rfl) ?_
      refine lv_dup2_11 hx hb dX4_burn_41 rfl rfl ?_
      refine aI hx hb hK hP 0 0 rfl rfl (4 * k) (rfl) (by omega) (by decide) (v := sh k) (hp4_0 _ _ _ _ k) dX4_burn_42 ?_
      refine lv_iload_n hx hb dX4_burn_43 rfl (lv_at hl 0 rfl) ?_
      refine lv_isub hx hb dX4_burn_44 ?_
      refine sI_ hx hb hK hP hD hS 0 0 rfl rfl (4 * k) (rfl) (by omega) (by decide) (hp4 (upd sh k ((sh k) - (bPart (R (dy % 6)) (sh k)))) co bu fl) (hp4_u0 _ _ _ _ _ _) dX4_burn_45 (fun H locs hP hD hS => ?_)
      have hP : va_P D vwCl [(m4, .inl (cI, 16, .inl (hp4 (upd sh k ((sh k) - (bPart (R (dy % 6)) (sh k)))) co bu fl))), (m0, .inr (4, [.int th, .int (nI nC), .int (nI nP), .int (nI nK), .ref m1, .ref m2, .ref m3, .ref m4, .ref m5, .ref m6])), (m1, .inl (cI, 7, .inl (st7 (nI dy) z1 z2 z3 z4 z5 z6))), (m2, .inl (cI, 6, .inl R))] _ := hP
      have hD : va_D A [(m4, .inl (cI, 16, .inl (hp4 (upd sh k ((sh k) - (bPart (R (dy % 6)) (sh k)))) co bu fl))), (m0, .inr (4, [.int th, .int (nI nC), .int (nI nP), .int (nI nK), .ref m1, .ref m2, .ref m3, .ref m4, .ref m5, .ref m6])), (m1, .inl (cI, 7, .inl (st7 (nI dy) z1 z2 z3 z4 z5 z6))), (m2, .inl (cI, 6, .inl R))] := hD
      refine lv_aload_n hx hb dX4_burn_46 rfl (lv_at hl 1 rfl) ?_
      refine va_get (D := D) (ci := 4) (v := .ref m4) (C := RX4) (T := TX4) (N := 10) hx hb ht inG_X4 hown hK hP 1 rfl rfl 7 (by decide) (ht _ qF_RX4_19) (fun _ h9 => h9) rfl dX4_burn_47 ?_
      refine lv_iload_n hx hb dX4_burn_50 rfl (lv_at hl 2 rfl) ?_
      refine lv_iconst (v := 1) hx hb dX4_burn_51 (by decide) ?_
      refine lv_iadd hx hb dX4_burn_52 ?_
      refine t_i (nI (4 * k + 1)) (nI_1 (4 * k)) ?_
      refine lv_iconst (v := 0) hx hb dX4_burn_53 (by decide) ?_
      refine lv_aload_n hx hb dX4_burn_54 rfl (lv_at hl 1 rfl) ?_
      refine va_get (D := D) (ci := 4) (v := .ref m4) (C := RX4) (T := TX4) (N := 10) hx hb ht inG_X4 hown hK hP 1 rfl rfl 7 (by decide) (ht _ qF_RX4_19) (fun _ h9 => h9) rfl dX4_burn_55 ?_
      refine lv_iload_n hx hb dX4_burn_58 rfl (lv_at hl 2 rfl) ?_
      refine lv_iconst (v := 1) hx hb dX4_burn_59 (by decide) ?_
      refine lv_iadd hx hb dX4_burn_60 ?_
      refine t_i (nI (4 * k + 1)) (nI_1 (4 * k)) ?_
      refine aI hx hb hK hP 0 0 rfl rfl (4 * k + 1) (rfl) (by omega) (by decide) (v := co k) (hp4_1 _ _ _ _ k) dX4_burn_61 ?_
      refine lv_iconst (v := 2) hx hb dX4_burn_62 (by decide) ?_
      refine lv_isub hx hb dX4_burn_63 ?_
      refine k_max F qM_RX4_94 hl.1 (Nat.le_of_ble_eq_true rfl) (Nat.le_of_ble_eq_true rfl) (Nat.le_of_ble_eq_true rfl) (Nat.le_of_ble_eq_true rfl) dX4_burn_64 ?_
      refine sI_ hx hb hK hP hD hS 0 0 rfl rfl (4 * k + 1) (rfl) (by omega) (by decide) (hp4 (upd sh k ((sh k) - (bPart (R (dy % 6)) (sh k)))) (upd co k (mx 0 ((co k) - 2))) bu fl) (hp4_u1 _ _ _ _ _ _) dX4_burn_67 (fun H locs hP hD hS => ?_)
      have hP : va_P D vwCl [(m4, .inl (cI, 16, .inl (hp4 (upd sh k ((sh k) - (bPart (R (dy % 6)) (sh k)))) (upd co k (mx 0 ((co k) - 2))) bu fl))), (m0, .inr (4, [.int th, .int (nI nC), .int (nI nP), .int (nI nK), .ref m1, .ref m2, .ref m3, .ref m4, .ref m5, .ref m6])), (m1, .inl (cI, 7, .inl (st7 (nI dy) z1 z2 z3 z4 z5 z6))), (m2, .inl (cI, 6, .inl R))] _ := hP
      have hD : va_D A [(m4, .inl (cI, 16, .inl (hp4 (upd sh k ((sh k) - (bPart (R (dy % 6)) (sh k)))) (upd co k (mx 0 ((co k) - 2))) bu fl))), (m0, .inr (4, [.int th, .int (nI nC), .int (nI nP), .int (nI nK), .ref m1, .ref m2, .ref m3, .ref m4, .ref m5, .ref m6])), (m1, .inl (cI, 7, .inl (st7 (nI dy) z1 z2 z3 z4 z5 z6))), (m2, .inl (cI, 6, .inl R))] := hD
      refine lv_aload_n hx hb dX4_burn_68 rfl (lv_at hl 1 rfl) ?_
      refine va_get (D := D) (ci := 4) (v := .ref m4) (C := RX4) (T := TX4) (N := 10) hx hb ht inG_X4 hown hK hP 1 rfl rfl 7 (by decide) (ht _ qF_RX4_19) (fun _ h9 => h9) rfl dX4_burn_69 ?_
      refine lv_iload_n hx hb dX4_burn_72 rfl (lv_at hl 2 rfl) ?_
      refine lv_iconst (v := 2) hx hb dX4_burn_73 (by decide) ?_
      refine lv_iadd hx hb dX4_burn_74 ?_
      refine t_i (nI (4 * k + 2)) (nI_add (4 * k) 2) ?_
      refine lv_dup2_11 hx hb dX4_burn_75 rfl rfl ?_
      refine aI hx hb hK hP 0 0 rfl rfl (4 * k + 2) (rfl) (by omega) (by decide) (v := bu k) (hp4_2 _ _ _ _ k) dX4_burn_76 ?_
      refine lv_iload_n hx hb dX4_burn_77 rfl (lv_at hl 0 rfl) ?_
      refine lv_iadd hx hb dX4_burn_78 ?_
      refine sI_ hx hb hK hP hD hS 0 0 rfl rfl (4 * k + 2) (rfl) (by omega) (by decide) (hp4 (upd sh k ((sh k) - (bPart (R (dy % 6)) (sh k)))) (upd co k (mx 0 ((co k) - 2))) (upd bu k ((bu k) + (bPart (R (dy % 6)) (sh k)))) fl) (hp4_u2 _ _ _ _ _ _) dX4_burn_79 (fun H locs hP hD hS => ?_)
      have hP : va_P D vwCl [(m4, .inl (cI, 16, .inl (hp4 (upd sh k ((sh k) - (bPart (R (dy % 6)) (sh k)))) (upd co k (mx 0 ((co k) - 2))) (upd bu k ((bu k) + (bPart (R (dy % 6)) (sh k)))) fl))), (m0, .inr (4, [.int th, .int (nI nC), .int (nI nP), .int (nI nK), .ref m1, .ref m2, .ref m3, .ref m4, .ref m5, .ref m6])), (m1, .inl (cI, 7, .inl (st7 (nI dy) z1 z2 z3 z4 z5 z6))), (m2, .inl (cI, 6, .inl R))] _ := hP
      have hD : va_D A [(m4, .inl (cI, 16, .inl (hp4 (upd sh k ((sh k) - (bPart (R (dy % 6)) (sh k)))) (upd co k (mx 0 ((co k) - 2))) (upd bu k ((bu k) + (bPart (R (dy % 6)) (sh k)))) fl))), (m0, .inr (4, [.int th, .int (nI nC), .int (nI nP), .int (nI nK), .ref m1, .ref m2, .ref m3, .ref m4, .ref m5, .ref m6])), (m1, .inl (cI, 7, .inl (st7 (nI dy) z1 z2 z3 z4 z5 z6))), (m2, .inl (cI, 6, .inl R))] := hD
      refine lv_aload_n hx hb dX4_burn_80 rfl (lv_at hl 1 rfl) ?_
      refine va_get (D := D) (ci := 4) (v := .ref m4) (C := RX4) (T := TX4) (N := 10) hx hb ht inG_X4 hown hK hP 1 rfl rfl 7 (by decide) (ht _ qF_RX4_19) (fun _ h9 => h9) rfl dX4_burn_81 ?_
      refine lv_iload_n hx hb dX4_burn_84 rfl (lv_at hl 2 rfl) ?_
      refine aI hx hb hK hP 0 0 rfl rfl (4 * k) (rfl) (by omega) (by decide) (v := (sh k) - (bPart (R (dy % 6)) (sh k))) ((hp4_0 _ _ _ _ k).trans pk_us) dX4_burn_85 ?_
      refine lv_if_eq (tgt := 100) hx hb dX4_burn_86 (by decide) (fun c_5 => ?_) (fun c_5 => ?_)
      · skip
        have c_5z := zero_le0 c_5
        refine lv_aload_n hx hb dX4_burn_100 rfl (lv_at hl 1 rfl) ?_
        refine va_get (D := D) (ci := 4) (v := .ref m4) (C := RX4) (T := TX4) (N := 10) hx hb ht inG_X4 hown hK hP 1 rfl rfl 7 (by decide) (ht _ qF_RX4_19) (fun _ h9 => h9) rfl dX4_burn_101 ?_
        refine lv_iload_n hx hb dX4_burn_104 rfl (lv_at hl 2 rfl) ?_
        refine lv_iconst (v := 3) hx hb dX4_burn_105 (by decide) ?_
        refine lv_iadd hx hb dX4_burn_106 ?_
        refine t_i (nI (4 * k + 3)) (nI_add (4 * k) 3) ?_
        refine lv_iconst (v := 0) hx hb dX4_burn_107 (by decide) ?_
        refine sI_ hx hb hK hP hD hS 0 0 rfl rfl (4 * k + 3) (rfl) (by omega) (by decide) (hp4 (upd sh k ((sh k) - (bPart (R (dy % 6)) (sh k)))) (upd co k (mx 0 ((co k) - 2))) (upd bu k ((bu k) + (bPart (R (dy % 6)) (sh k)))) (upd fl k 0)) (hp4_u3 _ _ _ _ _ _) dX4_burn_108 (fun H locs hP hD hS => ?_)
        have hP : va_P D vwCl [(m4, .inl (cI, 16, .inl (hp4 (upd sh k ((sh k) - (bPart (R (dy % 6)) (sh k)))) (upd co k (mx 0 ((co k) - 2))) (upd bu k ((bu k) + (bPart (R (dy % 6)) (sh k)))) (upd fl k 0)))), (m0, .inr (4, [.int th, .int (nI nC), .int (nI nP), .int (nI nK), .ref m1, .ref m2, .ref m3, .ref m4, .ref m5, .ref m6])), (m1, .inl (cI, 7, .inl (st7 (nI dy) z1 z2 z3 z4 z5 z6))), (m2, .inl (cI, 6, .inl R))] _ := hP
        have hD : va_D A [(m4, .inl (cI, 16, .inl (hp4 (upd sh k ((sh k) - (bPart (R (dy % 6)) (sh k)))) (upd co k (mx 0 ((co k) - 2))) (upd bu k ((bu k) + (bPart (R (dy % 6)) (sh k)))) (upd fl k 0)))), (m0, .inr (4, [.int th, .int (nI nC), .int (nI nP), .int (nI nK), .ref m1, .ref m2, .ref m3, .ref m4, .ref m5, .ref m6])), (m1, .inl (cI, 7, .inl (st7 (nI dy) z1 z2 z3 z4 z5 z6))), (m2, .inl (cI, 6, .inl R))] := hD
        exact hend _ _ _ _ _ _ (upd sh k ((sh k) - (bPart (R (dy % 6)) (sh k))), upd co k (mx 0 ((co k) - 2)), upd bu k ((bu k) + (bPart (R (dy % 6)) (sh k))), upd fl k 0) dX4_burn_109 (⟨by simp only [fSh, bFl, eq_false c_1, eq_false c_2, eq_true c_2n, eq_true c_5, eq_true c_5z, if_true, if_false, ite_self], by simp only [fCo, bFl, eq_false c_1, eq_false c_2, eq_true c_2n, eq_true c_5, eq_true c_5z, if_true, if_false, ite_self], by simp only [fBu, bFl, eq_false c_1, eq_false c_2, eq_true c_2n, eq_true c_5, eq_true c_5z, if_true, if_false, ite_self], by simp only [fFl, bFl, eq_false c_1, eq_false c_2, eq_true c_2n, eq_true c_5, eq_true c_5z, if_true, if_false, ite_self]⟩) (hP.sub [1, 2, 3, 0] rfl) (hD.sub [1, 2, 3, 0] (by decide) rfl) hS (Nat.le_of_ble_eq_true rfl) (Nat.le_of_ble_eq_true rfl)
      · skip
        have c_5z := ne_le0 c_5 (part_ge _ hs0)
        refine lv_aload_n hx hb dX4_burn_89 rfl (lv_at hl 1 rfl) ?_
        refine va_get (D := D) (ci := 4) (v := .ref m4) (C := RX4) (T := TX4) (N := 10) hx hb ht inG_X4 hown hK hP 1 rfl rfl 7 (by decide) (ht _ qF_RX4_19) (fun _ h9 => h9) rfl dX4_burn_90 ?_
        refine lv_iload_n hx hb dX4_burn_93 rfl (lv_at hl 2 rfl) ?_
        refine lv_iconst (v := 1) hx hb dX4_burn_94 (by decide) ?_
        refine lv_iadd hx hb dX4_burn_95 ?_
        refine t_i (nI (4 * k + 1)) (nI_1 (4 * k)) ?_
        refine aI hx hb hK hP 0 0 rfl rfl (4 * k + 1) (rfl) (by omega) (by decide) (v := mx 0 ((co k) - 2)) ((hp4_1 _ _ _ _ k).trans pk_us) dX4_burn_96 ?_
        refine lv_if_ne (tgt := 109) hx hb dX4_burn_97 (by decide) (fun c_6 => ?_) (fun c_6 => ?_)
        · skip
          have c_6z := ne_le0 c_6 (mx0_ge _)
          exact hend _ _ _ _ _ _ (upd sh k ((sh k) - (bPart (R (dy % 6)) (sh k))), upd co k (mx 0 ((co k) - 2)), upd bu k ((bu k) + (bPart (R (dy % 6)) (sh k))), fl) dX4_burn_109 (⟨by simp only [fSh, bFl, eq_false c_1, eq_false c_2, eq_true c_2n, eq_false c_5, eq_false c_5z, eq_false c_6, eq_false c_6z, if_true, if_false, ite_self], by simp only [fCo, bFl, eq_false c_1, eq_false c_2, eq_true c_2n, eq_false c_5, eq_false c_5z, eq_false c_6, eq_false c_6z, if_true, if_false, ite_self], by simp only [fBu, bFl, eq_false c_1, eq_false c_2, eq_true c_2n, eq_false c_5, eq_false c_5z, eq_false c_6, eq_false c_6z, if_true, if_false, ite_self], (upd_self _ _ (by simp only [fFl, bFl, eq_false c_1, eq_false c_2, eq_true c_2n, eq_false c_5, eq_false c_5z, eq_false c_6, eq_false c_6z, if_true, if_false]; exact hfl1.symm)).symm⟩) (hP.sub [1, 2, 3, 0] rfl) (hD.sub [1, 2, 3, 0] (by decide) rfl) hS (Nat.le_of_ble_eq_true rfl) (Nat.le_of_ble_eq_true rfl)
        · skip
          have c_6z := zero_le0 c_6
          refine lv_aload_n hx hb dX4_burn_100 rfl (lv_at hl 1 rfl) ?_
          refine va_get (D := D) (ci := 4) (v := .ref m4) (C := RX4) (T := TX4) (N := 10) hx hb ht inG_X4 hown hK hP 1 rfl rfl 7 (by decide) (ht _ qF_RX4_19) (fun _ h9 => h9) rfl dX4_burn_101 ?_
          refine lv_iload_n hx hb dX4_burn_104 rfl (lv_at hl 2 rfl) ?_
          refine lv_iconst (v := 3) hx hb dX4_burn_105 (by decide) ?_
          refine lv_iadd hx hb dX4_burn_106 ?_
          refine t_i (nI (4 * k + 3)) (nI_add (4 * k) 3) ?_
          refine lv_iconst (v := 0) hx hb dX4_burn_107 (by decide) ?_
          refine sI_ hx hb hK hP hD hS 0 0 rfl rfl (4 * k + 3) (rfl) (by omega) (by decide) (hp4 (upd sh k ((sh k) - (bPart (R (dy % 6)) (sh k)))) (upd co k (mx 0 ((co k) - 2))) (upd bu k ((bu k) + (bPart (R (dy % 6)) (sh k)))) (upd fl k 0)) (hp4_u3 _ _ _ _ _ _) dX4_burn_108 (fun H locs hP hD hS => ?_)
          have hP : va_P D vwCl [(m4, .inl (cI, 16, .inl (hp4 (upd sh k ((sh k) - (bPart (R (dy % 6)) (sh k)))) (upd co k (mx 0 ((co k) - 2))) (upd bu k ((bu k) + (bPart (R (dy % 6)) (sh k)))) (upd fl k 0)))), (m0, .inr (4, [.int th, .int (nI nC), .int (nI nP), .int (nI nK), .ref m1, .ref m2, .ref m3, .ref m4, .ref m5, .ref m6])), (m1, .inl (cI, 7, .inl (st7 (nI dy) z1 z2 z3 z4 z5 z6))), (m2, .inl (cI, 6, .inl R))] _ := hP
          have hD : va_D A [(m4, .inl (cI, 16, .inl (hp4 (upd sh k ((sh k) - (bPart (R (dy % 6)) (sh k)))) (upd co k (mx 0 ((co k) - 2))) (upd bu k ((bu k) + (bPart (R (dy % 6)) (sh k)))) (upd fl k 0)))), (m0, .inr (4, [.int th, .int (nI nC), .int (nI nP), .int (nI nK), .ref m1, .ref m2, .ref m3, .ref m4, .ref m5, .ref m6])), (m1, .inl (cI, 7, .inl (st7 (nI dy) z1 z2 z3 z4 z5 z6))), (m2, .inl (cI, 6, .inl R))] := hD
          exact hend _ _ _ _ _ _ (upd sh k ((sh k) - (bPart (R (dy % 6)) (sh k))), upd co k (mx 0 ((co k) - 2)), upd bu k ((bu k) + (bPart (R (dy % 6)) (sh k))), upd fl k 0) dX4_burn_109 (⟨by simp only [fSh, bFl, eq_false c_1, eq_false c_2, eq_true c_2n, eq_false c_5, eq_false c_5z, eq_true c_6, eq_true c_6z, if_true, if_false, ite_self], by simp only [fCo, bFl, eq_false c_1, eq_false c_2, eq_true c_2n, eq_false c_5, eq_false c_5z, eq_true c_6, eq_true c_6z, if_true, if_false, ite_self], by simp only [fBu, bFl, eq_false c_1, eq_false c_2, eq_true c_2n, eq_false c_5, eq_false c_5z, eq_true c_6, eq_true c_6z, if_true, if_false, ite_self], by simp only [fFl, bFl, eq_false c_1, eq_false c_2, eq_true c_2n, eq_false c_5, eq_false c_5z, eq_true c_6, eq_true c_6z, if_true, if_false, ite_self]⟩) (hP.sub [1, 2, 3, 0] rfl) (hD.sub [1, 2, 3, 0] (by decide) rfl) hS (Nat.le_of_ble_eq_true rfl) (Nat.le_of_ble_eq_true rfl)
  · skip
    exact hend _ _ _ _ _ _ (sh, co, bu, fl) dX4_burn_11 (⟨(upd_self _ _ (by simp only [fSh, eq_true c_1, if_true])).symm, (upd_self _ _ (by simp only [fCo, eq_true c_1, if_true])).symm, (upd_self _ _ (by simp only [fBu, eq_true c_1, if_true])).symm, (upd_self _ _ (by simp only [fFl, eq_true c_1, if_true])).symm⟩) hP hD hS (Nat.le_of_ble_eq_true rfl) (Nat.le_of_ble_eq_true rfl)

def rm_X4_cook : Room := { frames := 1, cells := 0, slots := 0, locals := 21 }
set_option maxHeartbeats 4000000 in
set_option maxRecDepth 100000 in
theorem c_X4_cook (l : Launch) (D : va_G) (cI cZ cJ : ClassId) (m0 m1 m2 m3 m4 m5 m6 : Nat) (nC nP nK : Nat) (th : Int32) (coal z0 z2 z3 z4 z5 z6 : Int32) (kw ka kb : Nat → Int32) (k : Nat) (hk : k < 3) : Mv l yX4_cook cX4_cook 2 rm_X4_cook D (TY cI cZ cJ) [.ref m0, .int (nI (3 * k))] [(m0, .inr (4, [.int th, .int (nI nC), .int (nI nP), .int (nI nK), .ref m1, .ref m2, .ref m3, .ref m4, .ref m5, .ref m6])), (m1, .inl (cI, 7, .inl (st7 z0 coal z2 z3 z4 z5 z6))), (m6, .inl (cI, 9, .inl (ke3 kw ka kb)))] (fun (u : Int32 × (Nat → Int32) × (Nat → Int32)) => u.1 = ckC coal (kw k) (kb k) ∧ u.2.1 = upd kw k (ckW coal (kw k) (kb k)) ∧ u.2.2 = upd kb k (ckB coal (kw k) (kb k))) (fun (u : Int32 × (Nat → Int32) × (Nat → Int32)) => [(m0, .inr (4, [.int th, .int (nI nC), .int (nI nP), .int (nI nK), .ref m1, .ref m2, .ref m3, .ref m4, .ref m5, .ref m6])), (m1, .inl (cI, 7, .inl (st7 z0 u.1 z2 z3 z4 z5 z6))), (m6, .inl (cI, 9, .inl (ke3 u.2.1 ka u.2.2)))]) := by
  refine Mv.ofQ (by decide) (Nat.le_of_ble_eq_true rfl) ?_
  intro p e s m args below meth c A ls Q hF hK hP hD hA hl hend hin
  obtain ⟨F, hr, hlocks, hG⟩ := hF
  have hx := F.1
  have hb := F.2.1
  have hown := F.2.2.2.1
  have ht := F.2.2.2.2
  have hS : va_S A s.heap s.heap [] := va_S.rf
  have hl : lv_has ls 2 [(0, .ref m0), (1, .int (nI (3 * k)))] := hl
  refine lv_aload_n hx hb dX4_cook_0 rfl (lv_at hl 0 rfl) ?_
  refine va_get (D := D) (ci := 4) (v := .ref m6) (C := RX4) (T := TX4) (N := 10) hx hb ht inG_X4 hown hK hP 0 rfl rfl 9 (by decide) (ht _ qF_RX4_25) (fun _ h9 => h9) rfl dX4_cook_1 ?_
  refine lv_iload_n hx hb dX4_cook_4 rfl (lv_at hl 1 rfl) ?_
  refine lv_iconst (v := 2) hx hb dX4_cook_5 (by decide) ?_
  refine lv_iadd hx hb dX4_cook_6 ?_
  refine t_i (nI (3 * k + 2)) (nI_add (3 * k) 2) ?_
  refine aI hx hb hK hP 2 0 rfl rfl (3 * k + 2) (rfl) (by omega) (by decide) (v := kb k) (ke3_2 _ _ _ k) dX4_cook_7 ?_
  refine lv_if_ne (tgt := 12) hx hb dX4_cook_8 (by decide) (fun c_1 => ?_) (fun c_1 => ?_)
  · skip
    refine lv_aload_n hx hb dX4_cook_12 rfl (lv_at hl 0 rfl) ?_
    refine va_get (D := D) (ci := 4) (v := .ref m1) (C := RX4) (T := TX4) (N := 10) hx hb ht inG_X4 hown hK hP 0 rfl rfl 4 (by decide) (ht _ qF_RX4_7) (fun _ h9 => h9) rfl dX4_cook_13 ?_
    refine lv_iconst (v := 1) hx hb dX4_cook_16 (by decide) ?_
    refine aI hx hb hK hP 1 0 rfl rfl 1 (rfl) (by decide) (by decide) (v := coal) (rfl) dX4_cook_17 ?_
    refine lv_iconst (v := 4) hx hb dX4_cook_18 (by decide) ?_
    refine lv_icmp_lt (tgt := 31) hx hb dX4_cook_19 (by decide) (fun c_2 => ?_) (fun c_2 => ?_)
    · skip
      have c_2n := Int32.not_le.mpr c_2
      refine lv_aload_n hx hb dX4_cook_31 rfl (lv_at hl 0 rfl) ?_
      refine va_get (D := D) (ci := 4) (v := .ref m6) (C := RX4) (T := TX4) (N := 10) hx hb ht inG_X4 hown hK hP 0 rfl rfl 9 (by decide) (ht _ qF_RX4_25) (fun _ h9 => h9) rfl dX4_cook_32 ?_
      refine lv_iload_n hx hb dX4_cook_35 rfl (lv_at hl 1 rfl) ?_
      refine lv_iconst (v := 2) hx hb dX4_cook_36 (by decide) ?_
      refine lv_iadd hx hb dX4_cook_37 ?_
      refine t_i (nI (3 * k + 2)) (nI_add (3 * k) 2) ?_
      refine lv_iconst (v := 0) hx hb dX4_cook_38 (by decide) ?_
      refine sI_ hx hb hK hP hD hS 2 0 rfl rfl (3 * k + 2) (rfl) (by omega) (by decide) (ke3 kw ka (upd kb k 0)) (ke3_u2 _ _ _ _ _) dX4_cook_39 (fun H locs hP hD hS => ?_)
      have hP : va_P D vwCl [(m0, .inr (4, [.int th, .int (nI nC), .int (nI nP), .int (nI nK), .ref m1, .ref m2, .ref m3, .ref m4, .ref m5, .ref m6])), (m1, .inl (cI, 7, .inl (st7 z0 coal z2 z3 z4 z5 z6))), (m6, .inl (cI, 9, .inl (ke3 kw ka (upd kb k 0))))] _ := hP
      have hD : va_D A [(m0, .inr (4, [.int th, .int (nI nC), .int (nI nP), .int (nI nK), .ref m1, .ref m2, .ref m3, .ref m4, .ref m5, .ref m6])), (m1, .inl (cI, 7, .inl (st7 z0 coal z2 z3 z4 z5 z6))), (m6, .inl (cI, 9, .inl (ke3 kw ka (upd kb k 0))))] := hD
      exact hend _ _ _ _ _ _ (coal, kw, upd kb k 0) dX4_cook_40 (⟨by simp only [ckC, eq_false c_1, eq_true c_2, eq_false c_2n, if_true, if_false], (upd_self _ _ (by simp only [ckW, eq_false c_1, eq_true c_2, eq_false c_2n, if_true, if_false])).symm, by simp only [ckB, eq_false c_1, eq_true c_2, eq_false c_2n, if_true, if_false]⟩) hP hD hS (Nat.le_of_ble_eq_true rfl) (Nat.le_of_ble_eq_true rfl)
    · skip
      have c_2n := Int32.not_lt.mp c_2
      refine lv_aload_n hx hb dX4_cook_22 rfl (lv_at hl 0 rfl) ?_
      refine va_get (D := D) (ci := 4) (v := .ref m6) (C := RX4) (T := TX4) (N := 10) hx hb ht inG_X4 hown hK hP 0 rfl rfl 9 (by decide) (ht _ qF_RX4_25) (fun _ h9 => h9) rfl dX4_cook_23 ?_
      refine lv_iload_n hx hb dX4_cook_26 rfl (lv_at hl 1 rfl) ?_
      refine aI hx hb hK hP 2 0 rfl rfl (3 * k) (rfl) (by omega) (by decide) (v := kw k) (ke3_0 _ _ _ k) dX4_cook_27 ?_
      refine lv_if_ne (tgt := 41) hx hb dX4_cook_28 (by decide) (fun c_3 => ?_) (fun c_3 => ?_)
      · skip
        refine lv_aload_n hx hb dX4_cook_41 rfl (lv_at hl 0 rfl) ?_
        refine va_get (D := D) (ci := 4) (v := .ref m1) (C := RX4) (T := TX4) (N := 10) hx hb ht inG_X4 hown hK hP 0 rfl rfl 4 (by decide) (ht _ qF_RX4_7) (fun _ h9 => h9) rfl dX4_cook_42 ?_
        refine lv_iconst (v := 1) hx hb dX4_cook_45 (by decide) ?_
        refine lv_dup2_11 hx hb dX4_cook_46 rfl rfl ?_
        refine aI hx hb hK hP 1 0 rfl rfl 1 (rfl) (by decide) (by decide) (v := coal) (rfl) dX4_cook_47 ?_
        refine lv_iconst (v := 4) hx hb dX4_cook_48 (by decide) ?_
        refine lv_isub hx hb dX4_cook_49 ?_
        refine sI_ hx hb hK hP hD hS 1 0 rfl rfl 1 (rfl) (by decide) (by decide) (st7 z0 (coal - 4) z2 z3 z4 z5 z6) (st7_u1 _ _ _ _ _ _ _ _) dX4_cook_50 (fun H locs hP hD hS => ?_)
        have hP : va_P D vwCl [(m0, .inr (4, [.int th, .int (nI nC), .int (nI nP), .int (nI nK), .ref m1, .ref m2, .ref m3, .ref m4, .ref m5, .ref m6])), (m1, .inl (cI, 7, .inl (st7 z0 (coal - 4) z2 z3 z4 z5 z6))), (m6, .inl (cI, 9, .inl (ke3 kw ka kb)))] _ := hP
        have hD : va_D A [(m0, .inr (4, [.int th, .int (nI nC), .int (nI nP), .int (nI nK), .ref m1, .ref m2, .ref m3, .ref m4, .ref m5, .ref m6])), (m1, .inl (cI, 7, .inl (st7 z0 (coal - 4) z2 z3 z4 z5 z6))), (m6, .inl (cI, 9, .inl (ke3 kw ka kb)))] := hD
        refine lv_aload_n hx hb dX4_cook_51 rfl (lv_at hl 0 rfl) ?_
        refine va_get (D := D) (ci := 4) (v := .ref m6) (C := RX4) (T := TX4) (N := 10) hx hb ht inG_X4 hown hK hP 0 rfl rfl 9 (by decide) (ht _ qF_RX4_25) (fun _ h9 => h9) rfl dX4_cook_52 ?_
        refine lv_iload_n hx hb dX4_cook_55 rfl (lv_at hl 1 rfl) ?_
        refine lv_iconst (v := 0) hx hb dX4_cook_56 (by decide) ?_
        refine lv_aload_n hx hb dX4_cook_57 rfl (lv_at hl 0 rfl) ?_
        refine va_get (D := D) (ci := 4) (v := .ref m6) (C := RX4) (T := TX4) (N := 10) hx hb ht inG_X4 hown hK hP 0 rfl rfl 9 (by decide) (ht _ qF_RX4_25) (fun _ h9 => h9) rfl dX4_cook_58 ?_
        refine lv_iload_n hx hb dX4_cook_61 rfl (lv_at hl 1 rfl) ?_
        refine aI hx hb hK hP 2 0 rfl rfl (3 * k) (rfl) (by omega) (by decide) (v := kw k) (ke3_0 _ _ _ k) dX4_cook_62 ?_
        refine lv_bipush (v := 12) hx hb dX4_cook_63 (by decide) ?_
        refine lv_isub hx hb dX4_cook_65 ?_
        refine k_max F qM_RX4_94 hl.1 (Nat.le_of_ble_eq_true rfl) (Nat.le_of_ble_eq_true rfl) (Nat.le_of_ble_eq_true rfl) (Nat.le_of_ble_eq_true rfl) dX4_cook_66 ?_
        refine sI_ hx hb hK hP hD hS 2 0 rfl rfl (3 * k) (rfl) (by omega) (by decide) (ke3 (upd kw k (mx 0 ((kw k) - 12))) ka kb) (ke3_u0 _ _ _ _ _) dX4_cook_69 (fun H locs hP hD hS => ?_)
        have hP : va_P D vwCl [(m0, .inr (4, [.int th, .int (nI nC), .int (nI nP), .int (nI nK), .ref m1, .ref m2, .ref m3, .ref m4, .ref m5, .ref m6])), (m1, .inl (cI, 7, .inl (st7 z0 (coal - 4) z2 z3 z4 z5 z6))), (m6, .inl (cI, 9, .inl (ke3 (upd kw k (mx 0 ((kw k) - 12))) ka kb)))] _ := hP
        have hD : va_D A [(m0, .inr (4, [.int th, .int (nI nC), .int (nI nP), .int (nI nK), .ref m1, .ref m2, .ref m3, .ref m4, .ref m5, .ref m6])), (m1, .inl (cI, 7, .inl (st7 z0 (coal - 4) z2 z3 z4 z5 z6))), (m6, .inl (cI, 9, .inl (ke3 (upd kw k (mx 0 ((kw k) - 12))) ka kb)))] := hD
        exact hend _ _ _ _ _ _ (coal - 4, upd kw k (mx 0 ((kw k) - 12)), kb) dX4_cook_70 (⟨by simp only [ckC, eq_false c_1, eq_false c_2, eq_true c_2n, eq_false c_3, if_true, if_false], by simp only [ckW, eq_false c_1, eq_false c_2, eq_true c_2n, eq_false c_3, if_true, if_false], (upd_self _ _ (by simp only [ckB, eq_false c_1, eq_false c_2, eq_true c_2n, eq_false c_3, if_true, if_false])).symm⟩) hP hD hS (Nat.le_of_ble_eq_true rfl) (Nat.le_of_ble_eq_true rfl)
      · skip
        refine lv_aload_n hx hb dX4_cook_31 rfl (lv_at hl 0 rfl) ?_
        refine va_get (D := D) (ci := 4) (v := .ref m6) (C := RX4) (T := TX4) (N := 10) hx hb ht inG_X4 hown hK hP 0 rfl rfl 9 (by decide) (ht _ qF_RX4_25) (fun _ h9 => h9) rfl dX4_cook_32 ?_
        refine lv_iload_n hx hb dX4_cook_35 rfl (lv_at hl 1 rfl) ?_
        refine lv_iconst (v := 2) hx hb dX4_cook_36 (by decide) ?_
        refine lv_iadd hx hb dX4_cook_37 ?_
        refine t_i (nI (3 * k + 2)) (nI_add (3 * k) 2) ?_
        refine lv_iconst (v := 0) hx hb dX4_cook_38 (by decide) ?_
        refine sI_ hx hb hK hP hD hS 2 0 rfl rfl (3 * k + 2) (rfl) (by omega) (by decide) (ke3 kw ka (upd kb k 0)) (ke3_u2 _ _ _ _ _) dX4_cook_39 (fun H locs hP hD hS => ?_)
        have hP : va_P D vwCl [(m0, .inr (4, [.int th, .int (nI nC), .int (nI nP), .int (nI nK), .ref m1, .ref m2, .ref m3, .ref m4, .ref m5, .ref m6])), (m1, .inl (cI, 7, .inl (st7 z0 coal z2 z3 z4 z5 z6))), (m6, .inl (cI, 9, .inl (ke3 kw ka (upd kb k 0))))] _ := hP
        have hD : va_D A [(m0, .inr (4, [.int th, .int (nI nC), .int (nI nP), .int (nI nK), .ref m1, .ref m2, .ref m3, .ref m4, .ref m5, .ref m6])), (m1, .inl (cI, 7, .inl (st7 z0 coal z2 z3 z4 z5 z6))), (m6, .inl (cI, 9, .inl (ke3 kw ka (upd kb k 0))))] := hD
        exact hend _ _ _ _ _ _ (coal, kw, upd kb k 0) dX4_cook_40 (⟨by simp only [ckC, eq_false c_1, eq_false c_2, eq_true c_2n, eq_true c_3, if_true, if_false], (upd_self _ _ (by simp only [ckW, eq_false c_1, eq_false c_2, eq_true c_2n, eq_true c_3, if_true, if_false])).symm, by simp only [ckB, eq_false c_1, eq_false c_2, eq_true c_2n, eq_true c_3, if_true, if_false]⟩) hP hD hS (Nat.le_of_ble_eq_true rfl) (Nat.le_of_ble_eq_true rfl)
  · skip
    exact hend _ _ _ _ _ _ (coal, kw, kb) dX4_cook_11 (⟨by simp only [ckC, eq_true c_1, if_true, if_false], (upd_self _ _ (by simp only [ckW, eq_true c_1, if_true, if_false])).symm, (upd_self _ _ (by simp only [ckB, eq_true c_1, if_true, if_false])).symm⟩) hP hD hS (Nat.le_of_ble_eq_true rfl) (Nat.le_of_ble_eq_true rfl)

def rm_X4_dayOn : Room := { frames := 2, cells := 0, slots := 0, locals := 43 }
set_option maxHeartbeats 4000000 in
set_option maxRecDepth 100000 in
theorem c_X4_dayOn (l : Launch) (D : va_G) (cI cZ cJ : ClassId) (m0 m1 m2 m3 m4 m5 m6 : Nat) (th : Int32) (v : VT) (hC4 : vnC v ≤ 4) (hP4 : vnP v ≤ 4) (hK3 : vnK v ≤ 3) (hf1 : ∀ j, vfl v j = 0 ∨ vfl v j = 1) (hN : NN v) (hd : vday v < 2147483647) : Mv l yX4_dayOn cX4_dayOn 4 rm_X4_dayOn D (TY cI cZ cJ) [.ref m0] [(m0, .inr (4, [.int th, .int (nI (vnC v)), .int (nI (vnP v)), .int (nI (vnK v)), .ref m1, .ref m2, .ref m3, .ref m4, .ref m5, .ref m6])), (m1, .inl (cI, 7, .inl (st7 (nI (vday v)) (vcoal v) (vbar v) (vfine v) (vcrs v) (vcoin v) (vship v)))), (m2, .inl (cI, 6, .inl (vR v))), (m3, .inl (cI, 7, .inl (vS v))), (m4, .inl (cI, 16, .inl (hp4 (vsh v) (vco v) (vbu v) (vfl v)))), (m5, .inl (cI, 8, .inl (ho2 (vpw v) (vpa v)))), (m6, .inl (cI, 9, .inl (ke3 (vkw v) (vka v) (vkb v))))] (fun (u : VT) => u = dayV v) (fun (u : VT) => [(m0, .inr (4, [.int th, .int (nI (vnC u)), .int (nI (vnP u)), .int (nI (vnK u)), .ref m1, .ref m2, .ref m3, .ref m4, .ref m5, .ref m6])), (m1, .inl (cI, 7, .inl (st7 (nI (vday u)) (vcoal u) (vbar u) (vfine u) (vcrs u) (vcoin u) (vship u)))), (m2, .inl (cI, 6, .inl (vR u))), (m3, .inl (cI, 7, .inl (vS u))), (m4, .inl (cI, 16, .inl (hp4 (vsh u) (vco u) (vbu u) (vfl u)))), (m5, .inl (cI, 8, .inl (ho2 (vpw u) (vpa u)))), (m6, .inl (cI, 9, .inl (ke3 (vkw u) (vka u) (vkb u))))]) := by
  refine Mv.ofQ (by decide) (Nat.le_of_ble_eq_true rfl) ?_
  intro p e s m args below meth c A ls Q hF hK hP hD hA hl hend hin
  obtain ⟨F, hr, hlocks, hG⟩ := hF
  have hx := F.1
  have hb := F.2.1
  have hown := F.2.2.2.1
  have ht := F.2.2.2.2
  have hS : va_S A s.heap s.heap [] := va_S.rf
  have hl : lv_has ls 4 [(0, .ref m0)] := hl
  refine lv_iconst (v := 0) hx hb dX4_dayOn_0 (by decide) ?_
  refine lv_istore_n (lv' := [(1, .int 0), (0, .ref m0)]) hx hb dX4_dayOn_1 rfl hl (by decide) rfl (fun ls hl => ?_)
  have loop2 : ∀ (kf2 i1 : Nat), i1 ≤ (vnC v) → (vnC v) < i1 + kf2 → ∀ (sh1 : Nat → Int32) (co1 : Nat → Int32) (bu1 : Nat → Int32) (fl1 : Nat → Int32), sh1 = rowF i1 (fSh (vR v (vday v % 6)) (vsh v) (vfl v)) (vsh v) → co1 = rowF i1 (fCo (vco v) (vfl v)) (vco v) → bu1 = rowF i1 (fBu (vR v (vday v % 6)) (vsh v) (vbu v) (vfl v)) (vbu v) → fl1 = rowF i1 (fFl (vR v (vday v % 6)) (vsh v) (vco v) (vfl v)) (vfl v) → ∀ (H : Heap) (locs : List Loc), va_P D vwCl [(m0, .inr (4, [.int th, .int (nI (vnC v)), .int (nI (vnP v)), .int (nI (vnK v)), .ref m1, .ref m2, .ref m3, .ref m4, .ref m5, .ref m6])), (m1, .inl (cI, 7, .inl (st7 (nI (vday v)) (vcoal v) (vbar v) (vfine v) (vcrs v) (vcoin v) (vship v)))), (m2, .inl (cI, 6, .inl (vR v))), (m3, .inl (cI, 7, .inl (vS v))), (m4, .inl (cI, 16, .inl (hp4 sh1 co1 bu1 fl1))), (m5, .inl (cI, 8, .inl (ho2 (vpw v) (vpa v)))), (m6, .inl (cI, 9, .inl (ke3 (vkw v) (vka v) (vkb v))))] H → va_D A [(m0, .inr (4, [.int th, .int (nI (vnC v)), .int (nI (vnP v)), .int (nI (vnK v)), .ref m1, .ref m2, .ref m3, .ref m4, .ref m5, .ref m6])), (m1, .inl (cI, 7, .inl (st7 (nI (vday v)) (vcoal v) (vbar v) (vfine v) (vcrs v) (vcoin v) (vship v)))), (m2, .inl (cI, 6, .inl (vR v))), (m3, .inl (cI, 7, .inl (vS v))), (m4, .inl (cI, 16, .inl (hp4 sh1 co1 bu1 fl1))), (m5, .inl (cI, 8, .inl (ho2 (vpw v) (vpa v)))), (m6, .inl (cI, 9, .inl (ke3 (vkw v) (vka v) (vkb v))))] → va_S A s.heap H locs → ∀ (ls : Array Slot), lv_has ls 4 [(0, .ref m0), (1, .int (nI i1))] → W p l e rm_X4_dayOn s m args below meth c H locs 0 0 Q (F0 m 2 ls []) := by
    intro kf2
    induction kf2 with
    | zero =>
      intro i1 hle2 hlt2
      exact absurd hlt2 (by omega)
    | succ kf2 ih2 =>
      intro i1 hle2 hlt2 sh1 co1 bu1 fl1 e_sh1 e_co1 e_bu1 e_fl1 H locs hP hD hS ls hl
      refine lv_iload_n hx hb dX4_dayOn_2 rfl (lv_at hl 1 rfl) ?_
      refine lv_aload_n hx hb dX4_dayOn_3 rfl (lv_at hl 0 rfl) ?_
      refine va_get (D := D) (ci := 4) (v := .int (nI (vnC v))) (C := RX4) (T := TX4) (N := 10) hx hb ht inG_X4 hown hK hP 0 rfl rfl 1 (by decide) (ht _ qF_RX4_32) (fun _ h9 => h9) rfl dX4_dayOn_4 ?_
      refine lv_icmp_ge (tgt := 23) hx hb dX4_dayOn_7 (by decide) (fun c_1 => ?_) (fun c_1 => ?_)
      · skip
        have c_1n := Int32.not_lt.mpr c_1
        have c_1m := (nI_leI (a := vnC v) (b := i1) (by omega) (by omega)).mp c_1
        refine lv_iconst (v := 0) hx hb dX4_dayOn_23 (by decide) ?_
        refine lv_istore_n (lv' := [(1, .int 0), (0, .ref m0)]) hx hb dX4_dayOn_24 rfl hl (by decide) rfl (fun ls hl => ?_)
        have loop25 : ∀ (kf25 i2 : Nat), i2 ≤ (vnP v) → (vnP v) < i2 + kf25 → ∀ (pw1 : Nat → Int32), pw1 = rowF i2 (fun j => wth (vR v (vday v % 6)) (vpw v j)) (vpw v) → ∀ (H : Heap) (locs : List Loc), va_P D vwCl [(m0, .inr (4, [.int th, .int (nI (vnC v)), .int (nI (vnP v)), .int (nI (vnK v)), .ref m1, .ref m2, .ref m3, .ref m4, .ref m5, .ref m6])), (m1, .inl (cI, 7, .inl (st7 (nI (vday v)) (vcoal v) (vbar v) (vfine v) (vcrs v) (vcoin v) (vship v)))), (m2, .inl (cI, 6, .inl (vR v))), (m3, .inl (cI, 7, .inl (vS v))), (m4, .inl (cI, 16, .inl (hp4 sh1 co1 bu1 fl1))), (m5, .inl (cI, 8, .inl (ho2 pw1 (vpa v)))), (m6, .inl (cI, 9, .inl (ke3 (vkw v) (vka v) (vkb v))))] H → va_D A [(m0, .inr (4, [.int th, .int (nI (vnC v)), .int (nI (vnP v)), .int (nI (vnK v)), .ref m1, .ref m2, .ref m3, .ref m4, .ref m5, .ref m6])), (m1, .inl (cI, 7, .inl (st7 (nI (vday v)) (vcoal v) (vbar v) (vfine v) (vcrs v) (vcoin v) (vship v)))), (m2, .inl (cI, 6, .inl (vR v))), (m3, .inl (cI, 7, .inl (vS v))), (m4, .inl (cI, 16, .inl (hp4 sh1 co1 bu1 fl1))), (m5, .inl (cI, 8, .inl (ho2 pw1 (vpa v)))), (m6, .inl (cI, 9, .inl (ke3 (vkw v) (vka v) (vkb v))))] → va_S A s.heap H locs → ∀ (ls : Array Slot), lv_has ls 4 [(0, .ref m0), (1, .int (nI i2))] → W p l e rm_X4_dayOn s m args below meth c H locs 0 0 Q (F0 m 25 ls []) := by
          intro kf25
          induction kf25 with
          | zero =>
            intro i2 hle25 hlt25
            exact absurd hlt25 (by omega)
          | succ kf25 ih25 =>
            intro i2 hle25 hlt25 pw1 e_pw1 H locs hP hD hS ls hl
            refine lv_iload_n hx hb dX4_dayOn_25 rfl (lv_at hl 1 rfl) ?_
            refine lv_aload_n hx hb dX4_dayOn_26 rfl (lv_at hl 0 rfl) ?_
            refine va_get (D := D) (ci := 4) (v := .int (nI (vnP v))) (C := RX4) (T := TX4) (N := 10) hx hb ht inG_X4 hown hK hP 0 rfl rfl 2 (by decide) (ht _ qF_RX4_39) (fun _ h9 => h9) rfl dX4_dayOn_27 ?_
            refine lv_icmp_ge (tgt := 94) hx hb dX4_dayOn_30 (by decide) (fun c_2 => ?_) (fun c_2 => ?_)
            · skip
              have c_2n := Int32.not_lt.mpr c_2
              have c_2m := (nI_leI (a := vnP v) (b := i2) (by omega) (by omega)).mp c_2
              refine lv_iconst (v := 0) hx hb dX4_dayOn_94 (by decide) ?_
              refine lv_istore_n (lv' := [(1, .int 0), (0, .ref m0)]) hx hb dX4_dayOn_95 rfl hl (by decide) rfl (fun ls hl => ?_)
              have loop96 : ∀ (kf96 i3 : Nat), i3 ≤ (vnK v) → (vnK v) < i3 + kf96 → ∀ (coal1 : Int32) (kw1 : Nat → Int32) (kb1 : Nat → Int32), coal1 = cN (vkw v) (vkb v) (vcoal v) i3 → kw1 = rowF i3 (fKw (vkw v) (vkb v) (cN (vkw v) (vkb v) (vcoal v))) (vkw v) → kb1 = rowF i3 (fKb (vkw v) (vkb v) (cN (vkw v) (vkb v) (vcoal v))) (vkb v) → ∀ (H : Heap) (locs : List Loc), va_P D vwCl [(m0, .inr (4, [.int th, .int (nI (vnC v)), .int (nI (vnP v)), .int (nI (vnK v)), .ref m1, .ref m2, .ref m3, .ref m4, .ref m5, .ref m6])), (m1, .inl (cI, 7, .inl (st7 (nI (vday v)) coal1 (vbar v) (vfine v) (vcrs v) (vcoin v) (vship v)))), (m2, .inl (cI, 6, .inl (vR v))), (m3, .inl (cI, 7, .inl (vS v))), (m4, .inl (cI, 16, .inl (hp4 sh1 co1 bu1 fl1))), (m5, .inl (cI, 8, .inl (ho2 pw1 (vpa v)))), (m6, .inl (cI, 9, .inl (ke3 kw1 (vka v) kb1)))] H → va_D A [(m0, .inr (4, [.int th, .int (nI (vnC v)), .int (nI (vnP v)), .int (nI (vnK v)), .ref m1, .ref m2, .ref m3, .ref m4, .ref m5, .ref m6])), (m1, .inl (cI, 7, .inl (st7 (nI (vday v)) coal1 (vbar v) (vfine v) (vcrs v) (vcoin v) (vship v)))), (m2, .inl (cI, 6, .inl (vR v))), (m3, .inl (cI, 7, .inl (vS v))), (m4, .inl (cI, 16, .inl (hp4 sh1 co1 bu1 fl1))), (m5, .inl (cI, 8, .inl (ho2 pw1 (vpa v)))), (m6, .inl (cI, 9, .inl (ke3 kw1 (vka v) kb1)))] → va_S A s.heap H locs → ∀ (ls : Array Slot), lv_has ls 4 [(0, .ref m0), (1, .int (nI i3))] → W p l e rm_X4_dayOn s m args below meth c H locs 0 0 Q (F0 m 96 ls []) := by
                intro kf96
                induction kf96 with
                | zero =>
                  intro i3 hle96 hlt96
                  exact absurd hlt96 (by omega)
                | succ kf96 ih96 =>
                  intro i3 hle96 hlt96 coal1 kw1 kb1 e_coal1 e_kw1 e_kb1 H locs hP hD hS ls hl
                  refine lv_iload_n hx hb dX4_dayOn_96 rfl (lv_at hl 1 rfl) ?_
                  refine lv_aload_n hx hb dX4_dayOn_97 rfl (lv_at hl 0 rfl) ?_
                  refine va_get (D := D) (ci := 4) (v := .int (nI (vnK v))) (C := RX4) (T := TX4) (N := 10) hx hb ht inG_X4 hown hK hP 0 rfl rfl 3 (by decide) (ht _ qF_RX4_42) (fun _ h9 => h9) rfl dX4_dayOn_98 ?_
                  refine lv_icmp_ge (tgt := 117) hx hb dX4_dayOn_101 (by decide) (fun c_3 => ?_) (fun c_3 => ?_)
                  · skip
                    have c_3n := Int32.not_lt.mpr c_3
                    have c_3m := (nI_leI (a := vnK v) (b := i3) (by omega) (by omega)).mp c_3
                    refine lv_aload_n hx hb dX4_dayOn_117 rfl (lv_at hl 0 rfl) ?_
                    refine va_get (D := D) (ci := 4) (v := .ref m3) (C := RX4) (T := TX4) (N := 10) hx hb ht inG_X4 hown hK hP 0 rfl rfl 6 (by decide) (ht _ qF_RX4_16) (fun _ h9 => h9) rfl dX4_dayOn_118 ?_
                    refine lv_aload_n hx hb dX4_dayOn_121 rfl (lv_at hl 0 rfl) ?_
                    refine va_get (D := D) (ci := 4) (v := .ref m1) (C := RX4) (T := TX4) (N := 10) hx hb ht inG_X4 hown hK hP 0 rfl rfl 4 (by decide) (ht _ qF_RX4_7) (fun _ h9 => h9) rfl dX4_dayOn_122 ?_
                    refine lv_iconst (v := 0) hx hb dX4_dayOn_125 (by decide) ?_
                    refine aI hx hb hK hP 1 0 rfl rfl 0 (rfl) (by decide) (by decide) (v := nI (vday v)) (rfl) dX4_dayOn_126 ?_
                    refine lv_bipush (v := 7) hx hb dX4_dayOn_127 (by decide) ?_
                    refine lv_irem hx hb dX4_dayOn_129 (by decide) ?_
                    refine t_i (nI (vday v % 7)) (pk_rem (by omega) (by decide) (by decide)) ?_
                    refine aI hx hb hK hP 3 0 rfl rfl (vday v % 7) (rfl) (by omega) (by decide) (v := (vS v) (vday v % 7)) (rfl) dX4_dayOn_130 ?_
                    refine lv_istore_n (lv' := [(1, .int ((vS v) (vday v % 7))), (0, .ref m0)]) hx hb dX4_dayOn_131 rfl hl (by decide) rfl (fun ls hl => ?_)
                    refine lv_iload_n hx hb dX4_dayOn_132 rfl (lv_at hl 0 rfl) ?_
                    refine lv_aload_n hx hb dX4_dayOn_133 rfl (lv_at hl 1 rfl) ?_
                    refine va_get (D := D) (ci := 4) (v := .ref m1) (C := RX4) (T := TX4) (N := 10) hx hb ht inG_X4 hown hK hP 0 rfl rfl 4 (by decide) (ht _ qF_RX4_7) (fun _ h9 => h9) rfl dX4_dayOn_134 ?_
                    refine lv_iconst (v := 3) hx hb dX4_dayOn_137 (by decide) ?_
                    refine aI hx hb hK hP 1 0 rfl rfl 3 (rfl) (by decide) (by decide) (v := vfine v) (rfl) dX4_dayOn_138 ?_
                    refine k_min F qM_RX4_49 hl.1 (Nat.le_of_ble_eq_true rfl) (Nat.le_of_ble_eq_true rfl) (Nat.le_of_ble_eq_true rfl) (Nat.le_of_ble_eq_true rfl) dX4_dayOn_139 ?_
                    refine lv_istore_n (lv' := [(2, .int (mn ((vS v) (vday v % 7)) (vfine v))), (1, .int ((vS v) (vday v % 7))), (0, .ref m0)]) hx hb dX4_dayOn_142 rfl hl (by decide) rfl (fun ls hl => ?_)
                    refine lv_iload_n hx hb dX4_dayOn_143 rfl (lv_at hl 1 rfl) ?_
                    refine lv_iload_n hx hb dX4_dayOn_144 rfl (lv_at hl 0 rfl) ?_
                    refine lv_isub hx hb dX4_dayOn_145 ?_
                    refine lv_aload_n hx hb dX4_dayOn_146 rfl (lv_at hl 2 rfl) ?_
                    refine va_get (D := D) (ci := 4) (v := .ref m1) (C := RX4) (T := TX4) (N := 10) hx hb ht inG_X4 hown hK hP 0 rfl rfl 4 (by decide) (ht _ qF_RX4_7) (fun _ h9 => h9) rfl dX4_dayOn_147 ?_
                    refine lv_iconst (v := 4) hx hb dX4_dayOn_150 (by decide) ?_
                    refine aI hx hb hK hP 1 0 rfl rfl 4 (rfl) (by decide) (by decide) (v := vcrs v) (rfl) dX4_dayOn_151 ?_
                    refine k_min F qM_RX4_49 hl.1 (Nat.le_of_ble_eq_true rfl) (Nat.le_of_ble_eq_true rfl) (Nat.le_of_ble_eq_true rfl) (Nat.le_of_ble_eq_true rfl) dX4_dayOn_152 ?_
                    refine lv_istore_n (lv' := [(3, .int (mn (((vS v) (vday v % 7)) - (mn ((vS v) (vday v % 7)) (vfine v))) (vcrs v))), (2, .int (mn ((vS v) (vday v % 7)) (vfine v))), (1, .int ((vS v) (vday v % 7))), (0, .ref m0)]) hx hb dX4_dayOn_155 rfl hl (by decide) rfl (fun ls hl => ?_)
                    refine lv_aload_n hx hb dX4_dayOn_156 rfl (lv_at hl 3 rfl) ?_
                    refine va_get (D := D) (ci := 4) (v := .ref m1) (C := RX4) (T := TX4) (N := 10) hx hb ht inG_X4 hown hK hP 0 rfl rfl 4 (by decide) (ht _ qF_RX4_7) (fun _ h9 => h9) rfl dX4_dayOn_157 ?_
                    refine lv_iconst (v := 3) hx hb dX4_dayOn_160 (by decide) ?_
                    refine lv_dup2_11 hx hb dX4_dayOn_161 rfl rfl ?_
                    refine aI hx hb hK hP 1 0 rfl rfl 3 (rfl) (by decide) (by decide) (v := vfine v) (rfl) dX4_dayOn_162 ?_
                    refine lv_iload_n hx hb dX4_dayOn_163 rfl (lv_at hl 1 rfl) ?_
                    refine lv_isub hx hb dX4_dayOn_164 ?_
                    refine sI_ hx hb hK hP hD hS 1 0 rfl rfl 3 (rfl) (by decide) (by decide) (st7 (nI (vday v)) coal1 (vbar v) ((vfine v) - (mn ((vS v) (vday v % 7)) (vfine v))) (vcrs v) (vcoin v) (vship v)) (st7_u3 _ _ _ _ _ _ _ _) dX4_dayOn_165 (fun H locs hP hD hS => ?_)
                    have hP : va_P D vwCl [(m0, .inr (4, [.int th, .int (nI (vnC v)), .int (nI (vnP v)), .int (nI (vnK v)), .ref m1, .ref m2, .ref m3, .ref m4, .ref m5, .ref m6])), (m1, .inl (cI, 7, .inl (st7 (nI (vday v)) coal1 (vbar v) ((vfine v) - (mn ((vS v) (vday v % 7)) (vfine v))) (vcrs v) (vcoin v) (vship v)))), (m2, .inl (cI, 6, .inl (vR v))), (m3, .inl (cI, 7, .inl (vS v))), (m4, .inl (cI, 16, .inl (hp4 sh1 co1 bu1 fl1))), (m5, .inl (cI, 8, .inl (ho2 pw1 (vpa v)))), (m6, .inl (cI, 9, .inl (ke3 kw1 (vka v) kb1)))] _ := hP
                    have hD : va_D A [(m0, .inr (4, [.int th, .int (nI (vnC v)), .int (nI (vnP v)), .int (nI (vnK v)), .ref m1, .ref m2, .ref m3, .ref m4, .ref m5, .ref m6])), (m1, .inl (cI, 7, .inl (st7 (nI (vday v)) coal1 (vbar v) ((vfine v) - (mn ((vS v) (vday v % 7)) (vfine v))) (vcrs v) (vcoin v) (vship v)))), (m2, .inl (cI, 6, .inl (vR v))), (m3, .inl (cI, 7, .inl (vS v))), (m4, .inl (cI, 16, .inl (hp4 sh1 co1 bu1 fl1))), (m5, .inl (cI, 8, .inl (ho2 pw1 (vpa v)))), (m6, .inl (cI, 9, .inl (ke3 kw1 (vka v) kb1)))] := hD
                    refine lv_aload_n hx hb dX4_dayOn_166 rfl (lv_at hl 3 rfl) ?_
                    refine va_get (D := D) (ci := 4) (v := .ref m1) (C := RX4) (T := TX4) (N := 10) hx hb ht inG_X4 hown hK hP 0 rfl rfl 4 (by decide) (ht _ qF_RX4_7) (fun _ h9 => h9) rfl dX4_dayOn_167 ?_
                    refine lv_iconst (v := 4) hx hb dX4_dayOn_170 (by decide) ?_
                    refine lv_dup2_11 hx hb dX4_dayOn_171 rfl rfl ?_
                    refine aI hx hb hK hP 1 0 rfl rfl 4 (rfl) (by decide) (by decide) (v := vcrs v) (rfl) dX4_dayOn_172 ?_
                    refine lv_iload_n hx hb dX4_dayOn_173 rfl (lv_at hl 0 rfl) ?_
                    refine lv_isub hx hb dX4_dayOn_174 ?_
                    refine sI_ hx hb hK hP hD hS 1 0 rfl rfl 4 (rfl) (by decide) (by decide) (st7 (nI (vday v)) coal1 (vbar v) ((vfine v) - (mn ((vS v) (vday v % 7)) (vfine v))) ((vcrs v) - (mn (((vS v) (vday v % 7)) - (mn ((vS v) (vday v % 7)) (vfine v))) (vcrs v))) (vcoin v) (vship v)) (st7_u4 _ _ _ _ _ _ _ _) dX4_dayOn_175 (fun H locs hP hD hS => ?_)
                    have hP : va_P D vwCl [(m0, .inr (4, [.int th, .int (nI (vnC v)), .int (nI (vnP v)), .int (nI (vnK v)), .ref m1, .ref m2, .ref m3, .ref m4, .ref m5, .ref m6])), (m1, .inl (cI, 7, .inl (st7 (nI (vday v)) coal1 (vbar v) ((vfine v) - (mn ((vS v) (vday v % 7)) (vfine v))) ((vcrs v) - (mn (((vS v) (vday v % 7)) - (mn ((vS v) (vday v % 7)) (vfine v))) (vcrs v))) (vcoin v) (vship v)))), (m2, .inl (cI, 6, .inl (vR v))), (m3, .inl (cI, 7, .inl (vS v))), (m4, .inl (cI, 16, .inl (hp4 sh1 co1 bu1 fl1))), (m5, .inl (cI, 8, .inl (ho2 pw1 (vpa v)))), (m6, .inl (cI, 9, .inl (ke3 kw1 (vka v) kb1)))] _ := hP
                    have hD : va_D A [(m0, .inr (4, [.int th, .int (nI (vnC v)), .int (nI (vnP v)), .int (nI (vnK v)), .ref m1, .ref m2, .ref m3, .ref m4, .ref m5, .ref m6])), (m1, .inl (cI, 7, .inl (st7 (nI (vday v)) coal1 (vbar v) ((vfine v) - (mn ((vS v) (vday v % 7)) (vfine v))) ((vcrs v) - (mn (((vS v) (vday v % 7)) - (mn ((vS v) (vday v % 7)) (vfine v))) (vcrs v))) (vcoin v) (vship v)))), (m2, .inl (cI, 6, .inl (vR v))), (m3, .inl (cI, 7, .inl (vS v))), (m4, .inl (cI, 16, .inl (hp4 sh1 co1 bu1 fl1))), (m5, .inl (cI, 8, .inl (ho2 pw1 (vpa v)))), (m6, .inl (cI, 9, .inl (ke3 kw1 (vka v) kb1)))] := hD
                    refine lv_aload_n hx hb dX4_dayOn_176 rfl (lv_at hl 3 rfl) ?_
                    refine va_get (D := D) (ci := 4) (v := .ref m1) (C := RX4) (T := TX4) (N := 10) hx hb ht inG_X4 hown hK hP 0 rfl rfl 4 (by decide) (ht _ qF_RX4_7) (fun _ h9 => h9) rfl dX4_dayOn_177 ?_
                    refine lv_iconst (v := 5) hx hb dX4_dayOn_180 (by decide) ?_
                    refine lv_dup2_11 hx hb dX4_dayOn_181 rfl rfl ?_
                    refine aI hx hb hK hP 1 0 rfl rfl 5 (rfl) (by decide) (by decide) (v := vcoin v) (rfl) dX4_dayOn_182 ?_
                    refine lv_iconst (v := 5) hx hb dX4_dayOn_183 (by decide) ?_
                    refine lv_iload_n hx hb dX4_dayOn_184 rfl (lv_at hl 1 rfl) ?_
                    refine lv_imul hx hb dX4_dayOn_185 ?_
                    refine lv_iconst (v := 2) hx hb dX4_dayOn_186 (by decide) ?_
                    refine lv_iload_n hx hb dX4_dayOn_187 rfl (lv_at hl 0 rfl) ?_
                    refine lv_imul hx hb dX4_dayOn_188 ?_
                    refine lv_iadd hx hb dX4_dayOn_189 ?_
                    refine lv_iadd hx hb dX4_dayOn_190 ?_
                    refine sI_ hx hb hK hP hD hS 1 0 rfl rfl 5 (rfl) (by decide) (by decide) (st7 (nI (vday v)) coal1 (vbar v) ((vfine v) - (mn ((vS v) (vday v % 7)) (vfine v))) ((vcrs v) - (mn (((vS v) (vday v % 7)) - (mn ((vS v) (vday v % 7)) (vfine v))) (vcrs v))) ((vcoin v) + ((5 * (mn ((vS v) (vday v % 7)) (vfine v))) + (2 * (mn (((vS v) (vday v % 7)) - (mn ((vS v) (vday v % 7)) (vfine v))) (vcrs v))))) (vship v)) (st7_u5 _ _ _ _ _ _ _ _) dX4_dayOn_191 (fun H locs hP hD hS => ?_)
                    have hP : va_P D vwCl [(m0, .inr (4, [.int th, .int (nI (vnC v)), .int (nI (vnP v)), .int (nI (vnK v)), .ref m1, .ref m2, .ref m3, .ref m4, .ref m5, .ref m6])), (m1, .inl (cI, 7, .inl (st7 (nI (vday v)) coal1 (vbar v) ((vfine v) - (mn ((vS v) (vday v % 7)) (vfine v))) ((vcrs v) - (mn (((vS v) (vday v % 7)) - (mn ((vS v) (vday v % 7)) (vfine v))) (vcrs v))) ((vcoin v) + ((5 * (mn ((vS v) (vday v % 7)) (vfine v))) + (2 * (mn (((vS v) (vday v % 7)) - (mn ((vS v) (vday v % 7)) (vfine v))) (vcrs v))))) (vship v)))), (m2, .inl (cI, 6, .inl (vR v))), (m3, .inl (cI, 7, .inl (vS v))), (m4, .inl (cI, 16, .inl (hp4 sh1 co1 bu1 fl1))), (m5, .inl (cI, 8, .inl (ho2 pw1 (vpa v)))), (m6, .inl (cI, 9, .inl (ke3 kw1 (vka v) kb1)))] _ := hP
                    have hD : va_D A [(m0, .inr (4, [.int th, .int (nI (vnC v)), .int (nI (vnP v)), .int (nI (vnK v)), .ref m1, .ref m2, .ref m3, .ref m4, .ref m5, .ref m6])), (m1, .inl (cI, 7, .inl (st7 (nI (vday v)) coal1 (vbar v) ((vfine v) - (mn ((vS v) (vday v % 7)) (vfine v))) ((vcrs v) - (mn (((vS v) (vday v % 7)) - (mn ((vS v) (vday v % 7)) (vfine v))) (vcrs v))) ((vcoin v) + ((5 * (mn ((vS v) (vday v % 7)) (vfine v))) + (2 * (mn (((vS v) (vday v % 7)) - (mn ((vS v) (vday v % 7)) (vfine v))) (vcrs v))))) (vship v)))), (m2, .inl (cI, 6, .inl (vR v))), (m3, .inl (cI, 7, .inl (vS v))), (m4, .inl (cI, 16, .inl (hp4 sh1 co1 bu1 fl1))), (m5, .inl (cI, 8, .inl (ho2 pw1 (vpa v)))), (m6, .inl (cI, 9, .inl (ke3 kw1 (vka v) kb1)))] := hD
                    refine lv_aload_n hx hb dX4_dayOn_192 rfl (lv_at hl 3 rfl) ?_
                    refine va_get (D := D) (ci := 4) (v := .ref m1) (C := RX4) (T := TX4) (N := 10) hx hb ht inG_X4 hown hK hP 0 rfl rfl 4 (by decide) (ht _ qF_RX4_7) (fun _ h9 => h9) rfl dX4_dayOn_193 ?_
                    refine lv_bipush (v := 6) hx hb dX4_dayOn_196 (by decide) ?_
                    refine lv_dup2_11 hx hb dX4_dayOn_198 rfl rfl ?_
                    refine aI hx hb hK hP 1 0 rfl rfl 6 (rfl) (by decide) (by decide) (v := vship v) (rfl) dX4_dayOn_199 ?_
                    refine lv_iload_n hx hb dX4_dayOn_200 rfl (lv_at hl 1 rfl) ?_
                    refine lv_iload_n hx hb dX4_dayOn_201 rfl (lv_at hl 0 rfl) ?_
                    refine lv_iadd hx hb dX4_dayOn_202 ?_
                    refine lv_iadd hx hb dX4_dayOn_203 ?_
                    refine sI_ hx hb hK hP hD hS 1 0 rfl rfl 6 (rfl) (by decide) (by decide) (st7 (nI (vday v)) coal1 (vbar v) ((vfine v) - (mn ((vS v) (vday v % 7)) (vfine v))) ((vcrs v) - (mn (((vS v) (vday v % 7)) - (mn ((vS v) (vday v % 7)) (vfine v))) (vcrs v))) ((vcoin v) + ((5 * (mn ((vS v) (vday v % 7)) (vfine v))) + (2 * (mn (((vS v) (vday v % 7)) - (mn ((vS v) (vday v % 7)) (vfine v))) (vcrs v))))) ((vship v) + ((mn ((vS v) (vday v % 7)) (vfine v)) + (mn (((vS v) (vday v % 7)) - (mn ((vS v) (vday v % 7)) (vfine v))) (vcrs v))))) (st7_u6 _ _ _ _ _ _ _ _) dX4_dayOn_204 (fun H locs hP hD hS => ?_)
                    have hP : va_P D vwCl [(m0, .inr (4, [.int th, .int (nI (vnC v)), .int (nI (vnP v)), .int (nI (vnK v)), .ref m1, .ref m2, .ref m3, .ref m4, .ref m5, .ref m6])), (m1, .inl (cI, 7, .inl (st7 (nI (vday v)) coal1 (vbar v) ((vfine v) - (mn ((vS v) (vday v % 7)) (vfine v))) ((vcrs v) - (mn (((vS v) (vday v % 7)) - (mn ((vS v) (vday v % 7)) (vfine v))) (vcrs v))) ((vcoin v) + ((5 * (mn ((vS v) (vday v % 7)) (vfine v))) + (2 * (mn (((vS v) (vday v % 7)) - (mn ((vS v) (vday v % 7)) (vfine v))) (vcrs v))))) ((vship v) + ((mn ((vS v) (vday v % 7)) (vfine v)) + (mn (((vS v) (vday v % 7)) - (mn ((vS v) (vday v % 7)) (vfine v))) (vcrs v))))))), (m2, .inl (cI, 6, .inl (vR v))), (m3, .inl (cI, 7, .inl (vS v))), (m4, .inl (cI, 16, .inl (hp4 sh1 co1 bu1 fl1))), (m5, .inl (cI, 8, .inl (ho2 pw1 (vpa v)))), (m6, .inl (cI, 9, .inl (ke3 kw1 (vka v) kb1)))] _ := hP
                    have hD : va_D A [(m0, .inr (4, [.int th, .int (nI (vnC v)), .int (nI (vnP v)), .int (nI (vnK v)), .ref m1, .ref m2, .ref m3, .ref m4, .ref m5, .ref m6])), (m1, .inl (cI, 7, .inl (st7 (nI (vday v)) coal1 (vbar v) ((vfine v) - (mn ((vS v) (vday v % 7)) (vfine v))) ((vcrs v) - (mn (((vS v) (vday v % 7)) - (mn ((vS v) (vday v % 7)) (vfine v))) (vcrs v))) ((vcoin v) + ((5 * (mn ((vS v) (vday v % 7)) (vfine v))) + (2 * (mn (((vS v) (vday v % 7)) - (mn ((vS v) (vday v % 7)) (vfine v))) (vcrs v))))) ((vship v) + ((mn ((vS v) (vday v % 7)) (vfine v)) + (mn (((vS v) (vday v % 7)) - (mn ((vS v) (vday v % 7)) (vfine v))) (vcrs v))))))), (m2, .inl (cI, 6, .inl (vR v))), (m3, .inl (cI, 7, .inl (vS v))), (m4, .inl (cI, 16, .inl (hp4 sh1 co1 bu1 fl1))), (m5, .inl (cI, 8, .inl (ho2 pw1 (vpa v)))), (m6, .inl (cI, 9, .inl (ke3 kw1 (vka v) kb1)))] := hD
                    refine lv_aload_n hx hb dX4_dayOn_205 rfl (lv_at hl 3 rfl) ?_
                    refine va_get (D := D) (ci := 4) (v := .ref m1) (C := RX4) (T := TX4) (N := 10) hx hb ht inG_X4 hown hK hP 0 rfl rfl 4 (by decide) (ht _ qF_RX4_7) (fun _ h9 => h9) rfl dX4_dayOn_206 ?_
                    refine lv_iconst (v := 0) hx hb dX4_dayOn_209 (by decide) ?_
                    refine lv_dup2_11 hx hb dX4_dayOn_210 rfl rfl ?_
                    refine aI hx hb hK hP 1 0 rfl rfl 0 (rfl) (by decide) (by decide) (v := nI (vday v)) (rfl) dX4_dayOn_211 ?_
                    refine lv_iconst (v := 1) hx hb dX4_dayOn_212 (by decide) ?_
                    refine lv_iadd hx hb dX4_dayOn_213 ?_
                    refine t_i (nI (vday v + 1)) (nI_1 (vday v)) ?_
                    refine sI_ hx hb hK hP hD hS 1 0 rfl rfl 0 (rfl) (by decide) (by decide) (st7 (nI (vday v + 1)) coal1 (vbar v) ((vfine v) - (mn ((vS v) (vday v % 7)) (vfine v))) ((vcrs v) - (mn (((vS v) (vday v % 7)) - (mn ((vS v) (vday v % 7)) (vfine v))) (vcrs v))) ((vcoin v) + ((5 * (mn ((vS v) (vday v % 7)) (vfine v))) + (2 * (mn (((vS v) (vday v % 7)) - (mn ((vS v) (vday v % 7)) (vfine v))) (vcrs v))))) ((vship v) + ((mn ((vS v) (vday v % 7)) (vfine v)) + (mn (((vS v) (vday v % 7)) - (mn ((vS v) (vday v % 7)) (vfine v))) (vcrs v))))) (st7_u0 _ _ _ _ _ _ _ _) dX4_dayOn_214 (fun H locs hP hD hS => ?_)
                    have hP : va_P D vwCl [(m0, .inr (4, [.int th, .int (nI (vnC v)), .int (nI (vnP v)), .int (nI (vnK v)), .ref m1, .ref m2, .ref m3, .ref m4, .ref m5, .ref m6])), (m1, .inl (cI, 7, .inl (st7 (nI (vday v + 1)) coal1 (vbar v) ((vfine v) - (mn ((vS v) (vday v % 7)) (vfine v))) ((vcrs v) - (mn (((vS v) (vday v % 7)) - (mn ((vS v) (vday v % 7)) (vfine v))) (vcrs v))) ((vcoin v) + ((5 * (mn ((vS v) (vday v % 7)) (vfine v))) + (2 * (mn (((vS v) (vday v % 7)) - (mn ((vS v) (vday v % 7)) (vfine v))) (vcrs v))))) ((vship v) + ((mn ((vS v) (vday v % 7)) (vfine v)) + (mn (((vS v) (vday v % 7)) - (mn ((vS v) (vday v % 7)) (vfine v))) (vcrs v))))))), (m2, .inl (cI, 6, .inl (vR v))), (m3, .inl (cI, 7, .inl (vS v))), (m4, .inl (cI, 16, .inl (hp4 sh1 co1 bu1 fl1))), (m5, .inl (cI, 8, .inl (ho2 pw1 (vpa v)))), (m6, .inl (cI, 9, .inl (ke3 kw1 (vka v) kb1)))] _ := hP
                    have hD : va_D A [(m0, .inr (4, [.int th, .int (nI (vnC v)), .int (nI (vnP v)), .int (nI (vnK v)), .ref m1, .ref m2, .ref m3, .ref m4, .ref m5, .ref m6])), (m1, .inl (cI, 7, .inl (st7 (nI (vday v + 1)) coal1 (vbar v) ((vfine v) - (mn ((vS v) (vday v % 7)) (vfine v))) ((vcrs v) - (mn (((vS v) (vday v % 7)) - (mn ((vS v) (vday v % 7)) (vfine v))) (vcrs v))) ((vcoin v) + ((5 * (mn ((vS v) (vday v % 7)) (vfine v))) + (2 * (mn (((vS v) (vday v % 7)) - (mn ((vS v) (vday v % 7)) (vfine v))) (vcrs v))))) ((vship v) + ((mn ((vS v) (vday v % 7)) (vfine v)) + (mn (((vS v) (vday v % 7)) - (mn ((vS v) (vday v % 7)) (vfine v))) (vcrs v))))))), (m2, .inl (cI, 6, .inl (vR v))), (m3, .inl (cI, 7, .inl (vS v))), (m4, .inl (cI, 16, .inl (hp4 sh1 co1 bu1 fl1))), (m5, .inl (cI, 8, .inl (ho2 pw1 (vpa v)))), (m6, .inl (cI, 9, .inl (ke3 kw1 (vka v) kb1)))] := hD
                    obtain rfl : i1 = vnC v := by omega
                    obtain rfl : i2 = vnP v := by omega
                    obtain rfl : i3 = vnK v := by omega
                    subst e_sh1 e_co1 e_bu1 e_fl1 e_pw1 e_coal1 e_kw1 e_kb1
                    exact hend _ _ _ _ _ _ (dayV v) dX4_dayOn_215 (rfl) hP hD hS (Nat.le_of_ble_eq_true rfl) (Nat.le_of_ble_eq_true rfl)
                  · skip
                    have c_3n := Int32.not_le.mp c_3
                    have c_3m := (nI_ltI (a := i3) (b := vnK v) (by omega) (by omega)).mp c_3n
                    refine lv_aload_n hx hb dX4_dayOn_104 rfl (lv_at hl 0 rfl) ?_
                    refine lv_iconst (v := 3) hx hb dX4_dayOn_105 (by decide) ?_
                    refine lv_iload_n hx hb dX4_dayOn_106 rfl (lv_at hl 1 rfl) ?_
                    refine lv_imul hx hb dX4_dayOn_107 ?_
                    refine t_i (nI (3 * i3)) (pk_mul 3 i3) ?_
                    refine k_v (wr := [(m2, .inl (cI, 6, .inl (vR v))), (m3, .inl (cI, 7, .inl (vS v))), (m4, .inl (cI, 16, .inl (hp4 sh1 co1 bu1 fl1))), (m5, .inl (cI, 8, .inl (ho2 pw1 (vpa v))))]) (rV (As := [.int (nI (3 * i3))]) (rest := []) F hG hK (hP.sub (ws' := [(m0, .inr (4, [.int th, .int (nI (vnC v)), .int (nI (vnP v)), .int (nI (vnK v)), .ref m1, .ref m2, .ref m3, .ref m4, .ref m5, .ref m6])), (m1, .inl (cI, 7, .inl (st7 (nI (vday v)) coal1 (vbar v) (vfine v) (vcrs v) (vcoin v) (vship v)))), (m6, .inl (cI, 9, .inl (ke3 kw1 (vka v) kb1)))]) [0, 1, 6] rfl) ((hD.sub (ws' := [(m0, .inr (4, [.int th, .int (nI (vnC v)), .int (nI (vnP v)), .int (nI (vnK v)), .ref m1, .ref m2, .ref m3, .ref m4, .ref m5, .ref m6])), (m1, .inl (cI, 7, .inl (st7 (nI (vday v)) coal1 (vbar v) (vfine v) (vcrs v) (vcoin v) (vship v)))), (m6, .inl (cI, 9, .inl (ke3 kw1 (vka v) kb1)))]) [0, 1, 6] (by decide) rfl).weaken (fun _ _ _ _ => trivial)) s_RX4_101 (c_X4_cook l D cI cZ cJ m0 m1 m2 m3 m4 m5 m6 (vnC v) (vnP v) (vnK v) th coal1 (nI (vday v)) (vbar v) (vfine v) (vcrs v) (vcoin v) (vship v) kw1 (vka v) kb1 i3 (by first | assumption | omega) _) 4 0 rfl rfl rfl rfl hl.1 rfl (Nat.le_of_ble_eq_true rfl) dX4_dayOn_108 ⟨(Nat.le_of_ble_eq_true rfl), (Nat.le_of_ble_eq_true rfl)⟩ ⟨(Nat.le_of_ble_eq_true rfl), (Nat.le_of_ble_eq_true rfl)⟩) hP hD hS hA [0, 1, 6] [2, 3, 4, 5] rfl rfl (by decide) (by decide) (fun uu H locs hw hP hD hS => ?_)
                    obtain ⟨coal1_108, w1_108, b1_108⟩ := uu
                    try dsimp only at hw
                    obtain ⟨rfl, rfl, rfl⟩ := hw
                    have hP : va_P D vwCl [(m2, .inl (cI, 6, .inl (vR v))), (m3, .inl (cI, 7, .inl (vS v))), (m4, .inl (cI, 16, .inl (hp4 sh1 co1 bu1 fl1))), (m5, .inl (cI, 8, .inl (ho2 pw1 (vpa v)))), (m0, .inr (4, [.int th, .int (nI (vnC v)), .int (nI (vnP v)), .int (nI (vnK v)), .ref m1, .ref m2, .ref m3, .ref m4, .ref m5, .ref m6])), (m1, .inl (cI, 7, .inl (st7 (nI (vday v)) (ckC coal1 (kw1 i3) (kb1 i3)) (vbar v) (vfine v) (vcrs v) (vcoin v) (vship v)))), (m6, .inl (cI, 9, .inl (ke3 (upd kw1 i3 (ckW coal1 (kw1 i3) (kb1 i3))) (vka v) (upd kb1 i3 (ckB coal1 (kw1 i3) (kb1 i3))))))] _ := hP
                    have hD : va_D A [(m2, .inl (cI, 6, .inl (vR v))), (m3, .inl (cI, 7, .inl (vS v))), (m4, .inl (cI, 16, .inl (hp4 sh1 co1 bu1 fl1))), (m5, .inl (cI, 8, .inl (ho2 pw1 (vpa v)))), (m0, .inr (4, [.int th, .int (nI (vnC v)), .int (nI (vnP v)), .int (nI (vnK v)), .ref m1, .ref m2, .ref m3, .ref m4, .ref m5, .ref m6])), (m1, .inl (cI, 7, .inl (st7 (nI (vday v)) (ckC coal1 (kw1 i3) (kb1 i3)) (vbar v) (vfine v) (vcrs v) (vcoin v) (vship v)))), (m6, .inl (cI, 9, .inl (ke3 (upd kw1 i3 (ckW coal1 (kw1 i3) (kb1 i3))) (vka v) (upd kb1 i3 (ckB coal1 (kw1 i3) (kb1 i3))))))] := hD
                    refine lv_iinc (v := nI (i3 + 1)) (lv' := [(1, .int (nI (i3 + 1))), (0, .ref m0)]) hx hb dX4_dayOn_111 hl (k := 1) rfl (nI_1 i3) (by decide) rfl (fun ls hl => ?_)
                    refine lv_goto (tgt := 96) hx hb dX4_dayOn_114 (by decide) ?_
                    exact ih96 (i3 + 1) (by omega) (by omega) (ckC coal1 (kw1 i3) (kb1 i3)) (upd kw1 i3 (ckW coal1 (kw1 i3) (kb1 i3))) (upd kb1 i3 (ckB coal1 (kw1 i3) (kb1 i3))) (by subst e_coal1 e_kw1 e_kb1; simp only [cN, ckC, rowF_at _ _ _ (Nat.le_refl _)]) (by subst e_coal1 e_kw1 e_kb1; exact rowF_upd _ _ _ (by simp only [ckW, fKw, rowF_at _ _ _ (Nat.le_refl _)])) (by subst e_coal1 e_kw1 e_kb1; exact rowF_upd _ _ _ (by simp only [ckB, fKb, rowF_at _ _ _ (Nat.le_refl _)])) _ _ (hP.sub [4, 5, 0, 1, 2, 3, 6] rfl) (hD.sub [4, 5, 0, 1, 2, 3, 6] (by decide) rfl) hS _ (lv_sub hl [1, 0] rfl)
              exact loop96 ((vnK v) + 1) 0 (Nat.zero_le _) (by omega) (vcoal v) (vkw v) (vkb v) rfl ((rowF_0 _ _).symm) ((rowF_0 _ _).symm) _ _ (hP.sub [0, 1, 2, 3, 4, 5, 6] rfl) (hD.sub [0, 1, 2, 3, 4, 5, 6] (by decide) rfl) hS _ (lv_sub hl [1, 0] rfl)
            · skip
              have c_2n := Int32.not_le.mp c_2
              have c_2m := (nI_ltI (a := i2) (b := vnP v) (by omega) (by omega)).mp c_2n
              refine lv_aload_n hx hb dX4_dayOn_33 rfl (lv_at hl 0 rfl) ?_
              refine va_get (D := D) (ci := 4) (v := .ref m5) (C := RX4) (T := TX4) (N := 10) hx hb ht inG_X4 hown hK hP 0 rfl rfl 8 (by decide) (ht _ qF_RX4_22) (fun _ h9 => h9) rfl dX4_dayOn_34 ?_
              refine lv_iconst (v := 2) hx hb dX4_dayOn_37 (by decide) ?_
              refine lv_iload_n hx hb dX4_dayOn_38 rfl (lv_at hl 1 rfl) ?_
              refine lv_imul hx hb dX4_dayOn_39 ?_
              refine t_i (nI (2 * i2)) (pk_mul 2 i2) ?_
              refine aI hx hb hK hP 5 0 rfl rfl (2 * i2) (rfl) (by omega) (by decide) (v := vpw v i2) (by rw [ho2_0, e_pw1]; exact rowF_at _ _ _ (Nat.le_refl _)) dX4_dayOn_40 ?_
              refine lv_if_le (tgt := 88) hx hb dX4_dayOn_41 (by decide) (fun c_4 => ?_) (fun c_4 => ?_)
              · skip
                have c_4n := Int32.not_lt.mpr c_4
                refine lv_iinc (v := nI (i2 + 1)) (lv' := [(1, .int (nI (i2 + 1))), (0, .ref m0)]) hx hb dX4_dayOn_88 hl (k := 1) rfl (nI_1 i2) (by decide) rfl (fun ls hl => ?_)
                refine lv_goto (tgt := 25) hx hb dX4_dayOn_91 (by decide) ?_
                exact ih25 (i2 + 1) (by omega) (by omega) pw1 (by subst e_pw1; exact (rowF_same _ _ _ (by simp only [wth, eq_true c_1, eq_false c_1n, eq_false c_2, eq_true c_2n, eq_true c_4, eq_false c_4n, if_true])).symm) _ _ (hP.sub [0, 1, 2, 3, 4, 5, 6] rfl) (hD.sub [0, 1, 2, 3, 4, 5, 6] (by decide) rfl) hS _ (lv_sub hl [1, 0] rfl)
              · skip
                have c_4n := Int32.not_le.mp c_4
                refine lv_aload_n hx hb dX4_dayOn_44 rfl (lv_at hl 0 rfl) ?_
                refine va_get (D := D) (ci := 4) (v := .ref m5) (C := RX4) (T := TX4) (N := 10) hx hb ht inG_X4 hown hK hP 0 rfl rfl 8 (by decide) (ht _ qF_RX4_22) (fun _ h9 => h9) rfl dX4_dayOn_45 ?_
                refine lv_iconst (v := 2) hx hb dX4_dayOn_48 (by decide) ?_
                refine lv_iload_n hx hb dX4_dayOn_49 rfl (lv_at hl 1 rfl) ?_
                refine lv_imul hx hb dX4_dayOn_50 ?_
                refine t_i (nI (2 * i2)) (pk_mul 2 i2) ?_
                refine lv_iconst (v := 0) hx hb dX4_dayOn_51 (by decide) ?_
                refine lv_sipush (v := 400) hx hb dX4_dayOn_52 (by decide) ?_
                refine lv_aload_n hx hb dX4_dayOn_55 rfl (lv_at hl 0 rfl) ?_
                refine va_get (D := D) (ci := 4) (v := .ref m5) (C := RX4) (T := TX4) (N := 10) hx hb ht inG_X4 hown hK hP 0 rfl rfl 8 (by decide) (ht _ qF_RX4_22) (fun _ h9 => h9) rfl dX4_dayOn_56 ?_
                refine lv_iconst (v := 2) hx hb dX4_dayOn_59 (by decide) ?_
                refine lv_iload_n hx hb dX4_dayOn_60 rfl (lv_at hl 1 rfl) ?_
                refine lv_imul hx hb dX4_dayOn_61 ?_
                refine t_i (nI (2 * i2)) (pk_mul 2 i2) ?_
                refine aI hx hb hK hP 5 0 rfl rfl (2 * i2) (rfl) (by omega) (by decide) (v := vpw v i2) (by rw [ho2_0, e_pw1]; exact rowF_at _ _ _ (Nat.le_refl _)) dX4_dayOn_62 ?_
                refine lv_aload_n hx hb dX4_dayOn_63 rfl (lv_at hl 0 rfl) ?_
                refine k_i (wr := [(m3, .inl (cI, 7, .inl (vS v))), (m4, .inl (cI, 16, .inl (hp4 sh1 co1 bu1 fl1))), (m5, .inl (cI, 8, .inl (ho2 pw1 (vpa v)))), (m6, .inl (cI, 9, .inl (ke3 (vkw v) (vka v) (vkb v))))]) (rV (As := []) (rest := [.int (vpw v i2), .int 400, .int 0, .int (nI (2 * i2)), .ref m5]) F hG hK (hP.sub (ws' := [(m0, .inr (4, [.int th, .int (nI (vnC v)), .int (nI (vnP v)), .int (nI (vnK v)), .ref m1, .ref m2, .ref m3, .ref m4, .ref m5, .ref m6])), (m1, .inl (cI, 7, .inl (st7 (nI (vday v)) (vcoal v) (vbar v) (vfine v) (vcrs v) (vcoin v) (vship v)))), (m2, .inl (cI, 6, .inl (vR v)))]) [0, 1, 2] rfl) ((hD.sub (ws' := [(m0, .inr (4, [.int th, .int (nI (vnC v)), .int (nI (vnP v)), .int (nI (vnK v)), .ref m1, .ref m2, .ref m3, .ref m4, .ref m5, .ref m6])), (m1, .inl (cI, 7, .inl (st7 (nI (vday v)) (vcoal v) (vbar v) (vfine v) (vcrs v) (vcoin v) (vship v)))), (m2, .inl (cI, 6, .inl (vR v)))]) [0, 1, 2] (by decide) rfl).weaken (fun _ _ _ _ => trivial)) s_RX4_87 (c_X4_rain l D cI cZ cJ m0 m1 m2 m3 m4 m5 m6 (vnC v) (vnP v) (vnK v) th (vday v) (vcoal v) (vbar v) (vfine v) (vcrs v) (vcoin v) (vship v) (vR v) (by first | assumption | omega) _) 4 0 rfl rfl rfl rfl hl.1 rfl (Nat.le_of_ble_eq_true rfl) dX4_dayOn_64 ⟨(Nat.le_of_ble_eq_true rfl), (Nat.le_of_ble_eq_true rfl)⟩ ⟨(Nat.le_of_ble_eq_true rfl), (Nat.le_of_ble_eq_true rfl)⟩) hP hD hS hA [0, 1, 2] [3, 4, 5, 6] rfl rfl (by decide) (by decide) (fun r_64 uu H locs hw hP hD hS => ?_)
                try dsimp only at hw
                subst hw
                have hP : va_P D vwCl [(m3, .inl (cI, 7, .inl (vS v))), (m4, .inl (cI, 16, .inl (hp4 sh1 co1 bu1 fl1))), (m5, .inl (cI, 8, .inl (ho2 pw1 (vpa v)))), (m6, .inl (cI, 9, .inl (ke3 (vkw v) (vka v) (vkb v)))), (m0, .inr (4, [.int th, .int (nI (vnC v)), .int (nI (vnP v)), .int (nI (vnK v)), .ref m1, .ref m2, .ref m3, .ref m4, .ref m5, .ref m6])), (m1, .inl (cI, 7, .inl (st7 (nI (vday v)) (vcoal v) (vbar v) (vfine v) (vcrs v) (vcoin v) (vship v)))), (m2, .inl (cI, 6, .inl (vR v)))] _ := hP
                have hD : va_D A [(m3, .inl (cI, 7, .inl (vS v))), (m4, .inl (cI, 16, .inl (hp4 sh1 co1 bu1 fl1))), (m5, .inl (cI, 8, .inl (ho2 pw1 (vpa v)))), (m6, .inl (cI, 9, .inl (ke3 (vkw v) (vka v) (vkb v)))), (m0, .inr (4, [.int th, .int (nI (vnC v)), .int (nI (vnP v)), .int (nI (vnK v)), .ref m1, .ref m2, .ref m3, .ref m4, .ref m5, .ref m6])), (m1, .inl (cI, 7, .inl (st7 (nI (vday v)) (vcoal v) (vbar v) (vfine v) (vcrs v) (vcoin v) (vship v)))), (m2, .inl (cI, 6, .inl (vR v)))] := hD
                refine lv_iadd hx hb dX4_dayOn_67 ?_
                refine k_min F qM_RX4_49 hl.1 (Nat.le_of_ble_eq_true rfl) (Nat.le_of_ble_eq_true rfl) (Nat.le_of_ble_eq_true rfl) (Nat.le_of_ble_eq_true rfl) dX4_dayOn_68 ?_
                refine lv_aload_n hx hb dX4_dayOn_71 rfl (lv_at hl 0 rfl) ?_
                refine k_i (wr := [(m3, .inl (cI, 7, .inl (vS v))), (m4, .inl (cI, 16, .inl (hp4 sh1 co1 bu1 fl1))), (m5, .inl (cI, 8, .inl (ho2 pw1 (vpa v)))), (m6, .inl (cI, 9, .inl (ke3 (vkw v) (vka v) (vkb v))))]) (rV (As := []) (rest := [.int (mn 400 ((vpw v i2) + ((vR v) ((vday v) % 6)))), .int 0, .int (nI (2 * i2)), .ref m5]) F hG hK (hP.sub (ws' := [(m0, .inr (4, [.int th, .int (nI (vnC v)), .int (nI (vnP v)), .int (nI (vnK v)), .ref m1, .ref m2, .ref m3, .ref m4, .ref m5, .ref m6])), (m1, .inl (cI, 7, .inl (st7 (nI (vday v)) (vcoal v) (vbar v) (vfine v) (vcrs v) (vcoin v) (vship v)))), (m2, .inl (cI, 6, .inl (vR v)))]) [4, 5, 6] rfl) ((hD.sub (ws' := [(m0, .inr (4, [.int th, .int (nI (vnC v)), .int (nI (vnP v)), .int (nI (vnK v)), .ref m1, .ref m2, .ref m3, .ref m4, .ref m5, .ref m6])), (m1, .inl (cI, 7, .inl (st7 (nI (vday v)) (vcoal v) (vbar v) (vfine v) (vcrs v) (vcoin v) (vship v)))), (m2, .inl (cI, 6, .inl (vR v)))]) [4, 5, 6] (by decide) rfl).weaken (fun _ _ _ _ => trivial)) s_RX4_87 (c_X4_rain l D cI cZ cJ m0 m1 m2 m3 m4 m5 m6 (vnC v) (vnP v) (vnK v) th (vday v) (vcoal v) (vbar v) (vfine v) (vcrs v) (vcoin v) (vship v) (vR v) (by first | assumption | omega) _) 4 0 rfl rfl rfl rfl hl.1 rfl (Nat.le_of_ble_eq_true rfl) dX4_dayOn_72 ⟨(Nat.le_of_ble_eq_true rfl), (Nat.le_of_ble_eq_true rfl)⟩ ⟨(Nat.le_of_ble_eq_true rfl), (Nat.le_of_ble_eq_true rfl)⟩) hP hD hS hA [4, 5, 6] [0, 1, 2, 3] rfl rfl (by decide) (by decide) (fun r_72 uu H locs hw hP hD hS => ?_)
                try dsimp only at hw
                subst hw
                have hP : va_P D vwCl [(m3, .inl (cI, 7, .inl (vS v))), (m4, .inl (cI, 16, .inl (hp4 sh1 co1 bu1 fl1))), (m5, .inl (cI, 8, .inl (ho2 pw1 (vpa v)))), (m6, .inl (cI, 9, .inl (ke3 (vkw v) (vka v) (vkb v)))), (m0, .inr (4, [.int th, .int (nI (vnC v)), .int (nI (vnP v)), .int (nI (vnK v)), .ref m1, .ref m2, .ref m3, .ref m4, .ref m5, .ref m6])), (m1, .inl (cI, 7, .inl (st7 (nI (vday v)) (vcoal v) (vbar v) (vfine v) (vcrs v) (vcoin v) (vship v)))), (m2, .inl (cI, 6, .inl (vR v)))] _ := hP
                have hD : va_D A [(m3, .inl (cI, 7, .inl (vS v))), (m4, .inl (cI, 16, .inl (hp4 sh1 co1 bu1 fl1))), (m5, .inl (cI, 8, .inl (ho2 pw1 (vpa v)))), (m6, .inl (cI, 9, .inl (ke3 (vkw v) (vka v) (vkb v)))), (m0, .inr (4, [.int th, .int (nI (vnC v)), .int (nI (vnP v)), .int (nI (vnK v)), .ref m1, .ref m2, .ref m3, .ref m4, .ref m5, .ref m6])), (m1, .inl (cI, 7, .inl (st7 (nI (vday v)) (vcoal v) (vbar v) (vfine v) (vcrs v) (vcoin v) (vship v)))), (m2, .inl (cI, 6, .inl (vR v)))] := hD
                refine lv_if_ne (tgt := 82) hx hb dX4_dayOn_75 (by decide) (fun c_5 => ?_) (fun c_5 => ?_)
                · skip
                  refine lv_iconst (v := 0) hx hb dX4_dayOn_82 (by decide) ?_
                  refine lv_isub hx hb dX4_dayOn_83 ?_
                  refine k_max F qM_RX4_94 hl.1 (Nat.le_of_ble_eq_true rfl) (Nat.le_of_ble_eq_true rfl) (Nat.le_of_ble_eq_true rfl) (Nat.le_of_ble_eq_true rfl) dX4_dayOn_84 ?_
                  refine sI_ hx hb hK hP hD hS 2 0 rfl rfl (2 * i2) (rfl) (by omega) (by decide) (ho2 (upd pw1 i2 (mx 0 ((mn 400 ((vpw v i2) + ((vR v) ((vday v) % 6)))) - 0))) (vpa v)) (ho2_u0 _ _ _ _) dX4_dayOn_87 (fun H locs hP hD hS => ?_)
                  have hP : va_P D vwCl [(m3, .inl (cI, 7, .inl (vS v))), (m4, .inl (cI, 16, .inl (hp4 sh1 co1 bu1 fl1))), (m5, .inl (cI, 8, .inl (ho2 (upd pw1 i2 (mx 0 ((mn 400 ((vpw v i2) + ((vR v) ((vday v) % 6)))) - 0))) (vpa v)))), (m6, .inl (cI, 9, .inl (ke3 (vkw v) (vka v) (vkb v)))), (m0, .inr (4, [.int th, .int (nI (vnC v)), .int (nI (vnP v)), .int (nI (vnK v)), .ref m1, .ref m2, .ref m3, .ref m4, .ref m5, .ref m6])), (m1, .inl (cI, 7, .inl (st7 (nI (vday v)) (vcoal v) (vbar v) (vfine v) (vcrs v) (vcoin v) (vship v)))), (m2, .inl (cI, 6, .inl (vR v)))] _ := hP
                  have hD : va_D A [(m3, .inl (cI, 7, .inl (vS v))), (m4, .inl (cI, 16, .inl (hp4 sh1 co1 bu1 fl1))), (m5, .inl (cI, 8, .inl (ho2 (upd pw1 i2 (mx 0 ((mn 400 ((vpw v i2) + ((vR v) ((vday v) % 6)))) - 0))) (vpa v)))), (m6, .inl (cI, 9, .inl (ke3 (vkw v) (vka v) (vkb v)))), (m0, .inr (4, [.int th, .int (nI (vnC v)), .int (nI (vnP v)), .int (nI (vnK v)), .ref m1, .ref m2, .ref m3, .ref m4, .ref m5, .ref m6])), (m1, .inl (cI, 7, .inl (st7 (nI (vday v)) (vcoal v) (vbar v) (vfine v) (vcrs v) (vcoin v) (vship v)))), (m2, .inl (cI, 6, .inl (vR v)))] := hD
                  refine lv_iinc (v := nI (i2 + 1)) (lv' := [(1, .int (nI (i2 + 1))), (0, .ref m0)]) hx hb dX4_dayOn_88 hl (k := 1) rfl (nI_1 i2) (by decide) rfl (fun ls hl => ?_)
                  refine lv_goto (tgt := 25) hx hb dX4_dayOn_91 (by decide) ?_
                  exact ih25 (i2 + 1) (by omega) (by omega) (upd pw1 i2 (mx 0 ((mn 400 ((vpw v i2) + ((vR v) ((vday v) % 6)))) - 0))) (by subst e_pw1; exact rowF_upd _ _ _ (by simp only [wth, eq_true c_1, eq_false c_1n, eq_false c_2, eq_true c_2n, eq_false c_4, eq_true c_4n, eq_false c_5, if_true, if_false]; exact wth_id (hN.2.1 _).1 (hN.2.1 _).2.1 (hN.2.2.2.2 _).1 (hN.2.2.2.2 _).2)) _ _ (hP.sub [4, 5, 6, 0, 1, 2, 3] rfl) (hD.sub [4, 5, 6, 0, 1, 2, 3] (by decide) rfl) hS _ (lv_sub hl [1, 0] rfl)
                · skip
                  refine lv_iconst (v := 3) hx hb dX4_dayOn_78 (by decide) ?_
                  refine lv_goto (tgt := 83) hx hb dX4_dayOn_79 (by decide) ?_
                  refine lv_isub hx hb dX4_dayOn_83 ?_
                  refine k_max F qM_RX4_94 hl.1 (Nat.le_of_ble_eq_true rfl) (Nat.le_of_ble_eq_true rfl) (Nat.le_of_ble_eq_true rfl) (Nat.le_of_ble_eq_true rfl) dX4_dayOn_84 ?_
                  refine sI_ hx hb hK hP hD hS 2 0 rfl rfl (2 * i2) (rfl) (by omega) (by decide) (ho2 (upd pw1 i2 (mx 0 ((mn 400 ((vpw v i2) + ((vR v) ((vday v) % 6)))) - 3))) (vpa v)) (ho2_u0 _ _ _ _) dX4_dayOn_87 (fun H locs hP hD hS => ?_)
                  have hP : va_P D vwCl [(m3, .inl (cI, 7, .inl (vS v))), (m4, .inl (cI, 16, .inl (hp4 sh1 co1 bu1 fl1))), (m5, .inl (cI, 8, .inl (ho2 (upd pw1 i2 (mx 0 ((mn 400 ((vpw v i2) + ((vR v) ((vday v) % 6)))) - 3))) (vpa v)))), (m6, .inl (cI, 9, .inl (ke3 (vkw v) (vka v) (vkb v)))), (m0, .inr (4, [.int th, .int (nI (vnC v)), .int (nI (vnP v)), .int (nI (vnK v)), .ref m1, .ref m2, .ref m3, .ref m4, .ref m5, .ref m6])), (m1, .inl (cI, 7, .inl (st7 (nI (vday v)) (vcoal v) (vbar v) (vfine v) (vcrs v) (vcoin v) (vship v)))), (m2, .inl (cI, 6, .inl (vR v)))] _ := hP
                  have hD : va_D A [(m3, .inl (cI, 7, .inl (vS v))), (m4, .inl (cI, 16, .inl (hp4 sh1 co1 bu1 fl1))), (m5, .inl (cI, 8, .inl (ho2 (upd pw1 i2 (mx 0 ((mn 400 ((vpw v i2) + ((vR v) ((vday v) % 6)))) - 3))) (vpa v)))), (m6, .inl (cI, 9, .inl (ke3 (vkw v) (vka v) (vkb v)))), (m0, .inr (4, [.int th, .int (nI (vnC v)), .int (nI (vnP v)), .int (nI (vnK v)), .ref m1, .ref m2, .ref m3, .ref m4, .ref m5, .ref m6])), (m1, .inl (cI, 7, .inl (st7 (nI (vday v)) (vcoal v) (vbar v) (vfine v) (vcrs v) (vcoin v) (vship v)))), (m2, .inl (cI, 6, .inl (vR v)))] := hD
                  refine lv_iinc (v := nI (i2 + 1)) (lv' := [(1, .int (nI (i2 + 1))), (0, .ref m0)]) hx hb dX4_dayOn_88 hl (k := 1) rfl (nI_1 i2) (by decide) rfl (fun ls hl => ?_)
                  refine lv_goto (tgt := 25) hx hb dX4_dayOn_91 (by decide) ?_
                  exact ih25 (i2 + 1) (by omega) (by omega) (upd pw1 i2 (mx 0 ((mn 400 ((vpw v i2) + ((vR v) ((vday v) % 6)))) - 3))) (by subst e_pw1; exact rowF_upd _ _ _ (by simp only [wth, eq_true c_1, eq_false c_1n, eq_false c_2, eq_true c_2n, eq_false c_4, eq_true c_4n, eq_true c_5, if_true, if_false])) _ _ (hP.sub [4, 5, 6, 0, 1, 2, 3] rfl) (hD.sub [4, 5, 6, 0, 1, 2, 3] (by decide) rfl) hS _ (lv_sub hl [1, 0] rfl)
        exact loop25 ((vnP v) + 1) 0 (Nat.zero_le _) (by omega) (vpw v) ((rowF_0 _ _).symm) _ _ (hP.sub [0, 1, 2, 3, 4, 5, 6] rfl) (hD.sub [0, 1, 2, 3, 4, 5, 6] (by decide) rfl) hS _ (lv_sub hl [1, 0] rfl)
      · skip
        have c_1n := Int32.not_le.mp c_1
        have c_1m := (nI_ltI (a := i1) (b := vnC v) (by omega) (by omega)).mp c_1n
        refine lv_aload_n hx hb dX4_dayOn_10 rfl (lv_at hl 0 rfl) ?_
        refine lv_iconst (v := 4) hx hb dX4_dayOn_11 (by decide) ?_
        refine lv_iload_n hx hb dX4_dayOn_12 rfl (lv_at hl 1 rfl) ?_
        refine lv_imul hx hb dX4_dayOn_13 ?_
        refine t_i (nI (4 * i1)) (pk_mul 4 i1) ?_
        refine k_v (wr := [(m3, .inl (cI, 7, .inl (vS v))), (m5, .inl (cI, 8, .inl (ho2 (vpw v) (vpa v)))), (m6, .inl (cI, 9, .inl (ke3 (vkw v) (vka v) (vkb v))))]) (rV (As := [.int (nI (4 * i1))]) (rest := []) F hG hK (hP.sub (ws' := [(m0, .inr (4, [.int th, .int (nI (vnC v)), .int (nI (vnP v)), .int (nI (vnK v)), .ref m1, .ref m2, .ref m3, .ref m4, .ref m5, .ref m6])), (m1, .inl (cI, 7, .inl (st7 (nI (vday v)) (vcoal v) (vbar v) (vfine v) (vcrs v) (vcoin v) (vship v)))), (m2, .inl (cI, 6, .inl (vR v))), (m4, .inl (cI, 16, .inl (hp4 sh1 co1 bu1 fl1)))]) [0, 1, 2, 4] rfl) ((hD.sub (ws' := [(m0, .inr (4, [.int th, .int (nI (vnC v)), .int (nI (vnP v)), .int (nI (vnK v)), .ref m1, .ref m2, .ref m3, .ref m4, .ref m5, .ref m6])), (m1, .inl (cI, 7, .inl (st7 (nI (vday v)) (vcoal v) (vbar v) (vfine v) (vcrs v) (vcoin v) (vship v)))), (m2, .inl (cI, 6, .inl (vR v))), (m4, .inl (cI, 16, .inl (hp4 sh1 co1 bu1 fl1)))]) [0, 1, 2, 4] (by decide) rfl).weaken (fun _ _ _ _ => trivial)) s_RX4_97 (c_X4_burn l D cI cZ cJ m0 m1 m2 m3 m4 m5 m6 (vnC v) (vnP v) (vnK v) th (vday v) (vcoal v) (vbar v) (vfine v) (vcrs v) (vcoin v) (vship v) (vR v) sh1 co1 bu1 fl1 i1 (by first | assumption | omega) (by first | assumption | omega) (z_le.mpr (by rw [e_sh1, rowF_at _ _ _ (Nat.le_refl _)]; exact (hN.1 _).1)) (by rw [e_fl1, rowF_at _ _ _ (Nat.le_refl _)]; exact hf1 _) _) 4 0 rfl rfl rfl rfl hl.1 rfl (Nat.le_of_ble_eq_true rfl) dX4_dayOn_14 ⟨(Nat.le_of_ble_eq_true rfl), (Nat.le_of_ble_eq_true rfl)⟩ ⟨(Nat.le_of_ble_eq_true rfl), (Nat.le_of_ble_eq_true rfl)⟩) hP hD hS hA [0, 1, 2, 4] [3, 5, 6] rfl rfl (by decide) (by decide) (fun uu H locs hw hP hD hS => ?_)
        obtain ⟨sh1_14, co1_14, bu1_14, fl1_14⟩ := uu
        try dsimp only at hw
        obtain ⟨rfl, rfl, rfl, rfl⟩ := hw
        have hP : va_P D vwCl [(m3, .inl (cI, 7, .inl (vS v))), (m5, .inl (cI, 8, .inl (ho2 (vpw v) (vpa v)))), (m6, .inl (cI, 9, .inl (ke3 (vkw v) (vka v) (vkb v)))), (m0, .inr (4, [.int th, .int (nI (vnC v)), .int (nI (vnP v)), .int (nI (vnK v)), .ref m1, .ref m2, .ref m3, .ref m4, .ref m5, .ref m6])), (m1, .inl (cI, 7, .inl (st7 (nI (vday v)) (vcoal v) (vbar v) (vfine v) (vcrs v) (vcoin v) (vship v)))), (m2, .inl (cI, 6, .inl (vR v))), (m4, .inl (cI, 16, .inl (hp4 (upd sh1 i1 (fSh ((vR v) ((vday v) % 6)) sh1 fl1 i1)) (upd co1 i1 (fCo co1 fl1 i1)) (upd bu1 i1 (fBu ((vR v) ((vday v) % 6)) sh1 bu1 fl1 i1)) (upd fl1 i1 (fFl ((vR v) ((vday v) % 6)) sh1 co1 fl1 i1)))))] _ := hP
        have hD : va_D A [(m3, .inl (cI, 7, .inl (vS v))), (m5, .inl (cI, 8, .inl (ho2 (vpw v) (vpa v)))), (m6, .inl (cI, 9, .inl (ke3 (vkw v) (vka v) (vkb v)))), (m0, .inr (4, [.int th, .int (nI (vnC v)), .int (nI (vnP v)), .int (nI (vnK v)), .ref m1, .ref m2, .ref m3, .ref m4, .ref m5, .ref m6])), (m1, .inl (cI, 7, .inl (st7 (nI (vday v)) (vcoal v) (vbar v) (vfine v) (vcrs v) (vcoin v) (vship v)))), (m2, .inl (cI, 6, .inl (vR v))), (m4, .inl (cI, 16, .inl (hp4 (upd sh1 i1 (fSh ((vR v) ((vday v) % 6)) sh1 fl1 i1)) (upd co1 i1 (fCo co1 fl1 i1)) (upd bu1 i1 (fBu ((vR v) ((vday v) % 6)) sh1 bu1 fl1 i1)) (upd fl1 i1 (fFl ((vR v) ((vday v) % 6)) sh1 co1 fl1 i1)))))] := hD
        refine lv_iinc (v := nI (i1 + 1)) (lv' := [(1, .int (nI (i1 + 1))), (0, .ref m0)]) hx hb dX4_dayOn_17 hl (k := 1) rfl (nI_1 i1) (by decide) rfl (fun ls hl => ?_)
        refine lv_goto (tgt := 2) hx hb dX4_dayOn_20 (by decide) ?_
        exact ih2 (i1 + 1) (by omega) (by omega) (upd sh1 i1 (fSh ((vR v) ((vday v) % 6)) sh1 fl1 i1)) (upd co1 i1 (fCo co1 fl1 i1)) (upd bu1 i1 (fBu ((vR v) ((vday v) % 6)) sh1 bu1 fl1 i1)) (upd fl1 i1 (fFl ((vR v) ((vday v) % 6)) sh1 co1 fl1 i1)) (by subst e_sh1 e_co1 e_bu1 e_fl1; exact rowF_upd _ _ _ (by simp only [fSh, fCo, fBu, fFl, rowF_at _ _ _ (Nat.le_refl _)])) (by subst e_sh1 e_co1 e_bu1 e_fl1; exact rowF_upd _ _ _ (by simp only [fSh, fCo, fBu, fFl, rowF_at _ _ _ (Nat.le_refl _)])) (by subst e_sh1 e_co1 e_bu1 e_fl1; exact rowF_upd _ _ _ (by simp only [fSh, fCo, fBu, fFl, rowF_at _ _ _ (Nat.le_refl _)])) (by subst e_sh1 e_co1 e_bu1 e_fl1; exact rowF_upd _ _ _ (by simp only [fSh, fCo, fBu, fFl, rowF_at _ _ _ (Nat.le_refl _)])) _ _ (hP.sub [3, 4, 5, 0, 6, 1, 2] rfl) (hD.sub [3, 4, 5, 0, 6, 1, 2] (by decide) rfl) hS _ (lv_sub hl [1, 0] rfl)
  exact loop2 ((vnC v) + 1) 0 (Nat.zero_le _) (by omega) (vsh v) (vco v) (vbu v) (vfl v) ((rowF_0 _ _).symm) ((rowF_0 _ _).symm) ((rowF_0 _ _).symm) ((rowF_0 _ _).symm) _ _ (hP.sub [0, 1, 2, 3, 4, 5, 6] rfl) (hD.sub [0, 1, 2, 3, 4, 5, 6] (by decide) rfl) hS _ (lv_sub hl [1, 0] rfl)

def rm_X4_daysOn : Room := { frames := 3, cells := 0, slots := 0, locals := 66 }
set_option maxHeartbeats 4000000 in
set_option maxRecDepth 100000 in
theorem c_X4_daysOn (l : Launch) (D : va_G) (cI cZ cJ : ClassId) (m0 m1 m2 m3 m4 m5 m6 : Nat) (th : Int32) (v : VT) (n : Nat) (hC4 : vnC v ≤ 4) (hP4 : vnP v ≤ 4) (hK3 : vnK v ≤ 3) (hf1 : ∀ j, vfl v j = 0 ∨ vfl v j = 1) (hN : NN v) (hdn : vday v + n < 2147483647) : Mv l yX4_daysOn cX4_daysOn 3 rm_X4_daysOn D (TY cI cZ cJ) [.ref m0, .int (nI n)] [(m0, .inr (4, [.int th, .int (nI (vnC v)), .int (nI (vnP v)), .int (nI (vnK v)), .ref m1, .ref m2, .ref m3, .ref m4, .ref m5, .ref m6])), (m1, .inl (cI, 7, .inl (st7 (nI (vday v)) (vcoal v) (vbar v) (vfine v) (vcrs v) (vcoin v) (vship v)))), (m2, .inl (cI, 6, .inl (vR v))), (m3, .inl (cI, 7, .inl (vS v))), (m4, .inl (cI, 16, .inl (hp4 (vsh v) (vco v) (vbu v) (vfl v)))), (m5, .inl (cI, 8, .inl (ho2 (vpw v) (vpa v)))), (m6, .inl (cI, 9, .inl (ke3 (vkw v) (vka v) (vkb v))))] (fun (u : VT) => u = dIt n v) (fun (u : VT) => [(m0, .inr (4, [.int th, .int (nI (vnC u)), .int (nI (vnP u)), .int (nI (vnK u)), .ref m1, .ref m2, .ref m3, .ref m4, .ref m5, .ref m6])), (m1, .inl (cI, 7, .inl (st7 (nI (vday u)) (vcoal u) (vbar u) (vfine u) (vcrs u) (vcoin u) (vship u)))), (m2, .inl (cI, 6, .inl (vR u))), (m3, .inl (cI, 7, .inl (vS u))), (m4, .inl (cI, 16, .inl (hp4 (vsh u) (vco u) (vbu u) (vfl u)))), (m5, .inl (cI, 8, .inl (ho2 (vpw u) (vpa u)))), (m6, .inl (cI, 9, .inl (ke3 (vkw u) (vka u) (vkb u))))]) := by
  refine Mv.ofQ (by decide) (Nat.le_of_ble_eq_true rfl) ?_
  intro p e s m args below meth c A ls Q hF hK hP hD hA hl hend hin
  obtain ⟨F, hr, hlocks, hG⟩ := hF
  have hx := F.1
  have hb := F.2.1
  have hown := F.2.2.2.1
  have ht := F.2.2.2.2
  have hS : va_S A s.heap s.heap [] := va_S.rf
  have hl : lv_has ls 3 [(0, .ref m0), (1, .int (nI n))] := hl
  refine lv_iconst (v := 0) hx hb dX4_daysOn_0 (by decide) ?_
  refine lv_istore_n (lv' := [(2, .int 0), (0, .ref m0), (1, .int (nI n))]) hx hb dX4_daysOn_1 rfl hl (by decide) rfl (fun ls hl => ?_)
  have loop2 : ∀ (kf2 i : Nat), i ≤ n → n < i + kf2 → ∀ (u : VT), u = dIt i v → ∀ (H : Heap) (locs : List Loc), va_P D vwCl [(m0, .inr (4, [.int th, .int (nI (vnC u)), .int (nI (vnP u)), .int (nI (vnK u)), .ref m1, .ref m2, .ref m3, .ref m4, .ref m5, .ref m6])), (m1, .inl (cI, 7, .inl (st7 (nI (vday u)) (vcoal u) (vbar u) (vfine u) (vcrs u) (vcoin u) (vship u)))), (m2, .inl (cI, 6, .inl (vR u))), (m3, .inl (cI, 7, .inl (vS u))), (m4, .inl (cI, 16, .inl (hp4 (vsh u) (vco u) (vbu u) (vfl u)))), (m5, .inl (cI, 8, .inl (ho2 (vpw u) (vpa u)))), (m6, .inl (cI, 9, .inl (ke3 (vkw u) (vka u) (vkb u))))] H → va_D A [(m0, .inr (4, [.int th, .int (nI (vnC u)), .int (nI (vnP u)), .int (nI (vnK u)), .ref m1, .ref m2, .ref m3, .ref m4, .ref m5, .ref m6])), (m1, .inl (cI, 7, .inl (st7 (nI (vday u)) (vcoal u) (vbar u) (vfine u) (vcrs u) (vcoin u) (vship u)))), (m2, .inl (cI, 6, .inl (vR u))), (m3, .inl (cI, 7, .inl (vS u))), (m4, .inl (cI, 16, .inl (hp4 (vsh u) (vco u) (vbu u) (vfl u)))), (m5, .inl (cI, 8, .inl (ho2 (vpw u) (vpa u)))), (m6, .inl (cI, 9, .inl (ke3 (vkw u) (vka u) (vkb u))))] → va_S A s.heap H locs → ∀ (ls : Array Slot), lv_has ls 3 [(0, .ref m0), (1, .int (nI n)), (2, .int (nI i))] → W p l e rm_X4_daysOn s m args below meth c H locs 0 0 Q (F0 m 2 ls []) := by
    intro kf2
    induction kf2 with
    | zero =>
      intro i hle2 hlt2
      exact absurd hlt2 (by omega)
    | succ kf2 ih2 =>
      intro i hle2 hlt2 u e_u H locs hP hD hS ls hl
      have ed : vday u = vday v + i := by rw [e_u, vday_dIt]
      have eC : vnC u = vnC v := by rw [e_u, vnC_dIt]
      have eP : vnP u = vnP v := by rw [e_u, vnP_dIt]
      have eK : vnK u = vnK v := by rw [e_u, vnK_dIt]
      have hfu : ∀ j, vfl u j = 0 ∨ vfl u j = 1 := by rw [e_u]; exact fl_dIt hf1 i
      have hNu : NN u := by rw [e_u]; exact NN_dIt hN i
      refine lv_iload_n hx hb dX4_daysOn_2 rfl (lv_at hl 2 rfl) ?_
      refine lv_iload_n hx hb dX4_daysOn_3 rfl (lv_at hl 1 rfl) ?_
      refine lv_icmp_ge (tgt := 17) hx hb dX4_daysOn_4 (by decide) (fun c_1 => ?_) (fun c_1 => ?_)
      · skip
        have c_1n := Int32.not_lt.mpr c_1
        have c_1m := (nI_leI (a := n) (b := i) (by omega) (by omega)).mp c_1
        exact hend _ _ _ _ _ _ u dX4_daysOn_17 (by rw [e_u, show i = n by omega]) hP hD hS (Nat.le_of_ble_eq_true rfl) (Nat.le_of_ble_eq_true rfl)
      · skip
        have c_1n := Int32.not_le.mp c_1
        have c_1m := (nI_ltI (a := i) (b := n) (by omega) (by omega)).mp c_1n
        refine lv_aload_n hx hb dX4_daysOn_7 rfl (lv_at hl 0 rfl) ?_
        refine k_v (wr := []) (rV (As := []) (rest := []) F hG hK (hP.sub (ws' := [(m0, .inr (4, [.int th, .int (nI (vnC u)), .int (nI (vnP u)), .int (nI (vnK u)), .ref m1, .ref m2, .ref m3, .ref m4, .ref m5, .ref m6])), (m1, .inl (cI, 7, .inl (st7 (nI (vday u)) (vcoal u) (vbar u) (vfine u) (vcrs u) (vcoin u) (vship u)))), (m2, .inl (cI, 6, .inl (vR u))), (m3, .inl (cI, 7, .inl (vS u))), (m4, .inl (cI, 16, .inl (hp4 (vsh u) (vco u) (vbu u) (vfl u)))), (m5, .inl (cI, 8, .inl (ho2 (vpw u) (vpa u)))), (m6, .inl (cI, 9, .inl (ke3 (vkw u) (vka u) (vkb u))))]) [0, 1, 2, 3, 4, 5, 6] rfl) ((hD.sub (ws' := [(m0, .inr (4, [.int th, .int (nI (vnC u)), .int (nI (vnP u)), .int (nI (vnK u)), .ref m1, .ref m2, .ref m3, .ref m4, .ref m5, .ref m6])), (m1, .inl (cI, 7, .inl (st7 (nI (vday u)) (vcoal u) (vbar u) (vfine u) (vcrs u) (vcoin u) (vship u)))), (m2, .inl (cI, 6, .inl (vR u))), (m3, .inl (cI, 7, .inl (vS u))), (m4, .inl (cI, 16, .inl (hp4 (vsh u) (vco u) (vbu u) (vfl u)))), (m5, .inl (cI, 8, .inl (ho2 (vpw u) (vpa u)))), (m6, .inl (cI, 9, .inl (ke3 (vkw u) (vka u) (vkb u))))]) [0, 1, 2, 3, 4, 5, 6] (by decide) rfl).weaken (fun _ _ _ _ => trivial)) s_RX4_104 (c_X4_dayOn l D cI cZ cJ m0 m1 m2 m3 m4 m5 m6 th u (by first | assumption | omega) (by first | assumption | omega) (by first | assumption | omega) hfu hNu (by first | assumption | omega) _) 4 0 rfl rfl rfl rfl hl.1 rfl (Nat.le_of_ble_eq_true rfl) dX4_daysOn_8 ⟨(Nat.le_of_ble_eq_true rfl), (Nat.le_of_ble_eq_true rfl)⟩ ⟨(Nat.le_of_ble_eq_true rfl), (Nat.le_of_ble_eq_true rfl)⟩) hP hD hS hA [0, 1, 2, 3, 4, 5, 6] [] rfl rfl (by decide) (by decide) (fun uu H locs hw hP hD hS => ?_)
        obtain ⟨u_8, rfl⟩ : ∃ z, z = uu := ⟨_, rfl⟩
        try dsimp only at hw
        subst hw
        have hP : va_P D vwCl [(m0, .inr (4, [.int th, .int (nI (vnC (dayV u))), .int (nI (vnP (dayV u))), .int (nI (vnK (dayV u))), .ref m1, .ref m2, .ref m3, .ref m4, .ref m5, .ref m6])), (m1, .inl (cI, 7, .inl (st7 (nI (vday (dayV u))) (vcoal (dayV u)) (vbar (dayV u)) (vfine (dayV u)) (vcrs (dayV u)) (vcoin (dayV u)) (vship (dayV u))))), (m2, .inl (cI, 6, .inl (vR (dayV u)))), (m3, .inl (cI, 7, .inl (vS (dayV u)))), (m4, .inl (cI, 16, .inl (hp4 (vsh (dayV u)) (vco (dayV u)) (vbu (dayV u)) (vfl (dayV u))))), (m5, .inl (cI, 8, .inl (ho2 (vpw (dayV u)) (vpa (dayV u))))), (m6, .inl (cI, 9, .inl (ke3 (vkw (dayV u)) (vka (dayV u)) (vkb (dayV u)))))] _ := hP
        have hD : va_D A [(m0, .inr (4, [.int th, .int (nI (vnC (dayV u))), .int (nI (vnP (dayV u))), .int (nI (vnK (dayV u))), .ref m1, .ref m2, .ref m3, .ref m4, .ref m5, .ref m6])), (m1, .inl (cI, 7, .inl (st7 (nI (vday (dayV u))) (vcoal (dayV u)) (vbar (dayV u)) (vfine (dayV u)) (vcrs (dayV u)) (vcoin (dayV u)) (vship (dayV u))))), (m2, .inl (cI, 6, .inl (vR (dayV u)))), (m3, .inl (cI, 7, .inl (vS (dayV u)))), (m4, .inl (cI, 16, .inl (hp4 (vsh (dayV u)) (vco (dayV u)) (vbu (dayV u)) (vfl (dayV u))))), (m5, .inl (cI, 8, .inl (ho2 (vpw (dayV u)) (vpa (dayV u))))), (m6, .inl (cI, 9, .inl (ke3 (vkw (dayV u)) (vka (dayV u)) (vkb (dayV u)))))] := hD
        refine lv_iinc (v := nI (i + 1)) (lv' := [(2, .int (nI (i + 1))), (0, .ref m0), (1, .int (nI n))]) hx hb dX4_daysOn_11 hl (k := 2) rfl (nI_1 i) (by decide) rfl (fun ls hl => ?_)
        refine lv_goto (tgt := 2) hx hb dX4_daysOn_14 (by decide) ?_
        exact ih2 (i + 1) (by omega) (by omega) (dayV u) (by rw [e_u]; rfl) _ _ (hP.sub [0, 1, 2, 3, 4, 5, 6] rfl) (hD.sub [0, 1, 2, 3, 4, 5, 6] (by decide) rfl) hS _ (lv_sub hl [1, 2, 0] rfl)
  exact loop2 (n + 1) 0 (Nat.zero_le _) (by omega) v rfl _ _ (hP.sub [0, 1, 2, 3, 4, 5, 6] rfl) (hD.sub [0, 1, 2, 3, 4, 5, 6] (by decide) rfl) hS _ (lv_sub hl [1, 2, 0] rfl)

def rm_X4_pass : Room := { frames := 4, cells := 0, slots := 0, locals := 88 }
set_option maxHeartbeats 4000000 in
set_option maxRecDepth 100000 in
theorem c_X4_pass (l : Launch) (D : va_G) (cI cZ cJ : ClassId) (m0 m1 m2 m3 m4 m5 m6 : Nat) (th : Int32) (v : VT) (y1 : Int32) (hI : IS v) (hN : NN v) : Mi l yX4_pass cX4_pass 3 (some .int) rm_X4_pass D (TY cI cZ cJ) [.ref m0, .int y1] [(m0, .inr (4, [.int th, .int (nI (vnC v)), .int (nI (vnP v)), .int (nI (vnK v)), .ref m1, .ref m2, .ref m3, .ref m4, .ref m5, .ref m6])), (m1, .inl (cI, 7, .inl (st7 (nI (vday v)) (vcoal v) (vbar v) (vfine v) (vcrs v) (vcoin v) (vship v)))), (m2, .inl (cI, 6, .inl (vR v))), (m3, .inl (cI, 7, .inl (vS v))), (m4, .inl (cI, 16, .inl (hp4 (vsh v) (vco v) (vbu v) (vfl v)))), (m5, .inl (cI, 8, .inl (ho2 (vpw v) (vpa v)))), (m6, .inl (cI, 9, .inl (ke3 (vkw v) (vka v) (vkb v))))] (fun (r : Int32) (u : Int32 × VT) => r = (if kPass v y1 = 0 then rPass v y1 else 0) ∧ u.1 = kPass v y1 ∧ u.2 = nPass v y1) (fun (u : Int32 × VT) => [(m0, .inr (4, [.int u.1, .int (nI (vnC u.2)), .int (nI (vnP u.2)), .int (nI (vnK u.2)), .ref m1, .ref m2, .ref m3, .ref m4, .ref m5, .ref m6])), (m1, .inl (cI, 7, .inl (st7 (nI (vday u.2)) (vcoal u.2) (vbar u.2) (vfine u.2) (vcrs u.2) (vcoin u.2) (vship u.2)))), (m2, .inl (cI, 6, .inl (vR u.2))), (m3, .inl (cI, 7, .inl (vS u.2))), (m4, .inl (cI, 16, .inl (hp4 (vsh u.2) (vco u.2) (vbu u.2) (vfl u.2)))), (m5, .inl (cI, 8, .inl (ho2 (vpw u.2) (vpa u.2)))), (m6, .inl (cI, 9, .inl (ke3 (vkw u.2) (vka u.2) (vkb u.2))))]) := by
  refine Mi.ofQ (by decide) (Nat.le_of_ble_eq_true rfl) ?_
  intro p e s m args below meth c A ls Q hF hK hP hD hA hl hend
  obtain ⟨F, hr, hlocks, hG⟩ := hF
  have hx := F.1
  have hb := F.2.1
  have hown := F.2.2.2.1
  have ht := F.2.2.2.2
  have hS : va_S A s.heap s.heap [] := va_S.rf
  have hl : lv_has ls 3 [(0, .ref m0), (1, .int y1)] := hl
  obtain ⟨hC4, hP4, hK3, hAH, hf1, hf2, hf3, hdy⟩ := hI
  refine lv_aload_n hx hb dX4_pass_0 rfl (lv_at hl 0 rfl) ?_
  refine lv_iconst (v := 0) hx hb dX4_pass_1 (by decide) ?_
  refine va_put (D := D) (ci := 4) (v := .int 0) (C := RX4) (T := TX4) (N := 10) hx hb ht inG_X4 tyX4 tyX4_ok nmX4 hown hK hP hD hS 0 rfl rfl 0 (by decide) (ht _ qF_RX4_28) (fun _ h9 => h9) rfl (tyX4_ok 0 (by decide)) rfl rfl (Nat.le_of_ble_eq_true rfl) dX4_pass_2 (fun H locs hP hD hS => ?_)
  have hP : va_P D vwCl [(m0, .inr (4, [.int 0, .int (nI (vnC v)), .int (nI (vnP v)), .int (nI (vnK v)), .ref m1, .ref m2, .ref m3, .ref m4, .ref m5, .ref m6])), (m1, .inl (cI, 7, .inl (st7 (nI (vday v)) (vcoal v) (vbar v) (vfine v) (vcrs v) (vcoin v) (vship v)))), (m2, .inl (cI, 6, .inl (vR v))), (m3, .inl (cI, 7, .inl (vS v))), (m4, .inl (cI, 16, .inl (hp4 (vsh v) (vco v) (vbu v) (vfl v)))), (m5, .inl (cI, 8, .inl (ho2 (vpw v) (vpa v)))), (m6, .inl (cI, 9, .inl (ke3 (vkw v) (vka v) (vkb v))))] _ := hP
  have hD : va_D A [(m0, .inr (4, [.int 0, .int (nI (vnC v)), .int (nI (vnP v)), .int (nI (vnK v)), .ref m1, .ref m2, .ref m3, .ref m4, .ref m5, .ref m6])), (m1, .inl (cI, 7, .inl (st7 (nI (vday v)) (vcoal v) (vbar v) (vfine v) (vcrs v) (vcoin v) (vship v)))), (m2, .inl (cI, 6, .inl (vR v))), (m3, .inl (cI, 7, .inl (vS v))), (m4, .inl (cI, 16, .inl (hp4 (vsh v) (vco v) (vbu v) (vfl v)))), (m5, .inl (cI, 8, .inl (ho2 (vpw v) (vpa v)))), (m6, .inl (cI, 9, .inl (ke3 (vkw v) (vka v) (vkb v))))] := hD
  refine lv_iload_n hx hb dX4_pass_5 rfl (lv_at hl 1 rfl) ?_
  refine lv_iconst (v := 1) hx hb dX4_pass_6 (by decide) ?_
  refine lv_bipush (v := 60) hx hb dX4_pass_7 (by decide) ?_
  refine k_i (wr := [(m0, .inr (4, [.int 0, .int (nI (vnC v)), .int (nI (vnP v)), .int (nI (vnK v)), .ref m1, .ref m2, .ref m3, .ref m4, .ref m5, .ref m6])), (m1, .inl (cI, 7, .inl (st7 (nI (vday v)) (vcoal v) (vbar v) (vfine v) (vcrs v) (vcoin v) (vship v)))), (m2, .inl (cI, 6, .inl (vR v))), (m3, .inl (cI, 7, .inl (vS v))), (m4, .inl (cI, 16, .inl (hp4 (vsh v) (vco v) (vbu v) (vfl v)))), (m5, .inl (cI, 8, .inl (ho2 (vpw v) (vpa v)))), (m6, .inl (cI, 9, .inl (ke3 (vkw v) (vka v) (vkb v))))]) (rS (As := [.int y1, .int 1, .int 60]) (rest := []) F hG hK (hP.sub (ws' := []) [] rfl) ((hD.sub (ws' := []) [] (by decide) rfl).weaken (fun _ _ _ _ => trivial)) s_RX4_35 (c_X4_isIn l D cI cZ cJ y1 1 60 _) rfl hl.1 rfl (Nat.le_of_ble_eq_true rfl) dX4_pass_9 ⟨(Nat.le_of_ble_eq_true rfl), (Nat.le_of_ble_eq_true rfl)⟩ ⟨(Nat.le_of_ble_eq_true rfl), (Nat.le_of_ble_eq_true rfl)⟩) hP hD hS hA [] [0, 1, 2, 3, 4, 5, 6] rfl rfl (by decide) (by decide) (fun r_9 uu H locs hw hP hD hS => ?_)
  try dsimp only at hw
  have hP : va_P D vwCl [(m0, .inr (4, [.int 0, .int (nI (vnC v)), .int (nI (vnP v)), .int (nI (vnK v)), .ref m1, .ref m2, .ref m3, .ref m4, .ref m5, .ref m6])), (m1, .inl (cI, 7, .inl (st7 (nI (vday v)) (vcoal v) (vbar v) (vfine v) (vcrs v) (vcoin v) (vship v)))), (m2, .inl (cI, 6, .inl (vR v))), (m3, .inl (cI, 7, .inl (vS v))), (m4, .inl (cI, 16, .inl (hp4 (vsh v) (vco v) (vbu v) (vfl v)))), (m5, .inl (cI, 8, .inl (ho2 (vpw v) (vpa v)))), (m6, .inl (cI, 9, .inl (ke3 (vkw v) (vka v) (vkb v))))] _ := hP
  have hD : va_D A [(m0, .inr (4, [.int 0, .int (nI (vnC v)), .int (nI (vnP v)), .int (nI (vnK v)), .ref m1, .ref m2, .ref m3, .ref m4, .ref m5, .ref m6])), (m1, .inl (cI, 7, .inl (st7 (nI (vday v)) (vcoal v) (vbar v) (vfine v) (vcrs v) (vcoin v) (vship v)))), (m2, .inl (cI, 6, .inl (vR v))), (m3, .inl (cI, 7, .inl (vS v))), (m4, .inl (cI, 16, .inl (hp4 (vsh v) (vco v) (vbu v) (vfl v)))), (m5, .inl (cI, 8, .inl (ho2 (vpw v) (vpa v)))), (m6, .inl (cI, 9, .inl (ke3 (vkw v) (vka v) (vkb v))))] := hD
  rcases hw with ⟨rfl, b_1⟩ | ⟨rfl, b_1⟩
  · skip
    obtain ⟨j_9, h1_9, hj_9, rfl⟩ := inP1 (n := 60) (by decide) b_1
    have ix_9 : ix (nI j_9) = j_9 := ix_nI (by omega)
    have hP : va_P D vwCl [(m0, .inr (4, [.int 0, .int (nI (vnC v)), .int (nI (vnP v)), .int (nI (vnK v)), .ref m1, .ref m2, .ref m3, .ref m4, .ref m5, .ref m6])), (m1, .inl (cI, 7, .inl (st7 (nI (vday v)) (vcoal v) (vbar v) (vfine v) (vcrs v) (vcoin v) (vship v)))), (m2, .inl (cI, 6, .inl (vR v))), (m3, .inl (cI, 7, .inl (vS v))), (m4, .inl (cI, 16, .inl (hp4 (vsh v) (vco v) (vbu v) (vfl v)))), (m5, .inl (cI, 8, .inl (ho2 (vpw v) (vpa v)))), (m6, .inl (cI, 9, .inl (ke3 (vkw v) (vka v) (vkb v))))] _ := hP
    have hD : va_D A [(m0, .inr (4, [.int 0, .int (nI (vnC v)), .int (nI (vnP v)), .int (nI (vnK v)), .ref m1, .ref m2, .ref m3, .ref m4, .ref m5, .ref m6])), (m1, .inl (cI, 7, .inl (st7 (nI (vday v)) (vcoal v) (vbar v) (vfine v) (vcrs v) (vcoin v) (vship v)))), (m2, .inl (cI, 6, .inl (vR v))), (m3, .inl (cI, 7, .inl (vS v))), (m4, .inl (cI, 16, .inl (hp4 (vsh v) (vco v) (vbu v) (vfl v)))), (m5, .inl (cI, 8, .inl (ho2 (vpw v) (vpa v)))), (m6, .inl (cI, 9, .inl (ke3 (vkw v) (vka v) (vkb v))))] := hD
    have hl : lv_has ls 3 [(0, .ref m0), (1, .int (nI j_9))] := hl
    refine lv_if_ne (tgt := 21) hx hb dX4_pass_12 (by decide) (fun _ => ?_) (fun h => absurd h (by decide))
    refine lv_aload_n hx hb dX4_pass_21 rfl (lv_at hl 0 rfl) ?_
    refine va_get (D := D) (ci := 4) (v := .ref m1) (C := RX4) (T := TX4) (N := 10) hx hb ht inG_X4 hown hK hP 0 rfl rfl 4 (by decide) (ht _ qF_RX4_7) (fun _ h9 => h9) rfl dX4_pass_22 ?_
    refine lv_iconst (v := 5) hx hb dX4_pass_25 (by decide) ?_
    refine aI hx hb hK hP 1 0 rfl rfl 5 (rfl) (by decide) (by decide) (v := vcoin v) (rfl) dX4_pass_26 ?_
    refine lv_istore_n (lv' := [(2, .int (vcoin v)), (0, .ref m0), (1, .int (nI j_9))]) hx hb dX4_pass_27 rfl hl (by decide) rfl (fun ls hl => ?_)
    refine lv_aload_n hx hb dX4_pass_28 rfl (lv_at hl 1 rfl) ?_
    refine lv_iload_n hx hb dX4_pass_29 rfl (lv_at hl 2 rfl) ?_
    refine k_v (wr := []) (rV (As := [.int (nI j_9)]) (rest := []) F hG hK (hP.sub (ws' := [(m0, .inr (4, [.int 0, .int (nI (vnC v)), .int (nI (vnP v)), .int (nI (vnK v)), .ref m1, .ref m2, .ref m3, .ref m4, .ref m5, .ref m6])), (m1, .inl (cI, 7, .inl (st7 (nI (vday v)) (vcoal v) (vbar v) (vfine v) (vcrs v) (vcoin v) (vship v)))), (m2, .inl (cI, 6, .inl (vR v))), (m3, .inl (cI, 7, .inl (vS v))), (m4, .inl (cI, 16, .inl (hp4 (vsh v) (vco v) (vbu v) (vfl v)))), (m5, .inl (cI, 8, .inl (ho2 (vpw v) (vpa v)))), (m6, .inl (cI, 9, .inl (ke3 (vkw v) (vka v) (vkb v))))]) [0, 1, 2, 3, 4, 5, 6] rfl) ((hD.sub (ws' := [(m0, .inr (4, [.int 0, .int (nI (vnC v)), .int (nI (vnP v)), .int (nI (vnK v)), .ref m1, .ref m2, .ref m3, .ref m4, .ref m5, .ref m6])), (m1, .inl (cI, 7, .inl (st7 (nI (vday v)) (vcoal v) (vbar v) (vfine v) (vcrs v) (vcoin v) (vship v)))), (m2, .inl (cI, 6, .inl (vR v))), (m3, .inl (cI, 7, .inl (vS v))), (m4, .inl (cI, 16, .inl (hp4 (vsh v) (vco v) (vbu v) (vfl v)))), (m5, .inl (cI, 8, .inl (ho2 (vpw v) (vpa v)))), (m6, .inl (cI, 9, .inl (ke3 (vkw v) (vka v) (vkb v))))]) [0, 1, 2, 3, 4, 5, 6] (by decide) rfl).weaken (fun _ _ _ _ => trivial)) s_RX4_107 (c_X4_daysOn l D cI cZ cJ m0 m1 m2 m3 m4 m5 m6 0 v j_9 (by first | assumption | omega) (by first | assumption | omega) (by first | assumption | omega) (by first | assumption | omega) hN (by first | assumption | omega) _) 4 0 rfl rfl rfl rfl hl.1 rfl (Nat.le_of_ble_eq_true rfl) dX4_pass_30 ⟨(Nat.le_of_ble_eq_true rfl), (Nat.le_of_ble_eq_true rfl)⟩ ⟨(Nat.le_of_ble_eq_true rfl), (Nat.le_of_ble_eq_true rfl)⟩) hP hD hS hA [0, 1, 2, 3, 4, 5, 6] [] rfl rfl (by decide) (by decide) (fun uu H locs hw hP hD hS => ?_)
    obtain ⟨u_30, rfl⟩ : ∃ z, z = uu := ⟨_, rfl⟩
    try dsimp only at hw
    subst hw
    have hP : va_P D vwCl [(m0, .inr (4, [.int 0, .int (nI (vnC (dIt j_9 v))), .int (nI (vnP (dIt j_9 v))), .int (nI (vnK (dIt j_9 v))), .ref m1, .ref m2, .ref m3, .ref m4, .ref m5, .ref m6])), (m1, .inl (cI, 7, .inl (st7 (nI (vday (dIt j_9 v))) (vcoal (dIt j_9 v)) (vbar (dIt j_9 v)) (vfine (dIt j_9 v)) (vcrs (dIt j_9 v)) (vcoin (dIt j_9 v)) (vship (dIt j_9 v))))), (m2, .inl (cI, 6, .inl (vR (dIt j_9 v)))), (m3, .inl (cI, 7, .inl (vS (dIt j_9 v)))), (m4, .inl (cI, 16, .inl (hp4 (vsh (dIt j_9 v)) (vco (dIt j_9 v)) (vbu (dIt j_9 v)) (vfl (dIt j_9 v))))), (m5, .inl (cI, 8, .inl (ho2 (vpw (dIt j_9 v)) (vpa (dIt j_9 v))))), (m6, .inl (cI, 9, .inl (ke3 (vkw (dIt j_9 v)) (vka (dIt j_9 v)) (vkb (dIt j_9 v)))))] _ := hP
    have hD : va_D A [(m0, .inr (4, [.int 0, .int (nI (vnC (dIt j_9 v))), .int (nI (vnP (dIt j_9 v))), .int (nI (vnK (dIt j_9 v))), .ref m1, .ref m2, .ref m3, .ref m4, .ref m5, .ref m6])), (m1, .inl (cI, 7, .inl (st7 (nI (vday (dIt j_9 v))) (vcoal (dIt j_9 v)) (vbar (dIt j_9 v)) (vfine (dIt j_9 v)) (vcrs (dIt j_9 v)) (vcoin (dIt j_9 v)) (vship (dIt j_9 v))))), (m2, .inl (cI, 6, .inl (vR (dIt j_9 v)))), (m3, .inl (cI, 7, .inl (vS (dIt j_9 v)))), (m4, .inl (cI, 16, .inl (hp4 (vsh (dIt j_9 v)) (vco (dIt j_9 v)) (vbu (dIt j_9 v)) (vfl (dIt j_9 v))))), (m5, .inl (cI, 8, .inl (ho2 (vpw (dIt j_9 v)) (vpa (dIt j_9 v))))), (m6, .inl (cI, 9, .inl (ke3 (vkw (dIt j_9 v)) (vka (dIt j_9 v)) (vkb (dIt j_9 v)))))] := hD
    refine lv_aload_n hx hb dX4_pass_33 rfl (lv_at hl 1 rfl) ?_
    refine va_get (D := D) (ci := 4) (v := .ref m1) (C := RX4) (T := TX4) (N := 10) hx hb ht inG_X4 hown hK hP 0 rfl rfl 4 (by decide) (ht _ qF_RX4_7) (fun _ h9 => h9) rfl dX4_pass_34 ?_
    refine lv_iconst (v := 5) hx hb dX4_pass_37 (by decide) ?_
    refine aI hx hb hK hP 1 0 rfl rfl 5 (rfl) (by decide) (by decide) (v := vcoin (dIt j_9 v)) (rfl) dX4_pass_38 ?_
    refine lv_iload_n hx hb dX4_pass_39 rfl (lv_at hl 0 rfl) ?_
    refine lv_isub hx hb dX4_pass_40 ?_
    exact hend _ _ _ _ _ _ ((vcoin (dIt j_9 v)) - (vcoin v)) (0, dIt j_9 v) dX4_pass_41 (⟨by simp (decide := true) only [kPass, rPass, eq_true b_1, ix_9, if_true, if_false, eq_self], by simp (decide := true) only [kPass, eq_true b_1, ix_9, if_true, if_false, eq_self], by simp (decide := true) only [nPass, kPass, eq_true b_1, ix_9, if_true, if_false, eq_self]⟩) hP hD hS rfl (Nat.le_of_ble_eq_true rfl) (Nat.le_of_ble_eq_true rfl)
  · skip
    refine lv_if_ne (tgt := 21) hx hb dX4_pass_12 (by decide) (fun h => absurd (by decide) h) (fun _ => ?_)
    refine lv_aload_n hx hb dX4_pass_15 rfl (lv_at hl 0 rfl) ?_
    refine lv_iconst (v := 1) hx hb dX4_pass_16 (by decide) ?_
    refine k_i (wr := [(m1, .inl (cI, 7, .inl (st7 (nI (vday v)) (vcoal v) (vbar v) (vfine v) (vcrs v) (vcoin v) (vship v)))), (m2, .inl (cI, 6, .inl (vR v))), (m3, .inl (cI, 7, .inl (vS v))), (m4, .inl (cI, 16, .inl (hp4 (vsh v) (vco v) (vbu v) (vfl v)))), (m5, .inl (cI, 8, .inl (ho2 (vpw v) (vpa v)))), (m6, .inl (cI, 9, .inl (ke3 (vkw v) (vka v) (vkb v))))]) (rV (As := [.int 1]) (rest := []) F hG hK (hP.sub (ws' := [(m0, .inr (4, [.int 0, .int (nI (vnC v)), .int (nI (vnP v)), .int (nI (vnK v)), .ref m1, .ref m2, .ref m3, .ref m4, .ref m5, .ref m6]))]) [0] rfl) ((hD.sub (ws' := [(m0, .inr (4, [.int 0, .int (nI (vnC v)), .int (nI (vnP v)), .int (nI (vnK v)), .ref m1, .ref m2, .ref m3, .ref m4, .ref m5, .ref m6]))]) [0] (by decide) rfl).weaken (fun _ _ _ _ => trivial)) s_RX4_45 (c_X4_fail l D cI cZ cJ m0 m1 m2 m3 m4 m5 m6 (vnC v) (vnP v) (vnK v) 0 1 _) 4 0 rfl rfl rfl rfl hl.1 rfl (Nat.le_of_ble_eq_true rfl) dX4_pass_17 ⟨(Nat.le_of_ble_eq_true rfl), (Nat.le_of_ble_eq_true rfl)⟩ ⟨(Nat.le_of_ble_eq_true rfl), (Nat.le_of_ble_eq_true rfl)⟩) hP hD hS hA [0] [1, 2, 3, 4, 5, 6] rfl rfl (by decide) (by decide) (fun r_17 uu H locs hw hP hD hS => ?_)
    try dsimp only at hw
    subst hw
    have hP : va_P D vwCl [(m1, .inl (cI, 7, .inl (st7 (nI (vday v)) (vcoal v) (vbar v) (vfine v) (vcrs v) (vcoin v) (vship v)))), (m2, .inl (cI, 6, .inl (vR v))), (m3, .inl (cI, 7, .inl (vS v))), (m4, .inl (cI, 16, .inl (hp4 (vsh v) (vco v) (vbu v) (vfl v)))), (m5, .inl (cI, 8, .inl (ho2 (vpw v) (vpa v)))), (m6, .inl (cI, 9, .inl (ke3 (vkw v) (vka v) (vkb v)))), (m0, .inr (4, [.int 1, .int (nI (vnC v)), .int (nI (vnP v)), .int (nI (vnK v)), .ref m1, .ref m2, .ref m3, .ref m4, .ref m5, .ref m6]))] _ := hP
    have hD : va_D A [(m1, .inl (cI, 7, .inl (st7 (nI (vday v)) (vcoal v) (vbar v) (vfine v) (vcrs v) (vcoin v) (vship v)))), (m2, .inl (cI, 6, .inl (vR v))), (m3, .inl (cI, 7, .inl (vS v))), (m4, .inl (cI, 16, .inl (hp4 (vsh v) (vco v) (vbu v) (vfl v)))), (m5, .inl (cI, 8, .inl (ho2 (vpw v) (vpa v)))), (m6, .inl (cI, 9, .inl (ke3 (vkw v) (vka v) (vkb v)))), (m0, .inr (4, [.int 1, .int (nI (vnC v)), .int (nI (vnP v)), .int (nI (vnK v)), .ref m1, .ref m2, .ref m3, .ref m4, .ref m5, .ref m6]))] := hD
    exact hend _ _ _ _ _ _ 0 (1, v) dX4_pass_20 (⟨by simp (decide := true) only [kPass, rPass, eq_false b_1, if_true, if_false, eq_self], by simp (decide := true) only [kPass, eq_false b_1, if_true, if_false, eq_self], Eq.symm (show nPass v y1 = v by simp (decide := true) only [nPass, kPass, eq_false b_1, if_true, if_false, eq_self])⟩) (hP.sub [6, 0, 1, 2, 3, 4, 5] rfl) (hD.sub [6, 0, 1, 2, 3, 4, 5] (by decide) rfl) hS rfl (Nat.le_of_ble_eq_true rfl) (Nat.le_of_ble_eq_true rfl)
