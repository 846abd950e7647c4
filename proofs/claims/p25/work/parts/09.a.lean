theorem s_RX0_29 : sV RX0 29 RX0 yX0_burnOne cX0_burnOne 4 none 2 := sV.mk qM_RX0_29 qI_yX0_burnOne qV_yX0_burnOne qN_RX0 qC_yX0_burnOne ⟨rfl, by decide +kernel, by decide +kernel, by decide +kernel⟩
def rm_X3_within : Room := { frames := 0, cells := 0, slots := 0, locals := 0 }
set_option maxHeartbeats 4000000 in
set_option maxRecDepth 100000 in
theorem c_X3_within (l : Launch) (D : va_G) (cI cZ cJ : ClassId) (x y z : Int32)  : Mi l yX3_within cX3_within 3 (some .boolean) rm_X3_within D (TY cI cZ cJ) [.int x, .int y, .int z] [] (fun (r : Int32) (u : Unit) => (r = 1 ∧ y ≤ x ∧ x ≤ z) ∨ (r = 0 ∧ ¬ (y ≤ x ∧ x ≤ z))) (fun (u : Unit) => []) := by
  refine Mi.ofQ (by decide) (Nat.le_of_ble_eq_true rfl) ?_
  intro p e s m args below meth c A ls Q hF hK hP hD hA hl hend
  obtain ⟨F, hr, hlocks, hG⟩ := hF
  have hx := F.1
  have hb := F.2.1
  have hown := F.2.2.2.1
  have ht := F.2.2.2.2
  have hS : va_S A s.heap s.heap [] := va_S.rf
  have hl : lv_has ls 3 [(0, .int x), (1, .int y), (2, .int z)] := hl
  refine lv_iload_n hx hb dX3_within_0 rfl (lv_at hl 0 rfl) ?_
  refine lv_iload_n hx hb dX3_within_1 rfl (lv_at hl 1 rfl) ?_
  refine lv_icmp_lt (tgt := 14) hx hb dX3_within_2 (by decide) (fun c_1 => ?_) (fun c_1 => ?_)
  · skip
    have c_1n := Int32.not_le.mpr c_1
    refine lv_iconst (v := 0) hx hb dX3_within_14 (by decide) ?_
    exact hend _ _ _ _ _ _ 0 () dX3_within_15 (by simp [eq_true c_1, eq_false c_1n]) hP hD hS (by decide) (Nat.le_of_ble_eq_true rfl) (Nat.le_of_ble_eq_true rfl)
  · skip
    have c_1n := Int32.not_lt.mp c_1
    refine lv_iload_n hx hb dX3_within_5 rfl (lv_at hl 0 rfl) ?_
    refine lv_iload_n hx hb dX3_within_6 rfl (lv_at hl 2 rfl) ?_
    refine lv_icmp_gt (tgt := 14) hx hb dX3_within_7 (by decide) (fun c_2 => ?_) (fun c_2 => ?_)
    · skip
      have c_2n := Int32.not_le.mpr c_2
      refine lv_iconst (v := 0) hx hb dX3_within_14 (by decide) ?_
      exact hend _ _ _ _ _ _ 0 () dX3_within_15 (by simp [eq_false c_1, eq_true c_1n, eq_true c_2, eq_false c_2n]) hP hD hS (by decide) (Nat.le_of_ble_eq_true rfl) (Nat.le_of_ble_eq_true rfl)
    · skip
      have c_2n := Int32.not_lt.mp c_2
      refine lv_iconst (v := 1) hx hb dX3_within_10 (by decide) ?_
      refine lv_goto (tgt := 15) hx hb dX3_within_11 (by decide) ?_
      exact hend _ _ _ _ _ _ 1 () dX3_within_15 (by simp [eq_false c_1, eq_true c_1n, eq_false c_2, eq_true c_2n]) hP hD hS (by decide) (Nat.le_of_ble_eq_true rfl) (Nat.le_of_ble_eq_true rfl)

def rm_X3_strengthOf : Room := { frames := 0, cells := 0, slots := 0, locals := 0 }
set_option maxHeartbeats 4000000 in
set_option maxRecDepth 100000 in
theorem c_X3_strengthOf (l : Launch) (D : va_G) (cI cZ cJ : ClassId) (w a : Int32)  : Mi l yX3_strengthOf cX3_strengthOf 3 (some .int) rm_X3_strengthOf D (TY cI cZ cJ) [.int w, .int a] [] (fun (r : Int32) (u : Unit) => r = strg w a) (fun (u : Unit) => []) := by
  refine Mi.ofQ (by decide) (Nat.le_of_ble_eq_true rfl) ?_
  intro p e s m args below meth c A ls Q hF hK hP hD hA hl hend
  obtain ⟨F, hr, hlocks, hG⟩ := hF
  have hx := F.1
  have hb := F.2.1
  have hown := F.2.2.2.1
  have ht := F.2.2.2.2
  have hS : va_S A s.heap s.heap [] := va_S.rf
  have hl : lv_has ls 3 [(0, .int w), (1, .int a)] := hl
  refine lv_iload_n hx hb dX3_strengthOf_0 rfl (lv_at hl 0 rfl) ?_
  refine lv_iload_n hx hb dX3_strengthOf_1 rfl (lv_at hl 1 rfl) ?_
  refine lv_iadd hx hb dX3_strengthOf_2 ?_
  refine lv_istore_n (lv' := [(2, .int (w + a)), (0, .int w), (1, .int a)]) hx hb dX3_strengthOf_3 rfl hl (by decide) rfl (fun ls hl => ?_)
  refine lv_iload_n hx hb dX3_strengthOf_4 rfl (lv_at hl 0 rfl) ?_
  refine lv_if_gt (tgt := 12) hx hb dX3_strengthOf_5 (by decide) (fun c_1 => ?_) (fun c_1 => ?_)
  · skip
    have c_1n := Int32.not_le.mpr c_1
    refine lv_bipush (v := 100) hx hb dX3_strengthOf_12 (by decide) ?_
    refine lv_iload_n hx hb dX3_strengthOf_14 rfl (lv_at hl 2 rfl) ?_
    refine lv_imul hx hb dX3_strengthOf_15 ?_
    refine lv_iload_n hx hb dX3_strengthOf_16 rfl (lv_at hl 0 rfl) ?_
    refine lv_idiv hx hb dX3_strengthOf_17 (by intro q; rw [q] at c_1; exact absurd c_1 (by decide)) ?_
    exact hend _ _ _ _ _ _ ((100 * a) / (w + a)) () dX3_strengthOf_18 (by simp only [strg, eq_true c_1, eq_false c_1n, if_true, if_false]) hP hD hS rfl (Nat.le_of_ble_eq_true rfl) (Nat.le_of_ble_eq_true rfl)
  · skip
    have c_1n := Int32.not_lt.mp c_1
    refine lv_iconst (v := 0) hx hb dX3_strengthOf_8 (by decide) ?_
    refine lv_goto (tgt := 18) hx hb dX3_strengthOf_9 (by decide) ?_
    exact hend _ _ _ _ _ _ 0 () dX3_strengthOf_18 (by simp only [strg, eq_false c_1, eq_true c_1n, if_true, if_false]) hP hD hS rfl (Nat.le_of_ble_eq_true rfl) (Nat.le_of_ble_eq_true rfl)

def rm_X3_eggBy : Room := { frames := 0, cells := 0, slots := 0, locals := 0 }
set_option maxHeartbeats 4000000 in
set_option maxRecDepth 100000 in
theorem c_X3_eggBy (l : Launch) (D : va_G) (cI cZ cJ : ClassId) (x : Int32)  : Mi l yX3_eggBy cX3_eggBy 1 (some .int) rm_X3_eggBy D (TY cI cZ cJ) [.int x] [] (fun (r : Int32) (u : Unit) => r = eggB x) (fun (u : Unit) => []) := by
  refine Mi.ofQ (by decide) (Nat.le_of_ble_eq_true rfl) ?_
  intro p e s m args below meth c A ls Q hF hK hP hD hA hl hend
  obtain ⟨F, hr, hlocks, hG⟩ := hF
  have hx := F.1
  have hb := F.2.1
  have hown := F.2.2.2.1
  have ht := F.2.2.2.2
  have hS : va_S A s.heap s.heap [] := va_S.rf
  have hl : lv_has ls 1 [(0, .int x)] := hl
  refine lv_iload_n hx hb dX3_eggBy_0 rfl (lv_at hl 0 rfl) ?_
  refine lv_bipush (v := 20) hx hb dX3_eggBy_1 (by decide) ?_
  refine lv_icmp_ge (tgt := 8) hx hb dX3_eggBy_3 (by decide) (fun c_1 => ?_) (fun c_1 => ?_)
  · skip
    have c_1n := Int32.not_lt.mpr c_1
    refine lv_iload_n hx hb dX3_eggBy_8 rfl (lv_at hl 0 rfl) ?_
    refine lv_bipush (v := 35) hx hb dX3_eggBy_9 (by decide) ?_
    refine lv_icmp_ge (tgt := 18) hx hb dX3_eggBy_11 (by decide) (fun c_2 => ?_) (fun c_2 => ?_)
    · skip
      have c_2n := Int32.not_lt.mpr c_2
      refine lv_iconst (v := 2) hx hb dX3_eggBy_18 (by decide) ?_
      exact hend _ _ _ _ _ _ 2 () dX3_eggBy_19 (by simp only [eggB, eq_true c_1, eq_false c_1n, eq_true c_2, eq_false c_2n, if_true, if_false]) hP hD hS rfl (Nat.le_of_ble_eq_true rfl) (Nat.le_of_ble_eq_true rfl)
    · skip
      have c_2n := Int32.not_le.mp c_2
      refine lv_iconst (v := 1) hx hb dX3_eggBy_14 (by decide) ?_
      refine lv_goto (tgt := 19) hx hb dX3_eggBy_15 (by decide) ?_
      exact hend _ _ _ _ _ _ 1 () dX3_eggBy_19 (by simp only [eggB, eq_true c_1, eq_false c_1n, eq_false c_2, eq_true c_2n, if_true, if_false]) hP hD hS rfl (Nat.le_of_ble_eq_true rfl) (Nat.le_of_ble_eq_true rfl)
  · skip
    have c_1n := Int32.not_le.mp c_1
    refine lv_iconst (v := 0) hx hb dX3_eggBy_6 (by decide) ?_
    exact hend _ _ _ _ _ _ 0 () dX3_eggBy_7 (by simp only [eggB, eq_false c_1, eq_true c_1n, if_true, if_false]) hP hD hS rfl (Nat.le_of_ble_eq_true rfl) (Nat.le_of_ble_eq_true rfl)

def rm_X3_crystalsByBarrel : Room := { frames := 0, cells := 0, slots := 0, locals := 0 }
set_option maxHeartbeats 4000000 in
set_option maxRecDepth 100000 in
theorem c_X3_crystalsByBarrel (l : Launch) (D : va_G) (cI cZ cJ : ClassId) (x : Int32)  : Mi l yX3_crystalsByBarrel cX3_crystalsByBarrel 1 (some .int) rm_X3_crystalsByBarrel D (TY cI cZ cJ) [.int x] [] (fun (r : Int32) (u : Unit) => r = cby x) (fun (u : Unit) => []) := by
  refine Mi.ofQ (by decide) (Nat.le_of_ble_eq_true rfl) ?_
  intro p e s m args below meth c A ls Q hF hK hP hD hA hl hend
  obtain ⟨F, hr, hlocks, hG⟩ := hF
  have hx := F.1
  have hb := F.2.1
  have hown := F.2.2.2.1
  have ht := F.2.2.2.2
  have hS : va_S A s.heap s.heap [] := va_S.rf
  have hl : lv_has ls 1 [(0, .int x)] := hl
  refine lv_iload_n hx hb dX3_crystalsByBarrel_0 rfl (lv_at hl 0 rfl) ?_
  refine lv_if_ne (tgt := 6) hx hb dX3_crystalsByBarrel_1 (by decide) (fun c_1 => ?_) (fun c_1 => ?_)
  · skip
    refine lv_iload_n hx hb dX3_crystalsByBarrel_6 rfl (lv_at hl 0 rfl) ?_
    refine lv_iconst (v := 1) hx hb dX3_crystalsByBarrel_7 (by decide) ?_
    refine lv_icmp_ne (tgt := 15) hx hb dX3_crystalsByBarrel_8 (by decide) (fun c_2 => ?_) (fun c_2 => ?_)
    · skip
      refine lv_iconst (v := 3) hx hb dX3_crystalsByBarrel_15 (by decide) ?_
      exact hend _ _ _ _ _ _ 3 () dX3_crystalsByBarrel_16 (by simp only [cby, eq_false c_1, eq_false c_2, if_true, if_false]) hP hD hS rfl (Nat.le_of_ble_eq_true rfl) (Nat.le_of_ble_eq_true rfl)
    · skip
      refine lv_iconst (v := 5) hx hb dX3_crystalsByBarrel_11 (by decide) ?_
      refine lv_goto (tgt := 16) hx hb dX3_crystalsByBarrel_12 (by decide) ?_
      exact hend _ _ _ _ _ _ 5 () dX3_crystalsByBarrel_16 (by simp only [cby, eq_false c_1, eq_true c_2, if_true, if_false]) hP hD hS rfl (Nat.le_of_ble_eq_true rfl) (Nat.le_of_ble_eq_true rfl)
  · skip
    refine lv_iconst (v := 2) hx hb dX3_crystalsByBarrel_4 (by decide) ?_
    exact hend _ _ _ _ _ _ 2 () dX3_crystalsByBarrel_5 (by simp only [cby, eq_true c_1, if_true, if_false]) hP hD hS rfl (Nat.le_of_ble_eq_true rfl) (Nat.le_of_ble_eq_true rfl)

def rm_X0_has : Room := { frames := 0, cells := 0, slots := 0, locals := 0 }
set_option maxHeartbeats 4000000 in
set_option maxRecDepth 100000 in
theorem c_X0_has (l : Launch) (D : va_G) (cI cZ cJ : ClassId) (h0 a1 a2 a3 a4 : Nat) (n : Nat) (x : Int32) (hn : n ≤ 4) : Mi l yX0_has cX0_has 2 (some .boolean) rm_X0_has D (TY cI cZ cJ) [.ref h0, .int x] [(h0, .inr (0, [.ref a1, .ref a2, .ref a3, .ref a4, .int (nI n)]))] (fun (r : Int32) (u : Unit) => (r = 1 ∧ ∃ j : Nat, j < n ∧ x = nI j) ∨ (r = 0 ∧ ¬ (0 ≤ x ∧ x < nI n))) (fun (u : Unit) => [(h0, .inr (0, [.ref a1, .ref a2, .ref a3, .ref a4, .int (nI n)]))]) := by
  refine Mi.ofQ (by decide) (Nat.le_of_ble_eq_true rfl) ?_
  intro p e s m args below meth c A ls Q hF hK hP hD hA hl hend
  obtain ⟨F, hr, hlocks, hG⟩ := hF
  have hx := F.1
  have hb := F.2.1
  have hown := F.2.2.2.1
  have ht := F.2.2.2.2
  have hS : va_S A s.heap s.heap [] := va_S.rf
  have hl : lv_has ls 2 [(0, .ref h0), (1, .int x)] := hl
  refine lv_iload_n hx hb dX0_has_0 rfl (lv_at hl 1 rfl) ?_
  refine lv_if_lt (tgt := 16) hx hb dX0_has_1 (by decide) (fun c_1 => ?_) (fun c_1 => ?_)
  · skip
    have c_1n := Int32.not_le.mpr c_1
    refine lv_iconst (v := 0) hx hb dX0_has_16 (by decide) ?_
    exact hend _ _ _ _ _ _ 0 () dX0_has_17 (Or.inr ⟨rfl, by simp [eq_true c_1, eq_false c_1n]⟩) hP hD hS (by decide) (Nat.le_of_ble_eq_true rfl) (Nat.le_of_ble_eq_true rfl)
  · skip
    have c_1n := Int32.not_lt.mp c_1
    refine lv_iload_n hx hb dX0_has_4 rfl (lv_at hl 1 rfl) ?_
    refine lv_aload_n hx hb dX0_has_5 rfl (lv_at hl 0 rfl) ?_
    refine va_get (D := D) (ci := 0) (v := .int (nI n)) (C := RX0) (T := TX0) (N := 5) hx hb ht inG_X0 hown hK hP 0 rfl rfl 4 (by decide) (ht _ qF_RX0_25) (fun _ h9 => h9) rfl dX0_has_6 ?_
    refine lv_icmp_ge (tgt := 16) hx hb dX0_has_9 (by decide) (fun c_2 => ?_) (fun c_2 => ?_)
    · skip
      have c_2n := Int32.not_lt.mpr c_2
      refine lv_iconst (v := 0) hx hb dX0_has_16 (by decide) ?_
      exact hend _ _ _ _ _ _ 0 () dX0_has_17 (Or.inr ⟨rfl, by simp [eq_false c_1, eq_true c_1n, eq_true c_2, eq_false c_2n]⟩) hP hD hS (by decide) (Nat.le_of_ble_eq_true rfl) (Nat.le_of_ble_eq_true rfl)
    · skip
      have c_2n := Int32.not_le.mp c_2
      refine lv_iconst (v := 1) hx hb dX0_has_12 (by decide) ?_
      refine lv_goto (tgt := 17) hx hb dX0_has_13 (by decide) ?_
      exact hend _ _ _ _ _ _ 1 () dX0_has_17 (Or.inl ⟨rfl, hasP (by omega) c_1 c_2⟩) hP hD hS (by decide) (Nat.le_of_ble_eq_true rfl) (Nat.le_of_ble_eq_true rfl)

def rm_X0_full : Room := { frames := 0, cells := 0, slots := 0, locals := 0 }
set_option maxHeartbeats 4000000 in
set_option maxRecDepth 100000 in
theorem c_X0_full (l : Launch) (D : va_G) (cI cZ cJ : ClassId) (h0 a1 a2 a3 a4 : Nat) (n : Nat) (hn : n ≤ 4) : Mi l yX0_full cX0_full 1 (some .boolean) rm_X0_full D (TY cI cZ cJ) [.ref h0] [(h0, .inr (0, [.ref a1, .ref a2, .ref a3, .ref a4, .int (nI n)]))] (fun (r : Int32) (u : Unit) => (r = 1 ∧ 4 ≤ n) ∨ (r = 0 ∧ n < 4)) (fun (u : Unit) => [(h0, .inr (0, [.ref a1, .ref a2, .ref a3, .ref a4, .int (nI n)]))]) := by
  refine Mi.ofQ (by decide) (Nat.le_of_ble_eq_true rfl) ?_
  intro p e s m args below meth c A ls Q hF hK hP hD hA hl hend
  obtain ⟨F, hr, hlocks, hG⟩ := hF
  have hx := F.1
  have hb := F.2.1
  have hown := F.2.2.2.1
  have ht := F.2.2.2.2
  have hS : va_S A s.heap s.heap [] := va_S.rf
  have hl : lv_has ls 1 [(0, .ref h0)] := hl
  refine lv_aload_n hx hb dX0_full_0 rfl (lv_at hl 0 rfl) ?_
  refine va_get (D := D) (ci := 0) (v := .int (nI n)) (C := RX0) (T := TX0) (N := 5) hx hb ht inG_X0 hown hK hP 0 rfl rfl 4 (by decide) (ht _ qF_RX0_25) (fun _ h9 => h9) rfl dX0_full_1 ?_
  refine lv_iconst (v := 4) hx hb dX0_full_4 (by decide) ?_
  refine lv_icmp_lt (tgt := 12) hx hb dX0_full_5 (by decide) (fun c_1 => ?_) (fun c_1 => ?_)
  · skip
    have c_1n := Int32.not_le.mpr c_1
    have c_1m := (nI_ltI (a := n) (b := 4) (by omega) (by omega)).mp c_1
    refine lv_iconst (v := 0) hx hb dX0_full_12 (by decide) ?_
    exact hend _ _ _ _ _ _ 0 () dX0_full_13 (Or.inr ⟨rfl, c_1m⟩) hP hD hS (by decide) (Nat.le_of_ble_eq_true rfl) (Nat.le_of_ble_eq_true rfl)
  · skip
    have c_1n := Int32.not_lt.mp c_1
    have c_1m := (nI_leI (a := 4) (b := n) (by omega) (by omega)).mp c_1n
    refine lv_iconst (v := 1) hx hb dX0_full_8 (by decide) ?_
    refine lv_goto (tgt := 13) hx hb dX0_full_9 (by decide) ?_
    exact hend _ _ _ _ _ _ 1 () dX0_full_13 (Or.inl ⟨rfl, c_1m⟩) hP hD hS (by decide) (Nat.le_of_ble_eq_true rfl) (Nat.le_of_ble_eq_true rfl)

def rm_X0_add : Room := { frames := 0, cells := 0, slots := 0, locals := 0 }
set_option maxHeartbeats 4000000 in
set_option maxRecDepth 100000 in
theorem c_X0_add (l : Launch) (D : va_G) (cI cZ cJ : ClassId) (h0 a1 a2 a3 a4 : Nat) (sh : Nat → Int32) (n : Nat) (x : Int32) (hn : n < 4) : Mi l yX0_add cX0_add 3 (some .int) rm_X0_add D (TY cI cZ cJ) [.ref h0, .int x] [(h0, .inr (0, [.ref a1, .ref a2, .ref a3, .ref a4, .int (nI n)])), (a1, .inl (cI, 4, .inl sh))] (fun (r : Int32) (u : (Nat → Int32)) => r = nI n ∧ u = upd sh n x) (fun (u : (Nat → Int32)) => [(h0, .inr (0, [.ref a1, .ref a2, .ref a3, .ref a4, .int (nI (n + 1))])), (a1, .inl (cI, 4, .inl u))]) := by
  refine Mi.ofQ (by decide) (Nat.le_of_ble_eq_true rfl) ?_
  intro p e s m args below meth c A ls Q hF hK hP hD hA hl hend
  obtain ⟨F, hr, hlocks, hG⟩ := hF
  have hx := F.1
  have hb := F.2.1
  have hown := F.2.2.2.1
  have ht := F.2.2.2.2
  have hS : va_S A s.heap s.heap [] := va_S.rf
  have hl : lv_has ls 3 [(0, .ref h0), (1, .int x)] := hl
  refine lv_aload_n hx hb dX0_add_0 rfl (lv_at hl 0 rfl) ?_
  refine va_get (D := D) (ci := 0) (v := .int (nI n)) (C := RX0) (T := TX0) (N := 5) hx hb ht inG_X0 hown hK hP 0 rfl rfl 4 (by decide) (ht _ qF_RX0_25) (fun _ h9 => h9) rfl dX0_add_1 ?_
  refine lv_istore_n (lv' := [(2, .int (nI n)), (0, .ref h0), (1, .int x)]) hx hb dX0_add_4 rfl hl (by decide) rfl (fun ls hl => ?_)
  refine lv_aload_n hx hb dX0_add_5 rfl (lv_at hl 1 rfl) ?_
  refine va_get (D := D) (ci := 0) (v := .ref a1) (C := RX0) (T := TX0) (N := 5) hx hb ht inG_X0 hown hK hP 0 rfl rfl 0 (by decide) (ht _ qF_RX0_9) (fun _ h9 => h9) rfl dX0_add_6 ?_
  refine lv_iload_n hx hb dX0_add_9 rfl (lv_at hl 0 rfl) ?_
  refine lv_iload_n hx hb dX0_add_10 rfl (lv_at hl 2 rfl) ?_
  refine sI_ hx hb hK hP hD hS 1 0 rfl rfl n (rfl) (by omega) (by decide) (upd sh n x) (rfl) dX0_add_11 (fun H locs hP hD hS => ?_)
  have hP : va_P D vwCl [(h0, .inr (0, [.ref a1, .ref a2, .ref a3, .ref a4, .int (nI n)])), (a1, .inl (cI, 4, .inl (upd sh n x)))] _ := hP
  have hD : va_D A [(h0, .inr (0, [.ref a1, .ref a2, .ref a3, .ref a4, .int (nI n)])), (a1, .inl (cI, 4, .inl (upd sh n x)))] := hD
  refine lv_aload_n hx hb dX0_add_12 rfl (lv_at hl 1 rfl) ?_
  refine lv_dup hx hb dX0_add_13 rfl ?_
  refine va_get (D := D) (ci := 0) (v := .int (nI n)) (C := RX0) (T := TX0) (N := 5) hx hb ht inG_X0 hown hK hP 0 rfl rfl 4 (by decide) (ht _ qF_RX0_25) (fun _ h9 => h9) rfl dX0_add_14 ?_
  refine lv_iconst (v := 1) hx hb dX0_add_17 (by decide) ?_
  refine lv_iadd hx hb dX0_add_18 ?_
  refine t_i (nI (n + 1)) (nI_1 n) ?_
  refine va_put (D := D) (ci := 0) (v := .int (nI (n + 1))) (C := RX0) (T := TX0) (N := 5) hx hb ht inG_X0 tyX0 tyX0_ok nmX0 hown hK hP hD hS 0 rfl rfl 4 (by decide) (ht _ qF_RX0_25) (fun _ h9 => h9) rfl (tyX0_ok 4 (by decide)) rfl rfl (Nat.le_of_ble_eq_true rfl) dX0_add_19 (fun H locs hP hD hS => ?_)
  have hP : va_P D vwCl [(h0, .inr (0, [.ref a1, .ref a2, .ref a3, .ref a4, .int (nI (n + 1))])), (a1, .inl (cI, 4, .inl (upd sh n x)))] _ := hP
  have hD : va_D A [(h0, .inr (0, [.ref a1, .ref a2, .ref a3, .ref a4, .int (nI (n + 1))])), (a1, .inl (cI, 4, .inl (upd sh n x)))] := hD
  refine lv_iload_n hx hb dX0_add_22 rfl (lv_at hl 0 rfl) ?_
  exact hend _ _ _ _ _ _ (nI n) (upd sh n x) dX0_add_23 (⟨rfl, rfl⟩) hP hD hS rfl (Nat.le_of_ble_eq_true rfl) (Nat.le_of_ble_eq_true rfl)

def rm_X0_tell : Room := { frames := 0, cells := 0, slots := 0, locals := 0 }
set_option maxHeartbeats 4000000 in
set_option maxRecDepth 100000 in
theorem c_X0_tell (l : Launch) (D : va_G) (cI cZ cJ : ClassId) (h0 a1 a2 a3 a4 : Nat) (sh co bu fl : Nat → Int32) (n k : Nat) (x : Int32) (hk : k < 4) : Mi l yX0_tell cX0_tell 3 (some .int) rm_X0_tell D (TY cI cZ cJ) [.ref h0, .int (nI k), .int x] [(h0, .inr (0, [.ref a1, .ref a2, .ref a3, .ref a4, .int (nI n)])), (a1, .inl (cI, 4, .inl sh)), (a2, .inl (cI, 4, .inl co)), (a3, .inl (cI, 4, .inl bu)), (a4, .inl (cZ, 4, .inl fl))] (fun (r : Int32) (u : Unit) => r = ctell sh co bu fl k x) (fun (u : Unit) => [(h0, .inr (0, [.ref a1, .ref a2, .ref a3, .ref a4, .int (nI n)])), (a1, .inl (cI, 4, .inl sh)), (a2, .inl (cI, 4, .inl co)), (a3, .inl (cI, 4, .inl bu)), (a4, .inl (cZ, 4, .inl fl))]) := by
  refine Mi.ofQ (by decide) (Nat.le_of_ble_eq_true rfl) ?_
  intro p e s m args below meth c A ls Q hF hK hP hD hA hl hend
  obtain ⟨F, hr, hlocks, hG⟩ := hF
  have hx := F.1
  have hb := F.2.1
  have hown := F.2.2.2.1
  have ht := F.2.2.2.2
  have hS : va_S A s.heap s.heap [] := va_S.rf
  have hl : lv_has ls 3 [(0, .ref h0), (1, .int (nI k)), (2, .int x)] := hl
  refine lv_iload_n hx hb dX0_tell_0 rfl (lv_at hl 2 rfl) ?_
  have w_1 : Int32.toInt x = 0 ∨ Int32.toInt x = 1 ∨ Int32.toInt x = 2 ∨ (Int32.toInt x < 0 ∨ 2 < Int32.toInt x) := by omega
  rcases w_1 with w_1 | w_1 | w_1 | w_1
  · skip
    refine lv_tableIn (off := 27) (tgt := 28) hx hb dX0_tell_1 (by rw [w_1]; decide) (by rw [w_1]; decide) (by rw [w_1]; rfl) (by decide) ?_
    have w_1e : x = 0 := Int32.toInt_inj.mp w_1
    have w_1n1 : ¬ x = 1 := fun q => by rw [q] at w_1; revert w_1; decide
    have w_1n2 : ¬ x = 2 := fun q => by rw [q] at w_1; revert w_1; decide
    refine lv_aload_n hx hb dX0_tell_28 rfl (lv_at hl 0 rfl) ?_
    refine va_get (D := D) (ci := 0) (v := .ref a1) (C := RX0) (T := TX0) (N := 5) hx hb ht inG_X0 hown hK hP 0 rfl rfl 0 (by decide) (ht _ qF_RX0_9) (fun _ h9 => h9) rfl dX0_tell_29 ?_
    refine lv_iload_n hx hb dX0_tell_32 rfl (lv_at hl 1 rfl) ?_
    refine aI hx hb hK hP 1 0 rfl rfl k (rfl) (by omega) (by decide) (v := sh k) (rfl) dX0_tell_33 ?_
    exact hend _ _ _ _ _ _ (sh k) () dX0_tell_34 (by simp only [ctell, b01, eq_true w_1e, eq_false w_1n1, eq_false w_1n2, if_true, if_false]) hP hD hS rfl (Nat.le_of_ble_eq_true rfl) (Nat.le_of_ble_eq_true rfl)
  · skip
    refine lv_tableIn (off := 34) (tgt := 35) hx hb dX0_tell_1 (by rw [w_1]; decide) (by rw [w_1]; decide) (by rw [w_1]; rfl) (by decide) ?_
    have w_1e : x = 1 := Int32.toInt_inj.mp w_1
    have w_1n0 : ¬ x = 0 := fun q => by rw [q] at w_1; revert w_1; decide
    have w_1n2 : ¬ x = 2 := fun q => by rw [q] at w_1; revert w_1; decide
    refine lv_aload_n hx hb dX0_tell_35 rfl (lv_at hl 0 rfl) ?_
    refine va_get (D := D) (ci := 0) (v := .ref a2) (C := RX0) (T := TX0) (N := 5) hx hb ht inG_X0 hown hK hP 0 rfl rfl 1 (by decide) (ht _ qF_RX0_15) (fun _ h9 => h9) rfl dX0_tell_36 ?_
    refine lv_iload_n hx hb dX0_tell_39 rfl (lv_at hl 1 rfl) ?_
    refine aI hx hb hK hP 2 0 rfl rfl k (rfl) (by omega) (by decide) (v := co k) (rfl) dX0_tell_40 ?_
    exact hend _ _ _ _ _ _ (co k) () dX0_tell_41 (by simp only [ctell, b01, eq_true w_1e, eq_false w_1n0, eq_false w_1n2, if_true, if_false]) hP hD hS rfl (Nat.le_of_ble_eq_true rfl) (Nat.le_of_ble_eq_true rfl)
  · skip
    refine lv_tableIn (off := 41) (tgt := 42) hx hb dX0_tell_1 (by rw [w_1]; decide) (by rw [w_1]; decide) (by rw [w_1]; rfl) (by decide) ?_
    have w_1e : x = 2 := Int32.toInt_inj.mp w_1
    have w_1n0 : ¬ x = 0 := fun q => by rw [q] at w_1; revert w_1; decide
    have w_1n1 : ¬ x = 1 := fun q => by rw [q] at w_1; revert w_1; decide
    refine lv_aload_n hx hb dX0_tell_42 rfl (lv_at hl 0 rfl) ?_
    refine va_get (D := D) (ci := 0) (v := .ref a3) (C := RX0) (T := TX0) (N := 5) hx hb ht inG_X0 hown hK hP 0 rfl rfl 2 (by decide) (ht _ qF_RX0_18) (fun _ h9 => h9) rfl dX0_tell_43 ?_
    refine lv_iload_n hx hb dX0_tell_46 rfl (lv_at hl 1 rfl) ?_
    refine aI hx hb hK hP 3 0 rfl rfl k (rfl) (by omega) (by decide) (v := bu k) (rfl) dX0_tell_47 ?_
    exact hend _ _ _ _ _ _ (bu k) () dX0_tell_48 (by simp only [ctell, b01, eq_true w_1e, eq_false w_1n0, eq_false w_1n1, if_true, if_false]) hP hD hS rfl (Nat.le_of_ble_eq_true rfl) (Nat.le_of_ble_eq_true rfl)
  · skip
    refine lv_tableOut (tgt := 49) hx hb dX0_tell_1 w_1 (by decide) ?_
    have w_1n0 : ¬ x = 0 := fun q => by rw [q] at w_1; revert w_1; decide
    have w_1n1 : ¬ x = 1 := fun q => by rw [q] at w_1; revert w_1; decide
    have w_1n2 : ¬ x = 2 := fun q => by rw [q] at w_1; revert w_1; decide
    refine lv_aload_n hx hb dX0_tell_49 rfl (lv_at hl 0 rfl) ?_
    refine va_get (D := D) (ci := 0) (v := .ref a4) (C := RX0) (T := TX0) (N := 5) hx hb ht inG_X0 hown hK hP 0 rfl rfl 3 (by decide) (ht _ qF_RX0_21) (fun _ h9 => h9) rfl dX0_tell_50 ?_
    refine lv_iload_n hx hb dX0_tell_53 rfl (lv_at hl 1 rfl) ?_
    refine aZ hx hb hK hP 4 1 rfl rfl k (rfl) (by omega) (by decide) (v := fl k) (rfl) dX0_tell_54 ?_
    refine lv_if_eq (tgt := 62) hx hb dX0_tell_55 (by decide) (fun c_2 => ?_) (fun c_2 => ?_)
    · skip
      refine lv_iconst (v := 0) hx hb dX0_tell_62 (by decide) ?_
      exact hend _ _ _ _ _ _ 0 () dX0_tell_63 (by simp only [ctell, b01, eq_false w_1n0, eq_false w_1n1, eq_false w_1n2, eq_true c_2, if_true, if_false]) hP hD hS rfl (Nat.le_of_ble_eq_true rfl) (Nat.le_of_ble_eq_true rfl)
    · skip
      refine lv_iconst (v := 1) hx hb dX0_tell_58 (by decide) ?_
      refine lv_goto (tgt := 63) hx hb dX0_tell_59 (by decide) ?_
      exact hend _ _ _ _ _ _ 1 () dX0_tell_63 (by simp only [ctell, b01, eq_false w_1n0, eq_false w_1n1, eq_false w_1n2, eq_false c_2, if_true, if_false]) hP hD hS rfl (Nat.le_of_ble_eq_true rfl) (Nat.le_of_ble_eq_true rfl)

def rm_X0_burning : Room := { frames := 0, cells := 0, slots := 0, locals := 0 }
set_option maxHeartbeats 4000000 in
set_option maxRecDepth 100000 in
theorem c_X0_burning (l : Launch) (D : va_G) (cI cZ cJ : ClassId) (h0 a1 a2 a3 a4 : Nat) (fl : Nat → Int32) (n : Nat) (hn : n ≤ 4) : Mi l yX0_burning cX0_burning 3 (some .int) rm_X0_burning D (TY cI cZ cJ) [.ref h0] [(h0, .inr (0, [.ref a1, .ref a2, .ref a3, .ref a4, .int (nI n)])), (a4, .inl (cZ, 4, .inl fl))] (fun (r : Int32) (u : Unit) => r = sumF (fun j => b01 (fl j)) n) (fun (u : Unit) => [(h0, .inr (0, [.ref a1, .ref a2, .ref a3, .ref a4, .int (nI n)])), (a4, .inl (cZ, 4, .inl fl))]) := by
  refine Mi.ofQ (by decide) (Nat.le_of_ble_eq_true rfl) ?_
  intro p e s m args below meth c A ls Q hF hK hP hD hA hl hend
  obtain ⟨F, hr, hlocks, hG⟩ := hF
  have hx := F.1
  have hb := F.2.1
  have hown := F.2.2.2.1
  have ht := F.2.2.2.2
  have hS : va_S A s.heap s.heap [] := va_S.rf
  have hl : lv_has ls 3 [(0, .ref h0)] := hl
  refine lv_iconst (v := 0) hx hb dX0_burning_0 (by decide) ?_
  refine lv_istore_n (lv' := [(1, .int 0), (0, .ref h0)]) hx hb dX0_burning_1 rfl hl (by decide) rfl (fun ls hl => ?_)
  refine lv_iconst (v := 0) hx hb dX0_burning_2 (by decide) ?_
  refine lv_istore_n (lv' := [(2, .int 0), (1, .int 0), (0, .ref h0)]) hx hb dX0_burning_3 rfl hl (by decide) rfl (fun ls hl => ?_)
  have loop4 : ∀ (kf4 i : Nat), i ≤ n → n < i + kf4 → ∀ (sm : Int32), sm = sumF (fun j => b01 (fl j)) i → ∀ (H : Heap) (locs : List Loc), va_P D vwCl [(h0, .inr (0, [.ref a1, .ref a2, .ref a3, .ref a4, .int (nI n)])), (a4, .inl (cZ, 4, .inl fl))] H → va_D A [(h0, .inr (0, [.ref a1, .ref a2, .ref a3, .ref a4, .int (nI n)])), (a4, .inl (cZ, 4, .inl fl))] → va_S A s.heap H locs → ∀ (ls : Array Slot), lv_has ls 3 [(0, .ref h0), (1, .int sm), (2, .int (nI i))] → W p l e rm_X0_burning s m args below meth c H locs 0 0 Q (F0 m 4 ls []) := by
    intro kf4
    induction kf4 with
    | zero =>
      intro i hle4 hlt4
      exact absurd hlt4 (by omega)
    | succ kf4 ih4 =>
      intro i hle4 hlt4 sm e_sm H locs hP hD hS ls hl
      refine lv_iload_n hx hb dX0_burning_4 rfl (lv_at hl 2 rfl) ?_
      refine lv_aload_n hx hb dX0_burning_5 rfl (lv_at hl 0 rfl) ?_
      refine va_get (D := D) (ci := 0) (v := .int (nI n)) (C := RX0) (T := TX0) (N := 5) hx hb ht inG_X0 hown hK hP 0 rfl rfl 4 (by decide) (ht _ qF_RX0_25) (fun _ h9 => h9) rfl dX0_burning_6 ?_
      refine lv_icmp_ge (tgt := 30) hx hb dX0_burning_9 (by decide) (fun c_1 => ?_) (fun c_1 => ?_)
      · skip
        have c_1n := Int32.not_lt.mpr c_1
        have c_1m := (nI_leI (a := n) (b := i) (by omega) (by omega)).mp c_1
        refine lv_iload_n hx hb dX0_burning_30 rfl (lv_at hl 1 rfl) ?_
        exact hend _ _ _ _ _ _ sm () dX0_burning_31 (by rw [e_sm, show i = n by omega]) hP hD hS rfl (Nat.le_of_ble_eq_true rfl) (Nat.le_of_ble_eq_true rfl)
      · skip
        have c_1n := Int32.not_le.mp c_1
        have c_1m := (nI_ltI (a := i) (b := n) (by omega) (by omega)).mp c_1n
        refine lv_aload_n hx hb dX0_burning_12 rfl (lv_at hl 0 rfl) ?_
        refine va_get (D := D) (ci := 0) (v := .ref a4) (C := RX0) (T := TX0) (N := 5) hx hb ht inG_X0 hown hK hP 0 rfl rfl 3 (by decide) (ht _ qF_RX0_21) (fun _ h9 => h9) rfl dX0_burning_13 ?_
        refine lv_iload_n hx hb dX0_burning_16 rfl (lv_at hl 2 rfl) ?_
        refine aZ hx hb hK hP 1 1 rfl rfl i (rfl) (by omega) (by decide) (v := fl i) (rfl) dX0_burning_17 ?_
        refine lv_if_eq (tgt := 24) hx hb dX0_burning_18 (by decide) (fun c_2 => ?_) (fun c_2 => ?_)
        · skip
          refine lv_iinc (v := nI (i + 1)) (lv' := [(2, .int (nI (i + 1))), (0, .ref h0), (1, .int sm)]) hx hb dX0_burning_24 hl (k := 2) rfl (nI_1 i) (by decide) rfl (fun ls hl => ?_)
          refine lv_goto (tgt := 4) hx hb dX0_burning_27 (by decide) ?_
          exact ih4 (i + 1) (by omega) (by omega) sm (by rw [e_sm]; simp only [sumF, b01, eq_false c_1, eq_true c_1n, eq_true c_2, if_true, if_false, Int32.add_zero]) _ _ (hP.sub [0, 1] rfl) (hD.sub [0, 1] (by decide) rfl) hS _ (lv_sub hl [1, 2, 0] rfl)
        · skip
          refine lv_iinc (v := sm + 1) (lv' := [(1, .int (sm + 1)), (0, .ref h0), (2, .int (nI i))]) hx hb dX0_burning_21 hl (k := 1) rfl (rfl) (by decide) rfl (fun ls hl => ?_)
          refine lv_iinc (v := nI (i + 1)) (lv' := [(2, .int (nI (i + 1))), (1, .int (sm + 1)), (0, .ref h0)]) hx hb dX0_burning_24 hl (k := 2) rfl (nI_1 i) (by decide) rfl (fun ls hl => ?_)
          refine lv_goto (tgt := 4) hx hb dX0_burning_27 (by decide) ?_
          exact ih4 (i + 1) (by omega) (by omega) (sm + 1) (by rw [e_sm]; simp only [sumF, b01, eq_false c_1, eq_true c_1n, eq_false c_2, if_true, if_false, Int32.add_zero]) _ _ (hP.sub [0, 1] rfl) (hD.sub [0, 1] (by decide) rfl) hS _ (lv_sub hl [2, 1, 0] rfl)
  exact loop4 (n + 1) 0 (Nat.zero_le _) (by omega) 0 rfl _ _ (hP.sub [0, 1] rfl) (hD.sub [0, 1] (by decide) rfl) hS _ (lv_sub hl [2, 1, 0] rfl)

def rm_X0_burnOne : Room := { frames := 1, cells := 0, slots := 0, locals := 21 }
set_option maxHeartbeats 4000000 in
set_option maxRecDepth 100000 in
theorem c_X0_burnOne (l : Launch) (D : va_G) (cI cZ cJ : ClassId) (h0 a1 a2 a3 a4 : Nat) (sh co bu fl : Nat → Int32) (n k : Nat) (x : Int32) (hk : k < 4) : Mv l yX0_burnOne cX0_burnOne 4 rm_X0_burnOne D (TY cI cZ cJ) [.ref h0, .int (nI k), .int x] [(h0, .inr (0, [.ref a1, .ref a2, .ref a3, .ref a4, .int (nI n)])), (a1, .inl (cI, 4, .inl sh)), (a2, .inl (cI, 4, .inl co)), (a3, .inl (cI, 4, .inl bu)), (a4, .inl (cZ, 4, .inl fl))] (fun (u : (Nat → Int32) × (Nat → Int32) × (Nat → Int32) × (Nat → Int32)) => u.1 = upd sh k (sh k - mn x (sh k)) ∧ u.2.1 = upd co k (mx 0 (co k - 2)) ∧ u.2.2.1 = upd bu k (bu k + mn x (sh k)) ∧ u.2.2.2 = upd fl k (bFl (mx 0 (co k - 2)) (sh k - mn x (sh k)))) (fun (u : (Nat → Int32) × (Nat → Int32) × (Nat → Int32) × (Nat → Int32)) => [(h0, .inr (0, [.ref a1, .ref a2, .ref a3, .ref a4, .int (nI n)])), (a1, .inl (cI, 4, .inl u.1)), (a2, .inl (cI, 4, .inl u.2.1)), (a3, .inl (cI, 4, .inl u.2.2.1)), (a4, .inl (cZ, 4, .inl u.2.2.2))]) := by
  refine Mv.ofQ (by decide) (Nat.le_of_ble_eq_true rfl) ?_
  intro p e s m args below meth c A ls Q hF hK hP hD hA hl hend hin
  obtain ⟨F, hr, hlocks, hG⟩ := hF
  have hx := F.1
  have hb := F.2.1
  have hown := F.2.2.2.1
  have ht := F.2.2.2.2
  have hS : va_S A s.heap s.heap [] := va_S.rf
  have hl : lv_has ls 4 [(0, .ref h0), (1, .int (nI k)), (2, .int x)] := hl
  refine lv_iload_n hx hb dX0_burnOne_0 rfl (lv_at hl 2 rfl) ?_
  refine lv_aload_n hx hb dX0_burnOne_1 rfl (lv_at hl 0 rfl) ?_
  refine va_get (D := D) (ci := 0) (v := .ref a1) (C := RX0) (T := TX0) (N := 5) hx hb ht inG_X0 hown hK hP 0 rfl rfl 0 (by decide) (ht _ qF_RX0_9) (fun _ h9 => h9) rfl dX0_burnOne_2 ?_
  refine lv_iload_n hx hb dX0_burnOne_5 rfl (lv_at hl 1 rfl) ?_
  refine aI hx hb hK hP 1 0 rfl rfl k (rfl) (by omega) (by decide) (v := sh k) (rfl) dX0_burnOne_6 ?_
  refine k_min F qM_RX0_33 hl.1 (Nat.le_of_ble_eq_true rfl) (Nat.le_of_ble_eq_true rfl) (Nat.le_of_ble_eq_true rfl) (Nat.le_of_ble_eq_true rfl) dX0_burnOne_7 ?_
  refine lv_istore_n (lv' := [(3, .int (mn x (sh k))), (0, .ref h0), (1, .int (nI k)), (2, .int x)]) hx hb dX0_burnOne_10 rfl hl (by decide) rfl (fun ls hl => ?_)
  refine lv_aload_n hx hb dX0_burnOne_11 rfl (lv_at hl 1 rfl) ?_
  refine va_get (D := D) (ci := 0) (v := .ref a2) (C := RX0) (T := TX0) (N := 5) hx hb ht inG_X0 hown hK hP 0 rfl rfl 1 (by decide) (ht _ qF_RX0_15) (fun _ h9 => h9) rfl dX0_burnOne_12 ?_
  refine lv_iload_n hx hb dX0_burnOne_15 rfl (lv_at hl 2 rfl) ?_
  refine lv_iconst (v := 0) hx hb dX0_burnOne_16 (by decide) ?_
  refine lv_aload_n hx hb dX0_burnOne_17 rfl (lv_at hl 1 rfl) ?_
  refine va_get (D := D) (ci := 0) (v := .ref a2) (C := RX0) (T := TX0) (N := 5) hx hb ht inG_X0 hown hK hP 0 rfl rfl 1 (by decide) (ht _ qF_RX0_15) (fun _ h9 => h9) rfl dX0_burnOne_18 ?_
  refine lv_iload_n hx hb dX0_burnOne_21 rfl (lv_at hl 2 rfl) ?_
  refine aI hx hb hK hP 2 0 rfl rfl k (rfl) (by omega) (by decide) (v := co k) (rfl) dX0_burnOne_22 ?_
  refine lv_iconst (v := 2) hx hb dX0_burnOne_23 (by decide) ?_
  refine lv_isub hx hb dX0_burnOne_24 ?_
  refine k_max F qM_RX0_39 hl.1 (Nat.le_of_ble_eq_true rfl) (Nat.le_of_ble_eq_true rfl) (Nat.le_of_ble_eq_true rfl) (Nat.le_of_ble_eq_true rfl) dX0_burnOne_25 ?_
  refine sI_ hx hb hK hP hD hS 2 0 rfl rfl k (rfl) (by omega) (by decide) (upd co k (mx 0 ((co k) - 2))) (rfl) dX0_burnOne_28 (fun H locs hP hD hS => ?_)
  have hP : va_P D vwCl [(h0, .inr (0, [.ref a1, .ref a2, .ref a3, .ref a4, .int (nI n)])), (a1, .inl (cI, 4, .inl sh)), (a2, .inl (cI, 4, .inl (upd co k (mx 0 ((co k) - 2))))), (a3, .inl (cI, 4, .inl bu)), (a4, .inl (cZ, 4, .inl fl))] _ := hP
  have hD : va_D A [(h0, .inr (0, [.ref a1, .ref a2, .ref a3, .ref a4, .int (nI n)])), (a1, .inl (cI, 4, .inl sh)), (a2, .inl (cI, 4, .inl (upd co k (mx 0 ((co k) - 2))))), (a3, .inl (cI, 4, .inl bu)), (a4, .inl (cZ, 4, .inl fl))] := hD
  refine lv_aload_n hx hb dX0_burnOne_29 rfl (lv_at hl 1 rfl) ?_
  refine va_get (D := D) (ci := 0) (v := .ref a1) (C := RX0) (T := TX0) (N := 5) hx hb ht inG_X0 hown hK hP 0 rfl rfl 0 (by decide) (ht _ qF_RX0_9) (fun _ h9 => h9) rfl dX0_burnOne_30 ?_
  refine lv_iload_n hx hb dX0_burnOne_33 rfl (lv_at hl 2 rfl) ?_
  refine lv_dup2_11 hx hb dX0_burnOne_34 rfl rfl ?_
  refine aI hx hb hK hP 1 0 rfl rfl k (rfl) (by omega) (by decide) (v := sh k) (rfl) dX0_burnOne_35 ?_
  refine lv_iload_n hx hb dX0_burnOne_36 rfl (lv_at hl 0 rfl) ?_
  refine lv_isub hx hb dX0_burnOne_37 ?_
  refine sI_ hx hb hK hP hD hS 1 0 rfl rfl k (rfl) (by omega) (by decide) (upd sh k ((sh k) - (mn x (sh k)))) (rfl) dX0_burnOne_38 (fun H locs hP hD hS => ?_)
  have hP : va_P D vwCl [(h0, .inr (0, [.ref a1, .ref a2, .ref a3, .ref a4, .int (nI n)])), (a1, .inl (cI, 4, .inl (upd sh k ((sh k) - (mn x (sh k)))))), (a2, .inl (cI, 4, .inl (upd co k (mx 0 ((co k) - 2))))), (a3, .inl (cI, 4, .inl bu)), (a4, .inl (cZ, 4, .inl fl))] _ := hP
  have hD : va_D A [(h0, .inr (0, [.ref a1, .ref a2, .ref a3, .ref a4, .int (nI n)])), (a1, .inl (cI, 4, .inl (upd sh k ((sh k) - (mn x (sh k)))))), (a2, .inl (cI, 4, .inl (upd co k (mx 0 ((co k) - 2))))), (a3, .inl (cI, 4, .inl bu)), (a4, .inl (cZ, 4, .inl fl))] := hD
  refine lv_aload_n hx hb dX0_burnOne_39 rfl (lv_at hl 1 rfl) ?_
  refine va_get (D := D) (ci := 0) (v := .ref a3) (C := RX0) (T := TX0) (N := 5) hx hb ht inG_X0 hown hK hP 0 rfl rfl 2 (by decide) (ht _ qF_RX0_18) (fun _ h9 => h9) rfl dX0_burnOne_40 ?_
  refine lv_iload_n hx hb dX0_burnOne_43 rfl (lv_at hl 2 rfl) ?_
  refine lv_dup2_11 hx hb dX0_burnOne_44 rfl rfl ?_
  refine aI hx hb hK hP 3 0 rfl rfl k (rfl) (by omega) (by decide) (v := bu k) (rfl) dX0_burnOne_45 ?_
  refine lv_iload_n hx hb dX0_burnOne_46 rfl (lv_at hl 0 rfl) ?_
  refine lv_iadd hx hb dX0_burnOne_47 ?_
  refine sI_ hx hb hK hP hD hS 3 0 rfl rfl k (rfl) (by omega) (by decide) (upd bu k ((bu k) + (mn x (sh k)))) (rfl) dX0_burnOne_48 (fun H locs hP hD hS => ?_)
  have hP : va_P D vwCl [(h0, .inr (0, [.ref a1, .ref a2, .ref a3, .ref a4, .int (nI n)])), (a1, .inl (cI, 4, .inl (upd sh k ((sh k) - (mn x (sh k)))))), (a2, .inl (cI, 4, .inl (upd co k (mx 0 ((co k) - 2))))), (a3, .inl (cI, 4, .inl (upd bu k ((bu k) + (mn x (sh k)))))), (a4, .inl (cZ, 4, .inl fl))] _ := hP
  have hD : va_D A [(h0, .inr (0, [.ref a1, .ref a2, .ref a3, .ref a4, .int (nI n)])), (a1, .inl (cI, 4, .inl (upd sh k ((sh k) - (mn x (sh k)))))), (a2, .inl (cI, 4, .inl (upd co k (mx 0 ((co k) - 2))))), (a3, .inl (cI, 4, .inl (upd bu k ((bu k) + (mn x (sh k)))))), (a4, .inl (cZ, 4, .inl fl))] := hD
  refine lv_aload_n hx hb dX0_burnOne_49 rfl (lv_at hl 1 rfl) ?_
  refine va_get (D := D) (ci := 0) (v := .ref a4) (C := RX0) (T := TX0) (N := 5) hx hb ht inG_X0 hown hK hP 0 rfl rfl 3 (by decide) (ht _ qF_RX0_21) (fun _ h9 => h9) rfl dX0_burnOne_50 ?_
  refine lv_iload_n hx hb dX0_burnOne_53 rfl (lv_at hl 2 rfl) ?_
  refine lv_aload_n hx hb dX0_burnOne_54 rfl (lv_at hl 1 rfl) ?_
  refine va_get (D := D) (ci := 0) (v := .ref a2) (C := RX0) (T := TX0) (N := 5) hx hb ht inG_X0 hown hK hP 0 rfl rfl 1 (by decide) (ht _ qF_RX0_15) (fun _ h9 => h9) rfl dX0_burnOne_55 ?_
  refine lv_iload_n hx hb dX0_burnOne_58 rfl (lv_at hl 2 rfl) ?_
  refine aI hx hb hK hP 2 0 rfl rfl k (rfl) (by omega) (by decide) (v := mx 0 ((co k) - 2)) (pk_us) dX0_burnOne_59 ?_
  refine lv_if_le (tgt := 76) hx hb dX0_burnOne_60 (by decide) (fun c_1 => ?_) (fun c_1 => ?_)
  · skip
    have c_1n := Int32.not_lt.mpr c_1
    refine lv_iconst (v := 0) hx hb dX0_burnOne_76 (by decide) ?_
    refine sZ_ hx hb hK hP hD hS 4 1 rfl rfl k (rfl) (by omega) (by decide) (by decide) (upd fl k 0) (rfl) dX0_burnOne_77 (fun H locs hP hD hS => ?_)
    have hP : va_P D vwCl [(h0, .inr (0, [.ref a1, .ref a2, .ref a3, .ref a4, .int (nI n)])), (a1, .inl (cI, 4, .inl (upd sh k ((sh k) - (mn x (sh k)))))), (a2, .inl (cI, 4, .inl (upd co k (mx 0 ((co k) - 2))))), (a3, .inl (cI, 4, .inl (upd bu k ((bu k) + (mn x (sh k)))))), (a4, .inl (cZ, 4, .inl (upd fl k 0)))] _ := hP
    have hD : va_D A [(h0, .inr (0, [.ref a1, .ref a2, .ref a3, .ref a4, .int (nI n)])), (a1, .inl (cI, 4, .inl (upd sh k ((sh k) - (mn x (sh k)))))), (a2, .inl (cI, 4, .inl (upd co k (mx 0 ((co k) - 2))))), (a3, .inl (cI, 4, .inl (upd bu k ((bu k) + (mn x (sh k)))))), (a4, .inl (cZ, 4, .inl (upd fl k 0)))] := hD
    exact hend _ _ _ _ _ _ (upd sh k ((sh k) - (mn x (sh k))), upd co k (mx 0 ((co k) - 2)), upd bu k ((bu k) + (mn x (sh k))), upd fl k 0) dX0_burnOne_78 (⟨rfl, rfl, rfl, by simp only [bFl, eq_true c_1, eq_false c_1n, if_true, if_false]⟩) hP hD hS (Nat.le_of_ble_eq_true rfl) (Nat.le_of_ble_eq_true rfl)
  · skip
    have c_1n := Int32.not_le.mp c_1
    refine lv_aload_n hx hb dX0_burnOne_63 rfl (lv_at hl 1 rfl) ?_
    refine va_get (D := D) (ci := 0) (v := .ref a1) (C := RX0) (T := TX0) (N := 5) hx hb ht inG_X0 hown hK hP 0 rfl rfl 0 (by decide) (ht _ qF_RX0_9) (fun _ h9 => h9) rfl dX0_burnOne_64 ?_
    refine lv_iload_n hx hb dX0_burnOne_67 rfl (lv_at hl 2 rfl) ?_
    refine aI hx hb hK hP 1 0 rfl rfl k (rfl) (by omega) (by decide) (v := (sh k) - (mn x (sh k))) (pk_us) dX0_burnOne_68 ?_
    refine lv_if_le (tgt := 76) hx hb dX0_burnOne_69 (by decide) (fun c_2 => ?_) (fun c_2 => ?_)
    · skip
      have c_2n := Int32.not_lt.mpr c_2
      refine lv_iconst (v := 0) hx hb dX0_burnOne_76 (by decide) ?_
      refine sZ_ hx hb hK hP hD hS 4 1 rfl rfl k (rfl) (by omega) (by decide) (by decide) (upd fl k 0) (rfl) dX0_burnOne_77 (fun H locs hP hD hS => ?_)
      have hP : va_P D vwCl [(h0, .inr (0, [.ref a1, .ref a2, .ref a3, .ref a4, .int (nI n)])), (a1, .inl (cI, 4, .inl (upd sh k ((sh k) - (mn x (sh k)))))), (a2, .inl (cI, 4, .inl (upd co k (mx 0 ((co k) - 2))))), (a3, .inl (cI, 4, .inl (upd bu k ((bu k) + (mn x (sh k)))))), (a4, .inl (cZ, 4, .inl (upd fl k 0)))] _ := hP
      have hD : va_D A [(h0, .inr (0, [.ref a1, .ref a2, .ref a3, .ref a4, .int (nI n)])), (a1, .inl (cI, 4, .inl (upd sh k ((sh k) - (mn x (sh k)))))), (a2, .inl (cI, 4, .inl (upd co k (mx 0 ((co k) - 2))))), (a3, .inl (cI, 4, .inl (upd bu k ((bu k) + (mn x (sh k)))))), (a4, .inl (cZ, 4, .inl (upd fl k 0)))] := hD
      exact hend _ _ _ _ _ _ (upd sh k ((sh k) - (mn x (sh k))), upd co k (mx 0 ((co k) - 2)), upd bu k ((bu k) + (mn x (sh k))), upd fl k 0) dX0_burnOne_78 (⟨rfl, rfl, rfl, by simp only [bFl, eq_false c_1, eq_true c_1n, eq_true c_2, eq_false c_2n, if_true, if_false]⟩) hP hD hS (Nat.le_of_ble_eq_true rfl) (Nat.le_of_ble_eq_true rfl)
    · skip
      have c_2n := Int32.not_le.mp c_2
      refine lv_iconst (v := 1) hx hb dX0_burnOne_72 (by decide) ?_
      refine lv_goto (tgt := 77) hx hb dX0_burnOne_73 (by decide) ?_
      refine sZ_ hx hb hK hP hD hS 4 1 rfl rfl k (rfl) (by omega) (by decide) (by decide) (upd fl k 1) (rfl) dX0_burnOne_77 (fun H locs hP hD hS => ?_)
      have hP : va_P D vwCl [(h0, .inr (0, [.ref a1, .ref a2, .ref a3, .ref a4, .int (nI n)])), (a1, .inl (cI, 4, .inl (upd sh k ((sh k) - (mn x (sh k)))))), (a2, .inl (cI, 4, .inl (upd co k (mx 0 ((co k) - 2))))), (a3, .inl (cI, 4, .inl (upd bu k ((bu k) + (mn x (sh k)))))), (a4, .inl (cZ, 4, .inl (upd fl k 1)))] _ := hP
      have hD : va_D A [(h0, .inr (0, [.ref a1, .ref a2, .ref a3, .ref a4, .int (nI n)])), (a1, .inl (cI, 4, .inl (upd sh k ((sh k) - (mn x (sh k)))))), (a2, .inl (cI, 4, .inl (upd co k (mx 0 ((co k) - 2))))), (a3, .inl (cI, 4, .inl (upd bu k ((bu k) + (mn x (sh k)))))), (a4, .inl (cZ, 4, .inl (upd fl k 1)))] := hD
      exact hend _ _ _ _ _ _ (upd sh k ((sh k) - (mn x (sh k))), upd co k (mx 0 ((co k) - 2)), upd bu k ((bu k) + (mn x (sh k))), upd fl k 1) dX0_burnOne_78 (⟨rfl, rfl, rfl, by simp only [bFl, eq_false c_1, eq_true c_1n, eq_false c_2, eq_true c_2n, if_true, if_false]⟩) hP hD hS (Nat.le_of_ble_eq_true rfl) (Nat.le_of_ble_eq_true rfl)

def rm_X0_burn : Room := { frames := 2, cells := 0, slots := 0, locals := 44 }
set_option maxHeartbeats 4000000 in
set_option maxRecDepth 100000 in
theorem c_X0_burn (l : Launch) (D : va_G) (cI cZ cJ : ClassId) (h0 a1 a2 a3 a4 : Nat) (sh co bu fl : Nat → Int32) (n : Nat) (r : Int32) (hn : n ≤ 4) : Mv l yX0_burn cX0_burn 4 rm_X0_burn D (TY cI cZ cJ) [.ref h0, .int r] [(h0, .inr (0, [.ref a1, .ref a2, .ref a3, .ref a4, .int (nI n)])), (a1, .inl (cI, 4, .inl sh)), (a2, .inl (cI, 4, .inl co)), (a3, .inl (cI, 4, .inl bu)), (a4, .inl (cZ, 4, .inl fl))] (fun (u : (Nat → Int32) × (Nat → Int32) × (Nat → Int32) × (Nat → Int32)) => u.1 = rowF n (fSh r sh fl) sh ∧ u.2.1 = rowF n (fCo co fl) co ∧ u.2.2.1 = rowF n (fBu r sh bu fl) bu ∧ u.2.2.2 = rowF n (fFl r sh co fl) fl) (fun (u : (Nat → Int32) × (Nat → Int32) × (Nat → Int32) × (Nat → Int32)) => [(h0, .inr (0, [.ref a1, .ref a2, .ref a3, .ref a4, .int (nI n)])), (a1, .inl (cI, 4, .inl u.1)), (a2, .inl (cI, 4, .inl u.2.1)), (a3, .inl (cI, 4, .inl u.2.2.1)), (a4, .inl (cZ, 4, .inl u.2.2.2))]) := by
  refine Mv.ofQ (by decide) (Nat.le_of_ble_eq_true rfl) ?_
  intro p e s m args below meth c A ls Q hF hK hP hD hA hl hend hin
  obtain ⟨F, hr, hlocks, hG⟩ := hF
  have hx := F.1
  have hb := F.2.1
  have hown := F.2.2.2.1
  have ht := F.2.2.2.2
  have hS : va_S A s.heap s.heap [] := va_S.rf
  have hl : lv_has ls 4 [(0, .ref h0), (1, .int r)] := hl
  refine lv_iload_n hx hb dX0_burn_0 rfl (lv_at hl 1 rfl) ?_
  refine lv_iconst (v := 5) hx hb dX0_burn_1 (by decide) ?_
  refine lv_icmp_lt (tgt := 9) hx hb dX0_burn_2 (by decide) (fun c_1 => ?_) (fun c_1 => ?_)
  · skip
    have c_1n := Int32.not_le.mpr c_1
    refine lv_bipush (v := 8) hx hb dX0_burn_9 (by decide) ?_
    refine t_i (bDaily r) (by simp only [bDaily, eq_true c_1, eq_false c_1n, if_true, if_false]) ?_
    refine lv_istore_n (lv' := [(2, .int (bDaily r)), (0, .ref h0), (1, .int r)]) hx hb dX0_burn_11 rfl hl (by decide) rfl (fun ls hl => ?_)
    refine lv_iconst (v := 0) hx hb dX0_burn_12 (by decide) ?_
    refine lv_istore_n (lv' := [(3, .int 0), (2, .int (bDaily r)), (0, .ref h0), (1, .int r)]) hx hb dX0_burn_13 rfl hl (by decide) rfl (fun ls hl => ?_)
    have loop14 : ∀ (kf14 i : Nat), i ≤ n → n < i + kf14 → ∀ (sh1 : Nat → Int32) (co1 : Nat → Int32) (bu1 : Nat → Int32) (fl1 : Nat → Int32), sh1 = rowF i (fSh r sh fl) sh → co1 = rowF i (fCo co fl) co → bu1 = rowF i (fBu r sh bu fl) bu → fl1 = rowF i (fFl r sh co fl) fl → ∀ (H : Heap) (locs : List Loc), va_P D vwCl [(h0, .inr (0, [.ref a1, .ref a2, .ref a3, .ref a4, .int (nI n)])), (a1, .inl (cI, 4, .inl sh1)), (a2, .inl (cI, 4, .inl co1)), (a3, .inl (cI, 4, .inl bu1)), (a4, .inl (cZ, 4, .inl fl1))] H → va_D A [(h0, .inr (0, [.ref a1, .ref a2, .ref a3, .ref a4, .int (nI n)])), (a1, .inl (cI, 4, .inl sh1)), (a2, .inl (cI, 4, .inl co1)), (a3, .inl (cI, 4, .inl bu1)), (a4, .inl (cZ, 4, .inl fl1))] → va_S A s.heap H locs → ∀ (ls : Array Slot), lv_has ls 4 [(0, .ref h0), (1, .int r), (2, .int (bDaily r)), (3, .int (nI i))] → W p l e rm_X0_burn s m args below meth c H locs 0 0 Q (F0 m 14 ls []) := by
      intro kf14
      induction kf14 with
      | zero =>
        intro i hle14 hlt14
        exact absurd hlt14 (by omega)
      | succ kf14 ih14 =>
        intro i hle14 hlt14 sh1 co1 bu1 fl1 e_sh1 e_co1 e_bu1 e_fl1 H locs hP hD hS ls hl
        refine lv_iload_n hx hb dX0_burn_14 rfl (lv_at hl 3 rfl) ?_
        refine lv_aload_n hx hb dX0_burn_15 rfl (lv_at hl 0 rfl) ?_
        refine va_get (D := D) (ci := 0) (v := .int (nI n)) (C := RX0) (T := TX0) (N := 5) hx hb ht inG_X0 hown hK hP 0 rfl rfl 4 (by decide) (ht _ qF_RX0_25) (fun _ h9 => h9) rfl dX0_burn_16 ?_
        refine lv_icmp_ge (tgt := 43) hx hb dX0_burn_19 (by decide) (fun c_2 => ?_) (fun c_2 => ?_)
        · skip
          have c_2n := Int32.not_lt.mpr c_2
          have c_2m := (nI_leI (a := n) (b := i) (by omega) (by omega)).mp c_2
          exact hend _ _ _ _ _ _ (sh1, co1, bu1, fl1) dX0_burn_43 (by rw [e_sh1, e_co1, e_bu1, e_fl1, show i = n by omega]; exact ⟨rfl, rfl, rfl, rfl⟩) hP hD hS (Nat.le_of_ble_eq_true rfl) (Nat.le_of_ble_eq_true rfl)
        · skip
          have c_2n := Int32.not_le.mp c_2
          have c_2m := (nI_ltI (a := i) (b := n) (by omega) (by omega)).mp c_2n
          refine lv_aload_n hx hb dX0_burn_22 rfl (lv_at hl 0 rfl) ?_
          refine va_get (D := D) (ci := 0) (v := .ref a4) (C := RX0) (T := TX0) (N := 5) hx hb ht inG_X0 hown hK hP 0 rfl rfl 3 (by decide) (ht _ qF_RX0_21) (fun _ h9 => h9) rfl dX0_burn_23 ?_
          refine lv_iload_n hx hb dX0_burn_26 rfl (lv_at hl 3 rfl) ?_
          refine aZ hx hb hK hP 4 1 rfl rfl i (rfl) (by omega) (by decide) (v := fl i) (by rw [e_fl1]; exact rowF_at _ _ _ (Nat.le_refl _)) dX0_burn_27 ?_
          refine lv_if_eq (tgt := 37) hx hb dX0_burn_28 (by decide) (fun c_3 => ?_) (fun c_3 => ?_)
          · skip
            refine lv_iinc (v := nI (i + 1)) (lv' := [(3, .int (nI (i + 1))), (0, .ref h0), (1, .int r), (2, .int (bDaily r))]) hx hb dX0_burn_37 hl (k := 3) rfl (nI_1 i) (by decide) rfl (fun ls hl => ?_)
            refine lv_goto (tgt := 14) hx hb dX0_burn_40 (by decide) ?_
            exact ih14 (i + 1) (by omega) (by omega) sh1 co1 bu1 fl1 (by subst e_sh1 e_co1 e_bu1 e_fl1; exact (rowF_same _ _ _ (by simp only [fSh, fCo, fBu, fFl, eq_true c_1, eq_false c_1n, eq_false c_2, eq_true c_2n, eq_true c_3, if_true])).symm) (by subst e_sh1 e_co1 e_bu1 e_fl1; exact (rowF_same _ _ _ (by simp only [fSh, fCo, fBu, fFl, eq_true c_1, eq_false c_1n, eq_false c_2, eq_true c_2n, eq_true c_3, if_true])).symm) (by subst e_sh1 e_co1 e_bu1 e_fl1; exact (rowF_same _ _ _ (by simp only [fSh, fCo, fBu, fFl, eq_true c_1, eq_false c_1n, eq_false c_2, eq_true c_2n, eq_true c_3, if_true])).symm) (by subst e_sh1 e_co1 e_bu1 e_fl1; exact (rowF_same _ _ _ (by simp only [fSh, fCo, fBu, fFl, eq_true c_1, eq_false c_1n, eq_false c_2, eq_true c_2n, eq_true c_3, if_true])).symm) _ _ (hP.sub [0, 1, 2, 3, 4] rfl) (hD.sub [0, 1, 2, 3, 4] (by decide) rfl) hS _ (lv_sub hl [1, 2, 3, 0] rfl)
          · skip
            refine lv_aload_n hx hb dX0_burn_31 rfl (lv_at hl 0 rfl) ?_
            refine lv_iload_n hx hb dX0_burn_32 rfl (lv_at hl 3 rfl) ?_
            refine lv_iload_n hx hb dX0_burn_33 rfl (lv_at hl 2 rfl) ?_
            refine k_v (wr := []) (rV (As := [.int (nI i), .int (bDaily r)]) (rest := []) F hG hK (hP.sub (ws' := [(h0, .inr (0, [.ref a1, .ref a2, .ref a3, .ref a4, .int (nI n)])), (a1, .inl (cI, 4, .inl sh1)), (a2, .inl (cI, 4, .inl co1)), (a3, .inl (cI, 4, .inl bu1)), (a4, .inl (cZ, 4, .inl fl1))]) [0, 1, 2, 3, 4] rfl) ((hD.sub (ws' := [(h0, .inr (0, [.ref a1, .ref a2, .ref a3, .ref a4, .int (nI n)])), (a1, .inl (cI, 4, .inl sh1)), (a2, .inl (cI, 4, .inl co1)), (a3, .inl (cI, 4, .inl bu1)), (a4, .inl (cZ, 4, .inl fl1))]) [0, 1, 2, 3, 4] (by decide) rfl).weaken (fun _ _ _ _ => trivial)) s_RX0_29 (c_X0_burnOne l D cI cZ cJ h0 a1 a2 a3 a4 sh1 co1 bu1 fl1 n i (bDaily r) (by first | assumption | omega) _) 0 0 rfl rfl rfl rfl hl.1 rfl (Nat.le_of_ble_eq_true rfl) dX0_burn_34 ⟨(Nat.le_of_ble_eq_true rfl), (Nat.le_of_ble_eq_true rfl)⟩ ⟨(Nat.le_of_ble_eq_true rfl), (Nat.le_of_ble_eq_true rfl)⟩) hP hD hS hA [0, 1, 2, 3, 4] [] rfl rfl (by decide) (by decide) (fun uu H locs hw hP hD hS => ?_)
            obtain ⟨sh1_34, co1_34, bu1_34, fl1_34⟩ := uu
            try dsimp only at hw
            obtain ⟨rfl, rfl, rfl, rfl⟩ := hw
            have hP : va_P D vwCl [(h0, .inr (0, [.ref a1, .ref a2, .ref a3, .ref a4, .int (nI n)])), (a1, .inl (cI, 4, .inl (upd sh1 i (sh1 i - mn (bDaily r) (sh1 i))))), (a2, .inl (cI, 4, .inl (upd co1 i (mx 0 (co1 i - 2))))), (a3, .inl (cI, 4, .inl (upd bu1 i (bu1 i + mn (bDaily r) (sh1 i))))), (a4, .inl (cZ, 4, .inl (upd fl1 i (bFl (mx 0 (co1 i - 2)) (sh1 i - mn (bDaily r) (sh1 i))))))] _ := hP
            have hD : va_D A [(h0, .inr (0, [.ref a1, .ref a2, .ref a3, .ref a4, .int (nI n)])), (a1, .inl (cI, 4, .inl (upd sh1 i (sh1 i - mn (bDaily r) (sh1 i))))), (a2, .inl (cI, 4, .inl (upd co1 i (mx 0 (co1 i - 2))))), (a3, .inl (cI, 4, .inl (upd bu1 i (bu1 i + mn (bDaily r) (sh1 i))))), (a4, .inl (cZ, 4, .inl (upd fl1 i (bFl (mx 0 (co1 i - 2)) (sh1 i - mn (bDaily r) (sh1 i))))))] := hD
            refine lv_iinc (v := nI (i + 1)) (lv' := [(3, .int (nI (i + 1))), (0, .ref h0), (1, .int r), (2, .int (bDaily r))]) hx hb dX0_burn_37 hl (k := 3) rfl (nI_1 i) (by decide) rfl (fun ls hl => ?_)
            refine lv_goto (tgt := 14) hx hb dX0_burn_40 (by decide) ?_
            exact ih14 (i + 1) (by omega) (by omega) (upd sh1 i (sh1 i - mn (bDaily r) (sh1 i))) (upd co1 i (mx 0 (co1 i - 2))) (upd bu1 i (bu1 i + mn (bDaily r) (sh1 i))) (upd fl1 i (bFl (mx 0 (co1 i - 2)) (sh1 i - mn (bDaily r) (sh1 i)))) (by subst e_sh1 e_co1 e_bu1 e_fl1; exact rowF_upd _ _ _ (by simp only [fSh, fCo, fBu, fFl, bPart, eq_true c_1, eq_false c_1n, eq_false c_2, eq_true c_2n, eq_false c_3, if_false, rowF_at _ _ _ (Nat.le_refl _)])) (by subst e_sh1 e_co1 e_bu1 e_fl1; exact rowF_upd _ _ _ (by simp only [fSh, fCo, fBu, fFl, bPart, eq_true c_1, eq_false c_1n, eq_false c_2, eq_true c_2n, eq_false c_3, if_false, rowF_at _ _ _ (Nat.le_refl _)])) (by subst e_sh1 e_co1 e_bu1 e_fl1; exact rowF_upd _ _ _ (by simp only [fSh, fCo, fBu, fFl, bPart, eq_true c_1, eq_false c_1n, eq_false c_2, eq_true c_2n, eq_false c_3, if_false, rowF_at _ _ _ (Nat.le_refl _)])) (by subst e_sh1 e_co1 e_bu1 e_fl1; exact rowF_upd _ _ _ (by simp only [fSh, fCo, fBu, fFl, bPart, eq_true c_1, eq_false c_1n, eq_false c_2, eq_true c_2n, eq_false c_3, if_false, rowF_at _ _ _ (Nat.le_refl _)])) _ _ (hP.sub [0, 1, 2, 3, 4] rfl) (hD.sub [0, 1, 2, 3, 4] (by decide) rfl) hS _ (lv_sub hl [1, 2, 3, 0] rfl)
    exact loop14 (n + 1) 0 (Nat.zero_le _) (by omega) sh co bu fl ((rowF_0 _ _).symm) ((rowF_0 _ _).symm) ((rowF_0 _ _).symm) ((rowF_0 _ _).symm) _ _ (hP.sub [0, 1, 2, 3, 4] rfl) (hD.sub [0, 1, 2, 3, 4] (by decide) rfl) hS _ (lv_sub hl [2, 3, 1, 0] rfl)
  · skip
    have c_1n := Int32.not_lt.mp c_1
    refine lv_iconst (v := 4) hx hb dX0_burn_5 (by decide) ?_
    refine lv_goto (tgt := 11) hx hb dX0_burn_6 (by decide) ?_
    refine t_i (bDaily r) (by simp only [bDaily, eq_false c_1, eq_true c_1n, if_true, if_false]) ?_
    refine lv_istore_n (lv' := [(2, .int (bDaily r)), (0, .ref h0), (1, .int r)]) hx hb dX0_burn_11 rfl hl (by decide) rfl (fun ls hl => ?_)
    refine lv_iconst (v := 0) hx hb dX0_burn_12 (by decide) ?_
    refine lv_istore_n (lv' := [(3, .int 0), (2, .int (bDaily r)), (0, .ref h0), (1, .int r)]) hx hb dX0_burn_13 rfl hl (by decide) rfl (fun ls hl => ?_)
    have loop14 : ∀ (kf14 i : Nat), i ≤ n → n < i + kf14 → ∀ (sh1 : Nat → Int32) (co1 : Nat → Int32) (bu1 : Nat → Int32) (fl1 : Nat → Int32), sh1 = rowF i (fSh r sh fl) sh → co1 = rowF i (fCo co fl) co → bu1 = rowF i (fBu r sh bu fl) bu → fl1 = rowF i (fFl r sh co fl) fl → ∀ (H : Heap) (locs : List Loc), va_P D vwCl [(h0, .inr (0, [.ref a1, .ref a2, .ref a3, .ref a4, .int (nI n)])), (a1, .inl (cI, 4, .inl sh1)), (a2, .inl (cI, 4, .inl co1)), (a3, .inl (cI, 4, .inl bu1)), (a4, .inl (cZ, 4, .inl fl1))] H → va_D A [(h0, .inr (0, [.ref a1, .ref a2, .ref a3, .ref a4, .int (nI n)])), (a1, .inl (cI, 4, .inl sh1)), (a2, .inl (cI, 4, .inl co1)), (a3, .inl (cI, 4, .inl bu1)), (a4, .inl (cZ, 4, .inl fl1))] → va_S A s.heap H locs → ∀ (ls : Array Slot), lv_has ls 4 [(0, .ref h0), (1, .int r), (2, .int (bDaily r)), (3, .int (nI i))] → W p l e rm_X0_burn s m args below meth c H locs 0 0 Q (F0 m 14 ls []) := by
      intro kf14
      induction kf14 with
      | zero =>
        intro i hle14 hlt14
        exact absurd hlt14 (by omega)
      | succ kf14 ih14 =>
        intro i hle14 hlt14 sh1 co1 bu1 fl1 e_sh1 e_co1 e_bu1 e_fl1 H locs hP hD hS ls hl
        refine lv_iload_n hx hb dX0_burn_14 rfl (lv_at hl 3 rfl) ?_
        refine lv_aload_n hx hb dX0_burn_15 rfl (lv_at hl 0 rfl) ?_
        refine va_get (D := D) (ci := 0) (v := .int (nI n)) (C := RX0) (T := TX0) (N := 5) hx hb ht inG_X0 hown hK hP 0 rfl rfl 4 (by decide) (ht _ qF_RX0_25) (fun _ h9 => h9) rfl dX0_burn_16 ?_
        refine lv_icmp_ge (tgt := 43) hx hb dX0_burn_19 (by decide) (fun c_4 => ?_) (fun c_4 => ?_)
        · skip
          have c_4n := Int32.not_lt.mpr c_4
          have c_4m := (nI_leI (a := n) (b := i) (by omega) (by omega)).mp c_4
          exact hend _ _ _ _ _ _ (sh1, co1, bu1, fl1) dX0_burn_43 (by rw [e_sh1, e_co1, e_bu1, e_fl1, show i = n by omega]; exact ⟨rfl, rfl, rfl, rfl⟩) hP hD hS (Nat.le_of_ble_eq_true rfl) (Nat.le_of_ble_eq_true rfl)
        · skip
          have c_4n := Int32.not_le.mp c_4
          have c_4m := (nI_ltI (a := i) (b := n) (by omega) (by omega)).mp c_4n
          refine lv_aload_n hx hb dX0_burn_22 rfl (lv_at hl 0 rfl) ?_
          refine va_get (D := D) (ci := 0) (v := .ref a4) (C := RX0) (T := TX0) (N := 5) hx hb ht inG_X0 hown hK hP 0 rfl rfl 3 (by decide) (ht _ qF_RX0_21) (fun _ h9 => h9) rfl dX0_burn_23 ?_
          refine lv_iload_n hx hb dX0_burn_26 rfl (lv_at hl 3 rfl) ?_
          refine aZ hx hb hK hP 4 1 rfl rfl i (rfl) (by omega) (by decide) (v := fl i) (by rw [e_fl1]; exact rowF_at _ _ _ (Nat.le_refl _)) dX0_burn_27 ?_
          refine lv_if_eq (tgt := 37) hx hb dX0_burn_28 (by decide) (fun c_5 => ?_) (fun c_5 => ?_)
          · skip
            refine lv_iinc (v := nI (i + 1)) (lv' := [(3, .int (nI (i + 1))), (0, .ref h0), (1, .int r), (2, .int (bDaily r))]) hx hb dX0_burn_37 hl (k := 3) rfl (nI_1 i) (by decide) rfl (fun ls hl => ?_)
            refine lv_goto (tgt := 14) hx hb dX0_burn_40 (by decide) ?_
            exact ih14 (i + 1) (by omega) (by omega) sh1 co1 bu1 fl1 (by subst e_sh1 e_co1 e_bu1 e_fl1; exact (rowF_same _ _ _ (by simp only [fSh, fCo, fBu, fFl, eq_false c_1, eq_true c_1n, eq_false c_4, eq_true c_4n, eq_true c_5, if_true])).symm) (by subst e_sh1 e_co1 e_bu1 e_fl1; exact (rowF_same _ _ _ (by simp only [fSh, fCo, fBu, fFl, eq_false c_1, eq_true c_1n, eq_false c_4, eq_true c_4n, eq_true c_5, if_true])).symm) (by subst e_sh1 e_co1 e_bu1 e_fl1; exact (rowF_same _ _ _ (by simp only [fSh, fCo, fBu, fFl, eq_false c_1, eq_true c_1n, eq_false c_4, eq_true c_4n, eq_true c_5, if_true])).symm) (by subst e_sh1 e_co1 e_bu1 e_fl1; exact (rowF_same _ _ _ (by simp only [fSh, fCo, fBu, fFl, eq_false c_1, eq_true c_1n, eq_false c_4, eq_true c_4n, eq_true c_5, if_true])).symm) _ _ (hP.sub [0, 1, 2, 3, 4] rfl) (hD.sub [0, 1, 2, 3, 4] (by decide) rfl) hS _ (lv_sub hl [1, 2, 3, 0] rfl)
          · skip
            refine lv_aload_n hx hb dX0_burn_31 rfl (lv_at hl 0 rfl) ?_
            refine lv_iload_n hx hb dX0_burn_32 rfl (lv_at hl 3 rfl) ?_
            refine lv_iload_n hx hb dX0_burn_33 rfl (lv_at hl 2 rfl) ?_
            refine k_v (wr := []) (rV (As := [.int (nI i), .int (bDaily r)]) (rest := []) F hG hK (hP.sub (ws' := [(h0, .inr (0, [.ref a1, .ref a2, .ref a3, .ref a4, .int (nI n)])), (a1, .inl (cI, 4, .inl sh1)), (a2, .inl (cI, 4, .inl co1)), (a3, .inl (cI, 4, .inl bu1)), (a4, .inl (cZ, 4, .inl fl1))]) [0, 1, 2, 3, 4] rfl) ((hD.sub (ws' := [(h0, .inr (0, [.ref a1, .ref a2, .ref a3, .ref a4, .int (nI n)])), (a1, .inl (cI, 4, .inl sh1)), (a2, .inl (cI, 4, .inl co1)), (a3, .inl (cI, 4, .inl bu1)), (a4, .inl (cZ, 4, .inl fl1))]) [0, 1, 2, 3, 4] (by decide) rfl).weaken (fun _ _ _ _ => trivial)) s_RX0_29 (c_X0_burnOne l D cI cZ cJ h0 a1 a2 a3 a4 sh1 co1 bu1 fl1 n i (bDaily r) (by first | assumption | omega) _) 0 0 rfl rfl rfl rfl hl.1 rfl (Nat.le_of_ble_eq_true rfl) dX0_burn_34 ⟨(Nat.le_of_ble_eq_true rfl), (Nat.le_of_ble_eq_true rfl)⟩ ⟨(Nat.le_of_ble_eq_true rfl), (Nat.le_of_ble_eq_true rfl)⟩) hP hD hS hA [0, 1, 2, 3, 4] [] rfl rfl (by decide) (by decide) (fun uu H locs hw hP hD hS => ?_)
            obtain ⟨sh1_34, co1_34, bu1_34, fl1_34⟩ := uu
            try dsimp only at hw
            obtain ⟨rfl, rfl, rfl, rfl⟩ := hw
            have hP : va_P D vwCl [(h0, .inr (0, [.ref a1, .ref a2, .ref a3, .ref a4, .int (nI n)])), (a1, .inl (cI, 4, .inl (upd sh1 i (sh1 i - mn (bDaily r) (sh1 i))))), (a2, .inl (cI, 4, .inl (upd co1 i (mx 0 (co1 i - 2))))), (a3, .inl (cI, 4, .inl (upd bu1 i (bu1 i + mn (bDaily r) (sh1 i))))), (a4, .inl (cZ, 4, .inl (upd fl1 i (bFl (mx 0 (co1 i - 2)) (sh1 i - mn (bDaily r) (sh1 i))))))] _ := hP
            have hD : va_D A [(h0, .inr (0, [.ref a1, .ref a2, .ref a3, .ref a4, .int (nI n)])), (a1, .inl (cI, 4, .inl (upd sh1 i (sh1 i - mn (bDaily r) (sh1 i))))), (a2, .inl (cI, 4, .inl (upd co1 i (mx 0 (co1 i - 2))))), (a3, .inl (cI, 4, .inl (upd bu1 i (bu1 i + mn (bDaily r) (sh1 i))))), (a4, .inl (cZ, 4, .inl (upd fl1 i (bFl (mx 0 (co1 i - 2)) (sh1 i - mn (bDaily r) (sh1 i))))))] := hD
            refine lv_iinc (v := nI (i + 1)) (lv' := [(3, .int (nI (i + 1))), (0, .ref h0), (1, .int r), (2, .int (bDaily r))]) hx hb dX0_burn_37 hl (k := 3) rfl (nI_1 i) (by decide) rfl (fun ls hl => ?_)
            refine lv_goto (tgt := 14) hx hb dX0_burn_40 (by decide) ?_
            exact ih14 (i + 1) (by omega) (by omega) (upd sh1 i (sh1 i - mn (bDaily r) (sh1 i))) (upd co1 i (mx 0 (co1 i - 2))) (upd bu1 i (bu1 i + mn (bDaily r) (sh1 i))) (upd fl1 i (bFl (mx 0 (co1 i - 2)) (sh1 i - mn (bDaily r) (sh1 i)))) (by subst e_sh1 e_co1 e_bu1 e_fl1; exact rowF_upd _ _ _ (by simp only [fSh, fCo, fBu, fFl, bPart, eq_false c_1, eq_true c_1n, eq_false c_4, eq_true c_4n, eq_false c_5, if_false, rowF_at _ _ _ (Nat.le_refl _)])) (by subst e_sh1 e_co1 e_bu1 e_fl1; exact rowF_upd _ _ _ (by simp only [fSh, fCo, fBu, fFl, bPart, eq_false c_1, eq_true c_1n, eq_false c_4, eq_true c_4n, eq_false c_5, if_false, rowF_at _ _ _ (Nat.le_refl _)])) (by subst e_sh1 e_co1 e_bu1 e_fl1; exact rowF_upd _ _ _ (by simp only [fSh, fCo, fBu, fFl, bPart, eq_false c_1, eq_true c_1n, eq_false c_4, eq_true c_4n, eq_false c_5, if_false, rowF_at _ _ _ (Nat.le_refl _)])) (by subst e_sh1 e_co1 e_bu1 e_fl1; exact rowF_upd _ _ _ (by simp only [fSh, fCo, fBu, fFl, bPart, eq_false c_1, eq_true c_1n, eq_false c_4, eq_true c_4n, eq_false c_5, if_false, rowF_at _ _ _ (Nat.le_refl _)])) _ _ (hP.sub [0, 1, 2, 3, 4] rfl) (hD.sub [0, 1, 2, 3, 4] (by decide) rfl) hS _ (lv_sub hl [1, 2, 3, 0] rfl)
    exact loop14 (n + 1) 0 (Nat.zero_le _) (by omega) sh co bu fl ((rowF_0 _ _).symm) ((rowF_0 _ _).symm) ((rowF_0 _ _).symm) ((rowF_0 _ _).symm) _ _ (hP.sub [0, 1, 2, 3, 4] rfl) (hD.sub [0, 1, 2, 3, 4] (by decide) rfl) hS _ (lv_sub hl [2, 3, 1, 0] rfl)
