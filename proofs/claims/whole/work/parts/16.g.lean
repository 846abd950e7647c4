/-! the reference: its flat rows of the same works -/
def st7 (a b c d e f g : Int32) : Nat → Int32 := fun j => if j = 0 then a else if j = 1 then b else if j = 2 then c else if j = 3 then d else if j = 4 then e else if j = 5 then f else if j = 6 then g else 0
def hp4 (a b c d : Nat → Int32) : Nat → Int32 := fun j => if j % 4 = 0 then a (j / 4) else if j % 4 = 1 then b (j / 4) else if j % 4 = 2 then c (j / 4) else d (j / 4)
def ho2 (a b : Nat → Int32) : Nat → Int32 := fun j => if j % 2 = 0 then a (j / 2) else b (j / 2)
def ke3 (a b c : Nat → Int32) : Nat → Int32 := fun j => if j % 3 = 0 then a (j / 3) else if j % 3 = 1 then b (j / 3) else c (j / 3)
theorem st7_u0 (a b c d e f g x : Int32) : upd (st7 a b c d e f g) 0 x = st7 x b c d e f g := funext fun j => by
  unfold upd st7; by_cases h : j = 0 <;> simp [h]
theorem st7_u1 (a b c d e f g x : Int32) : upd (st7 a b c d e f g) 1 x = st7 a x c d e f g := funext fun j => by
  unfold upd st7; by_cases h : j = 1 <;> simp [h]
theorem st7_u2 (a b c d e f g x : Int32) : upd (st7 a b c d e f g) 2 x = st7 a b x d e f g := funext fun j => by
  unfold upd st7; by_cases h : j = 2 <;> simp [h]
theorem st7_u3 (a b c d e f g x : Int32) : upd (st7 a b c d e f g) 3 x = st7 a b c x e f g := funext fun j => by
  unfold upd st7; by_cases h : j = 3 <;> simp [h]
theorem st7_u4 (a b c d e f g x : Int32) : upd (st7 a b c d e f g) 4 x = st7 a b c d x f g := funext fun j => by
  unfold upd st7; by_cases h : j = 4 <;> simp [h]
theorem st7_u5 (a b c d e f g x : Int32) : upd (st7 a b c d e f g) 5 x = st7 a b c d e x g := funext fun j => by
  unfold upd st7; by_cases h : j = 5 <;> simp [h]
theorem st7_u6 (a b c d e f g x : Int32) : upd (st7 a b c d e f g) 6 x = st7 a b c d e f x := funext fun j => by
  unfold upd st7; by_cases h : j = 6 <;> simp [h]
theorem hp4_0 (a b c d : Nat → Int32) (k : Nat) : hp4 a b c d (4 * k) = a k := by
  unfold hp4; rw [show 4 * k % 4 = 0 by omega, show 4 * k / 4 = k by omega]; rfl
theorem hp4_1 (a b c d : Nat → Int32) (k : Nat) : hp4 a b c d (4 * k + 1) = b k := by
  unfold hp4; rw [show (4 * k + 1) % 4 = 1 by omega, show (4 * k + 1) / 4 = k by omega]; rfl
theorem hp4_2 (a b c d : Nat → Int32) (k : Nat) : hp4 a b c d (4 * k + 2) = c k := by
  unfold hp4; rw [show (4 * k + 2) % 4 = 2 by omega, show (4 * k + 2) / 4 = k by omega]; rfl
theorem hp4_3 (a b c d : Nat → Int32) (k : Nat) : hp4 a b c d (4 * k + 3) = d k := by
  unfold hp4; rw [show (4 * k + 3) % 4 = 3 by omega, show (4 * k + 3) / 4 = k by omega]; rfl
theorem ho2_0 (a b : Nat → Int32) (k : Nat) : ho2 a b (2 * k) = a k := by
  unfold ho2; rw [show 2 * k % 2 = 0 by omega, show 2 * k / 2 = k by omega]; rfl
theorem ho2_1 (a b : Nat → Int32) (k : Nat) : ho2 a b (2 * k + 1) = b k := by
  unfold ho2; rw [show (2 * k + 1) % 2 = 1 by omega, show (2 * k + 1) / 2 = k by omega]; rfl
theorem ke3_0 (a b c : Nat → Int32) (k : Nat) : ke3 a b c (3 * k) = a k := by
  unfold ke3; rw [show 3 * k % 3 = 0 by omega, show 3 * k / 3 = k by omega]; rfl
theorem ke3_1 (a b c : Nat → Int32) (k : Nat) : ke3 a b c (3 * k + 1) = b k := by
  unfold ke3; rw [show (3 * k + 1) % 3 = 1 by omega, show (3 * k + 1) / 3 = k by omega]; rfl
theorem ke3_2 (a b c : Nat → Int32) (k : Nat) : ke3 a b c (3 * k + 2) = c k := by
  unfold ke3; rw [show (3 * k + 2) % 3 = 2 by omega, show (3 * k + 2) / 3 = k by omega]; rfl
theorem hp4_u0 (a b c d : Nat → Int32) (k : Nat) (x : Int32) : upd (hp4 a b c d) (4 * k) x = hp4 (upd a k x) b c d := funext fun j => by
  unfold upd hp4
  by_cases h : j = 4 * k
  · subst h; simp [show 4 * k % 4 = 0 by omega, show 4 * k / 4 = k by omega]
  · by_cases h2 : j % 4 = 0
    · have : ¬ j / 4 = k := by omega
      simp [h, h2, this]
    · simp [h, h2]
theorem hp4_u1 (a b c d : Nat → Int32) (k : Nat) (x : Int32) : upd (hp4 a b c d) (4 * k + 1) x = hp4 a (upd b k x) c d := funext fun j => by
  unfold upd hp4
  by_cases h : j = 4 * k + 1
  · subst h; simp [show (4 * k + 1) % 4 = 1 by omega, show (4 * k + 1) / 4 = k by omega]
  · by_cases h2 : j % 4 = 1
    · have : ¬ j / 4 = k := by omega
      simp [h, h2, this]
    · simp [h, h2]
theorem hp4_u2 (a b c d : Nat → Int32) (k : Nat) (x : Int32) : upd (hp4 a b c d) (4 * k + 2) x = hp4 a b (upd c k x) d := funext fun j => by
  unfold upd hp4
  by_cases h : j = 4 * k + 2
  · subst h; simp [show (4 * k + 2) % 4 = 2 by omega, show (4 * k + 2) / 4 = k by omega]
  · by_cases h2 : j % 4 = 2
    · have : ¬ j / 4 = k := by omega
      simp [h, h2, this]
    · simp [h, h2]
theorem hp4_u3 (a b c d : Nat → Int32) (k : Nat) (x : Int32) : upd (hp4 a b c d) (4 * k + 3) x = hp4 a b c (upd d k x) := funext fun j => by
  unfold upd hp4
  by_cases h : j = 4 * k + 3
  · subst h; simp [show (4 * k + 3) % 4 = 3 by omega, show (4 * k + 3) / 4 = k by omega]
  · by_cases h2 : j % 4 = 3
    · have : ¬ j / 4 = k := by omega
      simp [h, h2, this]
    · have : j % 4 = 0 ∨ j % 4 = 1 ∨ j % 4 = 2 := by omega
      rcases this with h3 | h3 | h3 <;> simp [h, h3]
theorem ho2_u0 (a b : Nat → Int32) (k : Nat) (x : Int32) : upd (ho2 a b) (2 * k) x = ho2 (upd a k x) b := funext fun j => by
  unfold upd ho2
  by_cases h : j = 2 * k
  · subst h; simp [show 2 * k % 2 = 0 by omega, show 2 * k / 2 = k by omega]
  · by_cases h2 : j % 2 = 0
    · have : ¬ j / 2 = k := by omega
      simp [h, h2, this]
    · simp [h, h2]
theorem ho2_u1 (a b : Nat → Int32) (k : Nat) (x : Int32) : upd (ho2 a b) (2 * k + 1) x = ho2 a (upd b k x) := funext fun j => by
  unfold upd ho2
  by_cases h : j = 2 * k + 1
  · subst h; simp [show (2 * k + 1) % 2 = 1 by omega, show (2 * k + 1) / 2 = k by omega]
  · by_cases h2 : j % 2 = 0
    · simp [h, h2]
    · have : ¬ j / 2 = k := by omega
      simp [h, h2, this]
theorem ke3_u0 (a b c : Nat → Int32) (k : Nat) (x : Int32) : upd (ke3 a b c) (3 * k) x = ke3 (upd a k x) b c := funext fun j => by
  unfold upd ke3
  by_cases h : j = 3 * k
  · subst h; simp [show 3 * k % 3 = 0 by omega, show 3 * k / 3 = k by omega]
  · by_cases h2 : j % 3 = 0
    · have : ¬ j / 3 = k := by omega
      simp [h, h2, this]
    · simp [h, h2]
theorem ke3_u1 (a b c : Nat → Int32) (k : Nat) (x : Int32) : upd (ke3 a b c) (3 * k + 1) x = ke3 a (upd b k x) c := funext fun j => by
  unfold upd ke3
  by_cases h : j = 3 * k + 1
  · subst h; simp [show (3 * k + 1) % 3 = 1 by omega, show (3 * k + 1) / 3 = k by omega]
  · by_cases h2 : j % 3 = 1
    · have : ¬ j / 3 = k := by omega
      simp [h, h2, this]
    · simp [h, h2]
theorem ke3_u2 (a b c : Nat → Int32) (k : Nat) (x : Int32) : upd (ke3 a b c) (3 * k + 2) x = ke3 a b (upd c k x) := funext fun j => by
  unfold upd ke3
  by_cases h : j = 3 * k + 2
  · subst h; simp [show (3 * k + 2) % 3 = 2 by omega, show (3 * k + 2) / 3 = k by omega]
  · by_cases h2 : j % 3 = 2
    · have : ¬ j / 3 = k := by omega
      simp [h, h2, this]
    · have : j % 3 = 0 ∨ j % 3 = 1 := by omega
      rcases this with h3 | h3 <;> simp [h, h3]
theorem upd_self (f : Nat → Int32) (k : Nat) {x : Int32} (h : x = f k) : upd f k x = f := funext fun j => by
  unfold upd; by_cases hj : j = k <;> simp [hj, h]
/-- n - 1 as the last of the places -/
theorem le_pred {x : Int32} {n : Nat} (hn : n < 1000) : x ≤ nI n - 1 ↔ x < nI n := by
  rw [Int32.le_iff_toInt_le, Int32.lt_iff_toInt_lt]
  have h1 : (nI n - nI 1).toInt = (n : Int) - 1 := pk_sub_toInt (by omega) (by omega)
  have h2 : (nI n).toInt = (n : Int) := nI_toInt (by omega)
  have h3 : nI n - 1 = nI n - nI 1 := rfl
  rw [h3, h1, h2]
  omega
theorem mn_comm (x y : Int32) : mn x y = mn y x := by
  unfold mn
  by_cases h1 : y < x
  · have h2 : ¬ x < y := fun q => Int32.lt_irrefl (Int32.lt_trans h1 q)
    rw [if_pos h1, if_neg h2]
  · by_cases h2 : x < y
    · rw [if_neg h1, if_pos h2]
    · rw [if_neg h1, if_neg h2]
      exact Int32.le_antisymm (Int32.not_lt.mp h1) (Int32.not_lt.mp h2)
theorem or01 {x : Int32} (h : 0 ≤ x ∧ x ≤ 1) : x = 0 ∨ x = 1 := by
  obtain ⟨j, hj, rfl⟩ := inP (n := 1) (by decide) h
  rcases (show j = 0 ∨ j = 1 by omega) with rfl | rfl
  · exact Or.inl rfl
  · exact Or.inr rfl
theorem one_tog {x : Int32} (h : x = 0 ∨ x = 1) : 1 - x = tog x := by rcases h with rfl | rfl <;> decide
theorem tog_01 (x : Int32) : tog x = 0 ∨ tog x = 1 := by unfold tog; by_cases h : x = 0 <;> simp [h]
theorem b01_of {x : Int32} (h : x = 0 ∨ x = 1) : b01 x = x := by rcases h with rfl | rfl <;> decide
theorem ne0_1 {x : Int32} (h : x = 1) : ¬ x = 0 := by rw [h]; decide
theorem eq0_n1 {x : Int32} (h : x = 0 ∨ x = 1) (h1 : ¬ x = 1) : x = 0 := h.resolve_right h1
theorem zero_le0 {x : Int32} (h : x = 0) : x ≤ 0 := h ▸ Int32.le_refl _
theorem ne_le0 {x : Int32} (h : ¬ x = 0) (h0 : 0 ≤ x) : ¬ x ≤ 0 := fun q => h (Int32.le_antisymm q h0)
def tld (w a x : Int32) : Int32 := if x = 0 then w else if x = 1 then a else if x = 2 then strg w a else eggB (strg w a)
/-- the numbers of the works: what the reference's other words need -/
def toI (f : Nat → Int32) (j : Nat) : Int := (f j).toInt
def alm (v : VT) : Int := toI (vpa v) 0 + toI (vpa v) 1 + toI (vpa v) 2 + toI (vpa v) 3 + toI (vka v) 0 + toI (vka v) 1 + toI (vka v) 2
def NN (v : VT) : Prop := (∀ j, 0 ≤ toI (vsh v) j ∧ 0 ≤ toI (vbu v) j ∧ toI (vsh v) j + toI (vbu v) j ≤ 200) ∧ (∀ j, 0 ≤ toI (vpw v) j ∧ toI (vpw v) j ≤ 400 ∧ 0 ≤ toI (vpa v) j) ∧ (∀ j, 0 ≤ toI (vkw v) j ∧ toI (vkw v) j ≤ 150 ∧ 0 ≤ toI (vka v) j) ∧ alm v ≤ 60000 ∧ (∀ j, 0 ≤ toI (vR v) j ∧ toI (vR v) j ≤ 9)
theorem vp_in_of2 {x : Int32} {n : Nat} (hn : n < 1000) (h : 0 ≤ x ∧ x ≤ nI n - 1) : vp_in x n := by
  have h2 := (le_pred (x := x) hn).mp h.2
  rw [vp_in_iff]
  have h3 := Int32.lt_iff_toInt_lt.mp h2
  rw [nI_toInt (by omega)] at h3
  exact ⟨Int32.le_iff_toInt_le.mp h.1, h3⟩
theorem s_RX4_35 : sS RX4 35 yX4_isIn cX4_isIn 3 (some .boolean) 3 := sS.mk qM_RX4_35 qS_yX4_isIn qN_RX4 qC_yX4_isIn ⟨by decide +kernel, by decide +kernel, by decide +kernel⟩
def rm_X4_thrown : Room := { frames := 0, cells := 0, slots := 0, locals := 0 }
set_option maxHeartbeats 4000000 in
set_option maxRecDepth 100000 in
theorem c_X4_thrown (l : Launch) (D : va_G) (cI cZ cJ : ClassId) (m0 m1 m2 m3 m4 m5 m6 : Nat) (nC nP nK : Nat) (th : Int32)  : Mi l yX4_thrown cX4_thrown 1 (some .int) rm_X4_thrown D (TY cI cZ cJ) [.ref m0] [(m0, .inr (4, [.int th, .int (nI nC), .int (nI nP), .int (nI nK), .ref m1, .ref m2, .ref m3, .ref m4, .ref m5, .ref m6]))] (fun (r : Int32) (u : Unit) => r = th) (fun (u : Unit) => [(m0, .inr (4, [.int th, .int (nI nC), .int (nI nP), .int (nI nK), .ref m1, .ref m2, .ref m3, .ref m4, .ref m5, .ref m6]))]) := by
  refine Mi.ofQ (by decide) (Nat.le_of_ble_eq_true rfl) ?_
  intro p e s m args below meth c A ls Q hF hK hP hD hA hl hend
  obtain ⟨F, hr, hlocks, hG⟩ := hF
  have hx := F.1
  have hb := F.2.1
  have hown := F.2.2.2.1
  have ht := F.2.2.2.2
  have hS : va_S A s.heap s.heap [] := va_S.rf
  have hl : lv_has ls 1 [(0, .ref m0)] := hl
  refine lv_aload_n hx hb dX4_thrown_0 rfl (lv_at hl 0 rfl) ?_
  refine va_get (D := D) (ci := 4) (v := .int th) (C := RX4) (T := TX4) (N := 10) hx hb ht inG_X4 hown hK hP 0 rfl rfl 0 (by decide) (ht _ qF_RX4_28) (fun _ h9 => h9) rfl dX4_thrown_1 ?_
  exact hend _ _ _ _ _ _ th () dX4_thrown_4 (rfl) hP hD hS rfl (Nat.le_of_ble_eq_true rfl) (Nat.le_of_ble_eq_true rfl)

def rm_X4_fail : Room := { frames := 0, cells := 0, slots := 0, locals := 0 }
set_option maxHeartbeats 4000000 in
set_option maxRecDepth 100000 in
theorem c_X4_fail (l : Launch) (D : va_G) (cI cZ cJ : ClassId) (m0 m1 m2 m3 m4 m5 m6 : Nat) (nC nP nK : Nat) (th : Int32) (x : Int32)  : Mi l yX4_fail cX4_fail 2 (some .int) rm_X4_fail D (TY cI cZ cJ) [.ref m0, .int x] [(m0, .inr (4, [.int th, .int (nI nC), .int (nI nP), .int (nI nK), .ref m1, .ref m2, .ref m3, .ref m4, .ref m5, .ref m6]))] (fun (r : Int32) (u : Unit) => r = 0) (fun (u : Unit) => [(m0, .inr (4, [.int x, .int (nI nC), .int (nI nP), .int (nI nK), .ref m1, .ref m2, .ref m3, .ref m4, .ref m5, .ref m6]))]) := by
  refine Mi.ofQ (by decide) (Nat.le_of_ble_eq_true rfl) ?_
  intro p e s m args below meth c A ls Q hF hK hP hD hA hl hend
  obtain ⟨F, hr, hlocks, hG⟩ := hF
  have hx := F.1
  have hb := F.2.1
  have hown := F.2.2.2.1
  have ht := F.2.2.2.2
  have hS : va_S A s.heap s.heap [] := va_S.rf
  have hl : lv_has ls 2 [(0, .ref m0), (1, .int x)] := hl
  refine lv_aload_n hx hb dX4_fail_0 rfl (lv_at hl 0 rfl) ?_
  refine lv_iload_n hx hb dX4_fail_1 rfl (lv_at hl 1 rfl) ?_
  refine va_put (D := D) (ci := 4) (v := .int x) (C := RX4) (T := TX4) (N := 10) hx hb ht inG_X4 tyX4 tyX4_ok nmX4 hown hK hP hD hS 0 rfl rfl 0 (by decide) (ht _ qF_RX4_28) (fun _ h9 => h9) rfl (tyX4_ok 0 (by decide)) rfl rfl (Nat.le_of_ble_eq_true rfl) dX4_fail_2 (fun H locs hP hD hS => ?_)
  have hP : va_P D vwCl [(m0, .inr (4, [.int x, .int (nI nC), .int (nI nP), .int (nI nK), .ref m1, .ref m2, .ref m3, .ref m4, .ref m5, .ref m6]))] _ := hP
  have hD : va_D A [(m0, .inr (4, [.int x, .int (nI nC), .int (nI nP), .int (nI nK), .ref m1, .ref m2, .ref m3, .ref m4, .ref m5, .ref m6]))] := hD
  refine lv_iconst (v := 0) hx hb dX4_fail_5 (by decide) ?_
  exact hend _ _ _ _ _ _ 0 () dX4_fail_6 (rfl) hP hD hS rfl (Nat.le_of_ble_eq_true rfl) (Nat.le_of_ble_eq_true rfl)

def rm_X4_isIn : Room := { frames := 0, cells := 0, slots := 0, locals := 0 }
set_option maxHeartbeats 4000000 in
set_option maxRecDepth 100000 in
theorem c_X4_isIn (l : Launch) (D : va_G) (cI cZ cJ : ClassId) (x y z : Int32)  : Mi l yX4_isIn cX4_isIn 3 (some .boolean) rm_X4_isIn D (TY cI cZ cJ) [.int x, .int y, .int z] [] (fun (r : Int32) (u : Unit) => (r = 1 ∧ y ≤ x ∧ x ≤ z) ∨ (r = 0 ∧ ¬ (y ≤ x ∧ x ≤ z))) (fun (u : Unit) => []) := by
  refine Mi.ofQ (by decide) (Nat.le_of_ble_eq_true rfl) ?_
  intro p e s m args below meth c A ls Q hF hK hP hD hA hl hend
  obtain ⟨F, hr, hlocks, hG⟩ := hF
  have hx := F.1
  have hb := F.2.1
  have hown := F.2.2.2.1
  have ht := F.2.2.2.2
  have hS : va_S A s.heap s.heap [] := va_S.rf
  have hl : lv_has ls 3 [(0, .int x), (1, .int y), (2, .int z)] := hl
  refine lv_iload_n hx hb dX4_isIn_0 rfl (lv_at hl 0 rfl) ?_
  refine lv_iload_n hx hb dX4_isIn_1 rfl (lv_at hl 1 rfl) ?_
  refine lv_icmp_lt (tgt := 14) hx hb dX4_isIn_2 (by decide) (fun c_1 => ?_) (fun c_1 => ?_)
  · skip
    have c_1n := Int32.not_le.mpr c_1
    refine lv_iconst (v := 0) hx hb dX4_isIn_14 (by decide) ?_
    exact hend _ _ _ _ _ _ 0 () dX4_isIn_15 (by simp [eq_true c_1, eq_false c_1n]) hP hD hS (by decide) (Nat.le_of_ble_eq_true rfl) (Nat.le_of_ble_eq_true rfl)
  · skip
    have c_1n := Int32.not_lt.mp c_1
    refine lv_iload_n hx hb dX4_isIn_5 rfl (lv_at hl 0 rfl) ?_
    refine lv_iload_n hx hb dX4_isIn_6 rfl (lv_at hl 2 rfl) ?_
    refine lv_icmp_gt (tgt := 14) hx hb dX4_isIn_7 (by decide) (fun c_2 => ?_) (fun c_2 => ?_)
    · skip
      have c_2n := Int32.not_le.mpr c_2
      refine lv_iconst (v := 0) hx hb dX4_isIn_14 (by decide) ?_
      exact hend _ _ _ _ _ _ 0 () dX4_isIn_15 (by simp [eq_false c_1, eq_true c_1n, eq_true c_2, eq_false c_2n]) hP hD hS (by decide) (Nat.le_of_ble_eq_true rfl) (Nat.le_of_ble_eq_true rfl)
    · skip
      have c_2n := Int32.not_lt.mp c_2
      refine lv_iconst (v := 1) hx hb dX4_isIn_10 (by decide) ?_
      refine lv_goto (tgt := 15) hx hb dX4_isIn_11 (by decide) ?_
      exact hend _ _ _ _ _ _ 1 () dX4_isIn_15 (by simp [eq_false c_1, eq_true c_1n, eq_false c_2, eq_true c_2n]) hP hD hS (by decide) (Nat.le_of_ble_eq_true rfl) (Nat.le_of_ble_eq_true rfl)

def rm_X4_isClamp : Room := { frames := 1, cells := 0, slots := 0, locals := 22 }
set_option maxHeartbeats 4000000 in
set_option maxRecDepth 100000 in
theorem c_X4_isClamp (l : Launch) (D : va_G) (cI cZ cJ : ClassId) (m0 m1 m2 m3 m4 m5 m6 : Nat) (nP nK n : Nat) (th : Int32) (x : Int32) (hn : n ≤ 4) : Mi l yX4_isClamp cX4_isClamp 2 (some .boolean) rm_X4_isClamp D (TY cI cZ cJ) [.ref m0, .int x] [(m0, .inr (4, [.int th, .int (nI n), .int (nI nP), .int (nI nK), .ref m1, .ref m2, .ref m3, .ref m4, .ref m5, .ref m6]))] (fun (r : Int32) (u : Unit) => (r = 1 ∧ ∃ j : Nat, j < n ∧ x = nI j) ∨ (r = 0 ∧ ¬ (0 ≤ x ∧ x < nI n))) (fun (u : Unit) => [(m0, .inr (4, [.int th, .int (nI n), .int (nI nP), .int (nI nK), .ref m1, .ref m2, .ref m3, .ref m4, .ref m5, .ref m6]))]) := by
  refine Mi.ofQ (by decide) (Nat.le_of_ble_eq_true rfl) ?_
  intro p e s m args below meth c A ls Q hF hK hP hD hA hl hend
  obtain ⟨F, hr, hlocks, hG⟩ := hF
  have hx := F.1
  have hb := F.2.1
  have hown := F.2.2.2.1
  have ht := F.2.2.2.2
  have hS : va_S A s.heap s.heap [] := va_S.rf
  have hl : lv_has ls 2 [(0, .ref m0), (1, .int x)] := hl
  refine lv_iload_n hx hb dX4_isClamp_0 rfl (lv_at hl 1 rfl) ?_
  refine lv_iconst (v := 0) hx hb dX4_isClamp_1 (by decide) ?_
  refine lv_aload_n hx hb dX4_isClamp_2 rfl (lv_at hl 0 rfl) ?_
  refine va_get (D := D) (ci := 4) (v := .int (nI n)) (C := RX4) (T := TX4) (N := 10) hx hb ht inG_X4 hown hK hP 0 rfl rfl 1 (by decide) (ht _ qF_RX4_32) (fun _ h9 => h9) rfl dX4_isClamp_3 ?_
  refine lv_iconst (v := 1) hx hb dX4_isClamp_6 (by decide) ?_
  refine lv_isub hx hb dX4_isClamp_7 ?_
  refine k_i (wr := [(m0, .inr (4, [.int th, .int (nI n), .int (nI nP), .int (nI nK), .ref m1, .ref m2, .ref m3, .ref m4, .ref m5, .ref m6]))]) (rS (As := [.int x, .int 0, .int ((nI n) - 1)]) (rest := []) F hG hK (hP.sub (ws' := []) [] rfl) ((hD.sub (ws' := []) [] (by decide) rfl).weaken (fun _ _ _ _ => trivial)) s_RX4_35 (c_X4_isIn l D cI cZ cJ x 0 ((nI n) - 1) _) rfl hl.1 rfl (Nat.le_of_ble_eq_true rfl) dX4_isClamp_8 ⟨(Nat.le_of_ble_eq_true rfl), (Nat.le_of_ble_eq_true rfl)⟩ ⟨(Nat.le_of_ble_eq_true rfl), (Nat.le_of_ble_eq_true rfl)⟩) hP hD hS hA [] [0] rfl rfl (by decide) (by decide) (fun r_8 uu H locs hw hP hD hS => ?_)
  try dsimp only at hw
  have hP : va_P D vwCl [(m0, .inr (4, [.int th, .int (nI n), .int (nI nP), .int (nI nK), .ref m1, .ref m2, .ref m3, .ref m4, .ref m5, .ref m6]))] _ := hP
  have hD : va_D A [(m0, .inr (4, [.int th, .int (nI n), .int (nI nP), .int (nI nK), .ref m1, .ref m2, .ref m3, .ref m4, .ref m5, .ref m6]))] := hD
  rcases hw with ⟨rfl, b_1⟩ | ⟨rfl, b_1⟩
  · skip
    exact hend _ _ _ _ _ _ 1 () dX4_isClamp_11 (Or.inl ⟨rfl, vp_in_of (vp_in_of2 (by omega) b_1) (by omega)⟩) hP hD hS (by decide) (Nat.le_of_ble_eq_true rfl) (Nat.le_of_ble_eq_true rfl)
  · skip
    exact hend _ _ _ _ _ _ 0 () dX4_isClamp_11 (Or.inr ⟨rfl, fun q => b_1 ⟨q.1, (le_pred (by omega)).mpr q.2⟩⟩) hP hD hS (by decide) (Nat.le_of_ble_eq_true rfl) (Nat.le_of_ble_eq_true rfl)

def rm_X4_isPit : Room := { frames := 1, cells := 0, slots := 0, locals := 22 }
set_option maxHeartbeats 4000000 in
set_option maxRecDepth 100000 in
theorem c_X4_isPit (l : Launch) (D : va_G) (cI cZ cJ : ClassId) (m0 m1 m2 m3 m4 m5 m6 : Nat) (nC nK n : Nat) (th : Int32) (x : Int32) (hn : n ≤ 4) : Mi l yX4_isPit cX4_isPit 2 (some .boolean) rm_X4_isPit D (TY cI cZ cJ) [.ref m0, .int x] [(m0, .inr (4, [.int th, .int (nI nC), .int (nI n), .int (nI nK), .ref m1, .ref m2, .ref m3, .ref m4, .ref m5, .ref m6]))] (fun (r : Int32) (u : Unit) => (r = 1 ∧ ∃ j : Nat, j < n ∧ x = nI j) ∨ (r = 0 ∧ ¬ (0 ≤ x ∧ x < nI n))) (fun (u : Unit) => [(m0, .inr (4, [.int th, .int (nI nC), .int (nI n), .int (nI nK), .ref m1, .ref m2, .ref m3, .ref m4, .ref m5, .ref m6]))]) := by
  refine Mi.ofQ (by decide) (Nat.le_of_ble_eq_true rfl) ?_
  intro p e s m args below meth c A ls Q hF hK hP hD hA hl hend
  obtain ⟨F, hr, hlocks, hG⟩ := hF
  have hx := F.1
  have hb := F.2.1
  have hown := F.2.2.2.1
  have ht := F.2.2.2.2
  have hS : va_S A s.heap s.heap [] := va_S.rf
  have hl : lv_has ls 2 [(0, .ref m0), (1, .int x)] := hl
  refine lv_iload_n hx hb dX4_isPit_0 rfl (lv_at hl 1 rfl) ?_
  refine lv_iconst (v := 0) hx hb dX4_isPit_1 (by decide) ?_
  refine lv_aload_n hx hb dX4_isPit_2 rfl (lv_at hl 0 rfl) ?_
  refine va_get (D := D) (ci := 4) (v := .int (nI n)) (C := RX4) (T := TX4) (N := 10) hx hb ht inG_X4 hown hK hP 0 rfl rfl 2 (by decide) (ht _ qF_RX4_39) (fun _ h9 => h9) rfl dX4_isPit_3 ?_
  refine lv_iconst (v := 1) hx hb dX4_isPit_6 (by decide) ?_
  refine lv_isub hx hb dX4_isPit_7 ?_
  refine k_i (wr := [(m0, .inr (4, [.int th, .int (nI nC), .int (nI n), .int (nI nK), .ref m1, .ref m2, .ref m3, .ref m4, .ref m5, .ref m6]))]) (rS (As := [.int x, .int 0, .int ((nI n) - 1)]) (rest := []) F hG hK (hP.sub (ws' := []) [] rfl) ((hD.sub (ws' := []) [] (by decide) rfl).weaken (fun _ _ _ _ => trivial)) s_RX4_35 (c_X4_isIn l D cI cZ cJ x 0 ((nI n) - 1) _) rfl hl.1 rfl (Nat.le_of_ble_eq_true rfl) dX4_isPit_8 ⟨(Nat.le_of_ble_eq_true rfl), (Nat.le_of_ble_eq_true rfl)⟩ ⟨(Nat.le_of_ble_eq_true rfl), (Nat.le_of_ble_eq_true rfl)⟩) hP hD hS hA [] [0] rfl rfl (by decide) (by decide) (fun r_8 uu H locs hw hP hD hS => ?_)
  try dsimp only at hw
  have hP : va_P D vwCl [(m0, .inr (4, [.int th, .int (nI nC), .int (nI n), .int (nI nK), .ref m1, .ref m2, .ref m3, .ref m4, .ref m5, .ref m6]))] _ := hP
  have hD : va_D A [(m0, .inr (4, [.int th, .int (nI nC), .int (nI n), .int (nI nK), .ref m1, .ref m2, .ref m3, .ref m4, .ref m5, .ref m6]))] := hD
  rcases hw with ⟨rfl, b_1⟩ | ⟨rfl, b_1⟩
  · skip
    exact hend _ _ _ _ _ _ 1 () dX4_isPit_11 (Or.inl ⟨rfl, vp_in_of (vp_in_of2 (by omega) b_1) (by omega)⟩) hP hD hS (by decide) (Nat.le_of_ble_eq_true rfl) (Nat.le_of_ble_eq_true rfl)
  · skip
    exact hend _ _ _ _ _ _ 0 () dX4_isPit_11 (Or.inr ⟨rfl, fun q => b_1 ⟨q.1, (le_pred (by omega)).mpr q.2⟩⟩) hP hD hS (by decide) (Nat.le_of_ble_eq_true rfl) (Nat.le_of_ble_eq_true rfl)

def rm_X4_isPan : Room := { frames := 1, cells := 0, slots := 0, locals := 22 }
set_option maxHeartbeats 4000000 in
set_option maxRecDepth 100000 in
theorem c_X4_isPan (l : Launch) (D : va_G) (cI cZ cJ : ClassId) (m0 m1 m2 m3 m4 m5 m6 : Nat) (nC nP n : Nat) (th : Int32) (x : Int32) (hn : n ≤ 4) : Mi l yX4_isPan cX4_isPan 2 (some .boolean) rm_X4_isPan D (TY cI cZ cJ) [.ref m0, .int x] [(m0, .inr (4, [.int th, .int (nI nC), .int (nI nP), .int (nI n), .ref m1, .ref m2, .ref m3, .ref m4, .ref m5, .ref m6]))] (fun (r : Int32) (u : Unit) => (r = 1 ∧ ∃ j : Nat, j < n ∧ x = nI j) ∨ (r = 0 ∧ ¬ (0 ≤ x ∧ x < nI n))) (fun (u : Unit) => [(m0, .inr (4, [.int th, .int (nI nC), .int (nI nP), .int (nI n), .ref m1, .ref m2, .ref m3, .ref m4, .ref m5, .ref m6]))]) := by
  refine Mi.ofQ (by decide) (Nat.le_of_ble_eq_true rfl) ?_
  intro p e s m args below meth c A ls Q hF hK hP hD hA hl hend
  obtain ⟨F, hr, hlocks, hG⟩ := hF
  have hx := F.1
  have hb := F.2.1
  have hown := F.2.2.2.1
  have ht := F.2.2.2.2
  have hS : va_S A s.heap s.heap [] := va_S.rf
  have hl : lv_has ls 2 [(0, .ref m0), (1, .int x)] := hl
  refine lv_iload_n hx hb dX4_isPan_0 rfl (lv_at hl 1 rfl) ?_
  refine lv_iconst (v := 0) hx hb dX4_isPan_1 (by decide) ?_
  refine lv_aload_n hx hb dX4_isPan_2 rfl (lv_at hl 0 rfl) ?_
  refine va_get (D := D) (ci := 4) (v := .int (nI n)) (C := RX4) (T := TX4) (N := 10) hx hb ht inG_X4 hown hK hP 0 rfl rfl 3 (by decide) (ht _ qF_RX4_42) (fun _ h9 => h9) rfl dX4_isPan_3 ?_
  refine lv_iconst (v := 1) hx hb dX4_isPan_6 (by decide) ?_
  refine lv_isub hx hb dX4_isPan_7 ?_
  refine k_i (wr := [(m0, .inr (4, [.int th, .int (nI nC), .int (nI nP), .int (nI n), .ref m1, .ref m2, .ref m3, .ref m4, .ref m5, .ref m6]))]) (rS (As := [.int x, .int 0, .int ((nI n) - 1)]) (rest := []) F hG hK (hP.sub (ws' := []) [] rfl) ((hD.sub (ws' := []) [] (by decide) rfl).weaken (fun _ _ _ _ => trivial)) s_RX4_35 (c_X4_isIn l D cI cZ cJ x 0 ((nI n) - 1) _) rfl hl.1 rfl (Nat.le_of_ble_eq_true rfl) dX4_isPan_8 ⟨(Nat.le_of_ble_eq_true rfl), (Nat.le_of_ble_eq_true rfl)⟩ ⟨(Nat.le_of_ble_eq_true rfl), (Nat.le_of_ble_eq_true rfl)⟩) hP hD hS hA [] [0] rfl rfl (by decide) (by decide) (fun r_8 uu H locs hw hP hD hS => ?_)
  try dsimp only at hw
  have hP : va_P D vwCl [(m0, .inr (4, [.int th, .int (nI nC), .int (nI nP), .int (nI n), .ref m1, .ref m2, .ref m3, .ref m4, .ref m5, .ref m6]))] _ := hP
  have hD : va_D A [(m0, .inr (4, [.int th, .int (nI nC), .int (nI nP), .int (nI n), .ref m1, .ref m2, .ref m3, .ref m4, .ref m5, .ref m6]))] := hD
  rcases hw with ⟨rfl, b_1⟩ | ⟨rfl, b_1⟩
  · skip
    exact hend _ _ _ _ _ _ 1 () dX4_isPan_11 (Or.inl ⟨rfl, vp_in_of (vp_in_of2 (by omega) b_1) (by omega)⟩) hP hD hS (by decide) (Nat.le_of_ble_eq_true rfl) (Nat.le_of_ble_eq_true rfl)
  · skip
    exact hend _ _ _ _ _ _ 0 () dX4_isPan_11 (Or.inr ⟨rfl, fun q => b_1 ⟨q.1, (le_pred (by omega)).mpr q.2⟩⟩) hP hD hS (by decide) (Nat.le_of_ble_eq_true rfl) (Nat.le_of_ble_eq_true rfl)

def rm_X4_strength : Room := { frames := 0, cells := 0, slots := 0, locals := 0 }
set_option maxHeartbeats 4000000 in
set_option maxRecDepth 100000 in
theorem c_X4_strength (l : Launch) (D : va_G) (cI cZ cJ : ClassId) (w a : Int32) (h0 : 0 ≤ w + a) : Mi l yX4_strength cX4_strength 2 (some .int) rm_X4_strength D (TY cI cZ cJ) [.int w, .int a] [] (fun (r : Int32) (u : Unit) => r = strg w a) (fun (u : Unit) => []) := by
  refine Mi.ofQ (by decide) (Nat.le_of_ble_eq_true rfl) ?_
  intro p e s m args below meth c A ls Q hF hK hP hD hA hl hend
  obtain ⟨F, hr, hlocks, hG⟩ := hF
  have hx := F.1
  have hb := F.2.1
  have hown := F.2.2.2.1
  have ht := F.2.2.2.2
  have hS : va_S A s.heap s.heap [] := va_S.rf
  have hl : lv_has ls 2 [(0, .int w), (1, .int a)] := hl
  refine lv_iload_n hx hb dX4_strength_0 rfl (lv_at hl 0 rfl) ?_
  refine lv_iload_n hx hb dX4_strength_1 rfl (lv_at hl 1 rfl) ?_
  refine lv_iadd hx hb dX4_strength_2 ?_
  refine lv_if_ne (tgt := 10) hx hb dX4_strength_3 (by decide) (fun c_1 => ?_) (fun c_1 => ?_)
  · skip
    have c_1z := ne_le0 c_1 h0
    refine lv_bipush (v := 100) hx hb dX4_strength_10 (by decide) ?_
    refine lv_iload_n hx hb dX4_strength_12 rfl (lv_at hl 1 rfl) ?_
    refine lv_imul hx hb dX4_strength_13 ?_
    refine lv_iload_n hx hb dX4_strength_14 rfl (lv_at hl 0 rfl) ?_
    refine lv_iload_n hx hb dX4_strength_15 rfl (lv_at hl 1 rfl) ?_
    refine lv_iadd hx hb dX4_strength_16 ?_
    refine lv_idiv hx hb dX4_strength_17 (c_1) ?_
    exact hend _ _ _ _ _ _ ((100 * a) / (w + a)) () dX4_strength_18 (by simp only [strg, eq_false c_1, eq_false c_1z, if_true, if_false]) hP hD hS rfl (Nat.le_of_ble_eq_true rfl) (Nat.le_of_ble_eq_true rfl)
  · skip
    have c_1z := zero_le0 c_1
    refine lv_iconst (v := 0) hx hb dX4_strength_6 (by decide) ?_
    refine lv_goto (tgt := 18) hx hb dX4_strength_7 (by decide) ?_
    exact hend _ _ _ _ _ _ 0 () dX4_strength_18 (by simp only [strg, eq_true c_1, eq_true c_1z, if_true, if_false]) hP hD hS rfl (Nat.le_of_ble_eq_true rfl) (Nat.le_of_ble_eq_true rfl)

def rm_X4_egg : Room := { frames := 0, cells := 0, slots := 0, locals := 0 }
set_option maxHeartbeats 4000000 in
set_option maxRecDepth 100000 in
theorem c_X4_egg (l : Launch) (D : va_G) (cI cZ cJ : ClassId) (x : Int32)  : Mi l yX4_egg cX4_egg 1 (some .int) rm_X4_egg D (TY cI cZ cJ) [.int x] [] (fun (r : Int32) (u : Unit) => r = eggB x) (fun (u : Unit) => []) := by
  refine Mi.ofQ (by decide) (Nat.le_of_ble_eq_true rfl) ?_
  intro p e s m args below meth c A ls Q hF hK hP hD hA hl hend
  obtain ⟨F, hr, hlocks, hG⟩ := hF
  have hx := F.1
  have hb := F.2.1
  have hown := F.2.2.2.1
  have ht := F.2.2.2.2
  have hS : va_S A s.heap s.heap [] := va_S.rf
  have hl : lv_has ls 1 [(0, .int x)] := hl
  refine lv_iload_n hx hb dX4_egg_0 rfl (lv_at hl 0 rfl) ?_
  refine lv_bipush (v := 20) hx hb dX4_egg_1 (by decide) ?_
  refine lv_icmp_ge (tgt := 10) hx hb dX4_egg_3 (by decide) (fun c_1 => ?_) (fun c_1 => ?_)
  · skip
    have c_1n := Int32.not_lt.mpr c_1
    refine lv_iload_n hx hb dX4_egg_10 rfl (lv_at hl 0 rfl) ?_
    refine lv_bipush (v := 35) hx hb dX4_egg_11 (by decide) ?_
    refine lv_icmp_ge (tgt := 20) hx hb dX4_egg_13 (by decide) (fun c_2 => ?_) (fun c_2 => ?_)
    · skip
      have c_2n := Int32.not_lt.mpr c_2
      refine lv_iconst (v := 2) hx hb dX4_egg_20 (by decide) ?_
      exact hend _ _ _ _ _ _ 2 () dX4_egg_21 (by simp only [eggB, eq_true c_1, eq_false c_1n, eq_true c_2, eq_false c_2n, if_true, if_false]) hP hD hS rfl (Nat.le_of_ble_eq_true rfl) (Nat.le_of_ble_eq_true rfl)
    · skip
      have c_2n := Int32.not_le.mp c_2
      refine lv_iconst (v := 1) hx hb dX4_egg_16 (by decide) ?_
      refine lv_goto (tgt := 21) hx hb dX4_egg_17 (by decide) ?_
      exact hend _ _ _ _ _ _ 1 () dX4_egg_21 (by simp only [eggB, eq_true c_1, eq_false c_1n, eq_false c_2, eq_true c_2n, if_true, if_false]) hP hD hS rfl (Nat.le_of_ble_eq_true rfl) (Nat.le_of_ble_eq_true rfl)
  · skip
    have c_1n := Int32.not_le.mp c_1
    refine lv_iconst (v := 0) hx hb dX4_egg_6 (by decide) ?_
    refine lv_goto (tgt := 21) hx hb dX4_egg_7 (by decide) ?_
    exact hend _ _ _ _ _ _ 0 () dX4_egg_21 (by simp only [eggB, eq_false c_1, eq_true c_1n, if_true, if_false]) hP hD hS rfl (Nat.le_of_ble_eq_true rfl) (Nat.le_of_ble_eq_true rfl)
