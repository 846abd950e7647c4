/-! the reference: barrels, dry, mean, digest, its constructor -/
theorem dry_at {w : Nat} {a : Int32} (hw : w < 1000) (ha : 0 < a.toInt) (hb : a.toInt ≤ 60000) : ¬ eggB (strg (nI w - nI w) a) = 0 := by
  have e : nI w - nI w = 0 := Int32.sub_self _
  have h0 : (0 : Int32).toInt = 0 := by decide
  have h100 : (100 : Int32).toInt = 100 := by decide
  have h1 : (0 : Int32) + a = a := Int32.zero_add a
  have h2 : ¬ a ≤ 0 := fun q => by
    have := Int32.le_iff_toInt_le.mp q
    omega
  have h3 : 100 * a / a = 100 := by
    have m : (100 * a).toInt = 100 * a.toInt := by
      rw [Int32.toInt_mul, h100]
      exact Int.bmod_eq_of_le (by omega) (by omega)
    apply Int32.toInt_inj.mp
    rw [lg_idiv_nonneg (by omega) (by omega), m, h100]
    exact Int.mul_ediv_cancel _ (by omega)
  have h4 : strg (nI w - nI w) a = 100 := by
    unfold strg
    rw [e, h1, if_neg h2, h3]
  rw [h4]
  decide
theorem dry_lt {w i : Nat} {a : Int32} (hw : w < 1000) (hi : i ≤ w) (ha : 0 < a.toInt) (hb : a.toInt ≤ 60000) (h : eggB (strg (nI w - nI i) a) = 0) : i < w := by
  rcases Nat.lt_or_eq_of_le hi with q | q
  · exact q
  · exact absurd (by rw [q] at h; exact h) (dry_at hw ha hb)
theorem sub_ge {w i : Nat} {a : Int32} (hw : w < 1000) (hi : i ≤ w) (ha : 0 ≤ a.toInt) (hb : a.toInt ≤ 60000) : 0 ≤ nI w - nI i + a := by
  have e := pk_sub_toInt (a := w) (b := i) (by omega) (by omega)
  exact ge0_add (by omega) ha (by omega)
theorem nz_pos {a : Int32} (h : ¬ a = 0) (h0 : 0 ≤ a.toInt) : 0 < a.toInt := by
  rcases Int.lt_or_eq_of_le h0 with q | q
  · exact q
  · exact absurd (Int32.toInt_inj.mp (q.symm.trans (by decide))) h
/-- 4 rows of a flat row in the checksum -/
theorem dgW_4 (f : Nat → Int32) (n : Nat) (d : Int64) : dgW f (4 * (n + 1)) d = (((dgW f (4 * n) d * 31 + (f (4 * n)).toInt64) * 31 + (f (4 * n + 1)).toInt64) * 31 + (f (4 * n + 2)).toInt64) * 31 + (f (4 * n + 3)).toInt64 := rfl
theorem dgW_hp (sh co bu fl : Nat → Int32) (hf : ∀ j, fl j = 0 ∨ fl j = 1) (n : Nat) (d : Int64) : dgW (hp4 sh co bu fl) (4 * n) d = dgK (fun k w => ctell sh co bu fl k (nI w)) 4 n d := by
  induction n with
  | zero => rfl
  | succ n ih =>
    rw [dgW_4, ih, hp4_0, hp4_1, hp4_2, hp4_3, ← b01_of (hf n)]
    rfl
theorem tld_lt (w a b : Nat → Int32) (k : Nat) {x : Nat} (h : x < 4) : tld (w k) (a k) (nI x) = ltell w a b k (nI x) := by
  rcases (show x = 0 ∨ x = 1 ∨ x = 2 ∨ x = 3 by omega) with rfl | rfl | rfl | rfl <;> rfl
theorem ptd_lt (w a b : Nat → Int32) (hb : ∀ j, b j = 0 ∨ b j = 1) (k : Nat) {x : Nat} (h : x < 5) : (if nI x = 4 then b k else tld (w k) (a k) (nI x)) = ltell w a b k (nI x) := by
  rcases (show x = 4 ∨ x < 4 by omega) with rfl | q
  · exact (b01_of (hb k)).symm
  · rw [if_neg (fun e => by have := (nI_eq (a := x) (b := 4) (by omega) (by omega)).mp e; omega)]
    exact tld_lt w a b k q
theorem in_09 {i : Nat} (h : i < 10) : 0 ≤ nI i ∧ nI i ≤ 9 := ⟨nI_pos' (by omega), nI_le (a := i) (b := 9) (by omega) (by decide)⟩

def rm_X4_barrels : Room := { frames := 3, cells := 0, slots := 0, locals := 65 }
set_option maxHeartbeats 4000000 in
set_option maxRecDepth 100000 in
theorem c_X4_barrels (l : Launch) (D : va_G) (cI cZ cJ : ClassId) (m0 m1 m2 m3 m4 m5 m6 : Nat) (th : Int32) (v : VT) (y1 : Int32) (hI : IS v) (hN : NN v) : Mi l yX4_barrels cX4_barrels 4 (some .int) rm_X4_barrels D (TY cI cZ cJ) [.ref m0, .int y1] [(m0, .inr (4, [.int th, .int (nI (vnC v)), .int (nI (vnP v)), .int (nI (vnK v)), .ref m1, .ref m2, .ref m3, .ref m4, .ref m5, .ref m6])), (m6, .inl (cI, 9, .inl (ke3 (vkw v) (vka v) (vkb v))))] (fun (r : Int32) (u : Int32) => r = (if kBarrels v y1 = 0 then rBarrels v y1 else 0) ∧ u = kBarrels v y1) (fun (u : Int32) => [(m0, .inr (4, [.int u, .int (nI (vnC v)), .int (nI (vnP v)), .int (nI (vnK v)), .ref m1, .ref m2, .ref m3, .ref m4, .ref m5, .ref m6])), (m6, .inl (cI, 9, .inl (ke3 (vkw v) (vka v) (vkb v))))]) := by
  refine Mi.ofQ (by decide) (Nat.le_of_ble_eq_true rfl) ?_
  intro p e s m args below meth c A ls Q hF hK hP hD hA hl hend
  obtain ⟨F, hr, hlocks, hG⟩ := hF
  have hx := F.1
  have hb := F.2.1
  have hown := F.2.2.2.1
  have ht := F.2.2.2.2
  have hS : va_S A s.heap s.heap [] := va_S.rf
  have hl : lv_has ls 4 [(0, .ref m0), (1, .int y1)] := hl
  obtain ⟨hC4, hP4, hK3, hAH, hf1, hf2, hf3, hdy⟩ := hI
  refine lv_aload_n hx hb dX4_barrels_0 rfl (lv_at hl 0 rfl) ?_
  refine lv_iconst (v := 0) hx hb dX4_barrels_1 (by decide) ?_
  refine va_put (D := D) (ci := 4) (v := .int 0) (C := RX4) (T := TX4) (N := 10) hx hb ht inG_X4 tyX4 tyX4_ok nmX4 hown hK hP hD hS 0 rfl rfl 0 (by decide) (ht _ qF_RX4_28) (fun _ h9 => h9) rfl (tyX4_ok 0 (by decide)) rfl rfl (Nat.le_of_ble_eq_true rfl) dX4_barrels_2 (fun H locs hP hD hS => ?_)
  have hP : va_P D vwCl [(m0, .inr (4, [.int 0, .int (nI (vnC v)), .int (nI (vnP v)), .int (nI (vnK v)), .ref m1, .ref m2, .ref m3, .ref m4, .ref m5, .ref m6])), (m6, .inl (cI, 9, .inl (ke3 (vkw v) (vka v) (vkb v))))] _ := hP
  have hD : va_D A [(m0, .inr (4, [.int 0, .int (nI (vnC v)), .int (nI (vnP v)), .int (nI (vnK v)), .ref m1, .ref m2, .ref m3, .ref m4, .ref m5, .ref m6])), (m6, .inl (cI, 9, .inl (ke3 (vkw v) (vka v) (vkb v))))] := hD
  refine lv_aload_n hx hb dX4_barrels_5 rfl (lv_at hl 0 rfl) ?_
  refine lv_iload_n hx hb dX4_barrels_6 rfl (lv_at hl 1 rfl) ?_
  refine k_i (wr := [(m6, .inl (cI, 9, .inl (ke3 (vkw v) (vka v) (vkb v))))]) (rV (As := [.int y1]) (rest := []) F hG hK (hP.sub (ws' := [(m0, .inr (4, [.int 0, .int (nI (vnC v)), .int (nI (vnP v)), .int (nI (vnK v)), .ref m1, .ref m2, .ref m3, .ref m4, .ref m5, .ref m6]))]) [0] rfl) ((hD.sub (ws' := [(m0, .inr (4, [.int 0, .int (nI (vnC v)), .int (nI (vnP v)), .int (nI (vnK v)), .ref m1, .ref m2, .ref m3, .ref m4, .ref m5, .ref m6]))]) [0] (by decide) rfl).weaken (fun _ _ _ _ => trivial)) s_RX4_62 (c_X4_isPan l D cI cZ cJ m0 m1 m2 m3 m4 m5 m6 (vnC v) (vnP v) (vnK v) 0 y1 (by first | assumption | omega) _) 4 0 rfl rfl rfl rfl hl.1 rfl (Nat.le_of_ble_eq_true rfl) dX4_barrels_7 ⟨(Nat.le_of_ble_eq_true rfl), (Nat.le_of_ble_eq_true rfl)⟩ ⟨(Nat.le_of_ble_eq_true rfl), (Nat.le_of_ble_eq_true rfl)⟩) hP hD hS hA [0] [1] rfl rfl (by decide) (by decide) (fun r_7 uu H locs hw hP hD hS => ?_)
  try dsimp only at hw
  have hP : va_P D vwCl [(m6, .inl (cI, 9, .inl (ke3 (vkw v) (vka v) (vkb v)))), (m0, .inr (4, [.int 0, .int (nI (vnC v)), .int (nI (vnP v)), .int (nI (vnK v)), .ref m1, .ref m2, .ref m3, .ref m4, .ref m5, .ref m6]))] _ := hP
  have hD : va_D A [(m6, .inl (cI, 9, .inl (ke3 (vkw v) (vka v) (vkb v)))), (m0, .inr (4, [.int 0, .int (nI (vnC v)), .int (nI (vnP v)), .int (nI (vnK v)), .ref m1, .ref m2, .ref m3, .ref m4, .ref m5, .ref m6]))] := hD
  rcases hw with ⟨rfl, b_1⟩ | ⟨rfl, b_1⟩
  · skip
    obtain ⟨j_7, hj_7, rfl⟩ := b_1
    have ht_7 := hasT (n := (vnK v)) (by omega) hj_7
    have ix_7 : ix (nI j_7) = j_7 := ix_nI (by omega)
    have hP : va_P D vwCl [(m6, .inl (cI, 9, .inl (ke3 (vkw v) (vka v) (vkb v)))), (m0, .inr (4, [.int 0, .int (nI (vnC v)), .int (nI (vnP v)), .int (nI (vnK v)), .ref m1, .ref m2, .ref m3, .ref m4, .ref m5, .ref m6]))] _ := hP
    have hD : va_D A [(m6, .inl (cI, 9, .inl (ke3 (vkw v) (vka v) (vkb v)))), (m0, .inr (4, [.int 0, .int (nI (vnC v)), .int (nI (vnP v)), .int (nI (vnK v)), .ref m1, .ref m2, .ref m3, .ref m4, .ref m5, .ref m6]))] := hD
    have hl : lv_has ls 4 [(0, .ref m0), (1, .int (nI j_7))] := hl
    refine lv_if_ne (tgt := 19) hx hb dX4_barrels_10 (by decide) (fun _ => ?_) (fun h => absurd h (by decide))
    refine lv_aload_n hx hb dX4_barrels_19 rfl (lv_at hl 0 rfl) ?_
    refine va_get (D := D) (ci := 4) (v := .ref m6) (C := RX4) (T := TX4) (N := 10) hx hb ht inG_X4 hown hK hP 1 rfl rfl 9 (by decide) (ht _ qF_RX4_25) (fun _ h9 => h9) rfl dX4_barrels_20 ?_
    refine lv_iconst (v := 3) hx hb dX4_barrels_23 (by decide) ?_
    refine lv_iload_n hx hb dX4_barrels_24 rfl (lv_at hl 1 rfl) ?_
    refine lv_imul hx hb dX4_barrels_25 ?_
    refine t_i (nI (3 * j_7)) (pk_mul 3 j_7) ?_
    refine lv_iconst (v := 1) hx hb dX4_barrels_26 (by decide) ?_
    refine lv_iadd hx hb dX4_barrels_27 ?_
    refine t_i (nI (3 * j_7 + 1)) (nI_1 (3 * j_7)) ?_
    refine aI hx hb hK hP 0 0 rfl rfl (3 * j_7 + 1) (rfl) (by omega) (by decide) (v := (vka v) j_7) (ke3_1 _ _ _ j_7) dX4_barrels_28 ?_
    refine lv_if_ne (tgt := 34) hx hb dX4_barrels_29 (by decide) (fun c_2 => ?_) (fun c_2 => ?_)
    · skip
      refine lv_iconst (v := 1) hx hb dX4_barrels_34 (by decide) ?_
      refine lv_istore_n (lv' := [(2, .int 1), (0, .ref m0), (1, .int (nI j_7))]) hx hb dX4_barrels_35 rfl hl (by decide) rfl (fun ls hl => ?_)
      refine lv_iconst (v := 2) hx hb dX4_barrels_36 (by decide) ?_
      refine lv_istore_n (lv' := [(3, .int 2), (2, .int 1), (0, .ref m0), (1, .int (nI j_7))]) hx hb dX4_barrels_37 rfl hl (by decide) rfl (fun ls hl => ?_)
      have loop38 : ∀ (kf38 i : Nat), i ≤ 19 → 19 < i + kf38 → ∀ (bb : Int32), bb = bst (vkw v j_7) (vka v j_7) i → ∀ (H : Heap) (locs : List Loc), va_P D vwCl [(m0, .inr (4, [.int 0, .int (nI (vnC v)), .int (nI (vnP v)), .int (nI (vnK v)), .ref m1, .ref m2, .ref m3, .ref m4, .ref m5, .ref m6])), (m6, .inl (cI, 9, .inl (ke3 (vkw v) (vka v) (vkb v))))] H → va_D A [(m0, .inr (4, [.int 0, .int (nI (vnC v)), .int (nI (vnP v)), .int (nI (vnK v)), .ref m1, .ref m2, .ref m3, .ref m4, .ref m5, .ref m6])), (m6, .inl (cI, 9, .inl (ke3 (vkw v) (vka v) (vkb v))))] → va_S A s.heap H locs → ∀ (ls : Array Slot), lv_has ls 4 [(0, .ref m0), (1, .int (nI j_7)), (2, .int bb), (3, .int (nI (i + 2)))] → W p l e rm_X4_barrels s m args below meth c H locs 0 0 Q (F0 m 38 ls []) := by
        intro kf38
        induction kf38 with
        | zero =>
          intro i hle38 hlt38
          exact absurd hlt38 (by omega)
        | succ kf38 ih38 =>
          intro i hle38 hlt38 bb e_bb H locs hP hD hS ls hl
          refine lv_iload_n hx hb dX4_barrels_38 rfl (lv_at hl 3 rfl) ?_
          refine lv_bipush (v := 20) hx hb dX4_barrels_39 (by decide) ?_
          refine lv_icmp_gt (tgt := 67) hx hb dX4_barrels_41 (by decide) (fun c_3 => ?_) (fun c_3 => ?_)
          · skip
            have c_3n := Int32.not_le.mpr c_3
            have c_3m := (nI_ltI (a := 20) (b := i + 2) (by omega) (by omega)).mp c_3
            refine lv_iload_n hx hb dX4_barrels_67 rfl (lv_at hl 2 rfl) ?_
            exact hend _ _ _ _ _ _ bb 0 dX4_barrels_68 (⟨by simp (decide := true) only [kBarrels, rBarrels, eq_true ht_7, ix_7, eq_false c_2, eq_true c_3, eq_false c_3n, if_true, if_false, eq_self]; rw [e_bb, show i = 19 by omega], by simp (decide := true) only [kBarrels, eq_true ht_7, ix_7, eq_false c_2, eq_true c_3, eq_false c_3n, if_true, if_false, eq_self]⟩) hP hD hS rfl (Nat.le_of_ble_eq_true rfl) (Nat.le_of_ble_eq_true rfl)
          · skip
            have c_3n := Int32.not_lt.mp c_3
            have c_3m := (nI_leI (a := i + 2) (b := 20) (by omega) (by omega)).mp c_3n
            refine lv_aload_n hx hb dX4_barrels_44 rfl (lv_at hl 0 rfl) ?_
            refine lv_iload_n hx hb dX4_barrels_45 rfl (lv_at hl 1 rfl) ?_
            refine lv_iload_n hx hb dX4_barrels_46 rfl (lv_at hl 3 rfl) ?_
            refine k_i (wr := []) (rV (As := [.int (nI j_7), .int (nI (i + 2))]) (rest := []) F hG hK (hP.sub (ws' := [(m0, .inr (4, [.int 0, .int (nI (vnC v)), .int (nI (vnP v)), .int (nI (vnK v)), .ref m1, .ref m2, .ref m3, .ref m4, .ref m5, .ref m6])), (m6, .inl (cI, 9, .inl (ke3 (vkw v) (vka v) (vkb v))))]) [0, 1] rfl) ((hD.sub (ws' := [(m0, .inr (4, [.int 0, .int (nI (vnC v)), .int (nI (vnP v)), .int (nI (vnK v)), .ref m1, .ref m2, .ref m3, .ref m4, .ref m5, .ref m6])), (m6, .inl (cI, 9, .inl (ke3 (vkw v) (vka v) (vkb v))))]) [0, 1] (by decide) rfl).weaken (fun _ _ _ _ => trivial)) s_RX4_74 (c_X4_comes l D cI cZ cJ m0 m1 m2 m3 m4 m5 m6 0 v j_7 (nI (i + 2)) (by first | assumption | omega) (hN.k0 (by omega)) _) 4 0 rfl rfl rfl rfl hl.1 rfl (Nat.le_of_ble_eq_true rfl) dX4_barrels_47 ⟨(Nat.le_of_ble_eq_true rfl), (Nat.le_of_ble_eq_true rfl)⟩ ⟨(Nat.le_of_ble_eq_true rfl), (Nat.le_of_ble_eq_true rfl)⟩) hP hD hS hA [0, 1] [] rfl rfl (by decide) (by decide) (fun r_47 uu H locs hw hP hD hS => ?_)
            try dsimp only at hw
            subst hw
            have hP : va_P D vwCl [(m0, .inr (4, [.int 0, .int (nI (vnC v)), .int (nI (vnP v)), .int (nI (vnK v)), .ref m1, .ref m2, .ref m3, .ref m4, .ref m5, .ref m6])), (m6, .inl (cI, 9, .inl (ke3 (vkw v) (vka v) (vkb v))))] _ := hP
            have hD : va_D A [(m0, .inr (4, [.int 0, .int (nI (vnC v)), .int (nI (vnP v)), .int (nI (vnK v)), .ref m1, .ref m2, .ref m3, .ref m4, .ref m5, .ref m6])), (m6, .inl (cI, 9, .inl (ke3 (vkw v) (vka v) (vkb v))))] := hD
            refine lv_aload_n hx hb dX4_barrels_50 rfl (lv_at hl 0 rfl) ?_
            refine lv_iload_n hx hb dX4_barrels_51 rfl (lv_at hl 1 rfl) ?_
            refine lv_iload_n hx hb dX4_barrels_52 rfl (lv_at hl 2 rfl) ?_
            refine k_i (wr := []) (rV (As := [.int (nI j_7), .int bb]) (rest := [.int (crys (vkw v j_7) (vka v j_7) (nI (i + 2)))]) F hG hK (hP.sub (ws' := [(m0, .inr (4, [.int 0, .int (nI (vnC v)), .int (nI (vnP v)), .int (nI (vnK v)), .ref m1, .ref m2, .ref m3, .ref m4, .ref m5, .ref m6])), (m6, .inl (cI, 9, .inl (ke3 (vkw v) (vka v) (vkb v))))]) [0, 1] rfl) ((hD.sub (ws' := [(m0, .inr (4, [.int 0, .int (nI (vnC v)), .int (nI (vnP v)), .int (nI (vnK v)), .ref m1, .ref m2, .ref m3, .ref m4, .ref m5, .ref m6])), (m6, .inl (cI, 9, .inl (ke3 (vkw v) (vka v) (vkb v))))]) [0, 1] (by decide) rfl).weaken (fun _ _ _ _ => trivial)) s_RX4_74 (c_X4_comes l D cI cZ cJ m0 m1 m2 m3 m4 m5 m6 0 v j_7 bb (by first | assumption | omega) (hN.k0 (by omega)) _) 4 0 rfl rfl rfl rfl hl.1 rfl (Nat.le_of_ble_eq_true rfl) dX4_barrels_53 ⟨(Nat.le_of_ble_eq_true rfl), (Nat.le_of_ble_eq_true rfl)⟩ ⟨(Nat.le_of_ble_eq_true rfl), (Nat.le_of_ble_eq_true rfl)⟩) hP hD hS hA [0, 1] [] rfl rfl (by decide) (by decide) (fun r_53 uu H locs hw hP hD hS => ?_)
            try dsimp only at hw
            subst hw
            have hP : va_P D vwCl [(m0, .inr (4, [.int 0, .int (nI (vnC v)), .int (nI (vnP v)), .int (nI (vnK v)), .ref m1, .ref m2, .ref m3, .ref m4, .ref m5, .ref m6])), (m6, .inl (cI, 9, .inl (ke3 (vkw v) (vka v) (vkb v))))] _ := hP
            have hD : va_D A [(m0, .inr (4, [.int 0, .int (nI (vnC v)), .int (nI (vnP v)), .int (nI (vnK v)), .ref m1, .ref m2, .ref m3, .ref m4, .ref m5, .ref m6])), (m6, .inl (cI, 9, .inl (ke3 (vkw v) (vka v) (vkb v))))] := hD
            refine lv_icmp_le (tgt := 61) hx hb dX4_barrels_56 (by decide) (fun c_4 => ?_) (fun c_4 => ?_)
            · skip
              have c_4n := Int32.not_lt.mpr c_4
              refine lv_iinc (v := nI (i + 2 + 1)) (lv' := [(3, .int (nI (i + 2 + 1))), (0, .ref m0), (1, .int (nI j_7)), (2, .int bb)]) hx hb dX4_barrels_61 hl (k := 3) rfl (nI_1 (i + 2)) (by decide) rfl (fun ls hl => ?_)
              refine lv_goto (tgt := 38) hx hb dX4_barrels_64 (by decide) ?_
              exact ih38 (i + 1) (by omega) (by omega) bb (by subst e_bb; simp only [bst, eq_true ht_7, ix_7, eq_false c_2, eq_false c_3, eq_true c_3n, eq_true c_4, eq_false c_4n, if_true, if_false]) _ _ (hP.sub [0, 1] rfl) (hD.sub [0, 1] (by decide) rfl) hS _ (lv_sub hl [1, 2, 3, 0] rfl)
            · skip
              have c_4n := Int32.not_le.mp c_4
              refine lv_iload_n hx hb dX4_barrels_59 rfl (lv_at hl 3 rfl) ?_
              refine lv_istore_n (lv' := [(2, .int (nI (i + 2))), (0, .ref m0), (1, .int (nI j_7)), (3, .int (nI (i + 2)))]) hx hb dX4_barrels_60 rfl hl (by decide) rfl (fun ls hl => ?_)
              refine lv_iinc (v := nI (i + 2 + 1)) (lv' := [(3, .int (nI (i + 2 + 1))), (2, .int (nI (i + 2))), (0, .ref m0), (1, .int (nI j_7))]) hx hb dX4_barrels_61 hl (k := 3) rfl (nI_1 (i + 2)) (by decide) rfl (fun ls hl => ?_)
              refine lv_goto (tgt := 38) hx hb dX4_barrels_64 (by decide) ?_
              exact ih38 (i + 1) (by omega) (by omega) (nI (i + 2)) (by subst e_bb; simp only [bst, eq_true ht_7, ix_7, eq_false c_2, eq_false c_3, eq_true c_3n, eq_false c_4, eq_true c_4n, if_true, if_false]) _ _ (hP.sub [0, 1] rfl) (hD.sub [0, 1] (by decide) rfl) hS _ (lv_sub hl [2, 3, 1, 0] rfl)
      exact loop38 (19 + 1) 0 (Nat.zero_le _) (by omega) 1 rfl _ _ (hP.sub [1, 0] rfl) (hD.sub [1, 0] (by decide) rfl) hS _ (lv_sub hl [2, 3, 1, 0] rfl)
    · skip
      refine lv_iconst (v := (-1)) hx hb dX4_barrels_32 (by decide) ?_
      exact hend _ _ _ _ _ _ (-1) 0 dX4_barrels_33 (⟨by simp (decide := true) only [kBarrels, rBarrels, eq_true ht_7, ix_7, eq_true c_2, if_true, if_false, eq_self], by simp (decide := true) only [kBarrels, eq_true ht_7, ix_7, eq_true c_2, if_true, if_false, eq_self]⟩) (hP.sub [1, 0] rfl) (hD.sub [1, 0] (by decide) rfl) hS rfl (Nat.le_of_ble_eq_true rfl) (Nat.le_of_ble_eq_true rfl)
  · skip
    refine lv_if_ne (tgt := 19) hx hb dX4_barrels_10 (by decide) (fun h => absurd (by decide) h) (fun _ => ?_)
    refine lv_aload_n hx hb dX4_barrels_13 rfl (lv_at hl 0 rfl) ?_
    refine lv_iconst (v := 1) hx hb dX4_barrels_14 (by decide) ?_
    refine k_i (wr := [(m6, .inl (cI, 9, .inl (ke3 (vkw v) (vka v) (vkb v))))]) (rV (As := [.int 1]) (rest := []) F hG hK (hP.sub (ws' := [(m0, .inr (4, [.int 0, .int (nI (vnC v)), .int (nI (vnP v)), .int (nI (vnK v)), .ref m1, .ref m2, .ref m3, .ref m4, .ref m5, .ref m6]))]) [1] rfl) ((hD.sub (ws' := [(m0, .inr (4, [.int 0, .int (nI (vnC v)), .int (nI (vnP v)), .int (nI (vnK v)), .ref m1, .ref m2, .ref m3, .ref m4, .ref m5, .ref m6]))]) [1] (by decide) rfl).weaken (fun _ _ _ _ => trivial)) s_RX4_45 (c_X4_fail l D cI cZ cJ m0 m1 m2 m3 m4 m5 m6 (vnC v) (vnP v) (vnK v) 0 1 _) 4 0 rfl rfl rfl rfl hl.1 rfl (Nat.le_of_ble_eq_true rfl) dX4_barrels_15 ⟨(Nat.le_of_ble_eq_true rfl), (Nat.le_of_ble_eq_true rfl)⟩ ⟨(Nat.le_of_ble_eq_true rfl), (Nat.le_of_ble_eq_true rfl)⟩) hP hD hS hA [1] [0] rfl rfl (by decide) (by decide) (fun r_15 uu H locs hw hP hD hS => ?_)
    try dsimp only at hw
    subst hw
    have hP : va_P D vwCl [(m6, .inl (cI, 9, .inl (ke3 (vkw v) (vka v) (vkb v)))), (m0, .inr (4, [.int 1, .int (nI (vnC v)), .int (nI (vnP v)), .int (nI (vnK v)), .ref m1, .ref m2, .ref m3, .ref m4, .ref m5, .ref m6]))] _ := hP
    have hD : va_D A [(m6, .inl (cI, 9, .inl (ke3 (vkw v) (vka v) (vkb v)))), (m0, .inr (4, [.int 1, .int (nI (vnC v)), .int (nI (vnP v)), .int (nI (vnK v)), .ref m1, .ref m2, .ref m3, .ref m4, .ref m5, .ref m6]))] := hD
    exact hend _ _ _ _ _ _ 0 1 dX4_barrels_18 (⟨by simp (decide := true) only [kBarrels, rBarrels, eq_false b_1, if_true, if_false, eq_self], by simp (decide := true) only [kBarrels, eq_false b_1, if_true, if_false, eq_self]⟩) (hP.sub [1, 0] rfl) (hD.sub [1, 0] (by decide) rfl) hS rfl (Nat.le_of_ble_eq_true rfl) (Nat.le_of_ble_eq_true rfl)

def rm_X4_dry : Room := { frames := 2, cells := 0, slots := 0, locals := 43 }
set_option maxHeartbeats 4000000 in
set_option maxRecDepth 100000 in
theorem c_X4_dry (l : Launch) (D : va_G) (cI cZ cJ : ClassId) (m0 m1 m2 m3 m4 m5 m6 : Nat) (th : Int32) (v : VT) (y1 : Int32) (hI : IS v) (hN : NN v) : Mi l yX4_dry cX4_dry 5 (some .int) rm_X4_dry D (TY cI cZ cJ) [.ref m0, .int y1] [(m0, .inr (4, [.int th, .int (nI (vnC v)), .int (nI (vnP v)), .int (nI (vnK v)), .ref m1, .ref m2, .ref m3, .ref m4, .ref m5, .ref m6])), (m5, .inl (cI, 8, .inl (ho2 (vpw v) (vpa v))))] (fun (r : Int32) (u : Int32) => r = (if kDry v y1 = 0 then rDry v y1 else 0) ∧ u = kDry v y1) (fun (u : Int32) => [(m0, .inr (4, [.int u, .int (nI (vnC v)), .int (nI (vnP v)), .int (nI (vnK v)), .ref m1, .ref m2, .ref m3, .ref m4, .ref m5, .ref m6])), (m5, .inl (cI, 8, .inl (ho2 (vpw v) (vpa v))))]) := by
  refine Mi.ofQ (by decide) (Nat.le_of_ble_eq_true rfl) ?_
  intro p e s m args below meth c A ls Q hF hK hP hD hA hl hend
  obtain ⟨F, hr, hlocks, hG⟩ := hF
  have hx := F.1
  have hb := F.2.1
  have hown := F.2.2.2.1
  have ht := F.2.2.2.2
  have hS : va_S A s.heap s.heap [] := va_S.rf
  have hl : lv_has ls 5 [(0, .ref m0), (1, .int y1)] := hl
  obtain ⟨hC4, hP4, hK3, hAH, hf1, hf2, hf3, hdy⟩ := hI
  refine lv_aload_n hx hb dX4_dry_0 rfl (lv_at hl 0 rfl) ?_
  refine lv_iconst (v := 0) hx hb dX4_dry_1 (by decide) ?_
  refine va_put (D := D) (ci := 4) (v := .int 0) (C := RX4) (T := TX4) (N := 10) hx hb ht inG_X4 tyX4 tyX4_ok nmX4 hown hK hP hD hS 0 rfl rfl 0 (by decide) (ht _ qF_RX4_28) (fun _ h9 => h9) rfl (tyX4_ok 0 (by decide)) rfl rfl (Nat.le_of_ble_eq_true rfl) dX4_dry_2 (fun H locs hP hD hS => ?_)
  have hP : va_P D vwCl [(m0, .inr (4, [.int 0, .int (nI (vnC v)), .int (nI (vnP v)), .int (nI (vnK v)), .ref m1, .ref m2, .ref m3, .ref m4, .ref m5, .ref m6])), (m5, .inl (cI, 8, .inl (ho2 (vpw v) (vpa v))))] _ := hP
  have hD : va_D A [(m0, .inr (4, [.int 0, .int (nI (vnC v)), .int (nI (vnP v)), .int (nI (vnK v)), .ref m1, .ref m2, .ref m3, .ref m4, .ref m5, .ref m6])), (m5, .inl (cI, 8, .inl (ho2 (vpw v) (vpa v))))] := hD
  refine lv_aload_n hx hb dX4_dry_5 rfl (lv_at hl 0 rfl) ?_
  refine lv_iload_n hx hb dX4_dry_6 rfl (lv_at hl 1 rfl) ?_
  refine k_i (wr := [(m5, .inl (cI, 8, .inl (ho2 (vpw v) (vpa v))))]) (rV (As := [.int y1]) (rest := []) F hG hK (hP.sub (ws' := [(m0, .inr (4, [.int 0, .int (nI (vnC v)), .int (nI (vnP v)), .int (nI (vnK v)), .ref m1, .ref m2, .ref m3, .ref m4, .ref m5, .ref m6]))]) [0] rfl) ((hD.sub (ws' := [(m0, .inr (4, [.int 0, .int (nI (vnC v)), .int (nI (vnP v)), .int (nI (vnK v)), .ref m1, .ref m2, .ref m3, .ref m4, .ref m5, .ref m6]))]) [0] (by decide) rfl).weaken (fun _ _ _ _ => trivial)) s_RX4_59 (c_X4_isPit l D cI cZ cJ m0 m1 m2 m3 m4 m5 m6 (vnC v) (vnK v) (vnP v) 0 y1 (by first | assumption | omega) _) 4 0 rfl rfl rfl rfl hl.1 rfl (Nat.le_of_ble_eq_true rfl) dX4_dry_7 ⟨(Nat.le_of_ble_eq_true rfl), (Nat.le_of_ble_eq_true rfl)⟩ ⟨(Nat.le_of_ble_eq_true rfl), (Nat.le_of_ble_eq_true rfl)⟩) hP hD hS hA [0] [1] rfl rfl (by decide) (by decide) (fun r_7 uu H locs hw hP hD hS => ?_)
  try dsimp only at hw
  have hP : va_P D vwCl [(m5, .inl (cI, 8, .inl (ho2 (vpw v) (vpa v)))), (m0, .inr (4, [.int 0, .int (nI (vnC v)), .int (nI (vnP v)), .int (nI (vnK v)), .ref m1, .ref m2, .ref m3, .ref m4, .ref m5, .ref m6]))] _ := hP
  have hD : va_D A [(m5, .inl (cI, 8, .inl (ho2 (vpw v) (vpa v)))), (m0, .inr (4, [.int 0, .int (nI (vnC v)), .int (nI (vnP v)), .int (nI (vnK v)), .ref m1, .ref m2, .ref m3, .ref m4, .ref m5, .ref m6]))] := hD
  rcases hw with ⟨rfl, b_1⟩ | ⟨rfl, b_1⟩
  · skip
    obtain ⟨j_7, hj_7, rfl⟩ := b_1
    have ht_7 := hasT (n := (vnP v)) (by omega) hj_7
    have ix_7 : ix (nI j_7) = j_7 := ix_nI (by omega)
    have hP : va_P D vwCl [(m5, .inl (cI, 8, .inl (ho2 (vpw v) (vpa v)))), (m0, .inr (4, [.int 0, .int (nI (vnC v)), .int (nI (vnP v)), .int (nI (vnK v)), .ref m1, .ref m2, .ref m3, .ref m4, .ref m5, .ref m6]))] _ := hP
    have hD : va_D A [(m5, .inl (cI, 8, .inl (ho2 (vpw v) (vpa v)))), (m0, .inr (4, [.int 0, .int (nI (vnC v)), .int (nI (vnP v)), .int (nI (vnK v)), .ref m1, .ref m2, .ref m3, .ref m4, .ref m5, .ref m6]))] := hD
    have hl : lv_has ls 5 [(0, .ref m0), (1, .int (nI j_7))] := hl
    refine lv_if_ne (tgt := 19) hx hb dX4_dry_10 (by decide) (fun _ => ?_) (fun h => absurd h (by decide))
    refine lv_aload_n hx hb dX4_dry_19 rfl (lv_at hl 0 rfl) ?_
    refine va_get (D := D) (ci := 4) (v := .ref m5) (C := RX4) (T := TX4) (N := 10) hx hb ht inG_X4 hown hK hP 1 rfl rfl 8 (by decide) (ht _ qF_RX4_22) (fun _ h9 => h9) rfl dX4_dry_20 ?_
    refine lv_iconst (v := 2) hx hb dX4_dry_23 (by decide) ?_
    refine lv_iload_n hx hb dX4_dry_24 rfl (lv_at hl 1 rfl) ?_
    refine lv_imul hx hb dX4_dry_25 ?_
    refine t_i (nI (2 * j_7)) (pk_mul 2 j_7) ?_
    obtain ⟨nW, hnW, hwW⟩ := nI_of (Int32.not_lt.mpr (z_le.mpr (hN.2.1 j_7).1))
    have hW4 : nW ≤ 400 := by have q1 := (hN.2.1 j_7).2.1; have q2 := nI_toInt (n := nW) hnW; unfold toI at q1; rw [hwW] at q1; omega
    refine aI hx hb hK hP 0 0 rfl rfl (2 * j_7) (rfl) (by omega) (by decide) (v := nI nW) (by rw [ho2_0]; exact hwW) dX4_dry_26 ?_
    refine lv_istore_n (lv' := [(2, .int (nI nW)), (0, .ref m0), (1, .int (nI j_7))]) hx hb dX4_dry_27 rfl hl (by decide) rfl (fun ls hl => ?_)
    refine lv_aload_n hx hb dX4_dry_28 rfl (lv_at hl 1 rfl) ?_
    refine va_get (D := D) (ci := 4) (v := .ref m5) (C := RX4) (T := TX4) (N := 10) hx hb ht inG_X4 hown hK hP 1 rfl rfl 8 (by decide) (ht _ qF_RX4_22) (fun _ h9 => h9) rfl dX4_dry_29 ?_
    refine lv_iconst (v := 2) hx hb dX4_dry_32 (by decide) ?_
    refine lv_iload_n hx hb dX4_dry_33 rfl (lv_at hl 2 rfl) ?_
    refine lv_imul hx hb dX4_dry_34 ?_
    refine t_i (nI (2 * j_7)) (pk_mul 2 j_7) ?_
    refine lv_iconst (v := 1) hx hb dX4_dry_35 (by decide) ?_
    refine lv_iadd hx hb dX4_dry_36 ?_
    refine t_i (nI (2 * j_7 + 1)) (nI_1 (2 * j_7)) ?_
    refine aI hx hb hK hP 0 0 rfl rfl (2 * j_7 + 1) (rfl) (by omega) (by decide) (v := (vpa v) j_7) (ho2_1 _ _ j_7) dX4_dry_37 ?_
    refine lv_istore_n (lv' := [(3, .int ((vpa v) j_7)), (2, .int (nI nW)), (0, .ref m0), (1, .int (nI j_7))]) hx hb dX4_dry_38 rfl hl (by decide) rfl (fun ls hl => ?_)
    refine lv_iload_n hx hb dX4_dry_39 rfl (lv_at hl 0 rfl) ?_
    refine lv_if_ne (tgt := 45) hx hb dX4_dry_40 (by decide) (fun c_2 => ?_) (fun c_2 => ?_)
    · skip
      refine lv_iconst (v := 0) hx hb dX4_dry_45 (by decide) ?_
      refine lv_istore (lv' := [(4, .int 0), (3, .int ((vpa v) j_7)), (2, .int (nI nW)), (0, .ref m0), (1, .int (nI j_7))]) hx hb dX4_dry_46 hl (by decide) rfl (fun ls hl => ?_)
      have loop48 : ∀ (kf48 i : Nat), i ≤ nW → nW < i + kf48 → (dryN (nI nW) (vpa v j_7) 0 nW = dryN (nI nW) (vpa v j_7) i (nW - i)) → ∀ (H : Heap) (locs : List Loc), va_P D vwCl [(m0, .inr (4, [.int 0, .int (nI (vnC v)), .int (nI (vnP v)), .int (nI (vnK v)), .ref m1, .ref m2, .ref m3, .ref m4, .ref m5, .ref m6])), (m5, .inl (cI, 8, .inl (ho2 (vpw v) (vpa v))))] H → va_D A [(m0, .inr (4, [.int 0, .int (nI (vnC v)), .int (nI (vnP v)), .int (nI (vnK v)), .ref m1, .ref m2, .ref m3, .ref m4, .ref m5, .ref m6])), (m5, .inl (cI, 8, .inl (ho2 (vpw v) (vpa v))))] → va_S A s.heap H locs → ∀ (ls : Array Slot), lv_has ls 5 [(0, .ref m0), (1, .int (nI j_7)), (2, .int (nI nW)), (3, .int (vpa v j_7)), (4, .int (nI i))] → W p l e rm_X4_dry s m args below meth c H locs 0 0 Q (F0 m 48 ls []) := by
        intro kf48
        induction kf48 with
        | zero =>
          intro i hle48 hlt48
          exact absurd hlt48 (by omega)
        | succ kf48 ih48 =>
          intro i hle48 hlt48  hq H locs hP hD hS ls hl
          refine lv_iload_n hx hb dX4_dry_48 rfl (lv_at hl 2 rfl) ?_
          refine lv_iload hx hb dX4_dry_49 (lv_at hl 4 rfl) ?_
          refine lv_isub hx hb dX4_dry_51 ?_
          refine lv_iload_n hx hb dX4_dry_52 rfl (lv_at hl 3 rfl) ?_
          refine k_i (wr := [(m0, .inr (4, [.int 0, .int (nI (vnC v)), .int (nI (vnP v)), .int (nI (vnK v)), .ref m1, .ref m2, .ref m3, .ref m4, .ref m5, .ref m6])), (m5, .inl (cI, 8, .inl (ho2 (vpw v) (vpa v))))]) (rS (As := [.int ((nI nW) - (nI i)), .int (vpa v j_7)]) (rest := []) F hG hK (hP.sub (ws' := []) [] rfl) ((hD.sub (ws' := []) [] (by decide) rfl).weaken (fun _ _ _ _ => trivial)) s_RX4_65 (c_X4_strength l D cI cZ cJ ((nI nW) - (nI i)) (vpa v j_7) (sub_ge (by omega) (by omega) (hN.pa (k := j_7) (by omega)).2.2.1 (hN.pa (k := j_7) (by omega)).2.2.2) _) rfl hl.1 rfl (Nat.le_of_ble_eq_true rfl) dX4_dry_53 ⟨(Nat.le_of_ble_eq_true rfl), (Nat.le_of_ble_eq_true rfl)⟩ ⟨(Nat.le_of_ble_eq_true rfl), (Nat.le_of_ble_eq_true rfl)⟩) hP hD hS hA [] [0, 1] rfl rfl (by decide) (by decide) (fun r_53 uu H locs hw hP hD hS => ?_)
          try dsimp only at hw
          subst hw
          have hP : va_P D vwCl [(m0, .inr (4, [.int 0, .int (nI (vnC v)), .int (nI (vnP v)), .int (nI (vnK v)), .ref m1, .ref m2, .ref m3, .ref m4, .ref m5, .ref m6])), (m5, .inl (cI, 8, .inl (ho2 (vpw v) (vpa v))))] _ := hP
          have hD : va_D A [(m0, .inr (4, [.int 0, .int (nI (vnC v)), .int (nI (vnP v)), .int (nI (vnK v)), .ref m1, .ref m2, .ref m3, .ref m4, .ref m5, .ref m6])), (m5, .inl (cI, 8, .inl (ho2 (vpw v) (vpa v))))] := hD
          refine k_i (wr := [(m0, .inr (4, [.int 0, .int (nI (vnC v)), .int (nI (vnP v)), .int (nI (vnK v)), .ref m1, .ref m2, .ref m3, .ref m4, .ref m5, .ref m6])), (m5, .inl (cI, 8, .inl (ho2 (vpw v) (vpa v))))]) (rS (As := [.int (strg ((nI nW) - (nI i)) (vpa v j_7))]) (rest := []) F hG hK (hP.sub (ws' := []) [] rfl) ((hD.sub (ws' := []) [] (by decide) rfl).weaken (fun _ _ _ _ => trivial)) s_RX4_68 (c_X4_egg l D cI cZ cJ (strg ((nI nW) - (nI i)) (vpa v j_7)) _) rfl hl.1 rfl (Nat.le_of_ble_eq_true rfl) dX4_dry_56 ⟨(Nat.le_of_ble_eq_true rfl), (Nat.le_of_ble_eq_true rfl)⟩ ⟨(Nat.le_of_ble_eq_true rfl), (Nat.le_of_ble_eq_true rfl)⟩) hP hD hS hA [] [0, 1] rfl rfl (by decide) (by decide) (fun r_56 uu H locs hw hP hD hS => ?_)
          try dsimp only at hw
          subst hw
          have hP : va_P D vwCl [(m0, .inr (4, [.int 0, .int (nI (vnC v)), .int (nI (vnP v)), .int (nI (vnK v)), .ref m1, .ref m2, .ref m3, .ref m4, .ref m5, .ref m6])), (m5, .inl (cI, 8, .inl (ho2 (vpw v) (vpa v))))] _ := hP
          have hD : va_D A [(m0, .inr (4, [.int 0, .int (nI (vnC v)), .int (nI (vnP v)), .int (nI (vnK v)), .ref m1, .ref m2, .ref m3, .ref m4, .ref m5, .ref m6])), (m5, .inl (cI, 8, .inl (ho2 (vpw v) (vpa v))))] := hD
          refine lv_if_ne (tgt := 68) hx hb dX4_dry_59 (by decide) (fun c_3 => ?_) (fun c_3 => ?_)
          · skip
            refine lv_iload hx hb dX4_dry_68 (lv_at hl 4 rfl) ?_
            exact hend _ _ _ _ _ _ (nI i) 0 dX4_dry_70 (⟨by simp (decide := true) only [kDry, rDry, eq_true ht_7, ix_7, eq_false c_2, eq_false c_3, if_true, if_false, eq_self]; rw [hwW, ix_nI (by omega)]; exact hq.trans (dry_stop c_3) |>.symm, by simp (decide := true) only [kDry, eq_true ht_7, ix_7, eq_false c_2, eq_false c_3, if_true, if_false, eq_self]⟩) hP hD hS rfl (Nat.le_of_ble_eq_true rfl) (Nat.le_of_ble_eq_true rfl)
          · skip
            have c_3w := dry_lt (by omega) (by omega) (nz_pos c_2 (hN.pa (k := j_7) (by omega)).2.2.1) (hN.pa (k := j_7) (by omega)).2.2.2 c_3
            refine lv_iinc (v := nI (i + 1)) (lv' := [(4, .int (nI (i + 1))), (0, .ref m0), (1, .int (nI j_7)), (2, .int (nI nW)), (3, .int (vpa v j_7))]) hx hb dX4_dry_62 hl (k := 4) rfl (nI_1 i) (by decide) rfl (fun ls hl => ?_)
            refine lv_goto (tgt := 48) hx hb dX4_dry_65 (by decide) ?_
            exact ih48 (i + 1) (by omega) (by omega)  (dry_next hq (by omega) c_3) _ _ (hP.sub [0, 1] rfl) (hD.sub [0, 1] (by decide) rfl) hS _ (lv_sub hl [1, 2, 3, 4, 0] rfl)
      exact loop48 (nW + 1) 0 (Nat.zero_le _) (by omega)  rfl _ _ (hP.sub [1, 0] rfl) (hD.sub [1, 0] (by decide) rfl) hS _ (lv_sub hl [3, 4, 2, 1, 0] rfl)
    · skip
      refine lv_iconst (v := (-1)) hx hb dX4_dry_43 (by decide) ?_
      exact hend _ _ _ _ _ _ (-1) 0 dX4_dry_44 (⟨by simp (decide := true) only [kDry, rDry, eq_true ht_7, ix_7, eq_true c_2, if_true, if_false, eq_self], by simp (decide := true) only [kDry, eq_true ht_7, ix_7, eq_true c_2, if_true, if_false, eq_self]⟩) (hP.sub [1, 0] rfl) (hD.sub [1, 0] (by decide) rfl) hS rfl (Nat.le_of_ble_eq_true rfl) (Nat.le_of_ble_eq_true rfl)
  · skip
    refine lv_if_ne (tgt := 19) hx hb dX4_dry_10 (by decide) (fun h => absurd (by decide) h) (fun _ => ?_)
    refine lv_aload_n hx hb dX4_dry_13 rfl (lv_at hl 0 rfl) ?_
    refine lv_iconst (v := 1) hx hb dX4_dry_14 (by decide) ?_
    refine k_i (wr := [(m5, .inl (cI, 8, .inl (ho2 (vpw v) (vpa v))))]) (rV (As := [.int 1]) (rest := []) F hG hK (hP.sub (ws' := [(m0, .inr (4, [.int 0, .int (nI (vnC v)), .int (nI (vnP v)), .int (nI (vnK v)), .ref m1, .ref m2, .ref m3, .ref m4, .ref m5, .ref m6]))]) [1] rfl) ((hD.sub (ws' := [(m0, .inr (4, [.int 0, .int (nI (vnC v)), .int (nI (vnP v)), .int (nI (vnK v)), .ref m1, .ref m2, .ref m3, .ref m4, .ref m5, .ref m6]))]) [1] (by decide) rfl).weaken (fun _ _ _ _ => trivial)) s_RX4_45 (c_X4_fail l D cI cZ cJ m0 m1 m2 m3 m4 m5 m6 (vnC v) (vnP v) (vnK v) 0 1 _) 4 0 rfl rfl rfl rfl hl.1 rfl (Nat.le_of_ble_eq_true rfl) dX4_dry_15 ⟨(Nat.le_of_ble_eq_true rfl), (Nat.le_of_ble_eq_true rfl)⟩ ⟨(Nat.le_of_ble_eq_true rfl), (Nat.le_of_ble_eq_true rfl)⟩) hP hD hS hA [1] [0] rfl rfl (by decide) (by decide) (fun r_15 uu H locs hw hP hD hS => ?_)
    try dsimp only at hw
    subst hw
    have hP : va_P D vwCl [(m5, .inl (cI, 8, .inl (ho2 (vpw v) (vpa v)))), (m0, .inr (4, [.int 1, .int (nI (vnC v)), .int (nI (vnP v)), .int (nI (vnK v)), .ref m1, .ref m2, .ref m3, .ref m4, .ref m5, .ref m6]))] _ := hP
    have hD : va_D A [(m5, .inl (cI, 8, .inl (ho2 (vpw v) (vpa v)))), (m0, .inr (4, [.int 1, .int (nI (vnC v)), .int (nI (vnP v)), .int (nI (vnK v)), .ref m1, .ref m2, .ref m3, .ref m4, .ref m5, .ref m6]))] := hD
    exact hend _ _ _ _ _ _ 0 1 dX4_dry_18 (⟨by simp (decide := true) only [kDry, rDry, eq_false b_1, if_true, if_false, eq_self], by simp (decide := true) only [kDry, eq_false b_1, if_true, if_false, eq_self]⟩) (hP.sub [1, 0] rfl) (hD.sub [1, 0] (by decide) rfl) hS rfl (Nat.le_of_ble_eq_true rfl) (Nat.le_of_ble_eq_true rfl)

def rm_X4_mean : Room := { frames := 3, cells := 0, slots := 0, locals := 65 }
set_option maxHeartbeats 4000000 in
set_option maxRecDepth 100000 in
theorem c_X4_mean (l : Launch) (D : va_G) (cI cZ cJ : ClassId) (m0 m1 m2 m3 m4 m5 m6 : Nat) (th : Int32) (v : VT) (hI : IS v) (hN : NN v) : Md l yX4_mean cX4_mean 4 rm_X4_mean D (TY cI cZ cJ) [.ref m0] [(m0, .inr (4, [.int th, .int (nI (vnC v)), .int (nI (vnP v)), .int (nI (vnK v)), .ref m1, .ref m2, .ref m3, .ref m4, .ref m5, .ref m6])), (m5, .inl (cI, 8, .inl (ho2 (vpw v) (vpa v)))), (m6, .inl (cI, 9, .inl (ke3 (vkw v) (vka v) (vkb v))))] (fun (r : UInt64) (u : Unit) => (mnN v = 0 ∧ r = FP.dconst0) ∨ (¬ mnN v = 0 ∧ alike64 r (FP.ddiv (FP.i2d (mnS v)) (FP.i2d (mnN v))) = true)) (fun (u : Unit) => [(m0, .inr (4, [.int 0, .int (nI (vnC v)), .int (nI (vnP v)), .int (nI (vnK v)), .ref m1, .ref m2, .ref m3, .ref m4, .ref m5, .ref m6])), (m5, .inl (cI, 8, .inl (ho2 (vpw v) (vpa v)))), (m6, .inl (cI, 9, .inl (ke3 (vkw v) (vka v) (vkb v))))]) := by
  refine Md.ofQ (by decide) (Nat.le_of_ble_eq_true rfl) ?_
  intro p e s m args below meth c A ls Q hF hK hP hD hA hl hend hdiv
  obtain ⟨F, hr, hlocks, hG⟩ := hF
  have hx := F.1
  have hb := F.2.1
  have hown := F.2.2.2.1
  have ht := F.2.2.2.2
  have hS : va_S A s.heap s.heap [] := va_S.rf
  have hl : lv_has ls 4 [(0, .ref m0)] := hl
  obtain ⟨hC4, hP4, hK3, hAH, hf1, hf2, hf3, hdy⟩ := hI
  refine lv_aload_n hx hb dX4_mean_0 rfl (lv_at hl 0 rfl) ?_
  refine lv_iconst (v := 0) hx hb dX4_mean_1 (by decide) ?_
  refine va_put (D := D) (ci := 4) (v := .int 0) (C := RX4) (T := TX4) (N := 10) hx hb ht inG_X4 tyX4 tyX4_ok nmX4 hown hK hP hD hS 0 rfl rfl 0 (by decide) (ht _ qF_RX4_28) (fun _ h9 => h9) rfl (tyX4_ok 0 (by decide)) rfl rfl (Nat.le_of_ble_eq_true rfl) dX4_mean_2 (fun H locs hP hD hS => ?_)
  have hP : va_P D vwCl [(m0, .inr (4, [.int 0, .int (nI (vnC v)), .int (nI (vnP v)), .int (nI (vnK v)), .ref m1, .ref m2, .ref m3, .ref m4, .ref m5, .ref m6])), (m5, .inl (cI, 8, .inl (ho2 (vpw v) (vpa v)))), (m6, .inl (cI, 9, .inl (ke3 (vkw v) (vka v) (vkb v))))] _ := hP
  have hD : va_D A [(m0, .inr (4, [.int 0, .int (nI (vnC v)), .int (nI (vnP v)), .int (nI (vnK v)), .ref m1, .ref m2, .ref m3, .ref m4, .ref m5, .ref m6])), (m5, .inl (cI, 8, .inl (ho2 (vpw v) (vpa v)))), (m6, .inl (cI, 9, .inl (ke3 (vkw v) (vka v) (vkb v))))] := hD
  refine lv_iconst (v := 0) hx hb dX4_mean_5 (by decide) ?_
  refine lv_istore_n (lv' := [(1, .int 0), (0, .ref m0)]) hx hb dX4_mean_6 rfl hl (by decide) rfl (fun ls hl => ?_)
  refine lv_iconst (v := 0) hx hb dX4_mean_7 (by decide) ?_
  refine lv_istore_n (lv' := [(2, .int 0), (1, .int 0), (0, .ref m0)]) hx hb dX4_mean_8 rfl hl (by decide) rfl (fun ls hl => ?_)
  refine lv_iconst (v := 0) hx hb dX4_mean_9 (by decide) ?_
  refine lv_istore_n (lv' := [(3, .int 0), (2, .int 0), (1, .int 0), (0, .ref m0)]) hx hb dX4_mean_10 rfl hl (by decide) rfl (fun ls hl => ?_)
  have loop11 : ∀ (kf11 i1 : Nat), i1 ≤ (vnP v) → (vnP v) < i1 + kf11 → ∀ (s1 : Int32) (n1 : Int32), s1 = sumF (fun j => strg (vpw v j) (vpa v j)) i1 → n1 = sumF (fil (vpw v) (vpa v)) i1 → ∀ (H : Heap) (locs : List Loc), va_P D vwCl [(m0, .inr (4, [.int 0, .int (nI (vnC v)), .int (nI (vnP v)), .int (nI (vnK v)), .ref m1, .ref m2, .ref m3, .ref m4, .ref m5, .ref m6])), (m5, .inl (cI, 8, .inl (ho2 (vpw v) (vpa v)))), (m6, .inl (cI, 9, .inl (ke3 (vkw v) (vka v) (vkb v))))] H → va_D A [(m0, .inr (4, [.int 0, .int (nI (vnC v)), .int (nI (vnP v)), .int (nI (vnK v)), .ref m1, .ref m2, .ref m3, .ref m4, .ref m5, .ref m6])), (m5, .inl (cI, 8, .inl (ho2 (vpw v) (vpa v)))), (m6, .inl (cI, 9, .inl (ke3 (vkw v) (vka v) (vkb v))))] → va_S A s.heap H locs → ∀ (ls : Array Slot), lv_has ls 4 [(0, .ref m0), (1, .int s1), (2, .int n1), (3, .int (nI i1))] → W p l e rm_X4_mean s m args below meth c H locs 0 0 Q (F0 m 11 ls []) := by
    intro kf11
    induction kf11 with
    | zero =>
      intro i1 hle11 hlt11
      exact absurd hlt11 (by omega)
    | succ kf11 ih11 =>
      intro i1 hle11 hlt11 s1 n1 e_s1 e_n1 H locs hP hD hS ls hl
      refine lv_iload_n hx hb dX4_mean_11 rfl (lv_at hl 3 rfl) ?_
      refine lv_aload_n hx hb dX4_mean_12 rfl (lv_at hl 0 rfl) ?_
      refine va_get (D := D) (ci := 4) (v := .int (nI (vnP v))) (C := RX4) (T := TX4) (N := 10) hx hb ht inG_X4 hown hK hP 0 rfl rfl 2 (by decide) (ht _ qF_RX4_39) (fun _ h9 => h9) rfl dX4_mean_13 ?_
      refine lv_icmp_ge (tgt := 64) hx hb dX4_mean_16 (by decide) (fun c_1 => ?_) (fun c_1 => ?_)
      · skip
        have c_1n := Int32.not_lt.mpr c_1
        have c_1m := (nI_leI (a := vnP v) (b := i1) (by omega) (by omega)).mp c_1
        refine lv_iconst (v := 0) hx hb dX4_mean_64 (by decide) ?_
        refine lv_istore_n (lv' := [(3, .int 0), (0, .ref m0), (1, .int s1), (2, .int n1)]) hx hb dX4_mean_65 rfl hl (by decide) rfl (fun ls hl => ?_)
        have loop66 : ∀ (kf66 i2 : Nat), i2 ≤ (vnK v) → (vnK v) < i2 + kf66 → ∀ (s2 : Int32) (n2 : Int32), s2 = sumF (fun j => strg (vpw v j) (vpa v j)) (vnP v) + sumF (fun j => strg (vkw v j) (vka v j)) i2 → n2 = sumF (fil (vpw v) (vpa v)) (vnP v) + sumF (fil (vkw v) (vka v)) i2 → ∀ (H : Heap) (locs : List Loc), va_P D vwCl [(m0, .inr (4, [.int 0, .int (nI (vnC v)), .int (nI (vnP v)), .int (nI (vnK v)), .ref m1, .ref m2, .ref m3, .ref m4, .ref m5, .ref m6])), (m5, .inl (cI, 8, .inl (ho2 (vpw v) (vpa v)))), (m6, .inl (cI, 9, .inl (ke3 (vkw v) (vka v) (vkb v))))] H → va_D A [(m0, .inr (4, [.int 0, .int (nI (vnC v)), .int (nI (vnP v)), .int (nI (vnK v)), .ref m1, .ref m2, .ref m3, .ref m4, .ref m5, .ref m6])), (m5, .inl (cI, 8, .inl (ho2 (vpw v) (vpa v)))), (m6, .inl (cI, 9, .inl (ke3 (vkw v) (vka v) (vkb v))))] → va_S A s.heap H locs → ∀ (ls : Array Slot), lv_has ls 4 [(0, .ref m0), (1, .int s2), (2, .int n2), (3, .int (nI i2))] → W p l e rm_X4_mean s m args below meth c H locs 0 0 Q (F0 m 66 ls []) := by
          intro kf66
          induction kf66 with
          | zero =>
            intro i2 hle66 hlt66
            exact absurd hlt66 (by omega)
          | succ kf66 ih66 =>
            intro i2 hle66 hlt66 s2 n2 e_s2 e_n2 H locs hP hD hS ls hl
            refine lv_iload_n hx hb dX4_mean_66 rfl (lv_at hl 3 rfl) ?_
            refine lv_aload_n hx hb dX4_mean_67 rfl (lv_at hl 0 rfl) ?_
            refine va_get (D := D) (ci := 4) (v := .int (nI (vnK v))) (C := RX4) (T := TX4) (N := 10) hx hb ht inG_X4 hown hK hP 0 rfl rfl 3 (by decide) (ht _ qF_RX4_42) (fun _ h9 => h9) rfl dX4_mean_68 ?_
            refine lv_icmp_ge (tgt := 119) hx hb dX4_mean_71 (by decide) (fun c_2 => ?_) (fun c_2 => ?_)
            · skip
              have c_2n := Int32.not_lt.mpr c_2
              have c_2m := (nI_leI (a := vnK v) (b := i2) (by omega) (by omega)).mp c_2
              have eM : n2 = mnN v := by rw [e_n2, show i2 = vnK v by omega]; rfl
              have eS : s2 = mnS v := by rw [e_s2, show i2 = vnK v by omega]; rfl
              refine lv_iload_n hx hb dX4_mean_119 rfl (lv_at hl 2 rfl) ?_
              refine lv_if_ne (tgt := 127) hx hb dX4_mean_120 (by decide) (fun c_3 => ?_) (fun c_3 => ?_)
              · skip
                refine lv_iload_n hx hb dX4_mean_127 rfl (lv_at hl 1 rfl) ?_
                refine lv_i2d hx hb dX4_mean_128 ?_
                refine lv_iload_n hx hb dX4_mean_129 rfl (lv_at hl 2 rfl) ?_
                refine lv_i2d hx hb dX4_mean_130 ?_
                exact hdiv _ _ _ _ _ _ (FP.i2d s2) (FP.i2d n2) () dX4_mean_131 dX4_mean_132 ((by rw [← eM, ← eS]; exact fun r hr => Or.inr ⟨c_3, hr⟩)) (hP.sub [0, 1, 2] rfl) (hD.sub [0, 1, 2] (by decide) rfl) hS (Nat.le_of_ble_eq_true rfl) (Nat.le_of_ble_eq_true rfl)
              · skip
                refine lv_dconst0 hx hb dX4_mean_123 ?_
                refine lv_goto (tgt := 132) hx hb dX4_mean_124 (by decide) ?_
                exact hend _ _ _ _ _ _ FP.dconst0 () dX4_mean_132 (Or.inl ⟨eM.symm.trans c_3, rfl⟩) hP hD hS (Nat.le_of_ble_eq_true rfl) (Nat.le_of_ble_eq_true rfl)
            · skip
              have c_2n := Int32.not_le.mp c_2
              have c_2m := (nI_ltI (a := i2) (b := vnK v) (by omega) (by omega)).mp c_2n
              refine lv_iload_n hx hb dX4_mean_74 rfl (lv_at hl 2 rfl) ?_
              refine lv_aload_n hx hb dX4_mean_75 rfl (lv_at hl 0 rfl) ?_
              refine va_get (D := D) (ci := 4) (v := .ref m6) (C := RX4) (T := TX4) (N := 10) hx hb ht inG_X4 hown hK hP 0 rfl rfl 9 (by decide) (ht _ qF_RX4_25) (fun _ h9 => h9) rfl dX4_mean_76 ?_
              refine lv_iconst (v := 3) hx hb dX4_mean_79 (by decide) ?_
              refine lv_iload_n hx hb dX4_mean_80 rfl (lv_at hl 3 rfl) ?_
              refine lv_imul hx hb dX4_mean_81 ?_
              refine t_i (nI (3 * i2)) (pk_mul 3 i2) ?_
              refine aI hx hb hK hP 2 0 rfl rfl (3 * i2) (rfl) (by omega) (by decide) (v := (vkw v) i2) (ke3_0 _ _ _ i2) dX4_mean_82 ?_
              refine lv_aload_n hx hb dX4_mean_83 rfl (lv_at hl 0 rfl) ?_
              refine va_get (D := D) (ci := 4) (v := .ref m6) (C := RX4) (T := TX4) (N := 10) hx hb ht inG_X4 hown hK hP 0 rfl rfl 9 (by decide) (ht _ qF_RX4_25) (fun _ h9 => h9) rfl dX4_mean_84 ?_
              refine lv_iconst (v := 3) hx hb dX4_mean_87 (by decide) ?_
              refine lv_iload_n hx hb dX4_mean_88 rfl (lv_at hl 3 rfl) ?_
              refine lv_imul hx hb dX4_mean_89 ?_
              refine t_i (nI (3 * i2)) (pk_mul 3 i2) ?_
              refine lv_iconst (v := 1) hx hb dX4_mean_90 (by decide) ?_
              refine lv_iadd hx hb dX4_mean_91 ?_
              refine t_i (nI (3 * i2 + 1)) (nI_1 (3 * i2)) ?_
              refine aI hx hb hK hP 2 0 rfl rfl (3 * i2 + 1) (rfl) (by omega) (by decide) (v := (vka v) i2) (ke3_1 _ _ _ i2) dX4_mean_92 ?_
              refine lv_iadd hx hb dX4_mean_93 ?_
              refine lv_if_le (tgt := 101) hx hb dX4_mean_94 (by decide) (fun c_4 => ?_) (fun c_4 => ?_)
              · skip
                have c_4n := Int32.not_lt.mpr c_4
                refine lv_iconst (v := 0) hx hb dX4_mean_101 (by decide) ?_
                refine lv_iadd hx hb dX4_mean_102 ?_
                refine lv_istore_n (lv' := [(2, .int (n2 + 0)), (0, .ref m0), (1, .int s2), (3, .int (nI i2))]) hx hb dX4_mean_103 rfl hl (by decide) rfl (fun ls hl => ?_)
                refine lv_iload_n hx hb dX4_mean_104 rfl (lv_at hl 2 rfl) ?_
                refine lv_aload_n hx hb dX4_mean_105 rfl (lv_at hl 1 rfl) ?_
                refine lv_iload_n hx hb dX4_mean_106 rfl (lv_at hl 3 rfl) ?_
                refine lv_iconst (v := 2) hx hb dX4_mean_107 (by decide) ?_
                refine k_i (wr := [(m5, .inl (cI, 8, .inl (ho2 (vpw v) (vpa v))))]) (rV (As := [.int (nI i2), .int 2]) (rest := [.int s2]) F hG hK (hP.sub (ws' := [(m0, .inr (4, [.int 0, .int (nI (vnC v)), .int (nI (vnP v)), .int (nI (vnK v)), .ref m1, .ref m2, .ref m3, .ref m4, .ref m5, .ref m6])), (m6, .inl (cI, 9, .inl (ke3 (vkw v) (vka v) (vkb v))))]) [0, 2] rfl) ((hD.sub (ws' := [(m0, .inr (4, [.int 0, .int (nI (vnC v)), .int (nI (vnP v)), .int (nI (vnK v)), .ref m1, .ref m2, .ref m3, .ref m4, .ref m5, .ref m6])), (m6, .inl (cI, 9, .inl (ke3 (vkw v) (vka v) (vkb v))))]) [0, 2] (by decide) rfl).weaken (fun _ _ _ _ => trivial)) s_RX4_84 (c_X4_panTold l D cI cZ cJ m0 m1 m2 m3 m4 m5 m6 0 v i2 2 (by first | assumption | omega) (hN.k0 (by omega)) _) 4 0 rfl rfl rfl rfl hl.1 rfl (Nat.le_of_ble_eq_true rfl) dX4_mean_108 ⟨(Nat.le_of_ble_eq_true rfl), (Nat.le_of_ble_eq_true rfl)⟩ ⟨(Nat.le_of_ble_eq_true rfl), (Nat.le_of_ble_eq_true rfl)⟩) hP hD hS hA [0, 2] [1] rfl rfl (by decide) (by decide) (fun r_108 uu H locs hw hP hD hS => ?_)
                try dsimp only at hw
                subst hw
                have hP : va_P D vwCl [(m5, .inl (cI, 8, .inl (ho2 (vpw v) (vpa v)))), (m0, .inr (4, [.int 0, .int (nI (vnC v)), .int (nI (vnP v)), .int (nI (vnK v)), .ref m1, .ref m2, .ref m3, .ref m4, .ref m5, .ref m6])), (m6, .inl (cI, 9, .inl (ke3 (vkw v) (vka v) (vkb v))))] _ := hP
                have hD : va_D A [(m5, .inl (cI, 8, .inl (ho2 (vpw v) (vpa v)))), (m0, .inr (4, [.int 0, .int (nI (vnC v)), .int (nI (vnP v)), .int (nI (vnK v)), .ref m1, .ref m2, .ref m3, .ref m4, .ref m5, .ref m6])), (m6, .inl (cI, 9, .inl (ke3 (vkw v) (vka v) (vkb v))))] := hD
                refine t_i (strg (vkw v i2) (vka v i2)) (rfl) ?_
                refine lv_iadd hx hb dX4_mean_111 ?_
                refine lv_istore_n (lv' := [(1, .int (s2 + (strg (vkw v i2) (vka v i2)))), (2, .int (n2 + 0)), (0, .ref m0), (3, .int (nI i2))]) hx hb dX4_mean_112 rfl hl (by decide) rfl (fun ls hl => ?_)
                refine lv_iinc (v := nI (i2 + 1)) (lv' := [(3, .int (nI (i2 + 1))), (1, .int (s2 + (strg (vkw v i2) (vka v i2)))), (2, .int (n2 + 0)), (0, .ref m0)]) hx hb dX4_mean_113 hl (k := 3) rfl (nI_1 i2) (by decide) rfl (fun ls hl => ?_)
                refine lv_goto (tgt := 66) hx hb dX4_mean_116 (by decide) ?_
                exact ih66 (i2 + 1) (by omega) (by omega) (s2 + (strg (vkw v i2) (vka v i2))) (n2 + 0) (by rw [e_s2]; exact Int32.add_assoc _ _ _) (by rw [e_n2]; simp only [sumF, fil, eq_true c_1, eq_false c_1n, eq_false c_2, eq_true c_2n, eq_true c_4, eq_false c_4n, if_true, if_false, Int32.add_assoc]) _ _ (hP.sub [1, 0, 2] rfl) (hD.sub [1, 0, 2] (by decide) rfl) hS _ (lv_sub hl [3, 1, 2, 0] rfl)
              · skip
                have c_4n := Int32.not_le.mp c_4
                refine lv_iconst (v := 1) hx hb dX4_mean_97 (by decide) ?_
                refine lv_goto (tgt := 102) hx hb dX4_mean_98 (by decide) ?_
                refine lv_iadd hx hb dX4_mean_102 ?_
                refine lv_istore_n (lv' := [(2, .int (n2 + 1)), (0, .ref m0), (1, .int s2), (3, .int (nI i2))]) hx hb dX4_mean_103 rfl hl (by decide) rfl (fun ls hl => ?_)
                refine lv_iload_n hx hb dX4_mean_104 rfl (lv_at hl 2 rfl) ?_
                refine lv_aload_n hx hb dX4_mean_105 rfl (lv_at hl 1 rfl) ?_
                refine lv_iload_n hx hb dX4_mean_106 rfl (lv_at hl 3 rfl) ?_
                refine lv_iconst (v := 2) hx hb dX4_mean_107 (by decide) ?_
                refine k_i (wr := [(m5, .inl (cI, 8, .inl (ho2 (vpw v) (vpa v))))]) (rV (As := [.int (nI i2), .int 2]) (rest := [.int s2]) F hG hK (hP.sub (ws' := [(m0, .inr (4, [.int 0, .int (nI (vnC v)), .int (nI (vnP v)), .int (nI (vnK v)), .ref m1, .ref m2, .ref m3, .ref m4, .ref m5, .ref m6])), (m6, .inl (cI, 9, .inl (ke3 (vkw v) (vka v) (vkb v))))]) [0, 2] rfl) ((hD.sub (ws' := [(m0, .inr (4, [.int 0, .int (nI (vnC v)), .int (nI (vnP v)), .int (nI (vnK v)), .ref m1, .ref m2, .ref m3, .ref m4, .ref m5, .ref m6])), (m6, .inl (cI, 9, .inl (ke3 (vkw v) (vka v) (vkb v))))]) [0, 2] (by decide) rfl).weaken (fun _ _ _ _ => trivial)) s_RX4_84 (c_X4_panTold l D cI cZ cJ m0 m1 m2 m3 m4 m5 m6 0 v i2 2 (by first | assumption | omega) (hN.k0 (by omega)) _) 4 0 rfl rfl rfl rfl hl.1 rfl (Nat.le_of_ble_eq_true rfl) dX4_mean_108 ⟨(Nat.le_of_ble_eq_true rfl), (Nat.le_of_ble_eq_true rfl)⟩ ⟨(Nat.le_of_ble_eq_true rfl), (Nat.le_of_ble_eq_true rfl)⟩) hP hD hS hA [0, 2] [1] rfl rfl (by decide) (by decide) (fun r_108 uu H locs hw hP hD hS => ?_)
                try dsimp only at hw
                subst hw
                have hP : va_P D vwCl [(m5, .inl (cI, 8, .inl (ho2 (vpw v) (vpa v)))), (m0, .inr (4, [.int 0, .int (nI (vnC v)), .int (nI (vnP v)), .int (nI (vnK v)), .ref m1, .ref m2, .ref m3, .ref m4, .ref m5, .ref m6])), (m6, .inl (cI, 9, .inl (ke3 (vkw v) (vka v) (vkb v))))] _ := hP
                have hD : va_D A [(m5, .inl (cI, 8, .inl (ho2 (vpw v) (vpa v)))), (m0, .inr (4, [.int 0, .int (nI (vnC v)), .int (nI (vnP v)), .int (nI (vnK v)), .ref m1, .ref m2, .ref m3, .ref m4, .ref m5, .ref m6])), (m6, .inl (cI, 9, .inl (ke3 (vkw v) (vka v) (vkb v))))] := hD
                refine t_i (strg (vkw v i2) (vka v i2)) (rfl) ?_
                refine lv_iadd hx hb dX4_mean_111 ?_
                refine lv_istore_n (lv' := [(1, .int (s2 + (strg (vkw v i2) (vka v i2)))), (2, .int (n2 + 1)), (0, .ref m0), (3, .int (nI i2))]) hx hb dX4_mean_112 rfl hl (by decide) rfl (fun ls hl => ?_)
                refine lv_iinc (v := nI (i2 + 1)) (lv' := [(3, .int (nI (i2 + 1))), (1, .int (s2 + (strg (vkw v i2) (vka v i2)))), (2, .int (n2 + 1)), (0, .ref m0)]) hx hb dX4_mean_113 hl (k := 3) rfl (nI_1 i2) (by decide) rfl (fun ls hl => ?_)
                refine lv_goto (tgt := 66) hx hb dX4_mean_116 (by decide) ?_
                exact ih66 (i2 + 1) (by omega) (by omega) (s2 + (strg (vkw v i2) (vka v i2))) (n2 + 1) (by rw [e_s2]; exact Int32.add_assoc _ _ _) (by rw [e_n2]; simp only [sumF, fil, eq_true c_1, eq_false c_1n, eq_false c_2, eq_true c_2n, eq_false c_4, eq_true c_4n, if_true, if_false, Int32.add_assoc]) _ _ (hP.sub [1, 0, 2] rfl) (hD.sub [1, 0, 2] (by decide) rfl) hS _ (lv_sub hl [3, 1, 2, 0] rfl)
        exact loop66 ((vnK v) + 1) 0 (Nat.zero_le _) (by omega) s1 n1 (by rw [e_s1, show i1 = vnP v by omega]; exact (Int32.add_zero _).symm) (by rw [e_n1, show i1 = vnP v by omega]; exact (Int32.add_zero _).symm) _ _ (hP.sub [0, 1, 2] rfl) (hD.sub [0, 1, 2] (by decide) rfl) hS _ (lv_sub hl [1, 2, 3, 0] rfl)
      · skip
        have c_1n := Int32.not_le.mp c_1
        have c_1m := (nI_ltI (a := i1) (b := vnP v) (by omega) (by omega)).mp c_1n
        refine lv_iload_n hx hb dX4_mean_19 rfl (lv_at hl 2 rfl) ?_
        refine lv_aload_n hx hb dX4_mean_20 rfl (lv_at hl 0 rfl) ?_
        refine va_get (D := D) (ci := 4) (v := .ref m5) (C := RX4) (T := TX4) (N := 10) hx hb ht inG_X4 hown hK hP 0 rfl rfl 8 (by decide) (ht _ qF_RX4_22) (fun _ h9 => h9) rfl dX4_mean_21 ?_
        refine lv_iconst (v := 2) hx hb dX4_mean_24 (by decide) ?_
        refine lv_iload_n hx hb dX4_mean_25 rfl (lv_at hl 3 rfl) ?_
        refine lv_imul hx hb dX4_mean_26 ?_
        refine t_i (nI (2 * i1)) (pk_mul 2 i1) ?_
        refine aI hx hb hK hP 1 0 rfl rfl (2 * i1) (rfl) (by omega) (by decide) (v := (vpw v) i1) (ho2_0 _ _ i1) dX4_mean_27 ?_
        refine lv_aload_n hx hb dX4_mean_28 rfl (lv_at hl 0 rfl) ?_
        refine va_get (D := D) (ci := 4) (v := .ref m5) (C := RX4) (T := TX4) (N := 10) hx hb ht inG_X4 hown hK hP 0 rfl rfl 8 (by decide) (ht _ qF_RX4_22) (fun _ h9 => h9) rfl dX4_mean_29 ?_
        refine lv_iconst (v := 2) hx hb dX4_mean_32 (by decide) ?_
        refine lv_iload_n hx hb dX4_mean_33 rfl (lv_at hl 3 rfl) ?_
        refine lv_imul hx hb dX4_mean_34 ?_
        refine t_i (nI (2 * i1)) (pk_mul 2 i1) ?_
        refine lv_iconst (v := 1) hx hb dX4_mean_35 (by decide) ?_
        refine lv_iadd hx hb dX4_mean_36 ?_
        refine t_i (nI (2 * i1 + 1)) (nI_1 (2 * i1)) ?_
        refine aI hx hb hK hP 1 0 rfl rfl (2 * i1 + 1) (rfl) (by omega) (by decide) (v := (vpa v) i1) (ho2_1 _ _ i1) dX4_mean_37 ?_
        refine lv_iadd hx hb dX4_mean_38 ?_
        refine lv_if_le (tgt := 46) hx hb dX4_mean_39 (by decide) (fun c_5 => ?_) (fun c_5 => ?_)
        · skip
          have c_5n := Int32.not_lt.mpr c_5
          refine lv_iconst (v := 0) hx hb dX4_mean_46 (by decide) ?_
          refine lv_iadd hx hb dX4_mean_47 ?_
          refine lv_istore_n (lv' := [(2, .int (n1 + 0)), (0, .ref m0), (1, .int s1), (3, .int (nI i1))]) hx hb dX4_mean_48 rfl hl (by decide) rfl (fun ls hl => ?_)
          refine lv_iload_n hx hb dX4_mean_49 rfl (lv_at hl 2 rfl) ?_
          refine lv_aload_n hx hb dX4_mean_50 rfl (lv_at hl 1 rfl) ?_
          refine lv_iload_n hx hb dX4_mean_51 rfl (lv_at hl 3 rfl) ?_
          refine lv_iconst (v := 2) hx hb dX4_mean_52 (by decide) ?_
          refine k_i (wr := [(m6, .inl (cI, 9, .inl (ke3 (vkw v) (vka v) (vkb v))))]) (rV (As := [.int (nI i1), .int 2]) (rest := [.int s1]) F hG hK (hP.sub (ws' := [(m0, .inr (4, [.int 0, .int (nI (vnC v)), .int (nI (vnP v)), .int (nI (vnK v)), .ref m1, .ref m2, .ref m3, .ref m4, .ref m5, .ref m6])), (m5, .inl (cI, 8, .inl (ho2 (vpw v) (vpa v))))]) [0, 1] rfl) ((hD.sub (ws' := [(m0, .inr (4, [.int 0, .int (nI (vnC v)), .int (nI (vnP v)), .int (nI (vnK v)), .ref m1, .ref m2, .ref m3, .ref m4, .ref m5, .ref m6])), (m5, .inl (cI, 8, .inl (ho2 (vpw v) (vpa v))))]) [0, 1] (by decide) rfl).weaken (fun _ _ _ _ => trivial)) s_RX4_81 (c_X4_pitTold l D cI cZ cJ m0 m1 m2 m3 m4 m5 m6 0 v i1 2 (by first | assumption | omega) (hN.p0 (by omega)) _) 4 0 rfl rfl rfl rfl hl.1 rfl (Nat.le_of_ble_eq_true rfl) dX4_mean_53 ⟨(Nat.le_of_ble_eq_true rfl), (Nat.le_of_ble_eq_true rfl)⟩ ⟨(Nat.le_of_ble_eq_true rfl), (Nat.le_of_ble_eq_true rfl)⟩) hP hD hS hA [0, 1] [2] rfl rfl (by decide) (by decide) (fun r_53 uu H locs hw hP hD hS => ?_)
          try dsimp only at hw
          subst hw
          have hP : va_P D vwCl [(m6, .inl (cI, 9, .inl (ke3 (vkw v) (vka v) (vkb v)))), (m0, .inr (4, [.int 0, .int (nI (vnC v)), .int (nI (vnP v)), .int (nI (vnK v)), .ref m1, .ref m2, .ref m3, .ref m4, .ref m5, .ref m6])), (m5, .inl (cI, 8, .inl (ho2 (vpw v) (vpa v))))] _ := hP
          have hD : va_D A [(m6, .inl (cI, 9, .inl (ke3 (vkw v) (vka v) (vkb v)))), (m0, .inr (4, [.int 0, .int (nI (vnC v)), .int (nI (vnP v)), .int (nI (vnK v)), .ref m1, .ref m2, .ref m3, .ref m4, .ref m5, .ref m6])), (m5, .inl (cI, 8, .inl (ho2 (vpw v) (vpa v))))] := hD
          refine t_i (strg (vpw v i1) (vpa v i1)) (rfl) ?_
          refine lv_iadd hx hb dX4_mean_56 ?_
          refine lv_istore_n (lv' := [(1, .int (s1 + (strg (vpw v i1) (vpa v i1)))), (2, .int (n1 + 0)), (0, .ref m0), (3, .int (nI i1))]) hx hb dX4_mean_57 rfl hl (by decide) rfl (fun ls hl => ?_)
          refine lv_iinc (v := nI (i1 + 1)) (lv' := [(3, .int (nI (i1 + 1))), (1, .int (s1 + (strg (vpw v i1) (vpa v i1)))), (2, .int (n1 + 0)), (0, .ref m0)]) hx hb dX4_mean_58 hl (k := 3) rfl (nI_1 i1) (by decide) rfl (fun ls hl => ?_)
          refine lv_goto (tgt := 11) hx hb dX4_mean_61 (by decide) ?_
          exact ih11 (i1 + 1) (by omega) (by omega) (s1 + (strg (vpw v i1) (vpa v i1))) (n1 + 0) (by rw [e_s1]; rfl) (by rw [e_n1]; simp only [sumF, fil, eq_false c_1, eq_true c_1n, eq_true c_5, eq_false c_5n, if_true, if_false]) _ _ (hP.sub [1, 2, 0] rfl) (hD.sub [1, 2, 0] (by decide) rfl) hS _ (lv_sub hl [3, 1, 2, 0] rfl)
        · skip
          have c_5n := Int32.not_le.mp c_5
          refine lv_iconst (v := 1) hx hb dX4_mean_42 (by decide) ?_
          refine lv_goto (tgt := 47) hx hb dX4_mean_43 (by decide) ?_
          refine lv_iadd hx hb dX4_mean_47 ?_
          refine lv_istore_n (lv' := [(2, .int (n1 + 1)), (0, .ref m0), (1, .int s1), (3, .int (nI i1))]) hx hb dX4_mean_48 rfl hl (by decide) rfl (fun ls hl => ?_)
          refine lv_iload_n hx hb dX4_mean_49 rfl (lv_at hl 2 rfl) ?_
          refine lv_aload_n hx hb dX4_mean_50 rfl (lv_at hl 1 rfl) ?_
          refine lv_iload_n hx hb dX4_mean_51 rfl (lv_at hl 3 rfl) ?_
          refine lv_iconst (v := 2) hx hb dX4_mean_52 (by decide) ?_
          refine k_i (wr := [(m6, .inl (cI, 9, .inl (ke3 (vkw v) (vka v) (vkb v))))]) (rV (As := [.int (nI i1), .int 2]) (rest := [.int s1]) F hG hK (hP.sub (ws' := [(m0, .inr (4, [.int 0, .int (nI (vnC v)), .int (nI (vnP v)), .int (nI (vnK v)), .ref m1, .ref m2, .ref m3, .ref m4, .ref m5, .ref m6])), (m5, .inl (cI, 8, .inl (ho2 (vpw v) (vpa v))))]) [0, 1] rfl) ((hD.sub (ws' := [(m0, .inr (4, [.int 0, .int (nI (vnC v)), .int (nI (vnP v)), .int (nI (vnK v)), .ref m1, .ref m2, .ref m3, .ref m4, .ref m5, .ref m6])), (m5, .inl (cI, 8, .inl (ho2 (vpw v) (vpa v))))]) [0, 1] (by decide) rfl).weaken (fun _ _ _ _ => trivial)) s_RX4_81 (c_X4_pitTold l D cI cZ cJ m0 m1 m2 m3 m4 m5 m6 0 v i1 2 (by first | assumption | omega) (hN.p0 (by omega)) _) 4 0 rfl rfl rfl rfl hl.1 rfl (Nat.le_of_ble_eq_true rfl) dX4_mean_53 ⟨(Nat.le_of_ble_eq_true rfl), (Nat.le_of_ble_eq_true rfl)⟩ ⟨(Nat.le_of_ble_eq_true rfl), (Nat.le_of_ble_eq_true rfl)⟩) hP hD hS hA [0, 1] [2] rfl rfl (by decide) (by decide) (fun r_53 uu H locs hw hP hD hS => ?_)
          try dsimp only at hw
          subst hw
          have hP : va_P D vwCl [(m6, .inl (cI, 9, .inl (ke3 (vkw v) (vka v) (vkb v)))), (m0, .inr (4, [.int 0, .int (nI (vnC v)), .int (nI (vnP v)), .int (nI (vnK v)), .ref m1, .ref m2, .ref m3, .ref m4, .ref m5, .ref m6])), (m5, .inl (cI, 8, .inl (ho2 (vpw v) (vpa v))))] _ := hP
          have hD : va_D A [(m6, .inl (cI, 9, .inl (ke3 (vkw v) (vka v) (vkb v)))), (m0, .inr (4, [.int 0, .int (nI (vnC v)), .int (nI (vnP v)), .int (nI (vnK v)), .ref m1, .ref m2, .ref m3, .ref m4, .ref m5, .ref m6])), (m5, .inl (cI, 8, .inl (ho2 (vpw v) (vpa v))))] := hD
          refine t_i (strg (vpw v i1) (vpa v i1)) (rfl) ?_
          refine lv_iadd hx hb dX4_mean_56 ?_
          refine lv_istore_n (lv' := [(1, .int (s1 + (strg (vpw v i1) (vpa v i1)))), (2, .int (n1 + 1)), (0, .ref m0), (3, .int (nI i1))]) hx hb dX4_mean_57 rfl hl (by decide) rfl (fun ls hl => ?_)
          refine lv_iinc (v := nI (i1 + 1)) (lv' := [(3, .int (nI (i1 + 1))), (1, .int (s1 + (strg (vpw v i1) (vpa v i1)))), (2, .int (n1 + 1)), (0, .ref m0)]) hx hb dX4_mean_58 hl (k := 3) rfl (nI_1 i1) (by decide) rfl (fun ls hl => ?_)
          refine lv_goto (tgt := 11) hx hb dX4_mean_61 (by decide) ?_
          exact ih11 (i1 + 1) (by omega) (by omega) (s1 + (strg (vpw v i1) (vpa v i1))) (n1 + 1) (by rw [e_s1]; rfl) (by rw [e_n1]; simp only [sumF, fil, eq_false c_1, eq_true c_1n, eq_false c_5, eq_true c_5n, if_true, if_false]) _ _ (hP.sub [1, 2, 0] rfl) (hD.sub [1, 2, 0] (by decide) rfl) hS _ (lv_sub hl [3, 1, 2, 0] rfl)
  exact loop11 ((vnP v) + 1) 0 (Nat.zero_le _) (by omega) 0 0 rfl rfl _ _ (hP.sub [0, 1, 2] rfl) (hD.sub [0, 1, 2] (by decide) rfl) hS _ (lv_sub hl [3, 2, 1, 0] rfl)

def rm_X4_digest : Room := { frames := 3, cells := 0, slots := 0, locals := 65 }
set_option maxHeartbeats 4000000 in
set_option maxRecDepth 100000 in
theorem c_X4_digest (l : Launch) (D : va_G) (cI cZ cJ : ClassId) (m0 m1 m2 m3 m4 m5 m6 : Nat) (th : Int32) (v : VT) (hI : IS v) (hN : NN v) : Ml l yX4_digest cX4_digest 7 rm_X4_digest D (TY cI cZ cJ) [.ref m0] [(m0, .inr (4, [.int th, .int (nI (vnC v)), .int (nI (vnP v)), .int (nI (vnK v)), .ref m1, .ref m2, .ref m3, .ref m4, .ref m5, .ref m6])), (m1, .inl (cI, 7, .inl (st7 (nI (vday v)) (vcoal v) (vbar v) (vfine v) (vcrs v) (vcoin v) (vship v)))), (m2, .inl (cI, 6, .inl (vR v))), (m3, .inl (cI, 7, .inl (vS v))), (m4, .inl (cI, 16, .inl (hp4 (vsh v) (vco v) (vbu v) (vfl v)))), (m5, .inl (cI, 8, .inl (ho2 (vpw v) (vpa v)))), (m6, .inl (cI, 9, .inl (ke3 (vkw v) (vka v) (vkb v))))] (fun (r : Int64) (u : Unit) => r = dgV v) (fun (u : Unit) => [(m0, .inr (4, [.int 0, .int (nI (vnC v)), .int (nI (vnP v)), .int (nI (vnK v)), .ref m1, .ref m2, .ref m3, .ref m4, .ref m5, .ref m6])), (m1, .inl (cI, 7, .inl (st7 (nI (vday v)) (vcoal v) (vbar v) (vfine v) (vcrs v) (vcoin v) (vship v)))), (m2, .inl (cI, 6, .inl (vR v))), (m3, .inl (cI, 7, .inl (vS v))), (m4, .inl (cI, 16, .inl (hp4 (vsh v) (vco v) (vbu v) (vfl v)))), (m5, .inl (cI, 8, .inl (ho2 (vpw v) (vpa v)))), (m6, .inl (cI, 9, .inl (ke3 (vkw v) (vka v) (vkb v))))]) := by
  refine Ml.ofQ (by decide) (Nat.le_of_ble_eq_true rfl) ?_
  intro p e s m args below meth c A ls Q hF hK hP hD hA hl hend
  obtain ⟨F, hr, hlocks, hG⟩ := hF
  have hx := F.1
  have hb := F.2.1
  have hown := F.2.2.2.1
  have ht := F.2.2.2.2
  have hS : va_S A s.heap s.heap [] := va_S.rf
  have hl : lv_has ls 7 [(0, .ref m0)] := hl
  obtain ⟨hC4, hP4, hK3, hAH, hf1, hf2, hf3, hdy⟩ := hI
  refine lv_aload_n hx hb dX4_digest_0 rfl (lv_at hl 0 rfl) ?_
  refine lv_iconst (v := 0) hx hb dX4_digest_1 (by decide) ?_
  refine va_put (D := D) (ci := 4) (v := .int 0) (C := RX4) (T := TX4) (N := 10) hx hb ht inG_X4 tyX4 tyX4_ok nmX4 hown hK hP hD hS 0 rfl rfl 0 (by decide) (ht _ qF_RX4_28) (fun _ h9 => h9) rfl (tyX4_ok 0 (by decide)) rfl rfl (Nat.le_of_ble_eq_true rfl) dX4_digest_2 (fun H locs hP hD hS => ?_)
  have hP : va_P D vwCl [(m0, .inr (4, [.int 0, .int (nI (vnC v)), .int (nI (vnP v)), .int (nI (vnK v)), .ref m1, .ref m2, .ref m3, .ref m4, .ref m5, .ref m6])), (m1, .inl (cI, 7, .inl (st7 (nI (vday v)) (vcoal v) (vbar v) (vfine v) (vcrs v) (vcoin v) (vship v)))), (m2, .inl (cI, 6, .inl (vR v))), (m3, .inl (cI, 7, .inl (vS v))), (m4, .inl (cI, 16, .inl (hp4 (vsh v) (vco v) (vbu v) (vfl v)))), (m5, .inl (cI, 8, .inl (ho2 (vpw v) (vpa v)))), (m6, .inl (cI, 9, .inl (ke3 (vkw v) (vka v) (vkb v))))] _ := hP
  have hD : va_D A [(m0, .inr (4, [.int 0, .int (nI (vnC v)), .int (nI (vnP v)), .int (nI (vnK v)), .ref m1, .ref m2, .ref m3, .ref m4, .ref m5, .ref m6])), (m1, .inl (cI, 7, .inl (st7 (nI (vday v)) (vcoal v) (vbar v) (vfine v) (vcrs v) (vcoin v) (vship v)))), (m2, .inl (cI, 6, .inl (vR v))), (m3, .inl (cI, 7, .inl (vS v))), (m4, .inl (cI, 16, .inl (hp4 (vsh v) (vco v) (vbu v) (vfl v)))), (m5, .inl (cI, 8, .inl (ho2 (vpw v) (vpa v)))), (m6, .inl (cI, 9, .inl (ke3 (vkw v) (vka v) (vkb v))))] := hD
  refine lv_ldc2 hx hb hown (ht _ qK_RX4_129) dX4_digest_5 ?_
  refine lv_lstore_n (lv' := [(1, .long 1231), (0, .ref m0)]) hx hb dX4_digest_8 rfl hl (by decide) rfl (fun ls hl => ?_)
  refine lv_iconst (v := 0) hx hb dX4_digest_9 (by decide) ?_
  refine lv_istore_n (lv' := [(3, .int 0), (1, .long 1231), (0, .ref m0)]) hx hb dX4_digest_10 rfl hl (by decide) rfl (fun ls hl => ?_)
  have loop11 : ∀ (kf11 i1 : Nat), i1 ≤ 10 → 10 < i1 + kf11 → ∀ (d1 : Int64), d1 = dgW (fun w => cntR (vR v) v (nI w)) i1 1231 → ∀ (H : Heap) (locs : List Loc), va_P D vwCl [(m0, .inr (4, [.int 0, .int (nI (vnC v)), .int (nI (vnP v)), .int (nI (vnK v)), .ref m1, .ref m2, .ref m3, .ref m4, .ref m5, .ref m6])), (m1, .inl (cI, 7, .inl (st7 (nI (vday v)) (vcoal v) (vbar v) (vfine v) (vcrs v) (vcoin v) (vship v)))), (m2, .inl (cI, 6, .inl (vR v))), (m3, .inl (cI, 7, .inl (vS v))), (m4, .inl (cI, 16, .inl (hp4 (vsh v) (vco v) (vbu v) (vfl v)))), (m5, .inl (cI, 8, .inl (ho2 (vpw v) (vpa v)))), (m6, .inl (cI, 9, .inl (ke3 (vkw v) (vka v) (vkb v))))] H → va_D A [(m0, .inr (4, [.int 0, .int (nI (vnC v)), .int (nI (vnP v)), .int (nI (vnK v)), .ref m1, .ref m2, .ref m3, .ref m4, .ref m5, .ref m6])), (m1, .inl (cI, 7, .inl (st7 (nI (vday v)) (vcoal v) (vbar v) (vfine v) (vcrs v) (vcoin v) (vship v)))), (m2, .inl (cI, 6, .inl (vR v))), (m3, .inl (cI, 7, .inl (vS v))), (m4, .inl (cI, 16, .inl (hp4 (vsh v) (vco v) (vbu v) (vfl v)))), (m5, .inl (cI, 8, .inl (ho2 (vpw v) (vpa v)))), (m6, .inl (cI, 9, .inl (ke3 (vkw v) (vka v) (vkb v))))] → va_S A s.heap H locs → ∀ (ls : Array Slot), lv_has ls 7 [(0, .ref m0), (1, .long d1), (3, .int (nI i1))] → W p l e rm_X4_digest s m args below meth c H locs 0 0 Q (F0 m 11 ls []) := by
    intro kf11
    induction kf11 with
    | zero =>
      intro i1 hle11 hlt11
      exact absurd hlt11 (by omega)
    | succ kf11 ih11 =>
      intro i1 hle11 hlt11 d1 e_d1 H locs hP hD hS ls hl
      refine lv_iload_n hx hb dX4_digest_11 rfl (lv_at hl 2 rfl) ?_
      refine lv_bipush (v := 10) hx hb dX4_digest_12 (by decide) ?_
      refine lv_icmp_ge (tgt := 36) hx hb dX4_digest_14 (by decide) (fun c_1 => ?_) (fun c_1 => ?_)
      · skip
        have c_1n := Int32.not_lt.mpr c_1
        have c_1m := (nI_leI (a := 10) (b := i1) (by omega) (by omega)).mp c_1
        refine lv_aload_n hx hb dX4_digest_36 rfl (lv_at hl 0 rfl) ?_
        refine va_get (D := D) (ci := 4) (v := .ref m2) (C := RX4) (T := TX4) (N := 10) hx hb ht inG_X4 hown hK hP 0 rfl rfl 5 (by decide) (ht _ qF_RX4_13) (fun _ h9 => h9) rfl dX4_digest_37 ?_
        refine lv_astore_n (lv' := [(3, .ref m2), (0, .ref m0), (1, .long d1)]) hx hb dX4_digest_40 rfl hl (by decide) rfl (fun ls hl => ?_)
        refine lv_aload_n hx hb dX4_digest_41 rfl (lv_at hl 0 rfl) ?_
        refine va_alen hx hb hK hP 2 0 rfl rfl (v := 6) rfl dX4_digest_42 ?_
        refine lv_istore (lv' := [(4, .int 6), (3, .ref m2), (0, .ref m0), (1, .long d1)]) hx hb dX4_digest_43 hl (by decide) rfl (fun ls hl => ?_)
        refine lv_iconst (v := 0) hx hb dX4_digest_45 (by decide) ?_
        refine lv_istore (lv' := [(5, .int 0), (4, .int 6), (3, .ref m2), (0, .ref m0), (1, .long d1)]) hx hb dX4_digest_46 hl (by decide) rfl (fun ls hl => ?_)
        have loop48 : ∀ (kf48 i2 : Nat), i2 ≤ 6 → 6 < i2 + kf48 → ∀ (d2 : Int64), d2 = dgW (vR v) i2 d1 → ∀ (H : Heap) (locs : List Loc), va_P D vwCl [(m0, .inr (4, [.int 0, .int (nI (vnC v)), .int (nI (vnP v)), .int (nI (vnK v)), .ref m1, .ref m2, .ref m3, .ref m4, .ref m5, .ref m6])), (m1, .inl (cI, 7, .inl (st7 (nI (vday v)) (vcoal v) (vbar v) (vfine v) (vcrs v) (vcoin v) (vship v)))), (m2, .inl (cI, 6, .inl (vR v))), (m3, .inl (cI, 7, .inl (vS v))), (m4, .inl (cI, 16, .inl (hp4 (vsh v) (vco v) (vbu v) (vfl v)))), (m5, .inl (cI, 8, .inl (ho2 (vpw v) (vpa v)))), (m6, .inl (cI, 9, .inl (ke3 (vkw v) (vka v) (vkb v))))] H → va_D A [(m0, .inr (4, [.int 0, .int (nI (vnC v)), .int (nI (vnP v)), .int (nI (vnK v)), .ref m1, .ref m2, .ref m3, .ref m4, .ref m5, .ref m6])), (m1, .inl (cI, 7, .inl (st7 (nI (vday v)) (vcoal v) (vbar v) (vfine v) (vcrs v) (vcoin v) (vship v)))), (m2, .inl (cI, 6, .inl (vR v))), (m3, .inl (cI, 7, .inl (vS v))), (m4, .inl (cI, 16, .inl (hp4 (vsh v) (vco v) (vbu v) (vfl v)))), (m5, .inl (cI, 8, .inl (ho2 (vpw v) (vpa v)))), (m6, .inl (cI, 9, .inl (ke3 (vkw v) (vka v) (vkb v))))] → va_S A s.heap H locs → ∀ (ls : Array Slot), lv_has ls 7 [(0, .ref m0), (1, .long d2), (3, .ref m2), (4, .int 6), (5, .int (nI i2))] → W p l e rm_X4_digest s m args below meth c H locs 0 0 Q (F0 m 48 ls []) := by
          intro kf48
          induction kf48 with
          | zero =>
            intro i2 hle48 hlt48
            exact absurd hlt48 (by omega)
          | succ kf48 ih48 =>
            intro i2 hle48 hlt48 d2 e_d2 H locs hP hD hS ls hl
            refine lv_iload hx hb dX4_digest_48 (lv_at hl 4 rfl) ?_
            refine lv_iload hx hb dX4_digest_50 (lv_at hl 3 rfl) ?_
            refine lv_icmp_ge (tgt := 77) hx hb dX4_digest_52 (by decide) (fun c_2 => ?_) (fun c_2 => ?_)
            · skip
              have c_2n := Int32.not_lt.mpr c_2
              have c_2m := (nI_leI (a := 6) (b := i2) (by omega) (by omega)).mp c_2
              refine lv_aload_n hx hb dX4_digest_77 rfl (lv_at hl 0 rfl) ?_
              refine va_get (D := D) (ci := 4) (v := .ref m3) (C := RX4) (T := TX4) (N := 10) hx hb ht inG_X4 hown hK hP 0 rfl rfl 6 (by decide) (ht _ qF_RX4_16) (fun _ h9 => h9) rfl dX4_digest_78 ?_
              refine lv_astore_n (lv' := [(3, .ref m3), (0, .ref m0), (1, .long d2), (4, .int 6), (5, .int (nI i2))]) hx hb dX4_digest_81 rfl hl (by decide) rfl (fun ls hl => ?_)
              refine lv_aload_n hx hb dX4_digest_82 rfl (lv_at hl 0 rfl) ?_
              refine va_alen hx hb hK hP 3 0 rfl rfl (v := 7) rfl dX4_digest_83 ?_
              refine lv_istore (lv' := [(4, .int 7), (3, .ref m3), (0, .ref m0), (1, .long d2), (5, .int (nI i2))]) hx hb dX4_digest_84 hl (by decide) rfl (fun ls hl => ?_)
              refine lv_iconst (v := 0) hx hb dX4_digest_86 (by decide) ?_
              refine lv_istore (lv' := [(5, .int 0), (4, .int 7), (3, .ref m3), (0, .ref m0), (1, .long d2)]) hx hb dX4_digest_87 hl (by decide) rfl (fun ls hl => ?_)
              have loop89 : ∀ (kf89 i3 : Nat), i3 ≤ 7 → 7 < i3 + kf89 → ∀ (d3 : Int64), d3 = dgW (vS v) i3 d2 → ∀ (H : Heap) (locs : List Loc), va_P D vwCl [(m0, .inr (4, [.int 0, .int (nI (vnC v)), .int (nI (vnP v)), .int (nI (vnK v)), .ref m1, .ref m2, .ref m3, .ref m4, .ref m5, .ref m6])), (m1, .inl (cI, 7, .inl (st7 (nI (vday v)) (vcoal v) (vbar v) (vfine v) (vcrs v) (vcoin v) (vship v)))), (m2, .inl (cI, 6, .inl (vR v))), (m3, .inl (cI, 7, .inl (vS v))), (m4, .inl (cI, 16, .inl (hp4 (vsh v) (vco v) (vbu v) (vfl v)))), (m5, .inl (cI, 8, .inl (ho2 (vpw v) (vpa v)))), (m6, .inl (cI, 9, .inl (ke3 (vkw v) (vka v) (vkb v))))] H → va_D A [(m0, .inr (4, [.int 0, .int (nI (vnC v)), .int (nI (vnP v)), .int (nI (vnK v)), .ref m1, .ref m2, .ref m3, .ref m4, .ref m5, .ref m6])), (m1, .inl (cI, 7, .inl (st7 (nI (vday v)) (vcoal v) (vbar v) (vfine v) (vcrs v) (vcoin v) (vship v)))), (m2, .inl (cI, 6, .inl (vR v))), (m3, .inl (cI, 7, .inl (vS v))), (m4, .inl (cI, 16, .inl (hp4 (vsh v) (vco v) (vbu v) (vfl v)))), (m5, .inl (cI, 8, .inl (ho2 (vpw v) (vpa v)))), (m6, .inl (cI, 9, .inl (ke3 (vkw v) (vka v) (vkb v))))] → va_S A s.heap H locs → ∀ (ls : Array Slot), lv_has ls 7 [(0, .ref m0), (1, .long d3), (3, .ref m3), (4, .int 7), (5, .int (nI i3))] → W p l e rm_X4_digest s m args below meth c H locs 0 0 Q (F0 m 89 ls []) := by
                intro kf89
                induction kf89 with
                | zero =>
                  intro i3 hle89 hlt89
                  exact absurd hlt89 (by omega)
                | succ kf89 ih89 =>
                  intro i3 hle89 hlt89 d3 e_d3 H locs hP hD hS ls hl
                  refine lv_iload hx hb dX4_digest_89 (lv_at hl 4 rfl) ?_
                  refine lv_iload hx hb dX4_digest_91 (lv_at hl 3 rfl) ?_
                  refine lv_icmp_ge (tgt := 118) hx hb dX4_digest_93 (by decide) (fun c_3 => ?_) (fun c_3 => ?_)
                  · skip
                    have c_3n := Int32.not_lt.mpr c_3
                    have c_3m := (nI_leI (a := 7) (b := i3) (by omega) (by omega)).mp c_3
                    refine lv_iconst (v := 0) hx hb dX4_digest_118 (by decide) ?_
                    refine lv_istore_n (lv' := [(3, .int 0), (0, .ref m0), (1, .long d3), (4, .int 7), (5, .int (nI i3))]) hx hb dX4_digest_119 rfl hl (by decide) rfl (fun ls hl => ?_)
                    have loop120 : ∀ (kf120 i4 : Nat), i4 ≤ (4 * vnC v) → (4 * vnC v) < i4 + kf120 → ∀ (d4 : Int64), d4 = dgW (hp4 (vsh v) (vco v) (vbu v) (vfl v)) i4 d3 → ∀ (H : Heap) (locs : List Loc), va_P D vwCl [(m0, .inr (4, [.int 0, .int (nI (vnC v)), .int (nI (vnP v)), .int (nI (vnK v)), .ref m1, .ref m2, .ref m3, .ref m4, .ref m5, .ref m6])), (m1, .inl (cI, 7, .inl (st7 (nI (vday v)) (vcoal v) (vbar v) (vfine v) (vcrs v) (vcoin v) (vship v)))), (m2, .inl (cI, 6, .inl (vR v))), (m3, .inl (cI, 7, .inl (vS v))), (m4, .inl (cI, 16, .inl (hp4 (vsh v) (vco v) (vbu v) (vfl v)))), (m5, .inl (cI, 8, .inl (ho2 (vpw v) (vpa v)))), (m6, .inl (cI, 9, .inl (ke3 (vkw v) (vka v) (vkb v))))] H → va_D A [(m0, .inr (4, [.int 0, .int (nI (vnC v)), .int (nI (vnP v)), .int (nI (vnK v)), .ref m1, .ref m2, .ref m3, .ref m4, .ref m5, .ref m6])), (m1, .inl (cI, 7, .inl (st7 (nI (vday v)) (vcoal v) (vbar v) (vfine v) (vcrs v) (vcoin v) (vship v)))), (m2, .inl (cI, 6, .inl (vR v))), (m3, .inl (cI, 7, .inl (vS v))), (m4, .inl (cI, 16, .inl (hp4 (vsh v) (vco v) (vbu v) (vfl v)))), (m5, .inl (cI, 8, .inl (ho2 (vpw v) (vpa v)))), (m6, .inl (cI, 9, .inl (ke3 (vkw v) (vka v) (vkb v))))] → va_S A s.heap H locs → ∀ (ls : Array Slot), lv_has ls 7 [(0, .ref m0), (1, .long d4), (3, .int (nI i4))] → W p l e rm_X4_digest s m args below meth c H locs 0 0 Q (F0 m 120 ls []) := by
                      intro kf120
                      induction kf120 with
                      | zero =>
                        intro i4 hle120 hlt120
                        exact absurd hlt120 (by omega)
                      | succ kf120 ih120 =>
                        intro i4 hle120 hlt120 d4 e_d4 H locs hP hD hS ls hl
                        refine lv_iload_n hx hb dX4_digest_120 rfl (lv_at hl 2 rfl) ?_
                        refine lv_iconst (v := 4) hx hb dX4_digest_121 (by decide) ?_
                        refine lv_aload_n hx hb dX4_digest_122 rfl (lv_at hl 0 rfl) ?_
                        refine va_get (D := D) (ci := 4) (v := .int (nI (vnC v))) (C := RX4) (T := TX4) (N := 10) hx hb ht inG_X4 hown hK hP 0 rfl rfl 1 (by decide) (ht _ qF_RX4_32) (fun _ h9 => h9) rfl dX4_digest_123 ?_
                        refine lv_imul hx hb dX4_digest_126 ?_
                        refine t_i (nI (4 * (vnC v))) (pk_mul 4 (vnC v)) ?_
                        refine lv_icmp_ge (tgt := 150) hx hb dX4_digest_127 (by decide) (fun c_4 => ?_) (fun c_4 => ?_)
                        · skip
                          have c_4n := Int32.not_lt.mpr c_4
                          have c_4m := (nI_leI (a := 4 * (vnC v)) (b := i4) (by omega) (by omega)).mp c_4
                          refine lv_iconst (v := 0) hx hb dX4_digest_150 (by decide) ?_
                          refine lv_istore_n (lv' := [(3, .int 0), (0, .ref m0), (1, .long d4)]) hx hb dX4_digest_151 rfl hl (by decide) rfl (fun ls hl => ?_)
                          have loop152 : ∀ (kf152 i5 : Nat), i5 ≤ (vnP v) → (vnP v) < i5 + kf152 → ∀ (d5 : Int64), d5 = dgK (fun k w => ltell (vpw v) (vpa v) (vpb v) k (nI w)) 4 i5 d4 → ∀ (H : Heap) (locs : List Loc), va_P D vwCl [(m0, .inr (4, [.int 0, .int (nI (vnC v)), .int (nI (vnP v)), .int (nI (vnK v)), .ref m1, .ref m2, .ref m3, .ref m4, .ref m5, .ref m6])), (m1, .inl (cI, 7, .inl (st7 (nI (vday v)) (vcoal v) (vbar v) (vfine v) (vcrs v) (vcoin v) (vship v)))), (m2, .inl (cI, 6, .inl (vR v))), (m3, .inl (cI, 7, .inl (vS v))), (m4, .inl (cI, 16, .inl (hp4 (vsh v) (vco v) (vbu v) (vfl v)))), (m5, .inl (cI, 8, .inl (ho2 (vpw v) (vpa v)))), (m6, .inl (cI, 9, .inl (ke3 (vkw v) (vka v) (vkb v))))] H → va_D A [(m0, .inr (4, [.int 0, .int (nI (vnC v)), .int (nI (vnP v)), .int (nI (vnK v)), .ref m1, .ref m2, .ref m3, .ref m4, .ref m5, .ref m6])), (m1, .inl (cI, 7, .inl (st7 (nI (vday v)) (vcoal v) (vbar v) (vfine v) (vcrs v) (vcoin v) (vship v)))), (m2, .inl (cI, 6, .inl (vR v))), (m3, .inl (cI, 7, .inl (vS v))), (m4, .inl (cI, 16, .inl (hp4 (vsh v) (vco v) (vbu v) (vfl v)))), (m5, .inl (cI, 8, .inl (ho2 (vpw v) (vpa v)))), (m6, .inl (cI, 9, .inl (ke3 (vkw v) (vka v) (vkb v))))] → va_S A s.heap H locs → ∀ (ls : Array Slot), lv_has ls 7 [(0, .ref m0), (1, .long d5), (3, .int (nI i5))] → W p l e rm_X4_digest s m args below meth c H locs 0 0 Q (F0 m 152 ls []) := by
                            intro kf152
                            induction kf152 with
                            | zero =>
                              intro i5 hle152 hlt152
                              exact absurd hlt152 (by omega)
                            | succ kf152 ih152 =>
                              intro i5 hle152 hlt152 d5 e_d5 H locs hP hD hS ls hl
                              refine lv_iload_n hx hb dX4_digest_152 rfl (lv_at hl 2 rfl) ?_
                              refine lv_aload_n hx hb dX4_digest_153 rfl (lv_at hl 0 rfl) ?_
                              refine va_get (D := D) (ci := 4) (v := .int (nI (vnP v))) (C := RX4) (T := TX4) (N := 10) hx hb ht inG_X4 hown hK hP 0 rfl rfl 2 (by decide) (ht _ qF_RX4_39) (fun _ h9 => h9) rfl dX4_digest_154 ?_
                              refine lv_icmp_ge (tgt := 196) hx hb dX4_digest_157 (by decide) (fun c_5 => ?_) (fun c_5 => ?_)
                              · skip
                                have c_5n := Int32.not_lt.mpr c_5
                                have c_5m := (nI_leI (a := vnP v) (b := i5) (by omega) (by omega)).mp c_5
                                refine lv_iconst (v := 0) hx hb dX4_digest_196 (by decide) ?_
                                refine lv_istore_n (lv' := [(3, .int 0), (0, .ref m0), (1, .long d5)]) hx hb dX4_digest_197 rfl hl (by decide) rfl (fun ls hl => ?_)
                                have loop198 : ∀ (kf198 i6 : Nat), i6 ≤ (vnK v) → (vnK v) < i6 + kf198 → ∀ (d6 : Int64), d6 = dgK (fun k w => ltell (vkw v) (vka v) (vkb v) k (nI w)) 5 i6 d5 → ∀ (H : Heap) (locs : List Loc), va_P D vwCl [(m0, .inr (4, [.int 0, .int (nI (vnC v)), .int (nI (vnP v)), .int (nI (vnK v)), .ref m1, .ref m2, .ref m3, .ref m4, .ref m5, .ref m6])), (m1, .inl (cI, 7, .inl (st7 (nI (vday v)) (vcoal v) (vbar v) (vfine v) (vcrs v) (vcoin v) (vship v)))), (m2, .inl (cI, 6, .inl (vR v))), (m3, .inl (cI, 7, .inl (vS v))), (m4, .inl (cI, 16, .inl (hp4 (vsh v) (vco v) (vbu v) (vfl v)))), (m5, .inl (cI, 8, .inl (ho2 (vpw v) (vpa v)))), (m6, .inl (cI, 9, .inl (ke3 (vkw v) (vka v) (vkb v))))] H → va_D A [(m0, .inr (4, [.int 0, .int (nI (vnC v)), .int (nI (vnP v)), .int (nI (vnK v)), .ref m1, .ref m2, .ref m3, .ref m4, .ref m5, .ref m6])), (m1, .inl (cI, 7, .inl (st7 (nI (vday v)) (vcoal v) (vbar v) (vfine v) (vcrs v) (vcoin v) (vship v)))), (m2, .inl (cI, 6, .inl (vR v))), (m3, .inl (cI, 7, .inl (vS v))), (m4, .inl (cI, 16, .inl (hp4 (vsh v) (vco v) (vbu v) (vfl v)))), (m5, .inl (cI, 8, .inl (ho2 (vpw v) (vpa v)))), (m6, .inl (cI, 9, .inl (ke3 (vkw v) (vka v) (vkb v))))] → va_S A s.heap H locs → ∀ (ls : Array Slot), lv_has ls 7 [(0, .ref m0), (1, .long d6), (3, .int (nI i6))] → W p l e rm_X4_digest s m args below meth c H locs 0 0 Q (F0 m 198 ls []) := by
                                  intro kf198
                                  induction kf198 with
                                  | zero =>
                                    intro i6 hle198 hlt198
                                    exact absurd hlt198 (by omega)
                                  | succ kf198 ih198 =>
                                    intro i6 hle198 hlt198 d6 e_d6 H locs hP hD hS ls hl
                                    refine lv_iload_n hx hb dX4_digest_198 rfl (lv_at hl 2 rfl) ?_
                                    refine lv_aload_n hx hb dX4_digest_199 rfl (lv_at hl 0 rfl) ?_
                                    refine va_get (D := D) (ci := 4) (v := .int (nI (vnK v))) (C := RX4) (T := TX4) (N := 10) hx hb ht inG_X4 hown hK hP 0 rfl rfl 3 (by decide) (ht _ qF_RX4_42) (fun _ h9 => h9) rfl dX4_digest_200 ?_
                                    refine lv_icmp_ge (tgt := 242) hx hb dX4_digest_203 (by decide) (fun c_6 => ?_) (fun c_6 => ?_)
                                    · skip
                                      have c_6n := Int32.not_lt.mpr c_6
                                      have c_6m := (nI_leI (a := vnK v) (b := i6) (by omega) (by omega)).mp c_6
                                      refine lv_lload_n hx hb dX4_digest_242 rfl (lv_at hl 1 rfl) ?_
                                      exact hend _ _ _ _ _ _ d6 () dX4_digest_243 (by rw [e_d6, e_d5, e_d4, e_d3, e_d2, e_d1, show i6 = vnK v by omega, show i5 = vnP v by omega, show i4 = 4 * vnC v by omega, show i3 = 7 by omega, show i2 = 6 by omega, show i1 = 10 by omega, dgW_hp _ _ _ _ hf1]; rfl) hP hD hS (Nat.le_of_ble_eq_true rfl) (Nat.le_of_ble_eq_true rfl)
                                    · skip
                                      have c_6n := Int32.not_le.mp c_6
                                      have c_6m := (nI_ltI (a := i6) (b := vnK v) (by omega) (by omega)).mp c_6n
                                      refine lv_iconst (v := 0) hx hb dX4_digest_206 (by decide) ?_
                                      refine lv_istore (lv' := [(4, .int 0), (0, .ref m0), (1, .long d6), (3, .int (nI i6))]) hx hb dX4_digest_207 hl (by decide) rfl (fun ls hl => ?_)
                                      have loop209 : ∀ (kf209 j6 : Nat), j6 ≤ 5 → 5 < j6 + kf209 → ∀ (b6 : Int64), b6 = dgW (fun w => ltell (vkw v) (vka v) (vkb v) i6 (nI w)) j6 d6 → ∀ (H : Heap) (locs : List Loc), va_P D vwCl [(m0, .inr (4, [.int 0, .int (nI (vnC v)), .int (nI (vnP v)), .int (nI (vnK v)), .ref m1, .ref m2, .ref m3, .ref m4, .ref m5, .ref m6])), (m1, .inl (cI, 7, .inl (st7 (nI (vday v)) (vcoal v) (vbar v) (vfine v) (vcrs v) (vcoin v) (vship v)))), (m2, .inl (cI, 6, .inl (vR v))), (m3, .inl (cI, 7, .inl (vS v))), (m4, .inl (cI, 16, .inl (hp4 (vsh v) (vco v) (vbu v) (vfl v)))), (m5, .inl (cI, 8, .inl (ho2 (vpw v) (vpa v)))), (m6, .inl (cI, 9, .inl (ke3 (vkw v) (vka v) (vkb v))))] H → va_D A [(m0, .inr (4, [.int 0, .int (nI (vnC v)), .int (nI (vnP v)), .int (nI (vnK v)), .ref m1, .ref m2, .ref m3, .ref m4, .ref m5, .ref m6])), (m1, .inl (cI, 7, .inl (st7 (nI (vday v)) (vcoal v) (vbar v) (vfine v) (vcrs v) (vcoin v) (vship v)))), (m2, .inl (cI, 6, .inl (vR v))), (m3, .inl (cI, 7, .inl (vS v))), (m4, .inl (cI, 16, .inl (hp4 (vsh v) (vco v) (vbu v) (vfl v)))), (m5, .inl (cI, 8, .inl (ho2 (vpw v) (vpa v)))), (m6, .inl (cI, 9, .inl (ke3 (vkw v) (vka v) (vkb v))))] → va_S A s.heap H locs → ∀ (ls : Array Slot), lv_has ls 7 [(0, .ref m0), (1, .long b6), (3, .int (nI i6)), (4, .int (nI j6))] → W p l e rm_X4_digest s m args below meth c H locs 0 0 Q (F0 m 209 ls []) := by
                                        intro kf209
                                        induction kf209 with
                                        | zero =>
                                          intro j6 hle209 hlt209
                                          exact absurd hlt209 (by omega)
                                        | succ kf209 ih209 =>
                                          intro j6 hle209 hlt209 b6 e_b6 H locs hP hD hS ls hl
                                          refine lv_iload hx hb dX4_digest_209 (lv_at hl 3 rfl) ?_
                                          refine lv_iconst (v := 5) hx hb dX4_digest_211 (by decide) ?_
                                          refine lv_icmp_ge (tgt := 236) hx hb dX4_digest_212 (by decide) (fun c_7 => ?_) (fun c_7 => ?_)
                                          · skip
                                            have c_7n := Int32.not_lt.mpr c_7
                                            have c_7m := (nI_leI (a := 5) (b := j6) (by omega) (by omega)).mp c_7
                                            refine lv_iinc (v := nI (i6 + 1)) (lv' := [(3, .int (nI (i6 + 1))), (0, .ref m0), (1, .long b6), (4, .int (nI j6))]) hx hb dX4_digest_236 hl (k := 2) rfl (nI_1 i6) (by decide) rfl (fun ls hl => ?_)
                                            refine lv_goto (tgt := 198) hx hb dX4_digest_239 (by decide) ?_
                                            exact ih198 (i6 + 1) (by omega) (by omega) b6 (by rw [e_b6, show j6 = 5 by omega, e_d6]; rfl) _ _ (hP.sub [0, 1, 2, 3, 4, 5, 6] rfl) (hD.sub [0, 1, 2, 3, 4, 5, 6] (by decide) rfl) hS _ (lv_sub hl [1, 2, 0] rfl)
                                          · skip
                                            have c_7n := Int32.not_le.mp c_7
                                            have c_7m := (nI_ltI (a := j6) (b := 5) (by omega) (by omega)).mp c_7n
                                            refine lv_lload_n hx hb dX4_digest_215 rfl (lv_at hl 1 rfl) ?_
                                            refine lv_ldc2 hx hb hown (ht _ qK_RX4_131) dX4_digest_216 ?_
                                            refine lv_lmul hx hb dX4_digest_219 ?_
                                            refine lv_aload_n hx hb dX4_digest_220 rfl (lv_at hl 0 rfl) ?_
                                            refine lv_iload_n hx hb dX4_digest_221 rfl (lv_at hl 2 rfl) ?_
                                            refine lv_iload hx hb dX4_digest_222 (lv_at hl 3 rfl) ?_
                                            refine k_i (wr := [(m1, .inl (cI, 7, .inl (st7 (nI (vday v)) (vcoal v) (vbar v) (vfine v) (vcrs v) (vcoin v) (vship v)))), (m2, .inl (cI, 6, .inl (vR v))), (m3, .inl (cI, 7, .inl (vS v))), (m4, .inl (cI, 16, .inl (hp4 (vsh v) (vco v) (vbu v) (vfl v)))), (m5, .inl (cI, 8, .inl (ho2 (vpw v) (vpa v))))]) (rV (As := [.int (nI i6), .int (nI j6)]) (rest := [.long (b6 * 31)]) F hG hK (hP.sub (ws' := [(m0, .inr (4, [.int 0, .int (nI (vnC v)), .int (nI (vnP v)), .int (nI (vnK v)), .ref m1, .ref m2, .ref m3, .ref m4, .ref m5, .ref m6])), (m6, .inl (cI, 9, .inl (ke3 (vkw v) (vka v) (vkb v))))]) [0, 6] rfl) ((hD.sub (ws' := [(m0, .inr (4, [.int 0, .int (nI (vnC v)), .int (nI (vnP v)), .int (nI (vnK v)), .ref m1, .ref m2, .ref m3, .ref m4, .ref m5, .ref m6])), (m6, .inl (cI, 9, .inl (ke3 (vkw v) (vka v) (vkb v))))]) [0, 6] (by decide) rfl).weaken (fun _ _ _ _ => trivial)) s_RX4_84 (c_X4_panTold l D cI cZ cJ m0 m1 m2 m3 m4 m5 m6 0 v i6 (nI j6) (by first | assumption | omega) (hN.k0 (by omega)) _) 4 0 rfl rfl rfl rfl hl.1 rfl (Nat.le_of_ble_eq_true rfl) dX4_digest_224 ⟨(Nat.le_of_ble_eq_true rfl), (Nat.le_of_ble_eq_true rfl)⟩ ⟨(Nat.le_of_ble_eq_true rfl), (Nat.le_of_ble_eq_true rfl)⟩) hP hD hS hA [0, 6] [1, 2, 3, 4, 5] rfl rfl (by decide) (by decide) (fun r_224 uu H locs hw hP hD hS => ?_)
                                            try dsimp only at hw
                                            subst hw
                                            have hP : va_P D vwCl [(m1, .inl (cI, 7, .inl (st7 (nI (vday v)) (vcoal v) (vbar v) (vfine v) (vcrs v) (vcoin v) (vship v)))), (m2, .inl (cI, 6, .inl (vR v))), (m3, .inl (cI, 7, .inl (vS v))), (m4, .inl (cI, 16, .inl (hp4 (vsh v) (vco v) (vbu v) (vfl v)))), (m5, .inl (cI, 8, .inl (ho2 (vpw v) (vpa v)))), (m0, .inr (4, [.int 0, .int (nI (vnC v)), .int (nI (vnP v)), .int (nI (vnK v)), .ref m1, .ref m2, .ref m3, .ref m4, .ref m5, .ref m6])), (m6, .inl (cI, 9, .inl (ke3 (vkw v) (vka v) (vkb v))))] _ := hP
                                            have hD : va_D A [(m1, .inl (cI, 7, .inl (st7 (nI (vday v)) (vcoal v) (vbar v) (vfine v) (vcrs v) (vcoin v) (vship v)))), (m2, .inl (cI, 6, .inl (vR v))), (m3, .inl (cI, 7, .inl (vS v))), (m4, .inl (cI, 16, .inl (hp4 (vsh v) (vco v) (vbu v) (vfl v)))), (m5, .inl (cI, 8, .inl (ho2 (vpw v) (vpa v)))), (m0, .inr (4, [.int 0, .int (nI (vnC v)), .int (nI (vnP v)), .int (nI (vnK v)), .ref m1, .ref m2, .ref m3, .ref m4, .ref m5, .ref m6])), (m6, .inl (cI, 9, .inl (ke3 (vkw v) (vka v) (vkb v))))] := hD
                                            refine t_i (ltell (vkw v) (vka v) (vkb v) i6 (nI j6)) (ptd_lt _ _ _ hf3 _ (by omega)) ?_
                                            refine lv_i2l hx hb dX4_digest_227 rfl ?_
                                            refine lv_ladd hx hb dX4_digest_228 ?_
                                            refine lv_lstore_n (lv' := [(1, .long ((b6 * 31) + ((ltell (vkw v) (vka v) (vkb v) i6 (nI j6)).toInt64))), (0, .ref m0), (3, .int (nI i6)), (4, .int (nI j6))]) hx hb dX4_digest_229 rfl hl (by decide) rfl (fun ls hl => ?_)
                                            refine lv_iinc (v := nI (j6 + 1)) (lv' := [(4, .int (nI (j6 + 1))), (1, .long ((b6 * 31) + ((ltell (vkw v) (vka v) (vkb v) i6 (nI j6)).toInt64))), (0, .ref m0), (3, .int (nI i6))]) hx hb dX4_digest_230 hl (k := 3) rfl (nI_1 j6) (by decide) rfl (fun ls hl => ?_)
                                            refine lv_goto (tgt := 209) hx hb dX4_digest_233 (by decide) ?_
                                            exact ih209 (j6 + 1) (by omega) (by omega) ((b6 * 31) + ((ltell (vkw v) (vka v) (vkb v) i6 (nI j6)).toInt64)) (by rw [e_b6]; rfl) _ _ (hP.sub [5, 0, 1, 2, 3, 4, 6] rfl) (hD.sub [5, 0, 1, 2, 3, 4, 6] (by decide) rfl) hS _ (lv_sub hl [2, 1, 3, 0] rfl)
                                      exact loop209 (5 + 1) 0 (Nat.zero_le _) (by omega) d6 rfl _ _ (hP.sub [0, 1, 2, 3, 4, 5, 6] rfl) (hD.sub [0, 1, 2, 3, 4, 5, 6] (by decide) rfl) hS _ (lv_sub hl [1, 2, 3, 0] rfl)
                                exact loop198 ((vnK v) + 1) 0 (Nat.zero_le _) (by omega) d5 rfl _ _ (hP.sub [0, 1, 2, 3, 4, 5, 6] rfl) (hD.sub [0, 1, 2, 3, 4, 5, 6] (by decide) rfl) hS _ (lv_sub hl [1, 2, 0] rfl)
                              · skip
                                have c_5n := Int32.not_le.mp c_5
                                have c_5m := (nI_ltI (a := i5) (b := vnP v) (by omega) (by omega)).mp c_5n
                                refine lv_iconst (v := 0) hx hb dX4_digest_160 (by decide) ?_
                                refine lv_istore (lv' := [(4, .int 0), (0, .ref m0), (1, .long d5), (3, .int (nI i5))]) hx hb dX4_digest_161 hl (by decide) rfl (fun ls hl => ?_)
                                have loop163 : ∀ (kf163 j5 : Nat), j5 ≤ 4 → 4 < j5 + kf163 → ∀ (b5 : Int64), b5 = dgW (fun w => ltell (vpw v) (vpa v) (vpb v) i5 (nI w)) j5 d5 → ∀ (H : Heap) (locs : List Loc), va_P D vwCl [(m0, .inr (4, [.int 0, .int (nI (vnC v)), .int (nI (vnP v)), .int (nI (vnK v)), .ref m1, .ref m2, .ref m3, .ref m4, .ref m5, .ref m6])), (m1, .inl (cI, 7, .inl (st7 (nI (vday v)) (vcoal v) (vbar v) (vfine v) (vcrs v) (vcoin v) (vship v)))), (m2, .inl (cI, 6, .inl (vR v))), (m3, .inl (cI, 7, .inl (vS v))), (m4, .inl (cI, 16, .inl (hp4 (vsh v) (vco v) (vbu v) (vfl v)))), (m5, .inl (cI, 8, .inl (ho2 (vpw v) (vpa v)))), (m6, .inl (cI, 9, .inl (ke3 (vkw v) (vka v) (vkb v))))] H → va_D A [(m0, .inr (4, [.int 0, .int (nI (vnC v)), .int (nI (vnP v)), .int (nI (vnK v)), .ref m1, .ref m2, .ref m3, .ref m4, .ref m5, .ref m6])), (m1, .inl (cI, 7, .inl (st7 (nI (vday v)) (vcoal v) (vbar v) (vfine v) (vcrs v) (vcoin v) (vship v)))), (m2, .inl (cI, 6, .inl (vR v))), (m3, .inl (cI, 7, .inl (vS v))), (m4, .inl (cI, 16, .inl (hp4 (vsh v) (vco v) (vbu v) (vfl v)))), (m5, .inl (cI, 8, .inl (ho2 (vpw v) (vpa v)))), (m6, .inl (cI, 9, .inl (ke3 (vkw v) (vka v) (vkb v))))] → va_S A s.heap H locs → ∀ (ls : Array Slot), lv_has ls 7 [(0, .ref m0), (1, .long b5), (3, .int (nI i5)), (4, .int (nI j5))] → W p l e rm_X4_digest s m args below meth c H locs 0 0 Q (F0 m 163 ls []) := by
                                  intro kf163
                                  induction kf163 with
                                  | zero =>
                                    intro j5 hle163 hlt163
                                    exact absurd hlt163 (by omega)
                                  | succ kf163 ih163 =>
                                    intro j5 hle163 hlt163 b5 e_b5 H locs hP hD hS ls hl
                                    refine lv_iload hx hb dX4_digest_163 (lv_at hl 3 rfl) ?_
                                    refine lv_iconst (v := 4) hx hb dX4_digest_165 (by decide) ?_
                                    refine lv_icmp_ge (tgt := 190) hx hb dX4_digest_166 (by decide) (fun c_8 => ?_) (fun c_8 => ?_)
                                    · skip
                                      have c_8n := Int32.not_lt.mpr c_8
                                      have c_8m := (nI_leI (a := 4) (b := j5) (by omega) (by omega)).mp c_8
                                      refine lv_iinc (v := nI (i5 + 1)) (lv' := [(3, .int (nI (i5 + 1))), (0, .ref m0), (1, .long b5), (4, .int (nI j5))]) hx hb dX4_digest_190 hl (k := 2) rfl (nI_1 i5) (by decide) rfl (fun ls hl => ?_)
                                      refine lv_goto (tgt := 152) hx hb dX4_digest_193 (by decide) ?_
                                      exact ih152 (i5 + 1) (by omega) (by omega) b5 (by rw [e_b5, show j5 = 4 by omega, e_d5]; rfl) _ _ (hP.sub [0, 1, 2, 3, 4, 5, 6] rfl) (hD.sub [0, 1, 2, 3, 4, 5, 6] (by decide) rfl) hS _ (lv_sub hl [1, 2, 0] rfl)
                                    · skip
                                      have c_8n := Int32.not_le.mp c_8
                                      have c_8m := (nI_ltI (a := j5) (b := 4) (by omega) (by omega)).mp c_8n
                                      refine lv_lload_n hx hb dX4_digest_169 rfl (lv_at hl 1 rfl) ?_
                                      refine lv_ldc2 hx hb hown (ht _ qK_RX4_131) dX4_digest_170 ?_
                                      refine lv_lmul hx hb dX4_digest_173 ?_
                                      refine lv_aload_n hx hb dX4_digest_174 rfl (lv_at hl 0 rfl) ?_
                                      refine lv_iload_n hx hb dX4_digest_175 rfl (lv_at hl 2 rfl) ?_
                                      refine lv_iload hx hb dX4_digest_176 (lv_at hl 3 rfl) ?_
                                      refine k_i (wr := [(m1, .inl (cI, 7, .inl (st7 (nI (vday v)) (vcoal v) (vbar v) (vfine v) (vcrs v) (vcoin v) (vship v)))), (m2, .inl (cI, 6, .inl (vR v))), (m3, .inl (cI, 7, .inl (vS v))), (m4, .inl (cI, 16, .inl (hp4 (vsh v) (vco v) (vbu v) (vfl v)))), (m6, .inl (cI, 9, .inl (ke3 (vkw v) (vka v) (vkb v))))]) (rV (As := [.int (nI i5), .int (nI j5)]) (rest := [.long (b5 * 31)]) F hG hK (hP.sub (ws' := [(m0, .inr (4, [.int 0, .int (nI (vnC v)), .int (nI (vnP v)), .int (nI (vnK v)), .ref m1, .ref m2, .ref m3, .ref m4, .ref m5, .ref m6])), (m5, .inl (cI, 8, .inl (ho2 (vpw v) (vpa v))))]) [0, 5] rfl) ((hD.sub (ws' := [(m0, .inr (4, [.int 0, .int (nI (vnC v)), .int (nI (vnP v)), .int (nI (vnK v)), .ref m1, .ref m2, .ref m3, .ref m4, .ref m5, .ref m6])), (m5, .inl (cI, 8, .inl (ho2 (vpw v) (vpa v))))]) [0, 5] (by decide) rfl).weaken (fun _ _ _ _ => trivial)) s_RX4_81 (c_X4_pitTold l D cI cZ cJ m0 m1 m2 m3 m4 m5 m6 0 v i5 (nI j5) (by first | assumption | omega) (hN.p0 (by omega)) _) 4 0 rfl rfl rfl rfl hl.1 rfl (Nat.le_of_ble_eq_true rfl) dX4_digest_178 ⟨(Nat.le_of_ble_eq_true rfl), (Nat.le_of_ble_eq_true rfl)⟩ ⟨(Nat.le_of_ble_eq_true rfl), (Nat.le_of_ble_eq_true rfl)⟩) hP hD hS hA [0, 5] [1, 2, 3, 4, 6] rfl rfl (by decide) (by decide) (fun r_178 uu H locs hw hP hD hS => ?_)
                                      try dsimp only at hw
                                      subst hw
                                      have hP : va_P D vwCl [(m1, .inl (cI, 7, .inl (st7 (nI (vday v)) (vcoal v) (vbar v) (vfine v) (vcrs v) (vcoin v) (vship v)))), (m2, .inl (cI, 6, .inl (vR v))), (m3, .inl (cI, 7, .inl (vS v))), (m4, .inl (cI, 16, .inl (hp4 (vsh v) (vco v) (vbu v) (vfl v)))), (m6, .inl (cI, 9, .inl (ke3 (vkw v) (vka v) (vkb v)))), (m0, .inr (4, [.int 0, .int (nI (vnC v)), .int (nI (vnP v)), .int (nI (vnK v)), .ref m1, .ref m2, .ref m3, .ref m4, .ref m5, .ref m6])), (m5, .inl (cI, 8, .inl (ho2 (vpw v) (vpa v))))] _ := hP
                                      have hD : va_D A [(m1, .inl (cI, 7, .inl (st7 (nI (vday v)) (vcoal v) (vbar v) (vfine v) (vcrs v) (vcoin v) (vship v)))), (m2, .inl (cI, 6, .inl (vR v))), (m3, .inl (cI, 7, .inl (vS v))), (m4, .inl (cI, 16, .inl (hp4 (vsh v) (vco v) (vbu v) (vfl v)))), (m6, .inl (cI, 9, .inl (ke3 (vkw v) (vka v) (vkb v)))), (m0, .inr (4, [.int 0, .int (nI (vnC v)), .int (nI (vnP v)), .int (nI (vnK v)), .ref m1, .ref m2, .ref m3, .ref m4, .ref m5, .ref m6])), (m5, .inl (cI, 8, .inl (ho2 (vpw v) (vpa v))))] := hD
                                      refine t_i (ltell (vpw v) (vpa v) (vpb v) i5 (nI j5)) (tld_lt _ _ _ _ (by omega)) ?_
                                      refine lv_i2l hx hb dX4_digest_181 rfl ?_
                                      refine lv_ladd hx hb dX4_digest_182 ?_
                                      refine lv_lstore_n (lv' := [(1, .long ((b5 * 31) + ((ltell (vpw v) (vpa v) (vpb v) i5 (nI j5)).toInt64))), (0, .ref m0), (3, .int (nI i5)), (4, .int (nI j5))]) hx hb dX4_digest_183 rfl hl (by decide) rfl (fun ls hl => ?_)
                                      refine lv_iinc (v := nI (j5 + 1)) (lv' := [(4, .int (nI (j5 + 1))), (1, .long ((b5 * 31) + ((ltell (vpw v) (vpa v) (vpb v) i5 (nI j5)).toInt64))), (0, .ref m0), (3, .int (nI i5))]) hx hb dX4_digest_184 hl (k := 3) rfl (nI_1 j5) (by decide) rfl (fun ls hl => ?_)
                                      refine lv_goto (tgt := 163) hx hb dX4_digest_187 (by decide) ?_
                                      exact ih163 (j5 + 1) (by omega) (by omega) ((b5 * 31) + ((ltell (vpw v) (vpa v) (vpb v) i5 (nI j5)).toInt64)) (by rw [e_b5]; rfl) _ _ (hP.sub [5, 0, 1, 2, 3, 6, 4] rfl) (hD.sub [5, 0, 1, 2, 3, 6, 4] (by decide) rfl) hS _ (lv_sub hl [2, 1, 3, 0] rfl)
                                exact loop163 (4 + 1) 0 (Nat.zero_le _) (by omega) d5 rfl _ _ (hP.sub [0, 1, 2, 3, 4, 5, 6] rfl) (hD.sub [0, 1, 2, 3, 4, 5, 6] (by decide) rfl) hS _ (lv_sub hl [1, 2, 3, 0] rfl)
                          exact loop152 ((vnP v) + 1) 0 (Nat.zero_le _) (by omega) d4 rfl _ _ (hP.sub [0, 1, 2, 3, 4, 5, 6] rfl) (hD.sub [0, 1, 2, 3, 4, 5, 6] (by decide) rfl) hS _ (lv_sub hl [1, 2, 0] rfl)
                        · skip
                          have c_4n := Int32.not_le.mp c_4
                          have c_4m := (nI_ltI (a := i4) (b := 4 * (vnC v)) (by omega) (by omega)).mp c_4n
                          refine lv_lload_n hx hb dX4_digest_130 rfl (lv_at hl 1 rfl) ?_
                          refine lv_ldc2 hx hb hown (ht _ qK_RX4_131) dX4_digest_131 ?_
                          refine lv_lmul hx hb dX4_digest_134 ?_
                          refine lv_aload_n hx hb dX4_digest_135 rfl (lv_at hl 0 rfl) ?_
                          refine va_get (D := D) (ci := 4) (v := .ref m4) (C := RX4) (T := TX4) (N := 10) hx hb ht inG_X4 hown hK hP 0 rfl rfl 7 (by decide) (ht _ qF_RX4_19) (fun _ h9 => h9) rfl dX4_digest_136 ?_
                          refine lv_iload_n hx hb dX4_digest_139 rfl (lv_at hl 2 rfl) ?_
                          refine aI hx hb hK hP 4 0 rfl rfl i4 (rfl) (by omega) (by decide) (v := (hp4 (vsh v) (vco v) (vbu v) (vfl v)) i4) (rfl) dX4_digest_140 ?_
                          refine lv_i2l hx hb dX4_digest_141 rfl ?_
                          refine lv_ladd hx hb dX4_digest_142 ?_
                          refine lv_lstore_n (lv' := [(1, .long ((d4 * 31) + (((hp4 (vsh v) (vco v) (vbu v) (vfl v)) i4).toInt64))), (0, .ref m0), (3, .int (nI i4))]) hx hb dX4_digest_143 rfl hl (by decide) rfl (fun ls hl => ?_)
                          refine lv_iinc (v := nI (i4 + 1)) (lv' := [(3, .int (nI (i4 + 1))), (1, .long ((d4 * 31) + (((hp4 (vsh v) (vco v) (vbu v) (vfl v)) i4).toInt64))), (0, .ref m0)]) hx hb dX4_digest_144 hl (k := 2) rfl (nI_1 i4) (by decide) rfl (fun ls hl => ?_)
                          refine lv_goto (tgt := 120) hx hb dX4_digest_147 (by decide) ?_
                          exact ih120 (i4 + 1) (by omega) (by omega) ((d4 * 31) + (((hp4 (vsh v) (vco v) (vbu v) (vfl v)) i4).toInt64)) (by rw [e_d4]; rfl) _ _ (hP.sub [0, 1, 2, 3, 4, 5, 6] rfl) (hD.sub [0, 1, 2, 3, 4, 5, 6] (by decide) rfl) hS _ (lv_sub hl [2, 1, 0] rfl)
                    exact loop120 ((4 * vnC v) + 1) 0 (Nat.zero_le _) (by omega) d3 rfl _ _ (hP.sub [0, 1, 2, 3, 4, 5, 6] rfl) (hD.sub [0, 1, 2, 3, 4, 5, 6] (by decide) rfl) hS _ (lv_sub hl [1, 2, 0] rfl)
                  · skip
                    have c_3n := Int32.not_le.mp c_3
                    have c_3m := (nI_ltI (a := i3) (b := 7) (by omega) (by omega)).mp c_3n
                    refine lv_aload_n hx hb dX4_digest_96 rfl (lv_at hl 2 rfl) ?_
                    refine lv_iload hx hb dX4_digest_97 (lv_at hl 4 rfl) ?_
                    refine aI hx hb hK hP 3 0 rfl rfl i3 (rfl) (by omega) (by decide) (v := (vS v) i3) (rfl) dX4_digest_99 ?_
                    refine lv_istore (lv' := [(6, .int ((vS v) i3)), (0, .ref m0), (1, .long d3), (3, .ref m3), (4, .int 7), (5, .int (nI i3))]) hx hb dX4_digest_100 hl (by decide) rfl (fun ls hl => ?_)
                    refine lv_lload_n hx hb dX4_digest_102 rfl (lv_at hl 2 rfl) ?_
                    refine lv_ldc2 hx hb hown (ht _ qK_RX4_131) dX4_digest_103 ?_
                    refine lv_lmul hx hb dX4_digest_106 ?_
                    refine lv_iload hx hb dX4_digest_107 (lv_at hl 0 rfl) ?_
                    refine lv_i2l hx hb dX4_digest_109 rfl ?_
                    refine lv_ladd hx hb dX4_digest_110 ?_
                    refine lv_lstore_n (lv' := [(1, .long ((d3 * 31) + (((vS v) i3).toInt64))), (6, .int ((vS v) i3)), (0, .ref m0), (3, .ref m3), (4, .int 7), (5, .int (nI i3))]) hx hb dX4_digest_111 rfl hl (by decide) rfl (fun ls hl => ?_)
                    refine lv_iinc (v := nI (i3 + 1)) (lv' := [(5, .int (nI (i3 + 1))), (1, .long ((d3 * 31) + (((vS v) i3).toInt64))), (6, .int ((vS v) i3)), (0, .ref m0), (3, .ref m3), (4, .int 7)]) hx hb dX4_digest_112 hl (k := 5) rfl (nI_1 i3) (by decide) rfl (fun ls hl => ?_)
                    refine lv_goto (tgt := 89) hx hb dX4_digest_115 (by decide) ?_
                    exact ih89 (i3 + 1) (by omega) (by omega) ((d3 * 31) + (((vS v) i3).toInt64)) (by rw [e_d3]; rfl) _ _ (hP.sub [0, 1, 2, 3, 4, 5, 6] rfl) (hD.sub [0, 1, 2, 3, 4, 5, 6] (by decide) rfl) hS _ (lv_sub hl [3, 1, 4, 5, 0] rfl)
              exact loop89 (7 + 1) 0 (Nat.zero_le _) (by omega) d2 rfl _ _ (hP.sub [0, 1, 2, 3, 4, 5, 6] rfl) (hD.sub [0, 1, 2, 3, 4, 5, 6] (by decide) rfl) hS _ (lv_sub hl [3, 4, 2, 1, 0] rfl)
            · skip
              have c_2n := Int32.not_le.mp c_2
              have c_2m := (nI_ltI (a := i2) (b := 6) (by omega) (by omega)).mp c_2n
              refine lv_aload_n hx hb dX4_digest_55 rfl (lv_at hl 2 rfl) ?_
              refine lv_iload hx hb dX4_digest_56 (lv_at hl 4 rfl) ?_
              refine aI hx hb hK hP 2 0 rfl rfl i2 (rfl) (by omega) (by decide) (v := (vR v) i2) (rfl) dX4_digest_58 ?_
              refine lv_istore (lv' := [(6, .int ((vR v) i2)), (0, .ref m0), (1, .long d2), (3, .ref m2), (4, .int 6), (5, .int (nI i2))]) hx hb dX4_digest_59 hl (by decide) rfl (fun ls hl => ?_)
              refine lv_lload_n hx hb dX4_digest_61 rfl (lv_at hl 2 rfl) ?_
              refine lv_ldc2 hx hb hown (ht _ qK_RX4_131) dX4_digest_62 ?_
              refine lv_lmul hx hb dX4_digest_65 ?_
              refine lv_iload hx hb dX4_digest_66 (lv_at hl 0 rfl) ?_
              refine lv_i2l hx hb dX4_digest_68 rfl ?_
              refine lv_ladd hx hb dX4_digest_69 ?_
              refine lv_lstore_n (lv' := [(1, .long ((d2 * 31) + (((vR v) i2).toInt64))), (6, .int ((vR v) i2)), (0, .ref m0), (3, .ref m2), (4, .int 6), (5, .int (nI i2))]) hx hb dX4_digest_70 rfl hl (by decide) rfl (fun ls hl => ?_)
              refine lv_iinc (v := nI (i2 + 1)) (lv' := [(5, .int (nI (i2 + 1))), (1, .long ((d2 * 31) + (((vR v) i2).toInt64))), (6, .int ((vR v) i2)), (0, .ref m0), (3, .ref m2), (4, .int 6)]) hx hb dX4_digest_71 hl (k := 5) rfl (nI_1 i2) (by decide) rfl (fun ls hl => ?_)
              refine lv_goto (tgt := 48) hx hb dX4_digest_74 (by decide) ?_
              exact ih48 (i2 + 1) (by omega) (by omega) ((d2 * 31) + (((vR v) i2).toInt64)) (by rw [e_d2]; rfl) _ _ (hP.sub [0, 1, 2, 3, 4, 5, 6] rfl) (hD.sub [0, 1, 2, 3, 4, 5, 6] (by decide) rfl) hS _ (lv_sub hl [3, 1, 4, 5, 0] rfl)
        exact loop48 (6 + 1) 0 (Nat.zero_le _) (by omega) d1 rfl _ _ (hP.sub [0, 1, 2, 3, 4, 5, 6] rfl) (hD.sub [0, 1, 2, 3, 4, 5, 6] (by decide) rfl) hS _ (lv_sub hl [3, 4, 2, 1, 0] rfl)
      · skip
        have c_1n := Int32.not_le.mp c_1
        have c_1m := (nI_ltI (a := i1) (b := 10) (by omega) (by omega)).mp c_1n
        refine lv_lload_n hx hb dX4_digest_17 rfl (lv_at hl 1 rfl) ?_
        refine lv_ldc2 hx hb hown (ht _ qK_RX4_131) dX4_digest_18 ?_
        refine lv_lmul hx hb dX4_digest_21 ?_
        refine lv_aload_n hx hb dX4_digest_22 rfl (lv_at hl 0 rfl) ?_
        refine lv_iload_n hx hb dX4_digest_23 rfl (lv_at hl 2 rfl) ?_
        refine k_i (wr := [(m3, .inl (cI, 7, .inl (vS v)))]) (rV (As := [.int (nI i1)]) (rest := [.long (d1 * 31)]) F hG hK (hP.sub (ws' := [(m0, .inr (4, [.int 0, .int (nI (vnC v)), .int (nI (vnP v)), .int (nI (vnK v)), .ref m1, .ref m2, .ref m3, .ref m4, .ref m5, .ref m6])), (m1, .inl (cI, 7, .inl (st7 (nI (vday v)) (vcoal v) (vbar v) (vfine v) (vcrs v) (vcoin v) (vship v)))), (m2, .inl (cI, 6, .inl (vR v))), (m4, .inl (cI, 16, .inl (hp4 (vsh v) (vco v) (vbu v) (vfl v)))), (m5, .inl (cI, 8, .inl (ho2 (vpw v) (vpa v)))), (m6, .inl (cI, 9, .inl (ke3 (vkw v) (vka v) (vkb v))))]) [0, 1, 2, 4, 5, 6] rfl) ((hD.sub (ws' := [(m0, .inr (4, [.int 0, .int (nI (vnC v)), .int (nI (vnP v)), .int (nI (vnK v)), .ref m1, .ref m2, .ref m3, .ref m4, .ref m5, .ref m6])), (m1, .inl (cI, 7, .inl (st7 (nI (vday v)) (vcoal v) (vbar v) (vfine v) (vcrs v) (vcoin v) (vship v)))), (m2, .inl (cI, 6, .inl (vR v))), (m4, .inl (cI, 16, .inl (hp4 (vsh v) (vco v) (vbu v) (vfl v)))), (m5, .inl (cI, 8, .inl (ho2 (vpw v) (vpa v)))), (m6, .inl (cI, 9, .inl (ke3 (vkw v) (vka v) (vkb v))))]) [0, 1, 2, 4, 5, 6] (by decide) rfl).weaken (fun _ _ _ _ => trivial)) s_RX4_91 (c_X4_counted l D cI cZ cJ m0 m1 m2 m3 m4 m5 m6 0 v (nI i1) (by first | assumption | omega) (by first | assumption | omega) (by first | assumption | omega) (by first | assumption | omega) (by first | assumption | omega) (in_09 (by omega)) _) 4 0 rfl rfl rfl rfl hl.1 rfl (Nat.le_of_ble_eq_true rfl) dX4_digest_24 ⟨(Nat.le_of_ble_eq_true rfl), (Nat.le_of_ble_eq_true rfl)⟩ ⟨(Nat.le_of_ble_eq_true rfl), (Nat.le_of_ble_eq_true rfl)⟩) hP hD hS hA [0, 1, 2, 4, 5, 6] [3] rfl rfl (by decide) (by decide) (fun r_24 uu H locs hw hP hD hS => ?_)
        try dsimp only at hw
        subst hw
        have hP : va_P D vwCl [(m3, .inl (cI, 7, .inl (vS v))), (m0, .inr (4, [.int 0, .int (nI (vnC v)), .int (nI (vnP v)), .int (nI (vnK v)), .ref m1, .ref m2, .ref m3, .ref m4, .ref m5, .ref m6])), (m1, .inl (cI, 7, .inl (st7 (nI (vday v)) (vcoal v) (vbar v) (vfine v) (vcrs v) (vcoin v) (vship v)))), (m2, .inl (cI, 6, .inl (vR v))), (m4, .inl (cI, 16, .inl (hp4 (vsh v) (vco v) (vbu v) (vfl v)))), (m5, .inl (cI, 8, .inl (ho2 (vpw v) (vpa v)))), (m6, .inl (cI, 9, .inl (ke3 (vkw v) (vka v) (vkb v))))] _ := hP
        have hD : va_D A [(m3, .inl (cI, 7, .inl (vS v))), (m0, .inr (4, [.int 0, .int (nI (vnC v)), .int (nI (vnP v)), .int (nI (vnK v)), .ref m1, .ref m2, .ref m3, .ref m4, .ref m5, .ref m6])), (m1, .inl (cI, 7, .inl (st7 (nI (vday v)) (vcoal v) (vbar v) (vfine v) (vcrs v) (vcoin v) (vship v)))), (m2, .inl (cI, 6, .inl (vR v))), (m4, .inl (cI, 16, .inl (hp4 (vsh v) (vco v) (vbu v) (vfl v)))), (m5, .inl (cI, 8, .inl (ho2 (vpw v) (vpa v)))), (m6, .inl (cI, 9, .inl (ke3 (vkw v) (vka v) (vkb v))))] := hD
        refine lv_i2l hx hb dX4_digest_27 rfl ?_
        refine lv_ladd hx hb dX4_digest_28 ?_
        refine lv_lstore_n (lv' := [(1, .long ((d1 * 31) + ((cntR (vR v) v (nI i1)).toInt64))), (0, .ref m0), (3, .int (nI i1))]) hx hb dX4_digest_29 rfl hl (by decide) rfl (fun ls hl => ?_)
        refine lv_iinc (v := nI (i1 + 1)) (lv' := [(3, .int (nI (i1 + 1))), (1, .long ((d1 * 31) + ((cntR (vR v) v (nI i1)).toInt64))), (0, .ref m0)]) hx hb dX4_digest_30 hl (k := 2) rfl (nI_1 i1) (by decide) rfl (fun ls hl => ?_)
        refine lv_goto (tgt := 11) hx hb dX4_digest_33 (by decide) ?_
        exact ih11 (i1 + 1) (by omega) (by omega) ((d1 * 31) + ((cntR (vR v) v (nI i1)).toInt64)) (by rw [e_d1]; rfl) _ _ (hP.sub [1, 2, 3, 0, 4, 5, 6] rfl) (hD.sub [1, 2, 3, 0, 4, 5, 6] (by decide) rfl) hS _ (lv_sub hl [2, 1, 0] rfl)
  exact loop11 (10 + 1) 0 (Nat.zero_le _) (by omega) 1231 rfl _ _ (hP.sub [0, 1, 2, 3, 4, 5, 6] rfl) (hD.sub [0, 1, 2, 3, 4, 5, 6] (by decide) rfl) hS _ (lv_sub hl [2, 1, 0] rfl)

def rm_X4_init : Room := { frames := 1, cells := 6, slots := 53, locals := 20 }
set_option maxHeartbeats 4000000 in
set_option maxRecDepth 100000 in
theorem c_X4_init (l : Launch) (D : va_G) (cI cZ cJ : ClassId) (m0 : Nat)  : Mv l yX4_init cX4_init 1 rm_X4_init D (TY cI cZ cJ) [.ref m0] [(m0, .inr (4, [.int 0, .int 0, .int 0, .int 0, .null, .null, .null, .null, .null, .null]))] (fun (u : Nat × Nat × Nat × Nat × Nat × Nat) => True) (fun (u : Nat × Nat × Nat × Nat × Nat × Nat) => [(m0, .inr (4, [.int 0, .int 0, .int 0, .int 0, .ref u.1, .ref u.2.1, .ref u.2.2.1, .ref u.2.2.2.1, .ref u.2.2.2.2.1, .ref u.2.2.2.2.2])), (u.1, .inl (cI, 7, .inl (fun _ => 0))), (u.2.1, .inl (cI, 6, .inl (fun _ => 0))), (u.2.2.1, .inl (cI, 7, .inl (fun _ => 0))), (u.2.2.2.1, .inl (cI, 16, .inl (fun _ => 0))), (u.2.2.2.2.1, .inl (cI, 8, .inl (fun _ => 0))), (u.2.2.2.2.2, .inl (cI, 9, .inl (fun _ => 0)))]) := by
  refine Mv.ofQ (by decide) (Nat.le_of_ble_eq_true rfl) ?_
  intro p e s m args below meth c A ls Q hF hK hP hD hA hl hend hin
  obtain ⟨F, hr, hlocks, hG⟩ := hF
  have hx := F.1
  have hb := F.2.1
  have hown := F.2.2.2.1
  have ht := F.2.2.2.2
  have hS : va_S A s.heap s.heap [] := va_S.rf
  have hin := hin.symm
  have hl : lv_has ls 1 [(0, .ref m0)] := hl
  refine lv_aload_n hx hb dX4_init_0 rfl (lv_at hl 0 rfl) ?_
  refine W.objInit hx hb hown (ht _ qM_RX4_1) (ht _ qI_objectInit) (ht _ qC_objectInit) rfl (by rw [F.2.2.1]; exact hl.1) rfl dX4_init_1 (Nat.le_of_ble_eq_true rfl) (Nat.le_of_ble_eq_true rfl) ?_
  refine W.eq (g2 := F0 m 4 ls []) rfl ?_
  refine lv_aload_n hx hb dX4_init_4 rfl (lv_at hl 0 rfl) ?_
  refine lv_bipush (v := 7) hx hb dX4_init_5 (by decide) ?_
  refine n_int hx hb ht hK hP hD hS hA 7 rfl (by decide) (Nat.le_of_ble_eq_true rfl) (Nat.le_of_ble_eq_true rfl) dX4_init_7 (fun q_7 H hP hD hS => ?_)
  have hP : va_P D vwCl [(m0, .inr (4, [.int 0, .int 0, .int 0, .int 0, .null, .null, .null, .null, .null, .null])), (q_7, .inl (cI, 7, .inl (fun _ => 0)))] _ := hP
  have hD : va_D A [(m0, .inr (4, [.int 0, .int 0, .int 0, .int 0, .null, .null, .null, .null, .null, .null])), (q_7, .inl (cI, 7, .inl (fun _ => 0)))] := hD
  refine va_putF (D := D) (ci := 4) (v := .ref q_7) (C := RX4) (T := TX4) (N := 10) hx hb ht inG_X4 tyX4 tyX4_ok nmX4 hown hK hP hD hS 0 rfl rfl 4 (by decide) (ht _ qF_RX4_7) (fun _ h9 => h9) rfl hin rfl (tyX4_ok 4 (by decide)) rfl rfl (Nat.le_of_ble_eq_true rfl) dX4_init_9 (fun H locs hP hD hS => ?_)
  have hP : va_P D vwCl [(m0, .inr (4, [.int 0, .int 0, .int 0, .int 0, .ref q_7, .null, .null, .null, .null, .null])), (q_7, .inl (cI, 7, .inl (fun _ => 0)))] _ := hP
  have hD : va_D A [(m0, .inr (4, [.int 0, .int 0, .int 0, .int 0, .ref q_7, .null, .null, .null, .null, .null])), (q_7, .inl (cI, 7, .inl (fun _ => 0)))] := hD
  refine lv_aload_n hx hb dX4_init_12 rfl (lv_at hl 0 rfl) ?_
  refine lv_bipush (v := 6) hx hb dX4_init_13 (by decide) ?_
  refine n_int hx hb ht hK hP hD hS hA 6 rfl (by decide) (Nat.le_of_ble_eq_true rfl) (Nat.le_of_ble_eq_true rfl) dX4_init_15 (fun q_15 H hP hD hS => ?_)
  have hP : va_P D vwCl [(m0, .inr (4, [.int 0, .int 0, .int 0, .int 0, .ref q_7, .null, .null, .null, .null, .null])), (q_7, .inl (cI, 7, .inl (fun _ => 0))), (q_15, .inl (cI, 6, .inl (fun _ => 0)))] _ := hP
  have hD : va_D A [(m0, .inr (4, [.int 0, .int 0, .int 0, .int 0, .ref q_7, .null, .null, .null, .null, .null])), (q_7, .inl (cI, 7, .inl (fun _ => 0))), (q_15, .inl (cI, 6, .inl (fun _ => 0)))] := hD
  refine va_putF (D := D) (ci := 4) (v := .ref q_15) (C := RX4) (T := TX4) (N := 10) hx hb ht inG_X4 tyX4 tyX4_ok nmX4 hown hK hP hD hS 0 rfl rfl 5 (by decide) (ht _ qF_RX4_13) (fun _ h9 => h9) rfl hin rfl (tyX4_ok 5 (by decide)) rfl rfl (Nat.le_of_ble_eq_true rfl) dX4_init_17 (fun H locs hP hD hS => ?_)
  have hP : va_P D vwCl [(m0, .inr (4, [.int 0, .int 0, .int 0, .int 0, .ref q_7, .ref q_15, .null, .null, .null, .null])), (q_7, .inl (cI, 7, .inl (fun _ => 0))), (q_15, .inl (cI, 6, .inl (fun _ => 0)))] _ := hP
  have hD : va_D A [(m0, .inr (4, [.int 0, .int 0, .int 0, .int 0, .ref q_7, .ref q_15, .null, .null, .null, .null])), (q_7, .inl (cI, 7, .inl (fun _ => 0))), (q_15, .inl (cI, 6, .inl (fun _ => 0)))] := hD
  refine lv_aload_n hx hb dX4_init_20 rfl (lv_at hl 0 rfl) ?_
  refine lv_bipush (v := 7) hx hb dX4_init_21 (by decide) ?_
  refine n_int hx hb ht hK hP hD hS hA 7 rfl (by decide) (Nat.le_of_ble_eq_true rfl) (Nat.le_of_ble_eq_true rfl) dX4_init_23 (fun q_23 H hP hD hS => ?_)
  have hP : va_P D vwCl [(m0, .inr (4, [.int 0, .int 0, .int 0, .int 0, .ref q_7, .ref q_15, .null, .null, .null, .null])), (q_7, .inl (cI, 7, .inl (fun _ => 0))), (q_15, .inl (cI, 6, .inl (fun _ => 0))), (q_23, .inl (cI, 7, .inl (fun _ => 0)))] _ := hP
  have hD : va_D A [(m0, .inr (4, [.int 0, .int 0, .int 0, .int 0, .ref q_7, .ref q_15, .null, .null, .null, .null])), (q_7, .inl (cI, 7, .inl (fun _ => 0))), (q_15, .inl (cI, 6, .inl (fun _ => 0))), (q_23, .inl (cI, 7, .inl (fun _ => 0)))] := hD
  refine va_putF (D := D) (ci := 4) (v := .ref q_23) (C := RX4) (T := TX4) (N := 10) hx hb ht inG_X4 tyX4 tyX4_ok nmX4 hown hK hP hD hS 0 rfl rfl 6 (by decide) (ht _ qF_RX4_16) (fun _ h9 => h9) rfl hin rfl (tyX4_ok 6 (by decide)) rfl rfl (Nat.le_of_ble_eq_true rfl) dX4_init_25 (fun H locs hP hD hS => ?_)
  have hP : va_P D vwCl [(m0, .inr (4, [.int 0, .int 0, .int 0, .int 0, .ref q_7, .ref q_15, .ref q_23, .null, .null, .null])), (q_7, .inl (cI, 7, .inl (fun _ => 0))), (q_15, .inl (cI, 6, .inl (fun _ => 0))), (q_23, .inl (cI, 7, .inl (fun _ => 0)))] _ := hP
  have hD : va_D A [(m0, .inr (4, [.int 0, .int 0, .int 0, .int 0, .ref q_7, .ref q_15, .ref q_23, .null, .null, .null])), (q_7, .inl (cI, 7, .inl (fun _ => 0))), (q_15, .inl (cI, 6, .inl (fun _ => 0))), (q_23, .inl (cI, 7, .inl (fun _ => 0)))] := hD
  refine lv_aload_n hx hb dX4_init_28 rfl (lv_at hl 0 rfl) ?_
  refine lv_bipush (v := 16) hx hb dX4_init_29 (by decide) ?_
  refine n_int hx hb ht hK hP hD hS hA 16 rfl (by decide) (Nat.le_of_ble_eq_true rfl) (Nat.le_of_ble_eq_true rfl) dX4_init_31 (fun q_31 H hP hD hS => ?_)
  have hP : va_P D vwCl [(m0, .inr (4, [.int 0, .int 0, .int 0, .int 0, .ref q_7, .ref q_15, .ref q_23, .null, .null, .null])), (q_7, .inl (cI, 7, .inl (fun _ => 0))), (q_15, .inl (cI, 6, .inl (fun _ => 0))), (q_23, .inl (cI, 7, .inl (fun _ => 0))), (q_31, .inl (cI, 16, .inl (fun _ => 0)))] _ := hP
  have hD : va_D A [(m0, .inr (4, [.int 0, .int 0, .int 0, .int 0, .ref q_7, .ref q_15, .ref q_23, .null, .null, .null])), (q_7, .inl (cI, 7, .inl (fun _ => 0))), (q_15, .inl (cI, 6, .inl (fun _ => 0))), (q_23, .inl (cI, 7, .inl (fun _ => 0))), (q_31, .inl (cI, 16, .inl (fun _ => 0)))] := hD
  refine va_putF (D := D) (ci := 4) (v := .ref q_31) (C := RX4) (T := TX4) (N := 10) hx hb ht inG_X4 tyX4 tyX4_ok nmX4 hown hK hP hD hS 0 rfl rfl 7 (by decide) (ht _ qF_RX4_19) (fun _ h9 => h9) rfl hin rfl (tyX4_ok 7 (by decide)) rfl rfl (Nat.le_of_ble_eq_true rfl) dX4_init_33 (fun H locs hP hD hS => ?_)
  have hP : va_P D vwCl [(m0, .inr (4, [.int 0, .int 0, .int 0, .int 0, .ref q_7, .ref q_15, .ref q_23, .ref q_31, .null, .null])), (q_7, .inl (cI, 7, .inl (fun _ => 0))), (q_15, .inl (cI, 6, .inl (fun _ => 0))), (q_23, .inl (cI, 7, .inl (fun _ => 0))), (q_31, .inl (cI, 16, .inl (fun _ => 0)))] _ := hP
  have hD : va_D A [(m0, .inr (4, [.int 0, .int 0, .int 0, .int 0, .ref q_7, .ref q_15, .ref q_23, .ref q_31, .null, .null])), (q_7, .inl (cI, 7, .inl (fun _ => 0))), (q_15, .inl (cI, 6, .inl (fun _ => 0))), (q_23, .inl (cI, 7, .inl (fun _ => 0))), (q_31, .inl (cI, 16, .inl (fun _ => 0)))] := hD
  refine lv_aload_n hx hb dX4_init_36 rfl (lv_at hl 0 rfl) ?_
  refine lv_bipush (v := 8) hx hb dX4_init_37 (by decide) ?_
  refine n_int hx hb ht hK hP hD hS hA 8 rfl (by decide) (Nat.le_of_ble_eq_true rfl) (Nat.le_of_ble_eq_true rfl) dX4_init_39 (fun q_39 H hP hD hS => ?_)
  have hP : va_P D vwCl [(m0, .inr (4, [.int 0, .int 0, .int 0, .int 0, .ref q_7, .ref q_15, .ref q_23, .ref q_31, .null, .null])), (q_7, .inl (cI, 7, .inl (fun _ => 0))), (q_15, .inl (cI, 6, .inl (fun _ => 0))), (q_23, .inl (cI, 7, .inl (fun _ => 0))), (q_31, .inl (cI, 16, .inl (fun _ => 0))), (q_39, .inl (cI, 8, .inl (fun _ => 0)))] _ := hP
  have hD : va_D A [(m0, .inr (4, [.int 0, .int 0, .int 0, .int 0, .ref q_7, .ref q_15, .ref q_23, .ref q_31, .null, .null])), (q_7, .inl (cI, 7, .inl (fun _ => 0))), (q_15, .inl (cI, 6, .inl (fun _ => 0))), (q_23, .inl (cI, 7, .inl (fun _ => 0))), (q_31, .inl (cI, 16, .inl (fun _ => 0))), (q_39, .inl (cI, 8, .inl (fun _ => 0)))] := hD
  refine va_putF (D := D) (ci := 4) (v := .ref q_39) (C := RX4) (T := TX4) (N := 10) hx hb ht inG_X4 tyX4 tyX4_ok nmX4 hown hK hP hD hS 0 rfl rfl 8 (by decide) (ht _ qF_RX4_22) (fun _ h9 => h9) rfl hin rfl (tyX4_ok 8 (by decide)) rfl rfl (Nat.le_of_ble_eq_true rfl) dX4_init_41 (fun H locs hP hD hS => ?_)
  have hP : va_P D vwCl [(m0, .inr (4, [.int 0, .int 0, .int 0, .int 0, .ref q_7, .ref q_15, .ref q_23, .ref q_31, .ref q_39, .null])), (q_7, .inl (cI, 7, .inl (fun _ => 0))), (q_15, .inl (cI, 6, .inl (fun _ => 0))), (q_23, .inl (cI, 7, .inl (fun _ => 0))), (q_31, .inl (cI, 16, .inl (fun _ => 0))), (q_39, .inl (cI, 8, .inl (fun _ => 0)))] _ := hP
  have hD : va_D A [(m0, .inr (4, [.int 0, .int 0, .int 0, .int 0, .ref q_7, .ref q_15, .ref q_23, .ref q_31, .ref q_39, .null])), (q_7, .inl (cI, 7, .inl (fun _ => 0))), (q_15, .inl (cI, 6, .inl (fun _ => 0))), (q_23, .inl (cI, 7, .inl (fun _ => 0))), (q_31, .inl (cI, 16, .inl (fun _ => 0))), (q_39, .inl (cI, 8, .inl (fun _ => 0)))] := hD
  refine lv_aload_n hx hb dX4_init_44 rfl (lv_at hl 0 rfl) ?_
  refine lv_bipush (v := 9) hx hb dX4_init_45 (by decide) ?_
  refine n_int hx hb ht hK hP hD hS hA 9 rfl (by decide) (Nat.le_of_ble_eq_true rfl) (Nat.le_of_ble_eq_true rfl) dX4_init_47 (fun q_47 H hP hD hS => ?_)
  have hP : va_P D vwCl [(m0, .inr (4, [.int 0, .int 0, .int 0, .int 0, .ref q_7, .ref q_15, .ref q_23, .ref q_31, .ref q_39, .null])), (q_7, .inl (cI, 7, .inl (fun _ => 0))), (q_15, .inl (cI, 6, .inl (fun _ => 0))), (q_23, .inl (cI, 7, .inl (fun _ => 0))), (q_31, .inl (cI, 16, .inl (fun _ => 0))), (q_39, .inl (cI, 8, .inl (fun _ => 0))), (q_47, .inl (cI, 9, .inl (fun _ => 0)))] _ := hP
  have hD : va_D A [(m0, .inr (4, [.int 0, .int 0, .int 0, .int 0, .ref q_7, .ref q_15, .ref q_23, .ref q_31, .ref q_39, .null])), (q_7, .inl (cI, 7, .inl (fun _ => 0))), (q_15, .inl (cI, 6, .inl (fun _ => 0))), (q_23, .inl (cI, 7, .inl (fun _ => 0))), (q_31, .inl (cI, 16, .inl (fun _ => 0))), (q_39, .inl (cI, 8, .inl (fun _ => 0))), (q_47, .inl (cI, 9, .inl (fun _ => 0)))] := hD
  refine va_putF (D := D) (ci := 4) (v := .ref q_47) (C := RX4) (T := TX4) (N := 10) hx hb ht inG_X4 tyX4 tyX4_ok nmX4 hown hK hP hD hS 0 rfl rfl 9 (by decide) (ht _ qF_RX4_25) (fun _ h9 => h9) rfl hin rfl (tyX4_ok 9 (by decide)) rfl rfl (Nat.le_of_ble_eq_true rfl) dX4_init_49 (fun H locs hP hD hS => ?_)
  have hP : va_P D vwCl [(m0, .inr (4, [.int 0, .int 0, .int 0, .int 0, .ref q_7, .ref q_15, .ref q_23, .ref q_31, .ref q_39, .ref q_47])), (q_7, .inl (cI, 7, .inl (fun _ => 0))), (q_15, .inl (cI, 6, .inl (fun _ => 0))), (q_23, .inl (cI, 7, .inl (fun _ => 0))), (q_31, .inl (cI, 16, .inl (fun _ => 0))), (q_39, .inl (cI, 8, .inl (fun _ => 0))), (q_47, .inl (cI, 9, .inl (fun _ => 0)))] _ := hP
  have hD : va_D A [(m0, .inr (4, [.int 0, .int 0, .int 0, .int 0, .ref q_7, .ref q_15, .ref q_23, .ref q_31, .ref q_39, .ref q_47])), (q_7, .inl (cI, 7, .inl (fun _ => 0))), (q_15, .inl (cI, 6, .inl (fun _ => 0))), (q_23, .inl (cI, 7, .inl (fun _ => 0))), (q_31, .inl (cI, 16, .inl (fun _ => 0))), (q_39, .inl (cI, 8, .inl (fun _ => 0))), (q_47, .inl (cI, 9, .inl (fun _ => 0)))] := hD
  exact hend _ _ _ _ _ _ (q_7, q_15, q_23, q_31, q_39, q_47) dX4_init_52 (trivial) hP hD hS (Nat.le_of_ble_eq_true rfl) (Nat.le_of_ble_eq_true rfl)
