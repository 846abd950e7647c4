/-! a day of the law's own numbers -/

def rm_X4_pass : Room := { frames := 0, cells := 0, slots := 0, locals := 0 }
set_option maxHeartbeats 4000000 in
set_option maxRecDepth 100000 in
theorem c_X4_pass (l : Launch) (D : va_G) (cI cZ cQ : ClassId) (z0 zr zs zc zp zk : Nat) (rc rp rk : Nat → Nat) (v : VT) (kk : Nat) (sT : List va_W) (hGG : GG kk v) (hkk : kk ≤ 512) : Mi l yX4_pass cX4_pass 7 (some .int) rm_X4_pass D (TYQ cI cZ cQ) [.ref z0] (wS [(z0, .inr (4, [.ref zr, .ref zs, .ref zc, .ref zp, .ref zk, .int (nI (vday v)), .int (vcoal v), .int (vbar v), .int (vfine v), .int (vcrs v), .int (vcoin v), .int (vship v)])), (zr, .inl (cI, 6, .inl (vR v))), (zs, .inl (cI, 7, .inl (vS v))), (zc, .inl (cQ, (vnC v), .inr (.inr (.inr (.inr (rf (vnC v) rc)))))), (zp, .inl (cQ, (vnP v), .inr (.inr (.inr (.inr (rf (vnP v) rp)))))), (zk, .inl (cQ, (vnK v), .inr (.inr (.inr (.inr (rf (vnK v) rk))))))] ((MR cI 4 (vnC v) rc (q4 (vsh v) (vco v) (vbu v) (vfl v))) :: (MR cI 2 (vnP v) rp (q2 (vpw v) (vpa v))) :: (MR cI 3 (vnK v) rk (q3 (vkw v) (vka v) (vkb v))) :: sT)) (fun (r : Int32) (u : VT) => r = vcoin (dayV v) - vcoin v ∧ u = dayV v) (fun (u : VT) => wS [(z0, .inr (4, [.ref zr, .ref zs, .ref zc, .ref zp, .ref zk, .int (nI (vday u)), .int (vcoal u), .int (vbar u), .int (vfine u), .int (vcrs u), .int (vcoin u), .int (vship u)])), (zr, .inl (cI, 6, .inl (vR u))), (zs, .inl (cI, 7, .inl (vS u))), (zc, .inl (cQ, (vnC u), .inr (.inr (.inr (.inr (rf (vnC u) rc)))))), (zp, .inl (cQ, (vnP u), .inr (.inr (.inr (.inr (rf (vnP u) rp)))))), (zk, .inl (cQ, (vnK u), .inr (.inr (.inr (.inr (rf (vnK u) rk))))))] ((MR cI 4 (vnC u) rc (q4 (vsh u) (vco u) (vbu u) (vfl u))) :: (MR cI 2 (vnP u) rp (q2 (vpw u) (vpa u))) :: (MR cI 3 (vnK u) rk (q3 (vkw u) (vka u) (vkb u))) :: sT)) := by
  refine Mi.ofQ (by decide) (Nat.le_of_ble_eq_true rfl) ?_
  intro p e s m args below meth c A ls Q hF hK hP hD hA hl hend
  obtain ⟨F, hr, hlocks, hG⟩ := hF
  have hx := F.1
  have hb := F.2.1
  have hown := F.2.2.2.1
  have ht := F.2.2.2.2
  have hS : va_S A s.heap s.heap [] := va_S.rf
  have hl : lv_has ls 7 [(0, .ref z0)] := hl
  have hI := hGG.1.1
  have hN := hGG.1.2.1
  have hE := hGG.2
  obtain ⟨hC4, hP4, hK3, hAH, hf1, hf2, hf3, hdy⟩ := id hI
  obtain ⟨x1, x2, x3, x4, x5, x6, x7⟩ := id hE
  obtain ⟨n1, n2, n3, n4, n5⟩ := id hN
  refine lv_aload_n hx hb dX4_pass_0 rfl (lv_at hl 0 rfl) ?_
  refine va_get (D := D) (ci := 4) (v := .ref zr) (C := RX4) (T := TX4) (N := 12) hx hb ht inG_X4 hown hK hP 0 rfl rfl 0 (by decide) (ht _ qF_RX4_7) (fun _ h9 => h9) rfl dX4_pass_1 ?_
  refine lv_aload_n hx hb dX4_pass_4 rfl (lv_at hl 0 rfl) ?_
  refine va_get (D := D) (ci := 4) (v := .int (nI (vday v))) (C := RX4) (T := TX4) (N := 12) hx hb ht inG_X4 hown hK hP 0 rfl rfl 5 (by decide) (ht _ qF_RX4_36) (fun _ h9 => h9) rfl dX4_pass_5 ?_
  refine lv_bipush (v := 6) hx hb dX4_pass_8 (by decide) ?_
  refine lv_irem hx hb dX4_pass_10 (by decide) ?_
  refine t_i (nI (vday v % 6)) (pk_rem (by omega) (by decide) (by decide)) ?_
  refine aI hx hb hK hP 1 0 rfl rfl (vday v % 6) (rfl) (by omega) (by decide) (v := (vR v) (vday v % 6)) (rfl) dX4_pass_11 ?_
  refine lv_istore_n (lv' := [(1, .int ((vR v) (vday v % 6))), (0, .ref z0)]) hx hb dX4_pass_12 rfl hl (by decide) rfl (fun ls hl => ?_)
  refine lv_aload_n hx hb dX4_pass_13 rfl (lv_at hl 1 rfl) ?_
  refine va_get (D := D) (ci := 4) (v := .ref zc) (C := RX4) (T := TX4) (N := 12) hx hb ht inG_X4 hown hK hP 0 rfl rfl 2 (by decide) (ht _ qF_RX4_17) (fun _ h9 => h9) rfl dX4_pass_14 ?_
  refine lv_astore_n (lv' := [(2, .ref zc), (1, .int ((vR v) (vday v % 6))), (0, .ref z0)]) hx hb dX4_pass_17 rfl hl (by decide) rfl (fun ls hl => ?_)
  refine lv_aload_n hx hb dX4_pass_18 rfl (lv_at hl 0 rfl) ?_
  refine q_ax hx hb hK hP 3 rfl dX4_pass_19 ?_
  refine lv_istore_n (lv' := [(3, .int (nI (vnC v))), (2, .ref zc), (1, .int ((vR v) (vday v % 6))), (0, .ref z0)]) hx hb dX4_pass_20 rfl hl (by decide) rfl (fun ls hl => ?_)
  refine lv_iconst (v := 0) hx hb dX4_pass_21 (by decide) ?_
  refine lv_istore (lv' := [(4, .int 0), (3, .int (nI (vnC v))), (2, .ref zc), (1, .int ((vR v) (vday v % 6))), (0, .ref z0)]) hx hb dX4_pass_22 hl (by decide) rfl (fun ls hl => ?_)
  have loop24 : ∀ (kf24 i : Nat), i ≤ (vnC v) → (vnC v) < i + kf24 → ∀ (sh1 : Nat → Int32) (co1 : Nat → Int32) (bu1 : Nat → Int32) (fl1 : Nat → Int32), sh1 = rowF i (fSh (vR v (vday v % 6)) (vsh v) (vfl v)) (vsh v) → co1 = rowF i (fCo (vco v) (vfl v)) (vco v) → bu1 = rowF i (fBu (vR v (vday v % 6)) (vsh v) (vbu v) (vfl v)) (vbu v) → fl1 = rowF i (fFl (vR v (vday v % 6)) (vsh v) (vco v) (vfl v)) (vfl v) → ∀ (H : Heap) (locs : List Loc), va_P D vwCl (wS [(z0, .inr (4, [.ref zr, .ref zs, .ref zc, .ref zp, .ref zk, .int (nI (vday v)), .int (vcoal v), .int (vbar v), .int (vfine v), .int (vcrs v), .int (vcoin v), .int (vship v)])), (zr, .inl (cI, 6, .inl (vR v))), (zs, .inl (cI, 7, .inl (vS v))), (zc, .inl (cQ, (vnC v), .inr (.inr (.inr (.inr (rf (vnC v) rc)))))), (zp, .inl (cQ, (vnP v), .inr (.inr (.inr (.inr (rf (vnP v) rp)))))), (zk, .inl (cQ, (vnK v), .inr (.inr (.inr (.inr (rf (vnK v) rk))))))] ((MR cI 4 (vnC v) rc (q4 sh1 co1 bu1 fl1)) :: (MR cI 2 (vnP v) rp (q2 (vpw v) (vpa v))) :: (MR cI 3 (vnK v) rk (q3 (vkw v) (vka v) (vkb v))) :: sT)) H → va_D A (wS [(z0, .inr (4, [.ref zr, .ref zs, .ref zc, .ref zp, .ref zk, .int (nI (vday v)), .int (vcoal v), .int (vbar v), .int (vfine v), .int (vcrs v), .int (vcoin v), .int (vship v)])), (zr, .inl (cI, 6, .inl (vR v))), (zs, .inl (cI, 7, .inl (vS v))), (zc, .inl (cQ, (vnC v), .inr (.inr (.inr (.inr (rf (vnC v) rc)))))), (zp, .inl (cQ, (vnP v), .inr (.inr (.inr (.inr (rf (vnP v) rp)))))), (zk, .inl (cQ, (vnK v), .inr (.inr (.inr (.inr (rf (vnK v) rk))))))] ((MR cI 4 (vnC v) rc (q4 sh1 co1 bu1 fl1)) :: (MR cI 2 (vnP v) rp (q2 (vpw v) (vpa v))) :: (MR cI 3 (vnK v) rk (q3 (vkw v) (vka v) (vkb v))) :: sT)) → va_S A s.heap H locs → ∀ (ls : Array Slot), lv_has ls 7 [(0, .ref z0), (1, .int (vR v (vday v % 6))), (2, .ref zc), (3, .int (nI (vnC v))), (4, .int (nI i))] → W p l e rm_X4_pass s m args below meth c H locs 0 0 Q (F0 m 24 ls []) := by
    intro kf24
    induction kf24 with
    | zero =>
      intro i hle24 hlt24
      exact absurd hlt24 (by omega)
    | succ kf24 ih24 =>
      intro i hle24 hlt24 sh1 co1 bu1 fl1 e_sh1 e_co1 e_bu1 e_fl1 H locs hP hD hS ls hl
      refine lv_iload hx hb dX4_pass_24 (lv_at hl 4 rfl) ?_
      refine lv_iload_n hx hb dX4_pass_26 rfl (lv_at hl 3 rfl) ?_
      refine lv_icmp_ge (tgt := 145) hx hb dX4_pass_27 (by decide) (fun c_1 => ?_) (fun c_1 => ?_)
      · skip
        have c_1n := Int32.not_lt.mpr c_1
        have c_1m := (nI_leI (a := vnC v) (b := i) (by omega) (by omega)).mp c_1
        have ii_i : i = vnC v := by omega
        subst ii_i
        subst e_sh1
        subst e_co1
        subst e_bu1
        subst e_fl1
        have hP : va_P D vwCl (wS [(z0, .inr (4, [.ref zr, .ref zs, .ref zc, .ref zp, .ref zk, .int (nI (vday v)), .int (vcoal v), .int (vbar v), .int (vfine v), .int (vcrs v), .int (vcoin v), .int (vship v)])), (zr, .inl (cI, 6, .inl (vR v))), (zs, .inl (cI, 7, .inl (vS v))), (zc, .inl (cQ, (vnC v), .inr (.inr (.inr (.inr (rf (vnC v) rc)))))), (zp, .inl (cQ, (vnP v), .inr (.inr (.inr (.inr (rf (vnP v) rp)))))), (zk, .inl (cQ, (vnK v), .inr (.inr (.inr (.inr (rf (vnK v) rk))))))] ((MR cI 4 (vnC v) rc (q4 (rowF (vnC v) (fSh (vR v (vday v % 6)) (vsh v) (vfl v)) (vsh v)) (rowF (vnC v) (fCo (vco v) (vfl v)) (vco v)) (rowF (vnC v) (fBu (vR v (vday v % 6)) (vsh v) (vbu v) (vfl v)) (vbu v)) (rowF (vnC v) (fFl (vR v (vday v % 6)) (vsh v) (vco v) (vfl v)) (vfl v)))) :: (MR cI 2 (vnP v) rp (q2 (vpw v) (vpa v))) :: (MR cI 3 (vnK v) rk (q3 (vkw v) (vka v) (vkb v))) :: sT)) _ := hP
        have hD : va_D A (wS [(z0, .inr (4, [.ref zr, .ref zs, .ref zc, .ref zp, .ref zk, .int (nI (vday v)), .int (vcoal v), .int (vbar v), .int (vfine v), .int (vcrs v), .int (vcoin v), .int (vship v)])), (zr, .inl (cI, 6, .inl (vR v))), (zs, .inl (cI, 7, .inl (vS v))), (zc, .inl (cQ, (vnC v), .inr (.inr (.inr (.inr (rf (vnC v) rc)))))), (zp, .inl (cQ, (vnP v), .inr (.inr (.inr (.inr (rf (vnP v) rp)))))), (zk, .inl (cQ, (vnK v), .inr (.inr (.inr (.inr (rf (vnK v) rk))))))] ((MR cI 4 (vnC v) rc (q4 (rowF (vnC v) (fSh (vR v (vday v % 6)) (vsh v) (vfl v)) (vsh v)) (rowF (vnC v) (fCo (vco v) (vfl v)) (vco v)) (rowF (vnC v) (fBu (vR v (vday v % 6)) (vsh v) (vbu v) (vfl v)) (vbu v)) (rowF (vnC v) (fFl (vR v (vday v % 6)) (vsh v) (vco v) (vfl v)) (vfl v)))) :: (MR cI 2 (vnP v) rp (q2 (vpw v) (vpa v))) :: (MR cI 3 (vnK v) rk (q3 (vkw v) (vka v) (vkb v))) :: sT)) := hD
        have hl : lv_has ls 7 [(0, .ref z0), (1, .int (vR v (vday v % 6))), (2, .ref zc), (3, .int (nI (vnC v))), (4, .int (nI (vnC v)))] := hl
        refine lv_aload_n hx hb dX4_pass_145 rfl (lv_at hl 0 rfl) ?_
        refine va_get (D := D) (ci := 4) (v := .ref zp) (C := RX4) (T := TX4) (N := 12) hx hb ht inG_X4 hown hK hP 0 rfl rfl 3 (by decide) (ht _ qF_RX4_21) (fun _ h9 => h9) rfl dX4_pass_146 ?_
        refine lv_astore_n (lv' := [(2, .ref zp), (0, .ref z0), (1, .int (vR v (vday v % 6))), (3, .int (nI (vnC v))), (4, .int (nI (vnC v)))]) hx hb dX4_pass_149 rfl hl (by decide) rfl (fun ls hl => ?_)
        refine lv_aload_n hx hb dX4_pass_150 rfl (lv_at hl 0 rfl) ?_
        refine q_ax hx hb hK hP 4 rfl dX4_pass_151 ?_
        refine lv_istore_n (lv' := [(3, .int (nI (vnP v))), (2, .ref zp), (0, .ref z0), (1, .int (vR v (vday v % 6))), (4, .int (nI (vnC v)))]) hx hb dX4_pass_152 rfl hl (by decide) rfl (fun ls hl => ?_)
        refine lv_iconst (v := 0) hx hb dX4_pass_153 (by decide) ?_
        refine lv_istore (lv' := [(4, .int 0), (3, .int (nI (vnP v))), (2, .ref zp), (0, .ref z0), (1, .int (vR v (vday v % 6)))]) hx hb dX4_pass_154 hl (by decide) rfl (fun ls hl => ?_)
        have loop156 : ∀ (kf156 ip : Nat), ip ≤ (vnP v) → (vnP v) < ip + kf156 → ∀ (w1 : Nat → Int32), w1 = rowF ip (fun q => wth (vR v (vday v % 6)) (vpw v q)) (vpw v) → ∀ (H : Heap) (locs : List Loc), va_P D vwCl (wS [(z0, .inr (4, [.ref zr, .ref zs, .ref zc, .ref zp, .ref zk, .int (nI (vday v)), .int (vcoal v), .int (vbar v), .int (vfine v), .int (vcrs v), .int (vcoin v), .int (vship v)])), (zr, .inl (cI, 6, .inl (vR v))), (zs, .inl (cI, 7, .inl (vS v))), (zc, .inl (cQ, (vnC v), .inr (.inr (.inr (.inr (rf (vnC v) rc)))))), (zp, .inl (cQ, (vnP v), .inr (.inr (.inr (.inr (rf (vnP v) rp)))))), (zk, .inl (cQ, (vnK v), .inr (.inr (.inr (.inr (rf (vnK v) rk))))))] ((MR cI 4 (vnC v) rc (q4 (rowF (vnC v) (fSh (vR v (vday v % 6)) (vsh v) (vfl v)) (vsh v)) (rowF (vnC v) (fCo (vco v) (vfl v)) (vco v)) (rowF (vnC v) (fBu (vR v (vday v % 6)) (vsh v) (vbu v) (vfl v)) (vbu v)) (rowF (vnC v) (fFl (vR v (vday v % 6)) (vsh v) (vco v) (vfl v)) (vfl v)))) :: (MR cI 2 (vnP v) rp (q2 w1 (vpa v))) :: (MR cI 3 (vnK v) rk (q3 (vkw v) (vka v) (vkb v))) :: sT)) H → va_D A (wS [(z0, .inr (4, [.ref zr, .ref zs, .ref zc, .ref zp, .ref zk, .int (nI (vday v)), .int (vcoal v), .int (vbar v), .int (vfine v), .int (vcrs v), .int (vcoin v), .int (vship v)])), (zr, .inl (cI, 6, .inl (vR v))), (zs, .inl (cI, 7, .inl (vS v))), (zc, .inl (cQ, (vnC v), .inr (.inr (.inr (.inr (rf (vnC v) rc)))))), (zp, .inl (cQ, (vnP v), .inr (.inr (.inr (.inr (rf (vnP v) rp)))))), (zk, .inl (cQ, (vnK v), .inr (.inr (.inr (.inr (rf (vnK v) rk))))))] ((MR cI 4 (vnC v) rc (q4 (rowF (vnC v) (fSh (vR v (vday v % 6)) (vsh v) (vfl v)) (vsh v)) (rowF (vnC v) (fCo (vco v) (vfl v)) (vco v)) (rowF (vnC v) (fBu (vR v (vday v % 6)) (vsh v) (vbu v) (vfl v)) (vbu v)) (rowF (vnC v) (fFl (vR v (vday v % 6)) (vsh v) (vco v) (vfl v)) (vfl v)))) :: (MR cI 2 (vnP v) rp (q2 w1 (vpa v))) :: (MR cI 3 (vnK v) rk (q3 (vkw v) (vka v) (vkb v))) :: sT)) → va_S A s.heap H locs → ∀ (ls : Array Slot), lv_has ls 7 [(0, .ref z0), (1, .int (vR v (vday v % 6))), (2, .ref zp), (3, .int (nI (vnP v))), (4, .int (nI ip))] → W p l e rm_X4_pass s m args below meth c H locs 0 0 Q (F0 m 156 ls []) := by
          intro kf156
          induction kf156 with
          | zero =>
            intro ip hle156 hlt156
            exact absurd hlt156 (by omega)
          | succ kf156 ih156 =>
            intro ip hle156 hlt156 w1 e_w1 H locs hP hD hS ls hl
            refine lv_iload hx hb dX4_pass_156 (lv_at hl 4 rfl) ?_
            refine lv_iload_n hx hb dX4_pass_158 rfl (lv_at hl 3 rfl) ?_
            refine lv_icmp_ge (tgt := 235) hx hb dX4_pass_159 (by decide) (fun c_2 => ?_) (fun c_2 => ?_)
            · skip
              have c_2n := Int32.not_lt.mpr c_2
              have c_2m := (nI_leI (a := vnP v) (b := ip) (by omega) (by omega)).mp c_2
              have ii_ip : ip = vnP v := by omega
              subst ii_ip
              subst e_w1
              have hP : va_P D vwCl (wS [(z0, .inr (4, [.ref zr, .ref zs, .ref zc, .ref zp, .ref zk, .int (nI (vday v)), .int (vcoal v), .int (vbar v), .int (vfine v), .int (vcrs v), .int (vcoin v), .int (vship v)])), (zr, .inl (cI, 6, .inl (vR v))), (zs, .inl (cI, 7, .inl (vS v))), (zc, .inl (cQ, (vnC v), .inr (.inr (.inr (.inr (rf (vnC v) rc)))))), (zp, .inl (cQ, (vnP v), .inr (.inr (.inr (.inr (rf (vnP v) rp)))))), (zk, .inl (cQ, (vnK v), .inr (.inr (.inr (.inr (rf (vnK v) rk))))))] ((MR cI 4 (vnC v) rc (q4 (rowF (vnC v) (fSh (vR v (vday v % 6)) (vsh v) (vfl v)) (vsh v)) (rowF (vnC v) (fCo (vco v) (vfl v)) (vco v)) (rowF (vnC v) (fBu (vR v (vday v % 6)) (vsh v) (vbu v) (vfl v)) (vbu v)) (rowF (vnC v) (fFl (vR v (vday v % 6)) (vsh v) (vco v) (vfl v)) (vfl v)))) :: (MR cI 2 (vnP v) rp (q2 (rowF (vnP v) (fun q => wth (vR v (vday v % 6)) (vpw v q)) (vpw v)) (vpa v))) :: (MR cI 3 (vnK v) rk (q3 (vkw v) (vka v) (vkb v))) :: sT)) _ := hP
              have hD : va_D A (wS [(z0, .inr (4, [.ref zr, .ref zs, .ref zc, .ref zp, .ref zk, .int (nI (vday v)), .int (vcoal v), .int (vbar v), .int (vfine v), .int (vcrs v), .int (vcoin v), .int (vship v)])), (zr, .inl (cI, 6, .inl (vR v))), (zs, .inl (cI, 7, .inl (vS v))), (zc, .inl (cQ, (vnC v), .inr (.inr (.inr (.inr (rf (vnC v) rc)))))), (zp, .inl (cQ, (vnP v), .inr (.inr (.inr (.inr (rf (vnP v) rp)))))), (zk, .inl (cQ, (vnK v), .inr (.inr (.inr (.inr (rf (vnK v) rk))))))] ((MR cI 4 (vnC v) rc (q4 (rowF (vnC v) (fSh (vR v (vday v % 6)) (vsh v) (vfl v)) (vsh v)) (rowF (vnC v) (fCo (vco v) (vfl v)) (vco v)) (rowF (vnC v) (fBu (vR v (vday v % 6)) (vsh v) (vbu v) (vfl v)) (vbu v)) (rowF (vnC v) (fFl (vR v (vday v % 6)) (vsh v) (vco v) (vfl v)) (vfl v)))) :: (MR cI 2 (vnP v) rp (q2 (rowF (vnP v) (fun q => wth (vR v (vday v % 6)) (vpw v q)) (vpw v)) (vpa v))) :: (MR cI 3 (vnK v) rk (q3 (vkw v) (vka v) (vkb v))) :: sT)) := hD
              have hl : lv_has ls 7 [(0, .ref z0), (1, .int (vR v (vday v % 6))), (2, .ref zp), (3, .int (nI (vnP v))), (4, .int (nI (vnP v)))] := hl
              refine lv_aload_n hx hb dX4_pass_235 rfl (lv_at hl 0 rfl) ?_
              refine va_get (D := D) (ci := 4) (v := .ref zk) (C := RX4) (T := TX4) (N := 12) hx hb ht inG_X4 hown hK hP 0 rfl rfl 4 (by decide) (ht _ qF_RX4_24) (fun _ h9 => h9) rfl dX4_pass_236 ?_
              refine lv_astore_n (lv' := [(2, .ref zk), (0, .ref z0), (1, .int (vR v (vday v % 6))), (3, .int (nI (vnP v))), (4, .int (nI (vnP v)))]) hx hb dX4_pass_239 rfl hl (by decide) rfl (fun ls hl => ?_)
              refine lv_aload_n hx hb dX4_pass_240 rfl (lv_at hl 0 rfl) ?_
              refine q_ax hx hb hK hP 5 rfl dX4_pass_241 ?_
              refine lv_istore_n (lv' := [(3, .int (nI (vnK v))), (2, .ref zk), (0, .ref z0), (1, .int (vR v (vday v % 6))), (4, .int (nI (vnP v)))]) hx hb dX4_pass_242 rfl hl (by decide) rfl (fun ls hl => ?_)
              refine lv_iconst (v := 0) hx hb dX4_pass_243 (by decide) ?_
              refine lv_istore (lv' := [(4, .int 0), (3, .int (nI (vnK v))), (2, .ref zk), (0, .ref z0), (1, .int (vR v (vday v % 6)))]) hx hb dX4_pass_244 hl (by decide) rfl (fun ls hl => ?_)
              have loop246 : ∀ (kf246 iq : Nat), iq ≤ (vnK v) → (vnK v) < iq + kf246 → ∀ (kw1 : Nat → Int32) (kb1 : Nat → Int32) (coq : Int32), kw1 = rowF iq (fKw (vkw v) (vkb v) (cN (vkw v) (vkb v) (vcoal v))) (vkw v) → kb1 = rowF iq (fKb (vkw v) (vkb v) (cN (vkw v) (vkb v) (vcoal v))) (vkb v) → coq = cN (vkw v) (vkb v) (vcoal v) iq → ∀ (H : Heap) (locs : List Loc), va_P D vwCl (wS [(z0, .inr (4, [.ref zr, .ref zs, .ref zc, .ref zp, .ref zk, .int (nI (vday v)), .int coq, .int (vbar v), .int (vfine v), .int (vcrs v), .int (vcoin v), .int (vship v)])), (zr, .inl (cI, 6, .inl (vR v))), (zs, .inl (cI, 7, .inl (vS v))), (zc, .inl (cQ, (vnC v), .inr (.inr (.inr (.inr (rf (vnC v) rc)))))), (zp, .inl (cQ, (vnP v), .inr (.inr (.inr (.inr (rf (vnP v) rp)))))), (zk, .inl (cQ, (vnK v), .inr (.inr (.inr (.inr (rf (vnK v) rk))))))] ((MR cI 4 (vnC v) rc (q4 (rowF (vnC v) (fSh (vR v (vday v % 6)) (vsh v) (vfl v)) (vsh v)) (rowF (vnC v) (fCo (vco v) (vfl v)) (vco v)) (rowF (vnC v) (fBu (vR v (vday v % 6)) (vsh v) (vbu v) (vfl v)) (vbu v)) (rowF (vnC v) (fFl (vR v (vday v % 6)) (vsh v) (vco v) (vfl v)) (vfl v)))) :: (MR cI 2 (vnP v) rp (q2 (rowF (vnP v) (fun q => wth (vR v (vday v % 6)) (vpw v q)) (vpw v)) (vpa v))) :: (MR cI 3 (vnK v) rk (q3 kw1 (vka v) kb1)) :: sT)) H → va_D A (wS [(z0, .inr (4, [.ref zr, .ref zs, .ref zc, .ref zp, .ref zk, .int (nI (vday v)), .int coq, .int (vbar v), .int (vfine v), .int (vcrs v), .int (vcoin v), .int (vship v)])), (zr, .inl (cI, 6, .inl (vR v))), (zs, .inl (cI, 7, .inl (vS v))), (zc, .inl (cQ, (vnC v), .inr (.inr (.inr (.inr (rf (vnC v) rc)))))), (zp, .inl (cQ, (vnP v), .inr (.inr (.inr (.inr (rf (vnP v) rp)))))), (zk, .inl (cQ, (vnK v), .inr (.inr (.inr (.inr (rf (vnK v) rk))))))] ((MR cI 4 (vnC v) rc (q4 (rowF (vnC v) (fSh (vR v (vday v % 6)) (vsh v) (vfl v)) (vsh v)) (rowF (vnC v) (fCo (vco v) (vfl v)) (vco v)) (rowF (vnC v) (fBu (vR v (vday v % 6)) (vsh v) (vbu v) (vfl v)) (vbu v)) (rowF (vnC v) (fFl (vR v (vday v % 6)) (vsh v) (vco v) (vfl v)) (vfl v)))) :: (MR cI 2 (vnP v) rp (q2 (rowF (vnP v) (fun q => wth (vR v (vday v % 6)) (vpw v q)) (vpw v)) (vpa v))) :: (MR cI 3 (vnK v) rk (q3 kw1 (vka v) kb1)) :: sT)) → va_S A s.heap H locs → ∀ (ls : Array Slot), lv_has ls 7 [(0, .ref z0), (1, .int (vR v (vday v % 6))), (2, .ref zk), (3, .int (nI (vnK v))), (4, .int (nI iq))] → W p l e rm_X4_pass s m args below meth c H locs 0 0 Q (F0 m 246 ls []) := by
                intro kf246
                induction kf246 with
                | zero =>
                  intro iq hle246 hlt246
                  exact absurd hlt246 (by omega)
                | succ kf246 ih246 =>
                  intro iq hle246 hlt246 kw1 kb1 coq e_kw1 e_kb1 e_coq H locs hP hD hS ls hl
                  refine lv_iload hx hb dX4_pass_246 (lv_at hl 4 rfl) ?_
                  refine lv_iload_n hx hb dX4_pass_248 rfl (lv_at hl 3 rfl) ?_
                  refine lv_icmp_ge (tgt := 331) hx hb dX4_pass_249 (by decide) (fun c_3 => ?_) (fun c_3 => ?_)
                  · skip
                    have c_3n := Int32.not_lt.mpr c_3
                    have c_3m := (nI_leI (a := vnK v) (b := iq) (by omega) (by omega)).mp c_3
                    have ii_iq : iq = vnK v := by omega
                    subst ii_iq
                    subst e_kw1
                    subst e_kb1
                    subst e_coq
                    have hP : va_P D vwCl (wS [(z0, .inr (4, [.ref zr, .ref zs, .ref zc, .ref zp, .ref zk, .int (nI (vday v)), .int (cN (vkw v) (vkb v) (vcoal v) (vnK v)), .int (vbar v), .int (vfine v), .int (vcrs v), .int (vcoin v), .int (vship v)])), (zr, .inl (cI, 6, .inl (vR v))), (zs, .inl (cI, 7, .inl (vS v))), (zc, .inl (cQ, (vnC v), .inr (.inr (.inr (.inr (rf (vnC v) rc)))))), (zp, .inl (cQ, (vnP v), .inr (.inr (.inr (.inr (rf (vnP v) rp)))))), (zk, .inl (cQ, (vnK v), .inr (.inr (.inr (.inr (rf (vnK v) rk))))))] ((MR cI 4 (vnC v) rc (q4 (rowF (vnC v) (fSh (vR v (vday v % 6)) (vsh v) (vfl v)) (vsh v)) (rowF (vnC v) (fCo (vco v) (vfl v)) (vco v)) (rowF (vnC v) (fBu (vR v (vday v % 6)) (vsh v) (vbu v) (vfl v)) (vbu v)) (rowF (vnC v) (fFl (vR v (vday v % 6)) (vsh v) (vco v) (vfl v)) (vfl v)))) :: (MR cI 2 (vnP v) rp (q2 (rowF (vnP v) (fun q => wth (vR v (vday v % 6)) (vpw v q)) (vpw v)) (vpa v))) :: (MR cI 3 (vnK v) rk (q3 (rowF (vnK v) (fKw (vkw v) (vkb v) (cN (vkw v) (vkb v) (vcoal v))) (vkw v)) (vka v) (rowF (vnK v) (fKb (vkw v) (vkb v) (cN (vkw v) (vkb v) (vcoal v))) (vkb v)))) :: sT)) _ := hP
                    have hD : va_D A (wS [(z0, .inr (4, [.ref zr, .ref zs, .ref zc, .ref zp, .ref zk, .int (nI (vday v)), .int (cN (vkw v) (vkb v) (vcoal v) (vnK v)), .int (vbar v), .int (vfine v), .int (vcrs v), .int (vcoin v), .int (vship v)])), (zr, .inl (cI, 6, .inl (vR v))), (zs, .inl (cI, 7, .inl (vS v))), (zc, .inl (cQ, (vnC v), .inr (.inr (.inr (.inr (rf (vnC v) rc)))))), (zp, .inl (cQ, (vnP v), .inr (.inr (.inr (.inr (rf (vnP v) rp)))))), (zk, .inl (cQ, (vnK v), .inr (.inr (.inr (.inr (rf (vnK v) rk))))))] ((MR cI 4 (vnC v) rc (q4 (rowF (vnC v) (fSh (vR v (vday v % 6)) (vsh v) (vfl v)) (vsh v)) (rowF (vnC v) (fCo (vco v) (vfl v)) (vco v)) (rowF (vnC v) (fBu (vR v (vday v % 6)) (vsh v) (vbu v) (vfl v)) (vbu v)) (rowF (vnC v) (fFl (vR v (vday v % 6)) (vsh v) (vco v) (vfl v)) (vfl v)))) :: (MR cI 2 (vnP v) rp (q2 (rowF (vnP v) (fun q => wth (vR v (vday v % 6)) (vpw v q)) (vpw v)) (vpa v))) :: (MR cI 3 (vnK v) rk (q3 (rowF (vnK v) (fKw (vkw v) (vkb v) (cN (vkw v) (vkb v) (vcoal v))) (vkw v)) (vka v) (rowF (vnK v) (fKb (vkw v) (vkb v) (cN (vkw v) (vkb v) (vcoal v))) (vkb v)))) :: sT)) := hD
                    have hl : lv_has ls 7 [(0, .ref z0), (1, .int (vR v (vday v % 6))), (2, .ref zk), (3, .int (nI (vnK v))), (4, .int (nI (vnK v)))] := hl
                    refine lv_iconst (v := 0) hx hb dX4_pass_331 (by decide) ?_
                    refine lv_istore_n (lv' := [(2, .int 0), (0, .ref z0), (1, .int (vR v (vday v % 6))), (3, .int (nI (vnK v))), (4, .int (nI (vnK v)))]) hx hb dX4_pass_332 rfl hl (by decide) rfl (fun ls hl => ?_)
                    refine lv_iconst (v := 0) hx hb dX4_pass_333 (by decide) ?_
                    refine lv_istore_n (lv' := [(3, .int 0), (2, .int 0), (0, .ref z0), (1, .int (vR v (vday v % 6))), (4, .int (nI (vnK v)))]) hx hb dX4_pass_334 rfl hl (by decide) rfl (fun ls hl => ?_)
                    obtain ⟨nf, hnf, enf⟩ := nat_of (x := vfine v) (B := 40000000) x5 (by omega) (by decide)
                    obtain ⟨nc, hnc, enc⟩ := nat_of (x := vcrs v) (B := 40000000) x6 (by omega) (by decide)
                    obtain ⟨nt, hnt, ent⟩ := nat_of (x := vS v (vday v % 7)) (B := 60) (x4 _).1 (x4 _).2 (by decide)
                    have loop335 : ∀ (kf335 k : Nat), k ≤ (min nt (nf + nc)) → (min nt (nf + nc)) < k + kf335 → ∀ (fi : Int32) (cr : Int32) (tk : Int32) (inn : Int32), fi = nI (nf - k) → cr = nI (nc - (k - nf)) → tk = vship v + nI k → inn = nI (5 * min k nf + 2 * (k - nf)) → ∀ (H : Heap) (locs : List Loc), va_P D vwCl (wS [(z0, .inr (4, [.ref zr, .ref zs, .ref zc, .ref zp, .ref zk, .int (nI (vday v)), .int (cN (vkw v) (vkb v) (vcoal v) (vnK v)), .int (vbar v), .int fi, .int cr, .int (vcoin v), .int tk])), (zr, .inl (cI, 6, .inl (vR v))), (zs, .inl (cI, 7, .inl (vS v))), (zc, .inl (cQ, (vnC v), .inr (.inr (.inr (.inr (rf (vnC v) rc)))))), (zp, .inl (cQ, (vnP v), .inr (.inr (.inr (.inr (rf (vnP v) rp)))))), (zk, .inl (cQ, (vnK v), .inr (.inr (.inr (.inr (rf (vnK v) rk))))))] ((MR cI 4 (vnC v) rc (q4 (rowF (vnC v) (fSh (vR v (vday v % 6)) (vsh v) (vfl v)) (vsh v)) (rowF (vnC v) (fCo (vco v) (vfl v)) (vco v)) (rowF (vnC v) (fBu (vR v (vday v % 6)) (vsh v) (vbu v) (vfl v)) (vbu v)) (rowF (vnC v) (fFl (vR v (vday v % 6)) (vsh v) (vco v) (vfl v)) (vfl v)))) :: (MR cI 2 (vnP v) rp (q2 (rowF (vnP v) (fun q => wth (vR v (vday v % 6)) (vpw v q)) (vpw v)) (vpa v))) :: (MR cI 3 (vnK v) rk (q3 (rowF (vnK v) (fKw (vkw v) (vkb v) (cN (vkw v) (vkb v) (vcoal v))) (vkw v)) (vka v) (rowF (vnK v) (fKb (vkw v) (vkb v) (cN (vkw v) (vkb v) (vcoal v))) (vkb v)))) :: sT)) H → va_D A (wS [(z0, .inr (4, [.ref zr, .ref zs, .ref zc, .ref zp, .ref zk, .int (nI (vday v)), .int (cN (vkw v) (vkb v) (vcoal v) (vnK v)), .int (vbar v), .int fi, .int cr, .int (vcoin v), .int tk])), (zr, .inl (cI, 6, .inl (vR v))), (zs, .inl (cI, 7, .inl (vS v))), (zc, .inl (cQ, (vnC v), .inr (.inr (.inr (.inr (rf (vnC v) rc)))))), (zp, .inl (cQ, (vnP v), .inr (.inr (.inr (.inr (rf (vnP v) rp)))))), (zk, .inl (cQ, (vnK v), .inr (.inr (.inr (.inr (rf (vnK v) rk))))))] ((MR cI 4 (vnC v) rc (q4 (rowF (vnC v) (fSh (vR v (vday v % 6)) (vsh v) (vfl v)) (vsh v)) (rowF (vnC v) (fCo (vco v) (vfl v)) (vco v)) (rowF (vnC v) (fBu (vR v (vday v % 6)) (vsh v) (vbu v) (vfl v)) (vbu v)) (rowF (vnC v) (fFl (vR v (vday v % 6)) (vsh v) (vco v) (vfl v)) (vfl v)))) :: (MR cI 2 (vnP v) rp (q2 (rowF (vnP v) (fun q => wth (vR v (vday v % 6)) (vpw v q)) (vpw v)) (vpa v))) :: (MR cI 3 (vnK v) rk (q3 (rowF (vnK v) (fKw (vkw v) (vkb v) (cN (vkw v) (vkb v) (vcoal v))) (vkw v)) (vka v) (rowF (vnK v) (fKb (vkw v) (vkb v) (cN (vkw v) (vkb v) (vcoal v))) (vkb v)))) :: sT)) → va_S A s.heap H locs → ∀ (ls : Array Slot), lv_has ls 7 [(0, .ref z0), (2, .int inn), (3, .int (nI k))] → W p l e rm_X4_pass s m args below meth c H locs 0 0 Q (F0 m 335 ls []) := by
                      intro kf335
                      induction kf335 with
                      | zero =>
                        intro k hle335 hlt335
                        exact absurd hlt335 (by omega)
                      | succ kf335 ih335 =>
                        intro k hle335 hlt335 fi cr tk inn e_fi e_cr e_tk e_inn H locs hP hD hS ls hl
                        refine lv_iload_n hx hb dX4_pass_335 rfl (lv_at hl 2 rfl) ?_
                        refine lv_aload_n hx hb dX4_pass_336 rfl (lv_at hl 0 rfl) ?_
                        refine va_get (D := D) (ci := 4) (v := .ref zs) (C := RX4) (T := TX4) (N := 12) hx hb ht inG_X4 hown hK hP 0 rfl rfl 1 (by decide) (ht _ qF_RX4_13) (fun _ h9 => h9) rfl dX4_pass_337 ?_
                        refine lv_aload_n hx hb dX4_pass_340 rfl (lv_at hl 0 rfl) ?_
                        refine va_get (D := D) (ci := 4) (v := .int (nI (vday v))) (C := RX4) (T := TX4) (N := 12) hx hb ht inG_X4 hown hK hP 0 rfl rfl 5 (by decide) (ht _ qF_RX4_36) (fun _ h9 => h9) rfl dX4_pass_341 ?_
                        refine lv_bipush (v := 7) hx hb dX4_pass_344 (by decide) ?_
                        refine lv_irem hx hb dX4_pass_346 (by decide) ?_
                        refine t_i (nI (vday v % 7)) (pk_rem (by omega) (by decide) (by decide)) ?_
                        refine aI hx hb hK hP 2 0 rfl rfl (vday v % 7) (rfl) (by omega) (by decide) (v := nI nt) (ent) dX4_pass_347 ?_
                        refine lv_icmp_ge (tgt := 424) hx hb dX4_pass_348 (by decide) (fun c_4 => ?_) (fun c_4 => ?_)
                        · skip
                          have c_4n := Int32.not_lt.mpr c_4
                          have c_4m := (nI_leI (a := nt) (b := k) (by omega) (by omega)).mp c_4
                          have hkN : k = min nt (nf + nc) := by omega
                          have se := ship_e (t := nt) (f := nf) (c := nc) (k := k) hnt hnf hnc hkN
                          rw [← enf, ← enc, ← ent] at se
                          have z1 : fi = vfine v - mn (vS v (vday v % 7)) (vfine v) := e_fi.trans se.1
                          have z2 : cr = vcrs v - mn ((vS v (vday v % 7)) - mn (vS v (vday v % 7)) (vfine v)) (vcrs v) := e_cr.trans se.2.1
                          have z3 : tk = vship v + (mn (vS v (vday v % 7)) (vfine v) + mn ((vS v (vday v % 7)) - mn (vS v (vday v % 7)) (vfine v)) (vcrs v)) := by rw [e_tk, se.2.2.1]
                          have z4 : inn = 5 * (mn (vS v (vday v % 7)) (vfine v)) + 2 * (mn ((vS v (vday v % 7)) - mn (vS v (vday v % 7)) (vfine v)) (vcrs v)) := e_inn.trans se.2.2.2
                          clear e_fi
                          subst z1
                          clear e_cr
                          subst z2
                          clear e_tk
                          subst z3
                          clear e_inn
                          subst z4
                          have hP : va_P D vwCl (wS [(z0, .inr (4, [.ref zr, .ref zs, .ref zc, .ref zp, .ref zk, .int (nI (vday v)), .int (cN (vkw v) (vkb v) (vcoal v) (vnK v)), .int (vbar v), .int (vfine v - mn (vS v (vday v % 7)) (vfine v)), .int (vcrs v - mn ((vS v (vday v % 7)) - mn (vS v (vday v % 7)) (vfine v)) (vcrs v)), .int (vcoin v), .int (vship v + (mn (vS v (vday v % 7)) (vfine v) + mn ((vS v (vday v % 7)) - mn (vS v (vday v % 7)) (vfine v)) (vcrs v)))])), (zr, .inl (cI, 6, .inl (vR v))), (zs, .inl (cI, 7, .inl (vS v))), (zc, .inl (cQ, (vnC v), .inr (.inr (.inr (.inr (rf (vnC v) rc)))))), (zp, .inl (cQ, (vnP v), .inr (.inr (.inr (.inr (rf (vnP v) rp)))))), (zk, .inl (cQ, (vnK v), .inr (.inr (.inr (.inr (rf (vnK v) rk))))))] ((MR cI 4 (vnC v) rc (q4 (rowF (vnC v) (fSh (vR v (vday v % 6)) (vsh v) (vfl v)) (vsh v)) (rowF (vnC v) (fCo (vco v) (vfl v)) (vco v)) (rowF (vnC v) (fBu (vR v (vday v % 6)) (vsh v) (vbu v) (vfl v)) (vbu v)) (rowF (vnC v) (fFl (vR v (vday v % 6)) (vsh v) (vco v) (vfl v)) (vfl v)))) :: (MR cI 2 (vnP v) rp (q2 (rowF (vnP v) (fun q => wth (vR v (vday v % 6)) (vpw v q)) (vpw v)) (vpa v))) :: (MR cI 3 (vnK v) rk (q3 (rowF (vnK v) (fKw (vkw v) (vkb v) (cN (vkw v) (vkb v) (vcoal v))) (vkw v)) (vka v) (rowF (vnK v) (fKb (vkw v) (vkb v) (cN (vkw v) (vkb v) (vcoal v))) (vkb v)))) :: sT)) _ := hP
                          have hD : va_D A (wS [(z0, .inr (4, [.ref zr, .ref zs, .ref zc, .ref zp, .ref zk, .int (nI (vday v)), .int (cN (vkw v) (vkb v) (vcoal v) (vnK v)), .int (vbar v), .int (vfine v - mn (vS v (vday v % 7)) (vfine v)), .int (vcrs v - mn ((vS v (vday v % 7)) - mn (vS v (vday v % 7)) (vfine v)) (vcrs v)), .int (vcoin v), .int (vship v + (mn (vS v (vday v % 7)) (vfine v) + mn ((vS v (vday v % 7)) - mn (vS v (vday v % 7)) (vfine v)) (vcrs v)))])), (zr, .inl (cI, 6, .inl (vR v))), (zs, .inl (cI, 7, .inl (vS v))), (zc, .inl (cQ, (vnC v), .inr (.inr (.inr (.inr (rf (vnC v) rc)))))), (zp, .inl (cQ, (vnP v), .inr (.inr (.inr (.inr (rf (vnP v) rp)))))), (zk, .inl (cQ, (vnK v), .inr (.inr (.inr (.inr (rf (vnK v) rk))))))] ((MR cI 4 (vnC v) rc (q4 (rowF (vnC v) (fSh (vR v (vday v % 6)) (vsh v) (vfl v)) (vsh v)) (rowF (vnC v) (fCo (vco v) (vfl v)) (vco v)) (rowF (vnC v) (fBu (vR v (vday v % 6)) (vsh v) (vbu v) (vfl v)) (vbu v)) (rowF (vnC v) (fFl (vR v (vday v % 6)) (vsh v) (vco v) (vfl v)) (vfl v)))) :: (MR cI 2 (vnP v) rp (q2 (rowF (vnP v) (fun q => wth (vR v (vday v % 6)) (vpw v q)) (vpw v)) (vpa v))) :: (MR cI 3 (vnK v) rk (q3 (rowF (vnK v) (fKw (vkw v) (vkb v) (cN (vkw v) (vkb v) (vcoal v))) (vkw v)) (vka v) (rowF (vnK v) (fKb (vkw v) (vkb v) (cN (vkw v) (vkb v) (vcoal v))) (vkb v)))) :: sT)) := hD
                          have hl : lv_has ls 7 [(0, .ref z0), (2, .int (5 * (mn (vS v (vday v % 7)) (vfine v)) + 2 * (mn ((vS v (vday v % 7)) - mn (vS v (vday v % 7)) (vfine v)) (vcrs v)))), (3, .int (nI k))] := hl
                          refine lv_aload_n hx hb dX4_pass_424 rfl (lv_at hl 0 rfl) ?_
                          refine lv_dup hx hb dX4_pass_425 rfl ?_
                          refine va_get (D := D) (ci := 4) (v := .int (vcoin v)) (C := RX4) (T := TX4) (N := 12) hx hb ht inG_X4 hown hK hP 0 rfl rfl 10 (by decide) (ht _ qF_RX4_49) (fun _ h9 => h9) rfl dX4_pass_426 ?_
                          refine lv_iload_n hx hb dX4_pass_429 rfl (lv_at hl 1 rfl) ?_
                          refine lv_iadd hx hb dX4_pass_430 ?_
                          refine va_put (D := D) (ci := 4) (v := .int ((vcoin v) + (5 * (mn (vS v (vday v % 7)) (vfine v)) + 2 * (mn ((vS v (vday v % 7)) - mn (vS v (vday v % 7)) (vfine v)) (vcrs v))))) (C := RX4) (T := TX4) (N := 12) hx hb ht inG_X4 tyX4 tyX4_ok nmX4 hown hK hP hD hS 0 rfl rfl 10 (by decide) (ht _ qF_RX4_49) (fun _ h9 => h9) rfl (tyX4_ok 10 (by decide)) rfl rfl (Nat.le_of_ble_eq_true rfl) dX4_pass_431 (fun H locs hP hD hS => ?_)
                          have hP : va_P D vwCl (wS [(z0, .inr (4, [.ref zr, .ref zs, .ref zc, .ref zp, .ref zk, .int (nI (vday v)), .int (cN (vkw v) (vkb v) (vcoal v) (vnK v)), .int (vbar v), .int (vfine v - mn (vS v (vday v % 7)) (vfine v)), .int (vcrs v - mn ((vS v (vday v % 7)) - mn (vS v (vday v % 7)) (vfine v)) (vcrs v)), .int ((vcoin v) + (5 * (mn (vS v (vday v % 7)) (vfine v)) + 2 * (mn ((vS v (vday v % 7)) - mn (vS v (vday v % 7)) (vfine v)) (vcrs v)))), .int (vship v + (mn (vS v (vday v % 7)) (vfine v) + mn ((vS v (vday v % 7)) - mn (vS v (vday v % 7)) (vfine v)) (vcrs v)))])), (zr, .inl (cI, 6, .inl (vR v))), (zs, .inl (cI, 7, .inl (vS v))), (zc, .inl (cQ, (vnC v), .inr (.inr (.inr (.inr (rf (vnC v) rc)))))), (zp, .inl (cQ, (vnP v), .inr (.inr (.inr (.inr (rf (vnP v) rp)))))), (zk, .inl (cQ, (vnK v), .inr (.inr (.inr (.inr (rf (vnK v) rk))))))] ((MR cI 4 (vnC v) rc (q4 (rowF (vnC v) (fSh (vR v (vday v % 6)) (vsh v) (vfl v)) (vsh v)) (rowF (vnC v) (fCo (vco v) (vfl v)) (vco v)) (rowF (vnC v) (fBu (vR v (vday v % 6)) (vsh v) (vbu v) (vfl v)) (vbu v)) (rowF (vnC v) (fFl (vR v (vday v % 6)) (vsh v) (vco v) (vfl v)) (vfl v)))) :: (MR cI 2 (vnP v) rp (q2 (rowF (vnP v) (fun q => wth (vR v (vday v % 6)) (vpw v q)) (vpw v)) (vpa v))) :: (MR cI 3 (vnK v) rk (q3 (rowF (vnK v) (fKw (vkw v) (vkb v) (cN (vkw v) (vkb v) (vcoal v))) (vkw v)) (vka v) (rowF (vnK v) (fKb (vkw v) (vkb v) (cN (vkw v) (vkb v) (vcoal v))) (vkb v)))) :: sT)) _ := hP
                          have hD : va_D A (wS [(z0, .inr (4, [.ref zr, .ref zs, .ref zc, .ref zp, .ref zk, .int (nI (vday v)), .int (cN (vkw v) (vkb v) (vcoal v) (vnK v)), .int (vbar v), .int (vfine v - mn (vS v (vday v % 7)) (vfine v)), .int (vcrs v - mn ((vS v (vday v % 7)) - mn (vS v (vday v % 7)) (vfine v)) (vcrs v)), .int ((vcoin v) + (5 * (mn (vS v (vday v % 7)) (vfine v)) + 2 * (mn ((vS v (vday v % 7)) - mn (vS v (vday v % 7)) (vfine v)) (vcrs v)))), .int (vship v + (mn (vS v (vday v % 7)) (vfine v) + mn ((vS v (vday v % 7)) - mn (vS v (vday v % 7)) (vfine v)) (vcrs v)))])), (zr, .inl (cI, 6, .inl (vR v))), (zs, .inl (cI, 7, .inl (vS v))), (zc, .inl (cQ, (vnC v), .inr (.inr (.inr (.inr (rf (vnC v) rc)))))), (zp, .inl (cQ, (vnP v), .inr (.inr (.inr (.inr (rf (vnP v) rp)))))), (zk, .inl (cQ, (vnK v), .inr (.inr (.inr (.inr (rf (vnK v) rk))))))] ((MR cI 4 (vnC v) rc (q4 (rowF (vnC v) (fSh (vR v (vday v % 6)) (vsh v) (vfl v)) (vsh v)) (rowF (vnC v) (fCo (vco v) (vfl v)) (vco v)) (rowF (vnC v) (fBu (vR v (vday v % 6)) (vsh v) (vbu v) (vfl v)) (vbu v)) (rowF (vnC v) (fFl (vR v (vday v % 6)) (vsh v) (vco v) (vfl v)) (vfl v)))) :: (MR cI 2 (vnP v) rp (q2 (rowF (vnP v) (fun q => wth (vR v (vday v % 6)) (vpw v q)) (vpw v)) (vpa v))) :: (MR cI 3 (vnK v) rk (q3 (rowF (vnK v) (fKw (vkw v) (vkb v) (cN (vkw v) (vkb v) (vcoal v))) (vkw v)) (vka v) (rowF (vnK v) (fKb (vkw v) (vkb v) (cN (vkw v) (vkb v) (vcoal v))) (vkb v)))) :: sT)) := hD
                          refine lv_aload_n hx hb dX4_pass_434 rfl (lv_at hl 0 rfl) ?_
                          refine lv_dup hx hb dX4_pass_435 rfl ?_
                          refine va_get (D := D) (ci := 4) (v := .int (nI (vday v))) (C := RX4) (T := TX4) (N := 12) hx hb ht inG_X4 hown hK hP 0 rfl rfl 5 (by decide) (ht _ qF_RX4_36) (fun _ h9 => h9) rfl dX4_pass_436 ?_
                          refine lv_iconst (v := 1) hx hb dX4_pass_439 (by decide) ?_
                          refine lv_iadd hx hb dX4_pass_440 ?_
                          refine t_i (nI (vday v + 1)) (nI_1 (vday v)) ?_
                          refine va_put (D := D) (ci := 4) (v := .int (nI (vday v + 1))) (C := RX4) (T := TX4) (N := 12) hx hb ht inG_X4 tyX4 tyX4_ok nmX4 hown hK hP hD hS 0 rfl rfl 5 (by decide) (ht _ qF_RX4_36) (fun _ h9 => h9) rfl (tyX4_ok 5 (by decide)) rfl rfl (Nat.le_of_ble_eq_true rfl) dX4_pass_441 (fun H locs hP hD hS => ?_)
                          have hP : va_P D vwCl (wS [(z0, .inr (4, [.ref zr, .ref zs, .ref zc, .ref zp, .ref zk, .int (nI (vday v + 1)), .int (cN (vkw v) (vkb v) (vcoal v) (vnK v)), .int (vbar v), .int (vfine v - mn (vS v (vday v % 7)) (vfine v)), .int (vcrs v - mn ((vS v (vday v % 7)) - mn (vS v (vday v % 7)) (vfine v)) (vcrs v)), .int ((vcoin v) + (5 * (mn (vS v (vday v % 7)) (vfine v)) + 2 * (mn ((vS v (vday v % 7)) - mn (vS v (vday v % 7)) (vfine v)) (vcrs v)))), .int (vship v + (mn (vS v (vday v % 7)) (vfine v) + mn ((vS v (vday v % 7)) - mn (vS v (vday v % 7)) (vfine v)) (vcrs v)))])), (zr, .inl (cI, 6, .inl (vR v))), (zs, .inl (cI, 7, .inl (vS v))), (zc, .inl (cQ, (vnC v), .inr (.inr (.inr (.inr (rf (vnC v) rc)))))), (zp, .inl (cQ, (vnP v), .inr (.inr (.inr (.inr (rf (vnP v) rp)))))), (zk, .inl (cQ, (vnK v), .inr (.inr (.inr (.inr (rf (vnK v) rk))))))] ((MR cI 4 (vnC v) rc (q4 (rowF (vnC v) (fSh (vR v (vday v % 6)) (vsh v) (vfl v)) (vsh v)) (rowF (vnC v) (fCo (vco v) (vfl v)) (vco v)) (rowF (vnC v) (fBu (vR v (vday v % 6)) (vsh v) (vbu v) (vfl v)) (vbu v)) (rowF (vnC v) (fFl (vR v (vday v % 6)) (vsh v) (vco v) (vfl v)) (vfl v)))) :: (MR cI 2 (vnP v) rp (q2 (rowF (vnP v) (fun q => wth (vR v (vday v % 6)) (vpw v q)) (vpw v)) (vpa v))) :: (MR cI 3 (vnK v) rk (q3 (rowF (vnK v) (fKw (vkw v) (vkb v) (cN (vkw v) (vkb v) (vcoal v))) (vkw v)) (vka v) (rowF (vnK v) (fKb (vkw v) (vkb v) (cN (vkw v) (vkb v) (vcoal v))) (vkb v)))) :: sT)) _ := hP
                          have hD : va_D A (wS [(z0, .inr (4, [.ref zr, .ref zs, .ref zc, .ref zp, .ref zk, .int (nI (vday v + 1)), .int (cN (vkw v) (vkb v) (vcoal v) (vnK v)), .int (vbar v), .int (vfine v - mn (vS v (vday v % 7)) (vfine v)), .int (vcrs v - mn ((vS v (vday v % 7)) - mn (vS v (vday v % 7)) (vfine v)) (vcrs v)), .int ((vcoin v) + (5 * (mn (vS v (vday v % 7)) (vfine v)) + 2 * (mn ((vS v (vday v % 7)) - mn (vS v (vday v % 7)) (vfine v)) (vcrs v)))), .int (vship v + (mn (vS v (vday v % 7)) (vfine v) + mn ((vS v (vday v % 7)) - mn (vS v (vday v % 7)) (vfine v)) (vcrs v)))])), (zr, .inl (cI, 6, .inl (vR v))), (zs, .inl (cI, 7, .inl (vS v))), (zc, .inl (cQ, (vnC v), .inr (.inr (.inr (.inr (rf (vnC v) rc)))))), (zp, .inl (cQ, (vnP v), .inr (.inr (.inr (.inr (rf (vnP v) rp)))))), (zk, .inl (cQ, (vnK v), .inr (.inr (.inr (.inr (rf (vnK v) rk))))))] ((MR cI 4 (vnC v) rc (q4 (rowF (vnC v) (fSh (vR v (vday v % 6)) (vsh v) (vfl v)) (vsh v)) (rowF (vnC v) (fCo (vco v) (vfl v)) (vco v)) (rowF (vnC v) (fBu (vR v (vday v % 6)) (vsh v) (vbu v) (vfl v)) (vbu v)) (rowF (vnC v) (fFl (vR v (vday v % 6)) (vsh v) (vco v) (vfl v)) (vfl v)))) :: (MR cI 2 (vnP v) rp (q2 (rowF (vnP v) (fun q => wth (vR v (vday v % 6)) (vpw v q)) (vpw v)) (vpa v))) :: (MR cI 3 (vnK v) rk (q3 (rowF (vnK v) (fKw (vkw v) (vkb v) (cN (vkw v) (vkb v) (vcoal v))) (vkw v)) (vka v) (rowF (vnK v) (fKb (vkw v) (vkb v) (cN (vkw v) (vkb v) (vcoal v))) (vkb v)))) :: sT)) := hD
                          refine lv_iload_n hx hb dX4_pass_444 rfl (lv_at hl 1 rfl) ?_
                          exact hend _ _ _ _ _ _ (5 * (mn (vS v (vday v % 7)) (vfine v)) + 2 * (mn ((vS v (vday v % 7)) - mn (vS v (vday v % 7)) (vfine v)) (vcrs v))) (dayV v) dX4_pass_445 (⟨add_back _ _, rfl⟩) (hP.part [0, 1, 2, 3, 4, 5] rfl) (hD.part [0, 1, 2, 3, 4, 5] (by decide) rfl) hS rfl (Nat.le_of_ble_eq_true rfl) (Nat.le_of_ble_eq_true rfl)
                        · skip
                          have c_4n := Int32.not_le.mp c_4
                          have c_4m := (nI_ltI (a := k) (b := nt) (by omega) (by omega)).mp c_4n
                          refine lv_aload_n hx hb dX4_pass_351 rfl (lv_at hl 0 rfl) ?_
                          refine va_get (D := D) (ci := 4) (v := .int fi) (C := RX4) (T := TX4) (N := 12) hx hb ht inG_X4 hown hK hP 0 rfl rfl 8 (by decide) (ht _ qF_RX4_43) (fun _ h9 => h9) rfl dX4_pass_352 ?_
                          refine lv_aload_n hx hb dX4_pass_355 rfl (lv_at hl 0 rfl) ?_
                          refine va_get (D := D) (ci := 4) (v := .int cr) (C := RX4) (T := TX4) (N := 12) hx hb ht inG_X4 hown hK hP 0 rfl rfl 9 (by decide) (ht _ qF_RX4_46) (fun _ h9 => h9) rfl dX4_pass_356 ?_
                          refine lv_iadd hx hb dX4_pass_359 ?_
                          refine t_i (nI ((nf - k) + (nc - (k - nf)))) (by rw [e_fi, e_cr]; exact nI_add _ _) ?_
                          refine lv_if_le (tgt := 424) hx hb dX4_pass_360 (by decide) (fun c_5 => ?_) (fun c_5 => ?_)
                          · skip
                            have c_5n := Int32.not_lt.mpr c_5
                            have c_5m := (nI_leI (a := (nf - k) + (nc - (k - nf))) (b := 0) (by omega) (by omega)).mp c_5
                            have hkN : k = min nt (nf + nc) := by omega
                            have se := ship_e (t := nt) (f := nf) (c := nc) (k := k) hnt hnf hnc hkN
                            rw [← enf, ← enc, ← ent] at se
                            have z1 : fi = vfine v - mn (vS v (vday v % 7)) (vfine v) := e_fi.trans se.1
                            have z2 : cr = vcrs v - mn ((vS v (vday v % 7)) - mn (vS v (vday v % 7)) (vfine v)) (vcrs v) := e_cr.trans se.2.1
                            have z3 : tk = vship v + (mn (vS v (vday v % 7)) (vfine v) + mn ((vS v (vday v % 7)) - mn (vS v (vday v % 7)) (vfine v)) (vcrs v)) := by rw [e_tk, se.2.2.1]
                            have z4 : inn = 5 * (mn (vS v (vday v % 7)) (vfine v)) + 2 * (mn ((vS v (vday v % 7)) - mn (vS v (vday v % 7)) (vfine v)) (vcrs v)) := e_inn.trans se.2.2.2
                            clear e_fi
                            subst z1
                            clear e_cr
                            subst z2
                            clear e_tk
                            subst z3
                            clear e_inn
                            subst z4
                            have hP : va_P D vwCl (wS [(z0, .inr (4, [.ref zr, .ref zs, .ref zc, .ref zp, .ref zk, .int (nI (vday v)), .int (cN (vkw v) (vkb v) (vcoal v) (vnK v)), .int (vbar v), .int (vfine v - mn (vS v (vday v % 7)) (vfine v)), .int (vcrs v - mn ((vS v (vday v % 7)) - mn (vS v (vday v % 7)) (vfine v)) (vcrs v)), .int (vcoin v), .int (vship v + (mn (vS v (vday v % 7)) (vfine v) + mn ((vS v (vday v % 7)) - mn (vS v (vday v % 7)) (vfine v)) (vcrs v)))])), (zr, .inl (cI, 6, .inl (vR v))), (zs, .inl (cI, 7, .inl (vS v))), (zc, .inl (cQ, (vnC v), .inr (.inr (.inr (.inr (rf (vnC v) rc)))))), (zp, .inl (cQ, (vnP v), .inr (.inr (.inr (.inr (rf (vnP v) rp)))))), (zk, .inl (cQ, (vnK v), .inr (.inr (.inr (.inr (rf (vnK v) rk))))))] ((MR cI 4 (vnC v) rc (q4 (rowF (vnC v) (fSh (vR v (vday v % 6)) (vsh v) (vfl v)) (vsh v)) (rowF (vnC v) (fCo (vco v) (vfl v)) (vco v)) (rowF (vnC v) (fBu (vR v (vday v % 6)) (vsh v) (vbu v) (vfl v)) (vbu v)) (rowF (vnC v) (fFl (vR v (vday v % 6)) (vsh v) (vco v) (vfl v)) (vfl v)))) :: (MR cI 2 (vnP v) rp (q2 (rowF (vnP v) (fun q => wth (vR v (vday v % 6)) (vpw v q)) (vpw v)) (vpa v))) :: (MR cI 3 (vnK v) rk (q3 (rowF (vnK v) (fKw (vkw v) (vkb v) (cN (vkw v) (vkb v) (vcoal v))) (vkw v)) (vka v) (rowF (vnK v) (fKb (vkw v) (vkb v) (cN (vkw v) (vkb v) (vcoal v))) (vkb v)))) :: sT)) _ := hP
                            have hD : va_D A (wS [(z0, .inr (4, [.ref zr, .ref zs, .ref zc, .ref zp, .ref zk, .int (nI (vday v)), .int (cN (vkw v) (vkb v) (vcoal v) (vnK v)), .int (vbar v), .int (vfine v - mn (vS v (vday v % 7)) (vfine v)), .int (vcrs v - mn ((vS v (vday v % 7)) - mn (vS v (vday v % 7)) (vfine v)) (vcrs v)), .int (vcoin v), .int (vship v + (mn (vS v (vday v % 7)) (vfine v) + mn ((vS v (vday v % 7)) - mn (vS v (vday v % 7)) (vfine v)) (vcrs v)))])), (zr, .inl (cI, 6, .inl (vR v))), (zs, .inl (cI, 7, .inl (vS v))), (zc, .inl (cQ, (vnC v), .inr (.inr (.inr (.inr (rf (vnC v) rc)))))), (zp, .inl (cQ, (vnP v), .inr (.inr (.inr (.inr (rf (vnP v) rp)))))), (zk, .inl (cQ, (vnK v), .inr (.inr (.inr (.inr (rf (vnK v) rk))))))] ((MR cI 4 (vnC v) rc (q4 (rowF (vnC v) (fSh (vR v (vday v % 6)) (vsh v) (vfl v)) (vsh v)) (rowF (vnC v) (fCo (vco v) (vfl v)) (vco v)) (rowF (vnC v) (fBu (vR v (vday v % 6)) (vsh v) (vbu v) (vfl v)) (vbu v)) (rowF (vnC v) (fFl (vR v (vday v % 6)) (vsh v) (vco v) (vfl v)) (vfl v)))) :: (MR cI 2 (vnP v) rp (q2 (rowF (vnP v) (fun q => wth (vR v (vday v % 6)) (vpw v q)) (vpw v)) (vpa v))) :: (MR cI 3 (vnK v) rk (q3 (rowF (vnK v) (fKw (vkw v) (vkb v) (cN (vkw v) (vkb v) (vcoal v))) (vkw v)) (vka v) (rowF (vnK v) (fKb (vkw v) (vkb v) (cN (vkw v) (vkb v) (vcoal v))) (vkb v)))) :: sT)) := hD
                            have hl : lv_has ls 7 [(0, .ref z0), (2, .int (5 * (mn (vS v (vday v % 7)) (vfine v)) + 2 * (mn ((vS v (vday v % 7)) - mn (vS v (vday v % 7)) (vfine v)) (vcrs v)))), (3, .int (nI k))] := hl
                            refine lv_aload_n hx hb dX4_pass_424 rfl (lv_at hl 0 rfl) ?_
                            refine lv_dup hx hb dX4_pass_425 rfl ?_
                            refine va_get (D := D) (ci := 4) (v := .int (vcoin v)) (C := RX4) (T := TX4) (N := 12) hx hb ht inG_X4 hown hK hP 0 rfl rfl 10 (by decide) (ht _ qF_RX4_49) (fun _ h9 => h9) rfl dX4_pass_426 ?_
                            refine lv_iload_n hx hb dX4_pass_429 rfl (lv_at hl 1 rfl) ?_
                            refine lv_iadd hx hb dX4_pass_430 ?_
                            refine va_put (D := D) (ci := 4) (v := .int ((vcoin v) + (5 * (mn (vS v (vday v % 7)) (vfine v)) + 2 * (mn ((vS v (vday v % 7)) - mn (vS v (vday v % 7)) (vfine v)) (vcrs v))))) (C := RX4) (T := TX4) (N := 12) hx hb ht inG_X4 tyX4 tyX4_ok nmX4 hown hK hP hD hS 0 rfl rfl 10 (by decide) (ht _ qF_RX4_49) (fun _ h9 => h9) rfl (tyX4_ok 10 (by decide)) rfl rfl (Nat.le_of_ble_eq_true rfl) dX4_pass_431 (fun H locs hP hD hS => ?_)
                            have hP : va_P D vwCl (wS [(z0, .inr (4, [.ref zr, .ref zs, .ref zc, .ref zp, .ref zk, .int (nI (vday v)), .int (cN (vkw v) (vkb v) (vcoal v) (vnK v)), .int (vbar v), .int (vfine v - mn (vS v (vday v % 7)) (vfine v)), .int (vcrs v - mn ((vS v (vday v % 7)) - mn (vS v (vday v % 7)) (vfine v)) (vcrs v)), .int ((vcoin v) + (5 * (mn (vS v (vday v % 7)) (vfine v)) + 2 * (mn ((vS v (vday v % 7)) - mn (vS v (vday v % 7)) (vfine v)) (vcrs v)))), .int (vship v + (mn (vS v (vday v % 7)) (vfine v) + mn ((vS v (vday v % 7)) - mn (vS v (vday v % 7)) (vfine v)) (vcrs v)))])), (zr, .inl (cI, 6, .inl (vR v))), (zs, .inl (cI, 7, .inl (vS v))), (zc, .inl (cQ, (vnC v), .inr (.inr (.inr (.inr (rf (vnC v) rc)))))), (zp, .inl (cQ, (vnP v), .inr (.inr (.inr (.inr (rf (vnP v) rp)))))), (zk, .inl (cQ, (vnK v), .inr (.inr (.inr (.inr (rf (vnK v) rk))))))] ((MR cI 4 (vnC v) rc (q4 (rowF (vnC v) (fSh (vR v (vday v % 6)) (vsh v) (vfl v)) (vsh v)) (rowF (vnC v) (fCo (vco v) (vfl v)) (vco v)) (rowF (vnC v) (fBu (vR v (vday v % 6)) (vsh v) (vbu v) (vfl v)) (vbu v)) (rowF (vnC v) (fFl (vR v (vday v % 6)) (vsh v) (vco v) (vfl v)) (vfl v)))) :: (MR cI 2 (vnP v) rp (q2 (rowF (vnP v) (fun q => wth (vR v (vday v % 6)) (vpw v q)) (vpw v)) (vpa v))) :: (MR cI 3 (vnK v) rk (q3 (rowF (vnK v) (fKw (vkw v) (vkb v) (cN (vkw v) (vkb v) (vcoal v))) (vkw v)) (vka v) (rowF (vnK v) (fKb (vkw v) (vkb v) (cN (vkw v) (vkb v) (vcoal v))) (vkb v)))) :: sT)) _ := hP
                            have hD : va_D A (wS [(z0, .inr (4, [.ref zr, .ref zs, .ref zc, .ref zp, .ref zk, .int (nI (vday v)), .int (cN (vkw v) (vkb v) (vcoal v) (vnK v)), .int (vbar v), .int (vfine v - mn (vS v (vday v % 7)) (vfine v)), .int (vcrs v - mn ((vS v (vday v % 7)) - mn (vS v (vday v % 7)) (vfine v)) (vcrs v)), .int ((vcoin v) + (5 * (mn (vS v (vday v % 7)) (vfine v)) + 2 * (mn ((vS v (vday v % 7)) - mn (vS v (vday v % 7)) (vfine v)) (vcrs v)))), .int (vship v + (mn (vS v (vday v % 7)) (vfine v) + mn ((vS v (vday v % 7)) - mn (vS v (vday v % 7)) (vfine v)) (vcrs v)))])), (zr, .inl (cI, 6, .inl (vR v))), (zs, .inl (cI, 7, .inl (vS v))), (zc, .inl (cQ, (vnC v), .inr (.inr (.inr (.inr (rf (vnC v) rc)))))), (zp, .inl (cQ, (vnP v), .inr (.inr (.inr (.inr (rf (vnP v) rp)))))), (zk, .inl (cQ, (vnK v), .inr (.inr (.inr (.inr (rf (vnK v) rk))))))] ((MR cI 4 (vnC v) rc (q4 (rowF (vnC v) (fSh (vR v (vday v % 6)) (vsh v) (vfl v)) (vsh v)) (rowF (vnC v) (fCo (vco v) (vfl v)) (vco v)) (rowF (vnC v) (fBu (vR v (vday v % 6)) (vsh v) (vbu v) (vfl v)) (vbu v)) (rowF (vnC v) (fFl (vR v (vday v % 6)) (vsh v) (vco v) (vfl v)) (vfl v)))) :: (MR cI 2 (vnP v) rp (q2 (rowF (vnP v) (fun q => wth (vR v (vday v % 6)) (vpw v q)) (vpw v)) (vpa v))) :: (MR cI 3 (vnK v) rk (q3 (rowF (vnK v) (fKw (vkw v) (vkb v) (cN (vkw v) (vkb v) (vcoal v))) (vkw v)) (vka v) (rowF (vnK v) (fKb (vkw v) (vkb v) (cN (vkw v) (vkb v) (vcoal v))) (vkb v)))) :: sT)) := hD
                            refine lv_aload_n hx hb dX4_pass_434 rfl (lv_at hl 0 rfl) ?_
                            refine lv_dup hx hb dX4_pass_435 rfl ?_
                            refine va_get (D := D) (ci := 4) (v := .int (nI (vday v))) (C := RX4) (T := TX4) (N := 12) hx hb ht inG_X4 hown hK hP 0 rfl rfl 5 (by decide) (ht _ qF_RX4_36) (fun _ h9 => h9) rfl dX4_pass_436 ?_
                            refine lv_iconst (v := 1) hx hb dX4_pass_439 (by decide) ?_
                            refine lv_iadd hx hb dX4_pass_440 ?_
                            refine t_i (nI (vday v + 1)) (nI_1 (vday v)) ?_
                            refine va_put (D := D) (ci := 4) (v := .int (nI (vday v + 1))) (C := RX4) (T := TX4) (N := 12) hx hb ht inG_X4 tyX4 tyX4_ok nmX4 hown hK hP hD hS 0 rfl rfl 5 (by decide) (ht _ qF_RX4_36) (fun _ h9 => h9) rfl (tyX4_ok 5 (by decide)) rfl rfl (Nat.le_of_ble_eq_true rfl) dX4_pass_441 (fun H locs hP hD hS => ?_)
                            have hP : va_P D vwCl (wS [(z0, .inr (4, [.ref zr, .ref zs, .ref zc, .ref zp, .ref zk, .int (nI (vday v + 1)), .int (cN (vkw v) (vkb v) (vcoal v) (vnK v)), .int (vbar v), .int (vfine v - mn (vS v (vday v % 7)) (vfine v)), .int (vcrs v - mn ((vS v (vday v % 7)) - mn (vS v (vday v % 7)) (vfine v)) (vcrs v)), .int ((vcoin v) + (5 * (mn (vS v (vday v % 7)) (vfine v)) + 2 * (mn ((vS v (vday v % 7)) - mn (vS v (vday v % 7)) (vfine v)) (vcrs v)))), .int (vship v + (mn (vS v (vday v % 7)) (vfine v) + mn ((vS v (vday v % 7)) - mn (vS v (vday v % 7)) (vfine v)) (vcrs v)))])), (zr, .inl (cI, 6, .inl (vR v))), (zs, .inl (cI, 7, .inl (vS v))), (zc, .inl (cQ, (vnC v), .inr (.inr (.inr (.inr (rf (vnC v) rc)))))), (zp, .inl (cQ, (vnP v), .inr (.inr (.inr (.inr (rf (vnP v) rp)))))), (zk, .inl (cQ, (vnK v), .inr (.inr (.inr (.inr (rf (vnK v) rk))))))] ((MR cI 4 (vnC v) rc (q4 (rowF (vnC v) (fSh (vR v (vday v % 6)) (vsh v) (vfl v)) (vsh v)) (rowF (vnC v) (fCo (vco v) (vfl v)) (vco v)) (rowF (vnC v) (fBu (vR v (vday v % 6)) (vsh v) (vbu v) (vfl v)) (vbu v)) (rowF (vnC v) (fFl (vR v (vday v % 6)) (vsh v) (vco v) (vfl v)) (vfl v)))) :: (MR cI 2 (vnP v) rp (q2 (rowF (vnP v) (fun q => wth (vR v (vday v % 6)) (vpw v q)) (vpw v)) (vpa v))) :: (MR cI 3 (vnK v) rk (q3 (rowF (vnK v) (fKw (vkw v) (vkb v) (cN (vkw v) (vkb v) (vcoal v))) (vkw v)) (vka v) (rowF (vnK v) (fKb (vkw v) (vkb v) (cN (vkw v) (vkb v) (vcoal v))) (vkb v)))) :: sT)) _ := hP
                            have hD : va_D A (wS [(z0, .inr (4, [.ref zr, .ref zs, .ref zc, .ref zp, .ref zk, .int (nI (vday v + 1)), .int (cN (vkw v) (vkb v) (vcoal v) (vnK v)), .int (vbar v), .int (vfine v - mn (vS v (vday v % 7)) (vfine v)), .int (vcrs v - mn ((vS v (vday v % 7)) - mn (vS v (vday v % 7)) (vfine v)) (vcrs v)), .int ((vcoin v) + (5 * (mn (vS v (vday v % 7)) (vfine v)) + 2 * (mn ((vS v (vday v % 7)) - mn (vS v (vday v % 7)) (vfine v)) (vcrs v)))), .int (vship v + (mn (vS v (vday v % 7)) (vfine v) + mn ((vS v (vday v % 7)) - mn (vS v (vday v % 7)) (vfine v)) (vcrs v)))])), (zr, .inl (cI, 6, .inl (vR v))), (zs, .inl (cI, 7, .inl (vS v))), (zc, .inl (cQ, (vnC v), .inr (.inr (.inr (.inr (rf (vnC v) rc)))))), (zp, .inl (cQ, (vnP v), .inr (.inr (.inr (.inr (rf (vnP v) rp)))))), (zk, .inl (cQ, (vnK v), .inr (.inr (.inr (.inr (rf (vnK v) rk))))))] ((MR cI 4 (vnC v) rc (q4 (rowF (vnC v) (fSh (vR v (vday v % 6)) (vsh v) (vfl v)) (vsh v)) (rowF (vnC v) (fCo (vco v) (vfl v)) (vco v)) (rowF (vnC v) (fBu (vR v (vday v % 6)) (vsh v) (vbu v) (vfl v)) (vbu v)) (rowF (vnC v) (fFl (vR v (vday v % 6)) (vsh v) (vco v) (vfl v)) (vfl v)))) :: (MR cI 2 (vnP v) rp (q2 (rowF (vnP v) (fun q => wth (vR v (vday v % 6)) (vpw v q)) (vpw v)) (vpa v))) :: (MR cI 3 (vnK v) rk (q3 (rowF (vnK v) (fKw (vkw v) (vkb v) (cN (vkw v) (vkb v) (vcoal v))) (vkw v)) (vka v) (rowF (vnK v) (fKb (vkw v) (vkb v) (cN (vkw v) (vkb v) (vcoal v))) (vkb v)))) :: sT)) := hD
                            refine lv_iload_n hx hb dX4_pass_444 rfl (lv_at hl 1 rfl) ?_
                            exact hend _ _ _ _ _ _ (5 * (mn (vS v (vday v % 7)) (vfine v)) + 2 * (mn ((vS v (vday v % 7)) - mn (vS v (vday v % 7)) (vfine v)) (vcrs v))) (dayV v) dX4_pass_445 (⟨add_back _ _, rfl⟩) (hP.part [0, 1, 2, 3, 4, 5] rfl) (hD.part [0, 1, 2, 3, 4, 5] (by decide) rfl) hS rfl (Nat.le_of_ble_eq_true rfl) (Nat.le_of_ble_eq_true rfl)
                          · skip
                            have c_5n := Int32.not_le.mp c_5
                            have c_5m := (nI_ltI (a := 0) (b := (nf - k) + (nc - (k - nf))) (by omega) (by omega)).mp c_5n
                            refine lv_aload_n hx hb dX4_pass_363 rfl (lv_at hl 0 rfl) ?_
                            refine lv_dup hx hb dX4_pass_364 rfl ?_
                            refine va_get (D := D) (ci := 4) (v := .int tk) (C := RX4) (T := TX4) (N := 12) hx hb ht inG_X4 hown hK hP 0 rfl rfl 11 (by decide) (ht _ qF_RX4_52) (fun _ h9 => h9) rfl dX4_pass_365 ?_
                            refine lv_iconst (v := 1) hx hb dX4_pass_368 (by decide) ?_
                            refine lv_iadd hx hb dX4_pass_369 ?_
                            refine va_put (D := D) (ci := 4) (v := .int (tk + 1)) (C := RX4) (T := TX4) (N := 12) hx hb ht inG_X4 tyX4 tyX4_ok nmX4 hown hK hP hD hS 0 rfl rfl 11 (by decide) (ht _ qF_RX4_52) (fun _ h9 => h9) rfl (tyX4_ok 11 (by decide)) rfl rfl (Nat.le_of_ble_eq_true rfl) dX4_pass_370 (fun H locs hP hD hS => ?_)
                            have hP : va_P D vwCl (wS [(z0, .inr (4, [.ref zr, .ref zs, .ref zc, .ref zp, .ref zk, .int (nI (vday v)), .int (cN (vkw v) (vkb v) (vcoal v) (vnK v)), .int (vbar v), .int fi, .int cr, .int (vcoin v), .int (tk + 1)])), (zr, .inl (cI, 6, .inl (vR v))), (zs, .inl (cI, 7, .inl (vS v))), (zc, .inl (cQ, (vnC v), .inr (.inr (.inr (.inr (rf (vnC v) rc)))))), (zp, .inl (cQ, (vnP v), .inr (.inr (.inr (.inr (rf (vnP v) rp)))))), (zk, .inl (cQ, (vnK v), .inr (.inr (.inr (.inr (rf (vnK v) rk))))))] ((MR cI 4 (vnC v) rc (q4 (rowF (vnC v) (fSh (vR v (vday v % 6)) (vsh v) (vfl v)) (vsh v)) (rowF (vnC v) (fCo (vco v) (vfl v)) (vco v)) (rowF (vnC v) (fBu (vR v (vday v % 6)) (vsh v) (vbu v) (vfl v)) (vbu v)) (rowF (vnC v) (fFl (vR v (vday v % 6)) (vsh v) (vco v) (vfl v)) (vfl v)))) :: (MR cI 2 (vnP v) rp (q2 (rowF (vnP v) (fun q => wth (vR v (vday v % 6)) (vpw v q)) (vpw v)) (vpa v))) :: (MR cI 3 (vnK v) rk (q3 (rowF (vnK v) (fKw (vkw v) (vkb v) (cN (vkw v) (vkb v) (vcoal v))) (vkw v)) (vka v) (rowF (vnK v) (fKb (vkw v) (vkb v) (cN (vkw v) (vkb v) (vcoal v))) (vkb v)))) :: sT)) _ := hP
                            have hD : va_D A (wS [(z0, .inr (4, [.ref zr, .ref zs, .ref zc, .ref zp, .ref zk, .int (nI (vday v)), .int (cN (vkw v) (vkb v) (vcoal v) (vnK v)), .int (vbar v), .int fi, .int cr, .int (vcoin v), .int (tk + 1)])), (zr, .inl (cI, 6, .inl (vR v))), (zs, .inl (cI, 7, .inl (vS v))), (zc, .inl (cQ, (vnC v), .inr (.inr (.inr (.inr (rf (vnC v) rc)))))), (zp, .inl (cQ, (vnP v), .inr (.inr (.inr (.inr (rf (vnP v) rp)))))), (zk, .inl (cQ, (vnK v), .inr (.inr (.inr (.inr (rf (vnK v) rk))))))] ((MR cI 4 (vnC v) rc (q4 (rowF (vnC v) (fSh (vR v (vday v % 6)) (vsh v) (vfl v)) (vsh v)) (rowF (vnC v) (fCo (vco v) (vfl v)) (vco v)) (rowF (vnC v) (fBu (vR v (vday v % 6)) (vsh v) (vbu v) (vfl v)) (vbu v)) (rowF (vnC v) (fFl (vR v (vday v % 6)) (vsh v) (vco v) (vfl v)) (vfl v)))) :: (MR cI 2 (vnP v) rp (q2 (rowF (vnP v) (fun q => wth (vR v (vday v % 6)) (vpw v q)) (vpw v)) (vpa v))) :: (MR cI 3 (vnK v) rk (q3 (rowF (vnK v) (fKw (vkw v) (vkb v) (cN (vkw v) (vkb v) (vcoal v))) (vkw v)) (vka v) (rowF (vnK v) (fKb (vkw v) (vkb v) (cN (vkw v) (vkb v) (vcoal v))) (vkb v)))) :: sT)) := hD
                            refine lv_iload_n hx hb dX4_pass_373 rfl (lv_at hl 1 rfl) ?_
                            refine lv_aload_n hx hb dX4_pass_374 rfl (lv_at hl 0 rfl) ?_
                            refine va_get (D := D) (ci := 4) (v := .int fi) (C := RX4) (T := TX4) (N := 12) hx hb ht inG_X4 hown hK hP 0 rfl rfl 8 (by decide) (ht _ qF_RX4_43) (fun _ h9 => h9) rfl dX4_pass_375 ?_
                            refine t_i (nI (nf - k)) e_fi ?_
                            refine lv_if_le (tgt := 385) hx hb dX4_pass_378 (by decide) (fun c_6 => ?_) (fun c_6 => ?_)
                            · skip
                              have c_6n := Int32.not_lt.mpr c_6
                              have c_6m := (nI_leI (a := nf - k) (b := 0) (by omega) (by omega)).mp c_6
                              refine lv_iconst (v := 2) hx hb dX4_pass_385 (by decide) ?_
                              refine lv_iadd hx hb dX4_pass_386 ?_
                              refine lv_istore_n (lv' := [(2, .int (inn + 2)), (0, .ref z0), (3, .int (nI k))]) hx hb dX4_pass_387 rfl hl (by decide) rfl (fun ls hl => ?_)
                              refine lv_aload_n hx hb dX4_pass_388 rfl (lv_at hl 1 rfl) ?_
                              refine va_get (D := D) (ci := 4) (v := .int fi) (C := RX4) (T := TX4) (N := 12) hx hb ht inG_X4 hown hK hP 0 rfl rfl 8 (by decide) (ht _ qF_RX4_43) (fun _ h9 => h9) rfl dX4_pass_389 ?_
                              refine t_i (nI (nf - k)) e_fi ?_
                              refine lv_if_le (tgt := 408) hx hb dX4_pass_392 (by decide) (fun _ => ?_) (fun h => absurd c_6 h)
                              refine lv_aload_n hx hb dX4_pass_408 rfl (lv_at hl 1 rfl) ?_
                              refine lv_dup hx hb dX4_pass_409 rfl ?_
                              refine va_get (D := D) (ci := 4) (v := .int cr) (C := RX4) (T := TX4) (N := 12) hx hb ht inG_X4 hown hK hP 0 rfl rfl 9 (by decide) (ht _ qF_RX4_46) (fun _ h9 => h9) rfl dX4_pass_410 ?_
                              refine lv_iconst (v := 1) hx hb dX4_pass_413 (by decide) ?_
                              refine lv_isub hx hb dX4_pass_414 ?_
                              refine t_i (nI (nc - (k + 1 - nf))) (by rw [e_cr, nI_sub1 (by omega)]; congr 1; omega) ?_
                              refine va_put (D := D) (ci := 4) (v := .int (nI (nc - (k + 1 - nf)))) (C := RX4) (T := TX4) (N := 12) hx hb ht inG_X4 tyX4 tyX4_ok nmX4 hown hK hP hD hS 0 rfl rfl 9 (by decide) (ht _ qF_RX4_46) (fun _ h9 => h9) rfl (tyX4_ok 9 (by decide)) rfl rfl (Nat.le_of_ble_eq_true rfl) dX4_pass_415 (fun H locs hP hD hS => ?_)
                              have hP : va_P D vwCl (wS [(z0, .inr (4, [.ref zr, .ref zs, .ref zc, .ref zp, .ref zk, .int (nI (vday v)), .int (cN (vkw v) (vkb v) (vcoal v) (vnK v)), .int (vbar v), .int fi, .int (nI (nc - (k + 1 - nf))), .int (vcoin v), .int (tk + 1)])), (zr, .inl (cI, 6, .inl (vR v))), (zs, .inl (cI, 7, .inl (vS v))), (zc, .inl (cQ, (vnC v), .inr (.inr (.inr (.inr (rf (vnC v) rc)))))), (zp, .inl (cQ, (vnP v), .inr (.inr (.inr (.inr (rf (vnP v) rp)))))), (zk, .inl (cQ, (vnK v), .inr (.inr (.inr (.inr (rf (vnK v) rk))))))] ((MR cI 4 (vnC v) rc (q4 (rowF (vnC v) (fSh (vR v (vday v % 6)) (vsh v) (vfl v)) (vsh v)) (rowF (vnC v) (fCo (vco v) (vfl v)) (vco v)) (rowF (vnC v) (fBu (vR v (vday v % 6)) (vsh v) (vbu v) (vfl v)) (vbu v)) (rowF (vnC v) (fFl (vR v (vday v % 6)) (vsh v) (vco v) (vfl v)) (vfl v)))) :: (MR cI 2 (vnP v) rp (q2 (rowF (vnP v) (fun q => wth (vR v (vday v % 6)) (vpw v q)) (vpw v)) (vpa v))) :: (MR cI 3 (vnK v) rk (q3 (rowF (vnK v) (fKw (vkw v) (vkb v) (cN (vkw v) (vkb v) (vcoal v))) (vkw v)) (vka v) (rowF (vnK v) (fKb (vkw v) (vkb v) (cN (vkw v) (vkb v) (vcoal v))) (vkb v)))) :: sT)) _ := hP
                              have hD : va_D A (wS [(z0, .inr (4, [.ref zr, .ref zs, .ref zc, .ref zp, .ref zk, .int (nI (vday v)), .int (cN (vkw v) (vkb v) (vcoal v) (vnK v)), .int (vbar v), .int fi, .int (nI (nc - (k + 1 - nf))), .int (vcoin v), .int (tk + 1)])), (zr, .inl (cI, 6, .inl (vR v))), (zs, .inl (cI, 7, .inl (vS v))), (zc, .inl (cQ, (vnC v), .inr (.inr (.inr (.inr (rf (vnC v) rc)))))), (zp, .inl (cQ, (vnP v), .inr (.inr (.inr (.inr (rf (vnP v) rp)))))), (zk, .inl (cQ, (vnK v), .inr (.inr (.inr (.inr (rf (vnK v) rk))))))] ((MR cI 4 (vnC v) rc (q4 (rowF (vnC v) (fSh (vR v (vday v % 6)) (vsh v) (vfl v)) (vsh v)) (rowF (vnC v) (fCo (vco v) (vfl v)) (vco v)) (rowF (vnC v) (fBu (vR v (vday v % 6)) (vsh v) (vbu v) (vfl v)) (vbu v)) (rowF (vnC v) (fFl (vR v (vday v % 6)) (vsh v) (vco v) (vfl v)) (vfl v)))) :: (MR cI 2 (vnP v) rp (q2 (rowF (vnP v) (fun q => wth (vR v (vday v % 6)) (vpw v q)) (vpw v)) (vpa v))) :: (MR cI 3 (vnK v) rk (q3 (rowF (vnK v) (fKw (vkw v) (vkb v) (cN (vkw v) (vkb v) (vcoal v))) (vkw v)) (vka v) (rowF (vnK v) (fKb (vkw v) (vkb v) (cN (vkw v) (vkb v) (vcoal v))) (vkb v)))) :: sT)) := hD
                              refine lv_iinc (v := nI (k + 1)) (lv' := [(3, .int (nI (k + 1))), (2, .int (inn + 2)), (0, .ref z0)]) hx hb dX4_pass_418 hl (k := 2) rfl (nI_1 k) (by decide) rfl (fun ls hl => ?_)
                              refine lv_goto (tgt := 335) hx hb dX4_pass_421 (by decide) ?_
                              exact ih335 (k + 1) (by omega) (by omega) fi (nI (nc - (k + 1 - nf))) (tk + 1) (inn + 2) (by rw [e_fi]; congr 1; omega) rfl (by rw [e_tk]; exact add_s _ _) (by rw [e_inn, show (2 : Int32) = nI 2 from rfl, nI_add]; congr 1; omega) _ _ (hP.part [0, 1, 2, 3, 4, 5] rfl) (hD.part [0, 1, 2, 3, 4, 5] (by decide) rfl) hS _ (lv_sub hl [2, 1, 0] rfl)
                            · skip
                              have c_6n := Int32.not_le.mp c_6
                              have c_6m := (nI_ltI (a := 0) (b := nf - k) (by omega) (by omega)).mp c_6n
                              refine lv_iconst (v := 5) hx hb dX4_pass_381 (by decide) ?_
                              refine lv_goto (tgt := 386) hx hb dX4_pass_382 (by decide) ?_
                              refine lv_iadd hx hb dX4_pass_386 ?_
                              refine lv_istore_n (lv' := [(2, .int (inn + 5)), (0, .ref z0), (3, .int (nI k))]) hx hb dX4_pass_387 rfl hl (by decide) rfl (fun ls hl => ?_)
                              refine lv_aload_n hx hb dX4_pass_388 rfl (lv_at hl 1 rfl) ?_
                              refine va_get (D := D) (ci := 4) (v := .int fi) (C := RX4) (T := TX4) (N := 12) hx hb ht inG_X4 hown hK hP 0 rfl rfl 8 (by decide) (ht _ qF_RX4_43) (fun _ h9 => h9) rfl dX4_pass_389 ?_
                              refine t_i (nI (nf - k)) e_fi ?_
                              refine lv_if_le (tgt := 408) hx hb dX4_pass_392 (by decide) (fun h => absurd h c_6) (fun _ => ?_)
                              refine lv_aload_n hx hb dX4_pass_395 rfl (lv_at hl 1 rfl) ?_
                              refine lv_dup hx hb dX4_pass_396 rfl ?_
                              refine va_get (D := D) (ci := 4) (v := .int fi) (C := RX4) (T := TX4) (N := 12) hx hb ht inG_X4 hown hK hP 0 rfl rfl 8 (by decide) (ht _ qF_RX4_43) (fun _ h9 => h9) rfl dX4_pass_397 ?_
                              refine lv_iconst (v := 1) hx hb dX4_pass_400 (by decide) ?_
                              refine lv_isub hx hb dX4_pass_401 ?_
                              refine t_i (nI (nf - (k + 1))) (by rw [e_fi, nI_sub1 (by omega), Nat.sub_sub]) ?_
                              refine va_put (D := D) (ci := 4) (v := .int (nI (nf - (k + 1)))) (C := RX4) (T := TX4) (N := 12) hx hb ht inG_X4 tyX4 tyX4_ok nmX4 hown hK hP hD hS 0 rfl rfl 8 (by decide) (ht _ qF_RX4_43) (fun _ h9 => h9) rfl (tyX4_ok 8 (by decide)) rfl rfl (Nat.le_of_ble_eq_true rfl) dX4_pass_402 (fun H locs hP hD hS => ?_)
                              have hP : va_P D vwCl (wS [(z0, .inr (4, [.ref zr, .ref zs, .ref zc, .ref zp, .ref zk, .int (nI (vday v)), .int (cN (vkw v) (vkb v) (vcoal v) (vnK v)), .int (vbar v), .int (nI (nf - (k + 1))), .int cr, .int (vcoin v), .int (tk + 1)])), (zr, .inl (cI, 6, .inl (vR v))), (zs, .inl (cI, 7, .inl (vS v))), (zc, .inl (cQ, (vnC v), .inr (.inr (.inr (.inr (rf (vnC v) rc)))))), (zp, .inl (cQ, (vnP v), .inr (.inr (.inr (.inr (rf (vnP v) rp)))))), (zk, .inl (cQ, (vnK v), .inr (.inr (.inr (.inr (rf (vnK v) rk))))))] ((MR cI 4 (vnC v) rc (q4 (rowF (vnC v) (fSh (vR v (vday v % 6)) (vsh v) (vfl v)) (vsh v)) (rowF (vnC v) (fCo (vco v) (vfl v)) (vco v)) (rowF (vnC v) (fBu (vR v (vday v % 6)) (vsh v) (vbu v) (vfl v)) (vbu v)) (rowF (vnC v) (fFl (vR v (vday v % 6)) (vsh v) (vco v) (vfl v)) (vfl v)))) :: (MR cI 2 (vnP v) rp (q2 (rowF (vnP v) (fun q => wth (vR v (vday v % 6)) (vpw v q)) (vpw v)) (vpa v))) :: (MR cI 3 (vnK v) rk (q3 (rowF (vnK v) (fKw (vkw v) (vkb v) (cN (vkw v) (vkb v) (vcoal v))) (vkw v)) (vka v) (rowF (vnK v) (fKb (vkw v) (vkb v) (cN (vkw v) (vkb v) (vcoal v))) (vkb v)))) :: sT)) _ := hP
                              have hD : va_D A (wS [(z0, .inr (4, [.ref zr, .ref zs, .ref zc, .ref zp, .ref zk, .int (nI (vday v)), .int (cN (vkw v) (vkb v) (vcoal v) (vnK v)), .int (vbar v), .int (nI (nf - (k + 1))), .int cr, .int (vcoin v), .int (tk + 1)])), (zr, .inl (cI, 6, .inl (vR v))), (zs, .inl (cI, 7, .inl (vS v))), (zc, .inl (cQ, (vnC v), .inr (.inr (.inr (.inr (rf (vnC v) rc)))))), (zp, .inl (cQ, (vnP v), .inr (.inr (.inr (.inr (rf (vnP v) rp)))))), (zk, .inl (cQ, (vnK v), .inr (.inr (.inr (.inr (rf (vnK v) rk))))))] ((MR cI 4 (vnC v) rc (q4 (rowF (vnC v) (fSh (vR v (vday v % 6)) (vsh v) (vfl v)) (vsh v)) (rowF (vnC v) (fCo (vco v) (vfl v)) (vco v)) (rowF (vnC v) (fBu (vR v (vday v % 6)) (vsh v) (vbu v) (vfl v)) (vbu v)) (rowF (vnC v) (fFl (vR v (vday v % 6)) (vsh v) (vco v) (vfl v)) (vfl v)))) :: (MR cI 2 (vnP v) rp (q2 (rowF (vnP v) (fun q => wth (vR v (vday v % 6)) (vpw v q)) (vpw v)) (vpa v))) :: (MR cI 3 (vnK v) rk (q3 (rowF (vnK v) (fKw (vkw v) (vkb v) (cN (vkw v) (vkb v) (vcoal v))) (vkw v)) (vka v) (rowF (vnK v) (fKb (vkw v) (vkb v) (cN (vkw v) (vkb v) (vcoal v))) (vkb v)))) :: sT)) := hD
                              refine lv_goto (tgt := 418) hx hb dX4_pass_405 (by decide) ?_
                              refine lv_iinc (v := nI (k + 1)) (lv' := [(3, .int (nI (k + 1))), (2, .int (inn + 5)), (0, .ref z0)]) hx hb dX4_pass_418 hl (k := 2) rfl (nI_1 k) (by decide) rfl (fun ls hl => ?_)
                              refine lv_goto (tgt := 335) hx hb dX4_pass_421 (by decide) ?_
                              exact ih335 (k + 1) (by omega) (by omega) (nI (nf - (k + 1))) cr (tk + 1) (inn + 5) rfl (by rw [e_cr]; congr 1; omega) (by rw [e_tk]; exact add_s _ _) (by rw [e_inn, show (5 : Int32) = nI 5 from rfl, nI_add]; congr 1; omega) _ _ (hP.part [0, 1, 2, 3, 4, 5] rfl) (hD.part [0, 1, 2, 3, 4, 5] (by decide) rfl) hS _ (lv_sub hl [2, 1, 0] rfl)
                    exact loop335 ((min nt (nf + nc)) + 1) 0 (Nat.zero_le _) (by omega) (vfine v) (vcrs v) (vship v) 0 (by rw [enf]; rfl) (by rw [enc, Nat.zero_sub]; rfl) (by rw [nI_0, Int32.add_zero]) (by rw [Nat.zero_sub, Nat.zero_min]; rfl) _ _ (hP.part [0, 1, 2, 3, 4, 5] rfl) (hD.part [0, 1, 2, 3, 4, 5] (by decide) rfl) hS _ (lv_sub hl [2, 1, 0] rfl)
                  · skip
                    have c_3n := Int32.not_le.mp c_3
                    have c_3m := (nI_ltI (a := iq) (b := vnK v) (by omega) (by omega)).mp c_3n
                    refine lv_aload_n hx hb dX4_pass_252 rfl (lv_at hl 2 rfl) ?_
                    refine lv_iload hx hb dX4_pass_253 (lv_at hl 4 rfl) ?_
                    refine l_ax hx hb hK hP 5 (r := rk) rfl iq (rfl) (by omega) (by omega) (by omega) dX4_pass_255 ?_
                    refine lv_astore (lv' := [(5, .ref (rk iq)), (0, .ref z0), (1, .int (vR v (vday v % 6))), (2, .ref zk), (3, .int (nI (vnK v))), (4, .int (nI iq))]) hx hb dX4_pass_256 hl (by decide) rfl (fun ls hl => ?_)
                    refine lv_aload hx hb dX4_pass_258 (lv_at hl 0 rfl) ?_
                    refine lv_iconst (v := 2) hx hb dX4_pass_260 (by decide) ?_
                    refine rl_ hx hb hK hP (d := 2) (r := rk) (F := q3 kw1 (vka v) kb1) rfl iq (by omega) 2 (rfl) (by decide) (by decide) (v := vkb v iq) (by rw [e_kb1]; exact rowF_at _ _ _ (Nat.le_refl _)) dX4_pass_261 ?_
                    refine lv_if_ne (tgt := 268) hx hb dX4_pass_262 (by decide) (fun c_7 => ?_) (fun c_7 => ?_)
                    · skip
                      refine lv_aload hx hb dX4_pass_268 (lv_at hl 0 rfl) ?_
                      refine lv_iconst (v := 0) hx hb dX4_pass_270 (by decide) ?_
                      refine rl_ hx hb hK hP (d := 2) (r := rk) (F := q3 kw1 (vka v) kb1) rfl iq (by omega) 0 (rfl) (by decide) (by decide) (v := vkw v iq) (by rw [e_kw1]; exact rowF_at _ _ _ (Nat.le_refl _)) dX4_pass_271 ?_
                      refine lv_if_eq (tgt := 283) hx hb dX4_pass_272 (by decide) (fun c_8 => ?_) (fun c_8 => ?_)
                      · skip
                        refine lv_aload hx hb dX4_pass_283 (lv_at hl 0 rfl) ?_
                        refine lv_iconst (v := 2) hx hb dX4_pass_285 (by decide) ?_
                        refine lv_iconst (v := 0) hx hb dX4_pass_286 (by decide) ?_
                        refine rs_ hx hb hK hP hD hS (d := 2) (r := rk) (F := q3 kw1 (vka v) kb1) rfl iq (by omega) 2 (rfl) (by decide) (by decide) (q3 kw1 (vka v) (upd kb1 iq 0)) (q3_u2 _ _ _ _ _) dX4_pass_287 (fun H locs hP hD hS => ?_)
                        have hP : va_P D vwCl (wS [(z0, .inr (4, [.ref zr, .ref zs, .ref zc, .ref zp, .ref zk, .int (nI (vday v)), .int coq, .int (vbar v), .int (vfine v), .int (vcrs v), .int (vcoin v), .int (vship v)])), (zr, .inl (cI, 6, .inl (vR v))), (zs, .inl (cI, 7, .inl (vS v))), (zc, .inl (cQ, (vnC v), .inr (.inr (.inr (.inr (rf (vnC v) rc)))))), (zp, .inl (cQ, (vnP v), .inr (.inr (.inr (.inr (rf (vnP v) rp)))))), (zk, .inl (cQ, (vnK v), .inr (.inr (.inr (.inr (rf (vnK v) rk))))))] ((MR cI 4 (vnC v) rc (q4 (rowF (vnC v) (fSh (vR v (vday v % 6)) (vsh v) (vfl v)) (vsh v)) (rowF (vnC v) (fCo (vco v) (vfl v)) (vco v)) (rowF (vnC v) (fBu (vR v (vday v % 6)) (vsh v) (vbu v) (vfl v)) (vbu v)) (rowF (vnC v) (fFl (vR v (vday v % 6)) (vsh v) (vco v) (vfl v)) (vfl v)))) :: (MR cI 2 (vnP v) rp (q2 (rowF (vnP v) (fun q => wth (vR v (vday v % 6)) (vpw v q)) (vpw v)) (vpa v))) :: (MR cI 3 (vnK v) rk (q3 kw1 (vka v) (upd kb1 iq 0))) :: sT)) _ := hP
                        have hD : va_D A (wS [(z0, .inr (4, [.ref zr, .ref zs, .ref zc, .ref zp, .ref zk, .int (nI (vday v)), .int coq, .int (vbar v), .int (vfine v), .int (vcrs v), .int (vcoin v), .int (vship v)])), (zr, .inl (cI, 6, .inl (vR v))), (zs, .inl (cI, 7, .inl (vS v))), (zc, .inl (cQ, (vnC v), .inr (.inr (.inr (.inr (rf (vnC v) rc)))))), (zp, .inl (cQ, (vnP v), .inr (.inr (.inr (.inr (rf (vnP v) rp)))))), (zk, .inl (cQ, (vnK v), .inr (.inr (.inr (.inr (rf (vnK v) rk))))))] ((MR cI 4 (vnC v) rc (q4 (rowF (vnC v) (fSh (vR v (vday v % 6)) (vsh v) (vfl v)) (vsh v)) (rowF (vnC v) (fCo (vco v) (vfl v)) (vco v)) (rowF (vnC v) (fBu (vR v (vday v % 6)) (vsh v) (vbu v) (vfl v)) (vbu v)) (rowF (vnC v) (fFl (vR v (vday v % 6)) (vsh v) (vco v) (vfl v)) (vfl v)))) :: (MR cI 2 (vnP v) rp (q2 (rowF (vnP v) (fun q => wth (vR v (vday v % 6)) (vpw v q)) (vpw v)) (vpa v))) :: (MR cI 3 (vnK v) rk (q3 kw1 (vka v) (upd kb1 iq 0))) :: sT)) := hD
                        refine lv_goto (tgt := 325) hx hb dX4_pass_288 (by decide) ?_
                        refine lv_iinc (v := nI (iq + 1)) (lv' := [(4, .int (nI (iq + 1))), (5, .ref (rk iq)), (0, .ref z0), (1, .int (vR v (vday v % 6))), (2, .ref zk), (3, .int (nI (vnK v)))]) hx hb dX4_pass_325 hl (k := 5) rfl (nI_1 iq) (by decide) rfl (fun ls hl => ?_)
                        refine lv_goto (tgt := 246) hx hb dX4_pass_328 (by decide) ?_
                        exact ih246 (iq + 1) (by omega) (by omega) kw1 (upd kb1 iq 0) coq (by rw [e_kw1]; exact (rowF_same _ _ _ (by simp only [fKw]; rw [← e_coq]; simp only [eq_true c_1, eq_false c_1n, eq_true c_2, eq_false c_2n, eq_false c_3, eq_true c_3n, eq_false c_7, eq_true c_8, if_true, if_false, ite_self])).symm) (by rw [e_kb1]; exact rowF_upd _ _ _ (by simp only [fKb]; rw [← e_coq]; simp only [eq_true c_1, eq_false c_1n, eq_true c_2, eq_false c_2n, eq_false c_3, eq_true c_3n, eq_false c_7, eq_true c_8, if_true, if_false, ite_self])) (by simp only [cN]; rw [← e_coq]; simp only [eq_true c_1, eq_false c_1n, eq_true c_2, eq_false c_2n, eq_false c_3, eq_true c_3n, eq_false c_7, eq_true c_8, if_true, if_false, ite_self]) _ _ (hP.part [0, 1, 2, 3, 4, 5] rfl) (hD.part [0, 1, 2, 3, 4, 5] (by decide) rfl) hS _ (lv_sub hl [2, 3, 4, 5, 0] rfl)
                      · skip
                        refine lv_aload_n hx hb dX4_pass_275 rfl (lv_at hl 1 rfl) ?_
                        refine va_get (D := D) (ci := 4) (v := .int coq) (C := RX4) (T := TX4) (N := 12) hx hb ht inG_X4 hown hK hP 0 rfl rfl 6 (by decide) (ht _ qF_RX4_40) (fun _ h9 => h9) rfl dX4_pass_276 ?_
                        refine lv_iconst (v := 4) hx hb dX4_pass_279 (by decide) ?_
                        refine lv_icmp_ge (tgt := 291) hx hb dX4_pass_280 (by decide) (fun c_9 => ?_) (fun c_9 => ?_)
                        · skip
                          have c_9n := Int32.not_lt.mpr c_9
                          refine lv_aload_n hx hb dX4_pass_291 rfl (lv_at hl 1 rfl) ?_
                          refine lv_dup hx hb dX4_pass_292 rfl ?_
                          refine va_get (D := D) (ci := 4) (v := .int coq) (C := RX4) (T := TX4) (N := 12) hx hb ht inG_X4 hown hK hP 0 rfl rfl 6 (by decide) (ht _ qF_RX4_40) (fun _ h9 => h9) rfl dX4_pass_293 ?_
                          refine lv_iconst (v := 4) hx hb dX4_pass_296 (by decide) ?_
                          refine lv_isub hx hb dX4_pass_297 ?_
                          refine va_put (D := D) (ci := 4) (v := .int (coq - 4)) (C := RX4) (T := TX4) (N := 12) hx hb ht inG_X4 tyX4 tyX4_ok nmX4 hown hK hP hD hS 0 rfl rfl 6 (by decide) (ht _ qF_RX4_40) (fun _ h9 => h9) rfl (tyX4_ok 6 (by decide)) rfl rfl (Nat.le_of_ble_eq_true rfl) dX4_pass_298 (fun H locs hP hD hS => ?_)
                          have hP : va_P D vwCl (wS [(z0, .inr (4, [.ref zr, .ref zs, .ref zc, .ref zp, .ref zk, .int (nI (vday v)), .int (coq - 4), .int (vbar v), .int (vfine v), .int (vcrs v), .int (vcoin v), .int (vship v)])), (zr, .inl (cI, 6, .inl (vR v))), (zs, .inl (cI, 7, .inl (vS v))), (zc, .inl (cQ, (vnC v), .inr (.inr (.inr (.inr (rf (vnC v) rc)))))), (zp, .inl (cQ, (vnP v), .inr (.inr (.inr (.inr (rf (vnP v) rp)))))), (zk, .inl (cQ, (vnK v), .inr (.inr (.inr (.inr (rf (vnK v) rk))))))] ((MR cI 4 (vnC v) rc (q4 (rowF (vnC v) (fSh (vR v (vday v % 6)) (vsh v) (vfl v)) (vsh v)) (rowF (vnC v) (fCo (vco v) (vfl v)) (vco v)) (rowF (vnC v) (fBu (vR v (vday v % 6)) (vsh v) (vbu v) (vfl v)) (vbu v)) (rowF (vnC v) (fFl (vR v (vday v % 6)) (vsh v) (vco v) (vfl v)) (vfl v)))) :: (MR cI 2 (vnP v) rp (q2 (rowF (vnP v) (fun q => wth (vR v (vday v % 6)) (vpw v q)) (vpw v)) (vpa v))) :: (MR cI 3 (vnK v) rk (q3 kw1 (vka v) kb1)) :: sT)) _ := hP
                          have hD : va_D A (wS [(z0, .inr (4, [.ref zr, .ref zs, .ref zc, .ref zp, .ref zk, .int (nI (vday v)), .int (coq - 4), .int (vbar v), .int (vfine v), .int (vcrs v), .int (vcoin v), .int (vship v)])), (zr, .inl (cI, 6, .inl (vR v))), (zs, .inl (cI, 7, .inl (vS v))), (zc, .inl (cQ, (vnC v), .inr (.inr (.inr (.inr (rf (vnC v) rc)))))), (zp, .inl (cQ, (vnP v), .inr (.inr (.inr (.inr (rf (vnP v) rp)))))), (zk, .inl (cQ, (vnK v), .inr (.inr (.inr (.inr (rf (vnK v) rk))))))] ((MR cI 4 (vnC v) rc (q4 (rowF (vnC v) (fSh (vR v (vday v % 6)) (vsh v) (vfl v)) (vsh v)) (rowF (vnC v) (fCo (vco v) (vfl v)) (vco v)) (rowF (vnC v) (fBu (vR v (vday v % 6)) (vsh v) (vbu v) (vfl v)) (vbu v)) (rowF (vnC v) (fFl (vR v (vday v % 6)) (vsh v) (vco v) (vfl v)) (vfl v)))) :: (MR cI 2 (vnP v) rp (q2 (rowF (vnP v) (fun q => wth (vR v (vday v % 6)) (vpw v q)) (vpw v)) (vpa v))) :: (MR cI 3 (vnK v) rk (q3 kw1 (vka v) kb1)) :: sT)) := hD
                          refine lv_aload hx hb dX4_pass_301 (lv_at hl 0 rfl) ?_
                          refine lv_iconst (v := 0) hx hb dX4_pass_303 (by decide) ?_
                          refine w_cut (J := 324) (rest := [.int 0, .ref (rk iq)]) (mx 0 (vkw v iq - 12)) ?_ (fun jn_304_327 => ?_)
                          · skip
                            refine rs_ hx hb hK hP hD hS (d := 2) (r := rk) (F := q3 kw1 (vka v) kb1) rfl iq (by omega) 0 (rfl) (by decide) (by decide) (q3 (upd kw1 iq (mx 0 (vkw v iq - 12))) (vka v) kb1) (q3_u0 _ _ _ _ _) dX4_pass_324 (fun H locs hP hD hS => ?_)
                            have hP : va_P D vwCl (wS [(z0, .inr (4, [.ref zr, .ref zs, .ref zc, .ref zp, .ref zk, .int (nI (vday v)), .int (coq - 4), .int (vbar v), .int (vfine v), .int (vcrs v), .int (vcoin v), .int (vship v)])), (zr, .inl (cI, 6, .inl (vR v))), (zs, .inl (cI, 7, .inl (vS v))), (zc, .inl (cQ, (vnC v), .inr (.inr (.inr (.inr (rf (vnC v) rc)))))), (zp, .inl (cQ, (vnP v), .inr (.inr (.inr (.inr (rf (vnP v) rp)))))), (zk, .inl (cQ, (vnK v), .inr (.inr (.inr (.inr (rf (vnK v) rk))))))] ((MR cI 4 (vnC v) rc (q4 (rowF (vnC v) (fSh (vR v (vday v % 6)) (vsh v) (vfl v)) (vsh v)) (rowF (vnC v) (fCo (vco v) (vfl v)) (vco v)) (rowF (vnC v) (fBu (vR v (vday v % 6)) (vsh v) (vbu v) (vfl v)) (vbu v)) (rowF (vnC v) (fFl (vR v (vday v % 6)) (vsh v) (vco v) (vfl v)) (vfl v)))) :: (MR cI 2 (vnP v) rp (q2 (rowF (vnP v) (fun q => wth (vR v (vday v % 6)) (vpw v q)) (vpw v)) (vpa v))) :: (MR cI 3 (vnK v) rk (q3 (upd kw1 iq (mx 0 (vkw v iq - 12))) (vka v) kb1)) :: sT)) _ := hP
                            have hD : va_D A (wS [(z0, .inr (4, [.ref zr, .ref zs, .ref zc, .ref zp, .ref zk, .int (nI (vday v)), .int (coq - 4), .int (vbar v), .int (vfine v), .int (vcrs v), .int (vcoin v), .int (vship v)])), (zr, .inl (cI, 6, .inl (vR v))), (zs, .inl (cI, 7, .inl (vS v))), (zc, .inl (cQ, (vnC v), .inr (.inr (.inr (.inr (rf (vnC v) rc)))))), (zp, .inl (cQ, (vnP v), .inr (.inr (.inr (.inr (rf (vnP v) rp)))))), (zk, .inl (cQ, (vnK v), .inr (.inr (.inr (.inr (rf (vnK v) rk))))))] ((MR cI 4 (vnC v) rc (q4 (rowF (vnC v) (fSh (vR v (vday v % 6)) (vsh v) (vfl v)) (vsh v)) (rowF (vnC v) (fCo (vco v) (vfl v)) (vco v)) (rowF (vnC v) (fBu (vR v (vday v % 6)) (vsh v) (vbu v) (vfl v)) (vbu v)) (rowF (vnC v) (fFl (vR v (vday v % 6)) (vsh v) (vco v) (vfl v)) (vfl v)))) :: (MR cI 2 (vnP v) rp (q2 (rowF (vnP v) (fun q => wth (vR v (vday v % 6)) (vpw v q)) (vpw v)) (vpa v))) :: (MR cI 3 (vnK v) rk (q3 (upd kw1 iq (mx 0 (vkw v iq - 12))) (vka v) kb1)) :: sT)) := hD
                            refine lv_iinc (v := nI (iq + 1)) (lv' := [(4, .int (nI (iq + 1))), (5, .ref (rk iq)), (0, .ref z0), (1, .int (vR v (vday v % 6))), (2, .ref zk), (3, .int (nI (vnK v)))]) hx hb dX4_pass_325 hl (k := 5) rfl (nI_1 iq) (by decide) rfl (fun ls hl => ?_)
                            refine lv_goto (tgt := 246) hx hb dX4_pass_328 (by decide) ?_
                            exact ih246 (iq + 1) (by omega) (by omega) (upd kw1 iq (mx 0 (vkw v iq - 12))) kb1 (coq - 4) (by rw [e_kw1]; exact rowF_upd _ _ _ (by simp only [fKw]; rw [← e_coq]; simp only [eq_true c_1, eq_false c_1n, eq_true c_2, eq_false c_2n, eq_false c_3, eq_true c_3n, eq_false c_7, eq_false c_8, eq_true c_9, eq_false c_9n, if_true, if_false, ite_self])) (by rw [e_kb1]; exact (rowF_same _ _ _ (by simp only [fKb]; rw [← e_coq]; simp only [eq_true c_1, eq_false c_1n, eq_true c_2, eq_false c_2n, eq_false c_3, eq_true c_3n, eq_false c_7, eq_false c_8, eq_true c_9, eq_false c_9n, if_true, if_false, ite_self])).symm) (by simp only [cN]; rw [← e_coq]; simp only [eq_true c_1, eq_false c_1n, eq_true c_2, eq_false c_2n, eq_false c_3, eq_true c_3n, eq_false c_7, eq_false c_8, eq_true c_9, eq_false c_9n, if_true, if_false, ite_self]) _ _ (hP.part [0, 1, 2, 3, 4, 5] rfl) (hD.part [0, 1, 2, 3, 4, 5] (by decide) rfl) hS _ (lv_sub hl [2, 3, 4, 5, 0] rfl)
                          · skip
                            refine lv_aload hx hb dX4_pass_304 (lv_at hl 0 rfl) ?_
                            refine lv_iconst (v := 0) hx hb dX4_pass_306 (by decide) ?_
                            refine rl_ hx hb hK hP (d := 2) (r := rk) (F := q3 kw1 (vka v) kb1) rfl iq (by omega) 0 (rfl) (by decide) (by decide) (v := vkw v iq) (by rw [e_kw1]; exact rowF_at _ _ _ (Nat.le_refl _)) dX4_pass_307 ?_
                            refine lv_bipush (v := 12) hx hb dX4_pass_308 (by decide) ?_
                            refine lv_icmp_le (tgt := 323) hx hb dX4_pass_310 (by decide) (fun c_10 => ?_) (fun c_10 => ?_)
                            · skip
                              have c_10n := Int32.not_lt.mpr c_10
                              refine lv_iconst (v := 0) hx hb dX4_pass_323 (by decide) ?_
                              refine t_i (mx 0 (vkw v iq - 12)) (mx_b (n3 iq).1 c_10) ?_
                              exact jn_304_327
                            · skip
                              have c_10n := Int32.not_le.mp c_10
                              refine lv_aload hx hb dX4_pass_313 (lv_at hl 0 rfl) ?_
                              refine lv_iconst (v := 0) hx hb dX4_pass_315 (by decide) ?_
                              refine rl_ hx hb hK hP (d := 2) (r := rk) (F := q3 kw1 (vka v) kb1) rfl iq (by omega) 0 (rfl) (by decide) (by decide) (v := vkw v iq) (by rw [e_kw1]; exact rowF_at _ _ _ (Nat.le_refl _)) dX4_pass_316 ?_
                              refine lv_bipush (v := 12) hx hb dX4_pass_317 (by decide) ?_
                              refine lv_isub hx hb dX4_pass_319 ?_
                              refine lv_goto (tgt := 324) hx hb dX4_pass_320 (by decide) ?_
                              refine t_i (mx 0 (vkw v iq - 12)) (mx_a (by decide) c_10n) ?_
                              exact jn_304_327
                        · skip
                          have c_9n := Int32.not_le.mp c_9
                          refine lv_aload hx hb dX4_pass_283 (lv_at hl 0 rfl) ?_
                          refine lv_iconst (v := 2) hx hb dX4_pass_285 (by decide) ?_
                          refine lv_iconst (v := 0) hx hb dX4_pass_286 (by decide) ?_
                          refine rs_ hx hb hK hP hD hS (d := 2) (r := rk) (F := q3 kw1 (vka v) kb1) rfl iq (by omega) 2 (rfl) (by decide) (by decide) (q3 kw1 (vka v) (upd kb1 iq 0)) (q3_u2 _ _ _ _ _) dX4_pass_287 (fun H locs hP hD hS => ?_)
                          have hP : va_P D vwCl (wS [(z0, .inr (4, [.ref zr, .ref zs, .ref zc, .ref zp, .ref zk, .int (nI (vday v)), .int coq, .int (vbar v), .int (vfine v), .int (vcrs v), .int (vcoin v), .int (vship v)])), (zr, .inl (cI, 6, .inl (vR v))), (zs, .inl (cI, 7, .inl (vS v))), (zc, .inl (cQ, (vnC v), .inr (.inr (.inr (.inr (rf (vnC v) rc)))))), (zp, .inl (cQ, (vnP v), .inr (.inr (.inr (.inr (rf (vnP v) rp)))))), (zk, .inl (cQ, (vnK v), .inr (.inr (.inr (.inr (rf (vnK v) rk))))))] ((MR cI 4 (vnC v) rc (q4 (rowF (vnC v) (fSh (vR v (vday v % 6)) (vsh v) (vfl v)) (vsh v)) (rowF (vnC v) (fCo (vco v) (vfl v)) (vco v)) (rowF (vnC v) (fBu (vR v (vday v % 6)) (vsh v) (vbu v) (vfl v)) (vbu v)) (rowF (vnC v) (fFl (vR v (vday v % 6)) (vsh v) (vco v) (vfl v)) (vfl v)))) :: (MR cI 2 (vnP v) rp (q2 (rowF (vnP v) (fun q => wth (vR v (vday v % 6)) (vpw v q)) (vpw v)) (vpa v))) :: (MR cI 3 (vnK v) rk (q3 kw1 (vka v) (upd kb1 iq 0))) :: sT)) _ := hP
                          have hD : va_D A (wS [(z0, .inr (4, [.ref zr, .ref zs, .ref zc, .ref zp, .ref zk, .int (nI (vday v)), .int coq, .int (vbar v), .int (vfine v), .int (vcrs v), .int (vcoin v), .int (vship v)])), (zr, .inl (cI, 6, .inl (vR v))), (zs, .inl (cI, 7, .inl (vS v))), (zc, .inl (cQ, (vnC v), .inr (.inr (.inr (.inr (rf (vnC v) rc)))))), (zp, .inl (cQ, (vnP v), .inr (.inr (.inr (.inr (rf (vnP v) rp)))))), (zk, .inl (cQ, (vnK v), .inr (.inr (.inr (.inr (rf (vnK v) rk))))))] ((MR cI 4 (vnC v) rc (q4 (rowF (vnC v) (fSh (vR v (vday v % 6)) (vsh v) (vfl v)) (vsh v)) (rowF (vnC v) (fCo (vco v) (vfl v)) (vco v)) (rowF (vnC v) (fBu (vR v (vday v % 6)) (vsh v) (vbu v) (vfl v)) (vbu v)) (rowF (vnC v) (fFl (vR v (vday v % 6)) (vsh v) (vco v) (vfl v)) (vfl v)))) :: (MR cI 2 (vnP v) rp (q2 (rowF (vnP v) (fun q => wth (vR v (vday v % 6)) (vpw v q)) (vpw v)) (vpa v))) :: (MR cI 3 (vnK v) rk (q3 kw1 (vka v) (upd kb1 iq 0))) :: sT)) := hD
                          refine lv_goto (tgt := 325) hx hb dX4_pass_288 (by decide) ?_
                          refine lv_iinc (v := nI (iq + 1)) (lv' := [(4, .int (nI (iq + 1))), (5, .ref (rk iq)), (0, .ref z0), (1, .int (vR v (vday v % 6))), (2, .ref zk), (3, .int (nI (vnK v)))]) hx hb dX4_pass_325 hl (k := 5) rfl (nI_1 iq) (by decide) rfl (fun ls hl => ?_)
                          refine lv_goto (tgt := 246) hx hb dX4_pass_328 (by decide) ?_
                          exact ih246 (iq + 1) (by omega) (by omega) kw1 (upd kb1 iq 0) coq (by rw [e_kw1]; exact (rowF_same _ _ _ (by simp only [fKw]; rw [← e_coq]; simp only [eq_true c_1, eq_false c_1n, eq_true c_2, eq_false c_2n, eq_false c_3, eq_true c_3n, eq_false c_7, eq_false c_8, eq_false c_9, eq_true c_9n, if_true, if_false, ite_self])).symm) (by rw [e_kb1]; exact rowF_upd _ _ _ (by simp only [fKb]; rw [← e_coq]; simp only [eq_true c_1, eq_false c_1n, eq_true c_2, eq_false c_2n, eq_false c_3, eq_true c_3n, eq_false c_7, eq_false c_8, eq_false c_9, eq_true c_9n, if_true, if_false, ite_self])) (by simp only [cN]; rw [← e_coq]; simp only [eq_true c_1, eq_false c_1n, eq_true c_2, eq_false c_2n, eq_false c_3, eq_true c_3n, eq_false c_7, eq_false c_8, eq_false c_9, eq_true c_9n, if_true, if_false, ite_self]) _ _ (hP.part [0, 1, 2, 3, 4, 5] rfl) (hD.part [0, 1, 2, 3, 4, 5] (by decide) rfl) hS _ (lv_sub hl [2, 3, 4, 5, 0] rfl)
                    · skip
                      refine lv_goto (tgt := 325) hx hb dX4_pass_265 (by decide) ?_
                      refine lv_iinc (v := nI (iq + 1)) (lv' := [(4, .int (nI (iq + 1))), (5, .ref (rk iq)), (0, .ref z0), (1, .int (vR v (vday v % 6))), (2, .ref zk), (3, .int (nI (vnK v)))]) hx hb dX4_pass_325 hl (k := 5) rfl (nI_1 iq) (by decide) rfl (fun ls hl => ?_)
                      refine lv_goto (tgt := 246) hx hb dX4_pass_328 (by decide) ?_
                      exact ih246 (iq + 1) (by omega) (by omega) kw1 kb1 coq (by rw [e_kw1]; exact (rowF_same _ _ _ (by simp only [fKw]; rw [← e_coq]; simp only [eq_true c_1, eq_false c_1n, eq_true c_2, eq_false c_2n, eq_false c_3, eq_true c_3n, eq_true c_7, if_true, if_false, ite_self])).symm) (by rw [e_kb1]; exact (rowF_same _ _ _ (by simp only [fKb]; rw [← e_coq]; simp only [eq_true c_1, eq_false c_1n, eq_true c_2, eq_false c_2n, eq_false c_3, eq_true c_3n, eq_true c_7, if_true, if_false, ite_self])).symm) (by simp only [cN]; rw [← e_coq]; simp only [eq_true c_1, eq_false c_1n, eq_true c_2, eq_false c_2n, eq_false c_3, eq_true c_3n, eq_true c_7, if_true, if_false, ite_self]) _ _ (hP.part [0, 1, 2, 3, 4, 5] rfl) (hD.part [0, 1, 2, 3, 4, 5] (by decide) rfl) hS _ (lv_sub hl [2, 3, 4, 5, 0] rfl)
              exact loop246 ((vnK v) + 1) 0 (Nat.zero_le _) (by omega) (vkw v) (vkb v) (vcoal v) ((rowF_0 _ _).symm) ((rowF_0 _ _).symm) rfl _ _ (hP.part [0, 1, 2, 3, 4, 5] rfl) (hD.part [0, 1, 2, 3, 4, 5] (by decide) rfl) hS _ (lv_sub hl [3, 4, 2, 1, 0] rfl)
            · skip
              have c_2n := Int32.not_le.mp c_2
              have c_2m := (nI_ltI (a := ip) (b := vnP v) (by omega) (by omega)).mp c_2n
              refine lv_aload_n hx hb dX4_pass_162 rfl (lv_at hl 2 rfl) ?_
              refine lv_iload hx hb dX4_pass_163 (lv_at hl 4 rfl) ?_
              refine l_ax hx hb hK hP 4 (r := rp) rfl ip (rfl) (by omega) (by omega) (by omega) dX4_pass_165 ?_
              refine lv_astore (lv' := [(5, .ref (rp ip)), (0, .ref z0), (1, .int (vR v (vday v % 6))), (2, .ref zp), (3, .int (nI (vnP v))), (4, .int (nI ip))]) hx hb dX4_pass_166 hl (by decide) rfl (fun ls hl => ?_)
              refine lv_aload hx hb dX4_pass_168 (lv_at hl 0 rfl) ?_
              refine lv_iconst (v := 0) hx hb dX4_pass_170 (by decide) ?_
              refine rl_ hx hb hK hP (d := 1) (r := rp) (F := q2 w1 (vpa v)) rfl ip (by omega) 0 (rfl) (by decide) (by decide) (v := vpw v ip) (by show w1 ip = _; rw [e_w1]; exact rowF_at _ _ _ (Nat.le_refl _)) dX4_pass_171 ?_
              refine lv_if_ne (tgt := 178) hx hb dX4_pass_172 (by decide) (fun c_11 => ?_) (fun c_11 => ?_)
              · skip
                refine lv_aload hx hb dX4_pass_178 (lv_at hl 0 rfl) ?_
                refine lv_iconst (v := 0) hx hb dX4_pass_180 (by decide) ?_
                refine lv_dup2_11 hx hb dX4_pass_181 rfl rfl ?_
                refine rl_ hx hb hK hP (d := 1) (r := rp) (F := q2 w1 (vpa v)) rfl ip (by omega) 0 (rfl) (by decide) (by decide) (v := vpw v ip) (by show w1 ip = _; rw [e_w1]; exact rowF_at _ _ _ (Nat.le_refl _)) dX4_pass_182 ?_
                refine lv_iload_n hx hb dX4_pass_183 rfl (lv_at hl 2 rfl) ?_
                refine lv_iadd hx hb dX4_pass_184 ?_
                refine rs_ hx hb hK hP hD hS (d := 1) (r := rp) (F := q2 w1 (vpa v)) rfl ip (by omega) 0 (rfl) (by decide) (by decide) (q2 (upd w1 ip ((vpw v ip) + (vR v (vday v % 6)))) (vpa v)) (q2_u0 _ _ _ _) dX4_pass_185 (fun H locs hP hD hS => ?_)
                have hP : va_P D vwCl (wS [(z0, .inr (4, [.ref zr, .ref zs, .ref zc, .ref zp, .ref zk, .int (nI (vday v)), .int (vcoal v), .int (vbar v), .int (vfine v), .int (vcrs v), .int (vcoin v), .int (vship v)])), (zr, .inl (cI, 6, .inl (vR v))), (zs, .inl (cI, 7, .inl (vS v))), (zc, .inl (cQ, (vnC v), .inr (.inr (.inr (.inr (rf (vnC v) rc)))))), (zp, .inl (cQ, (vnP v), .inr (.inr (.inr (.inr (rf (vnP v) rp)))))), (zk, .inl (cQ, (vnK v), .inr (.inr (.inr (.inr (rf (vnK v) rk))))))] ((MR cI 4 (vnC v) rc (q4 (rowF (vnC v) (fSh (vR v (vday v % 6)) (vsh v) (vfl v)) (vsh v)) (rowF (vnC v) (fCo (vco v) (vfl v)) (vco v)) (rowF (vnC v) (fBu (vR v (vday v % 6)) (vsh v) (vbu v) (vfl v)) (vbu v)) (rowF (vnC v) (fFl (vR v (vday v % 6)) (vsh v) (vco v) (vfl v)) (vfl v)))) :: (MR cI 2 (vnP v) rp (q2 (upd w1 ip ((vpw v ip) + (vR v (vday v % 6)))) (vpa v))) :: (MR cI 3 (vnK v) rk (q3 (vkw v) (vka v) (vkb v))) :: sT)) _ := hP
                have hD : va_D A (wS [(z0, .inr (4, [.ref zr, .ref zs, .ref zc, .ref zp, .ref zk, .int (nI (vday v)), .int (vcoal v), .int (vbar v), .int (vfine v), .int (vcrs v), .int (vcoin v), .int (vship v)])), (zr, .inl (cI, 6, .inl (vR v))), (zs, .inl (cI, 7, .inl (vS v))), (zc, .inl (cQ, (vnC v), .inr (.inr (.inr (.inr (rf (vnC v) rc)))))), (zp, .inl (cQ, (vnP v), .inr (.inr (.inr (.inr (rf (vnP v) rp)))))), (zk, .inl (cQ, (vnK v), .inr (.inr (.inr (.inr (rf (vnK v) rk))))))] ((MR cI 4 (vnC v) rc (q4 (rowF (vnC v) (fSh (vR v (vday v % 6)) (vsh v) (vfl v)) (vsh v)) (rowF (vnC v) (fCo (vco v) (vfl v)) (vco v)) (rowF (vnC v) (fBu (vR v (vday v % 6)) (vsh v) (vbu v) (vfl v)) (vbu v)) (rowF (vnC v) (fFl (vR v (vday v % 6)) (vsh v) (vco v) (vfl v)) (vfl v)))) :: (MR cI 2 (vnP v) rp (q2 (upd w1 ip ((vpw v ip) + (vR v (vday v % 6)))) (vpa v))) :: (MR cI 3 (vnK v) rk (q3 (vkw v) (vka v) (vkb v))) :: sT)) := hD
                refine lv_aload hx hb dX4_pass_186 (lv_at hl 0 rfl) ?_
                refine lv_iconst (v := 0) hx hb dX4_pass_188 (by decide) ?_
                refine rl_ hx hb hK hP (d := 1) (r := rp) (F := q2 (upd w1 ip ((vpw v ip) + (vR v (vday v % 6)))) (vpa v)) rfl ip (by omega) 0 (rfl) (by decide) (by decide) (v := (vpw v ip) + (vR v (vday v % 6))) (pk_us) dX4_pass_189 ?_
                refine lv_sipush (v := 400) hx hb dX4_pass_190 (by decide) ?_
                refine lv_icmp_le (tgt := 203) hx hb dX4_pass_193 (by decide) (fun c_12 => ?_) (fun c_12 => ?_)
                · skip
                  have c_12n := Int32.not_lt.mpr c_12
                  refine lv_iload_n hx hb dX4_pass_203 rfl (lv_at hl 2 rfl) ?_
                  refine lv_if_ne (tgt := 229) hx hb dX4_pass_204 (by decide) (fun c_13 => ?_) (fun c_13 => ?_)
                  · skip
                    refine lv_iinc (v := nI (ip + 1)) (lv' := [(4, .int (nI (ip + 1))), (5, .ref (rp ip)), (0, .ref z0), (1, .int (vR v (vday v % 6))), (2, .ref zp), (3, .int (nI (vnP v)))]) hx hb dX4_pass_229 hl (k := 5) rfl (nI_1 ip) (by decide) rfl (fun ls hl => ?_)
                    refine lv_goto (tgt := 156) hx hb dX4_pass_232 (by decide) ?_
                    exact ih156 (ip + 1) (by omega) (by omega) (upd w1 ip ((vpw v ip) + (vR v (vday v % 6)))) (by rw [e_w1]; exact rowF_upd _ _ _ (wth_1 ⟨⟨(n2 ip).1, (n2 ip).2.1⟩, n5 _⟩ c_11 c_13 c_12)) _ _ (hP.part [0, 1, 2, 3, 4, 5] rfl) (hD.part [0, 1, 2, 3, 4, 5] (by decide) rfl) hS _ (lv_sub hl [2, 3, 4, 5, 0] rfl)
                  · skip
                    refine lv_aload hx hb dX4_pass_207 (lv_at hl 0 rfl) ?_
                    refine lv_iconst (v := 0) hx hb dX4_pass_209 (by decide) ?_
                    refine lv_aload hx hb dX4_pass_210 (lv_at hl 0 rfl) ?_
                    refine lv_iconst (v := 0) hx hb dX4_pass_212 (by decide) ?_
                    refine rl_ hx hb hK hP (d := 1) (r := rp) (F := q2 (upd w1 ip ((vpw v ip) + (vR v (vday v % 6)))) (vpa v)) rfl ip (by omega) 0 (rfl) (by decide) (by decide) (v := (vpw v ip) + (vR v (vday v % 6))) (pk_us) dX4_pass_213 ?_
                    refine lv_iconst (v := 3) hx hb dX4_pass_214 (by decide) ?_
                    refine lv_icmp_le (tgt := 227) hx hb dX4_pass_215 (by decide) (fun c_14 => ?_) (fun c_14 => ?_)
                    · skip
                      have c_14n := Int32.not_lt.mpr c_14
                      refine lv_iconst (v := 0) hx hb dX4_pass_227 (by decide) ?_
                      refine rs_ hx hb hK hP hD hS (d := 1) (r := rp) (F := q2 (upd w1 ip ((vpw v ip) + (vR v (vday v % 6)))) (vpa v)) rfl ip (by omega) 0 (rfl) (by decide) (by decide) (q2 (upd w1 ip 0) (vpa v)) ((q2_u0 _ _ _ _).trans (by rw [upd_upd])) dX4_pass_228 (fun H locs hP hD hS => ?_)
                      have hP : va_P D vwCl (wS [(z0, .inr (4, [.ref zr, .ref zs, .ref zc, .ref zp, .ref zk, .int (nI (vday v)), .int (vcoal v), .int (vbar v), .int (vfine v), .int (vcrs v), .int (vcoin v), .int (vship v)])), (zr, .inl (cI, 6, .inl (vR v))), (zs, .inl (cI, 7, .inl (vS v))), (zc, .inl (cQ, (vnC v), .inr (.inr (.inr (.inr (rf (vnC v) rc)))))), (zp, .inl (cQ, (vnP v), .inr (.inr (.inr (.inr (rf (vnP v) rp)))))), (zk, .inl (cQ, (vnK v), .inr (.inr (.inr (.inr (rf (vnK v) rk))))))] ((MR cI 4 (vnC v) rc (q4 (rowF (vnC v) (fSh (vR v (vday v % 6)) (vsh v) (vfl v)) (vsh v)) (rowF (vnC v) (fCo (vco v) (vfl v)) (vco v)) (rowF (vnC v) (fBu (vR v (vday v % 6)) (vsh v) (vbu v) (vfl v)) (vbu v)) (rowF (vnC v) (fFl (vR v (vday v % 6)) (vsh v) (vco v) (vfl v)) (vfl v)))) :: (MR cI 2 (vnP v) rp (q2 (upd w1 ip 0) (vpa v))) :: (MR cI 3 (vnK v) rk (q3 (vkw v) (vka v) (vkb v))) :: sT)) _ := hP
                      have hD : va_D A (wS [(z0, .inr (4, [.ref zr, .ref zs, .ref zc, .ref zp, .ref zk, .int (nI (vday v)), .int (vcoal v), .int (vbar v), .int (vfine v), .int (vcrs v), .int (vcoin v), .int (vship v)])), (zr, .inl (cI, 6, .inl (vR v))), (zs, .inl (cI, 7, .inl (vS v))), (zc, .inl (cQ, (vnC v), .inr (.inr (.inr (.inr (rf (vnC v) rc)))))), (zp, .inl (cQ, (vnP v), .inr (.inr (.inr (.inr (rf (vnP v) rp)))))), (zk, .inl (cQ, (vnK v), .inr (.inr (.inr (.inr (rf (vnK v) rk))))))] ((MR cI 4 (vnC v) rc (q4 (rowF (vnC v) (fSh (vR v (vday v % 6)) (vsh v) (vfl v)) (vsh v)) (rowF (vnC v) (fCo (vco v) (vfl v)) (vco v)) (rowF (vnC v) (fBu (vR v (vday v % 6)) (vsh v) (vbu v) (vfl v)) (vbu v)) (rowF (vnC v) (fFl (vR v (vday v % 6)) (vsh v) (vco v) (vfl v)) (vfl v)))) :: (MR cI 2 (vnP v) rp (q2 (upd w1 ip 0) (vpa v))) :: (MR cI 3 (vnK v) rk (q3 (vkw v) (vka v) (vkb v))) :: sT)) := hD
                      refine lv_iinc (v := nI (ip + 1)) (lv' := [(4, .int (nI (ip + 1))), (5, .ref (rp ip)), (0, .ref z0), (1, .int (vR v (vday v % 6))), (2, .ref zp), (3, .int (nI (vnP v)))]) hx hb dX4_pass_229 hl (k := 5) rfl (nI_1 ip) (by decide) rfl (fun ls hl => ?_)
                      refine lv_goto (tgt := 156) hx hb dX4_pass_232 (by decide) ?_
                      exact ih156 (ip + 1) (by omega) (by omega) (upd w1 ip 0) (by rw [e_w1]; exact rowF_upd _ _ _ (wth_4 ⟨⟨(n2 ip).1, (n2 ip).2.1⟩, n5 _⟩ c_11 c_13 c_14)) _ _ (hP.part [0, 1, 2, 3, 4, 5] rfl) (hD.part [0, 1, 2, 3, 4, 5] (by decide) rfl) hS _ (lv_sub hl [2, 3, 4, 5, 0] rfl)
                    · skip
                      have c_14n := Int32.not_le.mp c_14
                      refine lv_aload hx hb dX4_pass_218 (lv_at hl 0 rfl) ?_
                      refine lv_iconst (v := 0) hx hb dX4_pass_220 (by decide) ?_
                      refine rl_ hx hb hK hP (d := 1) (r := rp) (F := q2 (upd w1 ip ((vpw v ip) + (vR v (vday v % 6)))) (vpa v)) rfl ip (by omega) 0 (rfl) (by decide) (by decide) (v := (vpw v ip) + (vR v (vday v % 6))) (pk_us) dX4_pass_221 ?_
                      refine lv_iconst (v := 3) hx hb dX4_pass_222 (by decide) ?_
                      refine lv_isub hx hb dX4_pass_223 ?_
                      refine lv_goto (tgt := 228) hx hb dX4_pass_224 (by decide) ?_
                      refine rs_ hx hb hK hP hD hS (d := 1) (r := rp) (F := q2 (upd w1 ip ((vpw v ip) + (vR v (vday v % 6)))) (vpa v)) rfl ip (by omega) 0 (rfl) (by decide) (by decide) (q2 (upd w1 ip (((vpw v ip) + (vR v (vday v % 6))) - 3)) (vpa v)) ((q2_u0 _ _ _ _).trans (by rw [upd_upd])) dX4_pass_228 (fun H locs hP hD hS => ?_)
                      have hP : va_P D vwCl (wS [(z0, .inr (4, [.ref zr, .ref zs, .ref zc, .ref zp, .ref zk, .int (nI (vday v)), .int (vcoal v), .int (vbar v), .int (vfine v), .int (vcrs v), .int (vcoin v), .int (vship v)])), (zr, .inl (cI, 6, .inl (vR v))), (zs, .inl (cI, 7, .inl (vS v))), (zc, .inl (cQ, (vnC v), .inr (.inr (.inr (.inr (rf (vnC v) rc)))))), (zp, .inl (cQ, (vnP v), .inr (.inr (.inr (.inr (rf (vnP v) rp)))))), (zk, .inl (cQ, (vnK v), .inr (.inr (.inr (.inr (rf (vnK v) rk))))))] ((MR cI 4 (vnC v) rc (q4 (rowF (vnC v) (fSh (vR v (vday v % 6)) (vsh v) (vfl v)) (vsh v)) (rowF (vnC v) (fCo (vco v) (vfl v)) (vco v)) (rowF (vnC v) (fBu (vR v (vday v % 6)) (vsh v) (vbu v) (vfl v)) (vbu v)) (rowF (vnC v) (fFl (vR v (vday v % 6)) (vsh v) (vco v) (vfl v)) (vfl v)))) :: (MR cI 2 (vnP v) rp (q2 (upd w1 ip (((vpw v ip) + (vR v (vday v % 6))) - 3)) (vpa v))) :: (MR cI 3 (vnK v) rk (q3 (vkw v) (vka v) (vkb v))) :: sT)) _ := hP
                      have hD : va_D A (wS [(z0, .inr (4, [.ref zr, .ref zs, .ref zc, .ref zp, .ref zk, .int (nI (vday v)), .int (vcoal v), .int (vbar v), .int (vfine v), .int (vcrs v), .int (vcoin v), .int (vship v)])), (zr, .inl (cI, 6, .inl (vR v))), (zs, .inl (cI, 7, .inl (vS v))), (zc, .inl (cQ, (vnC v), .inr (.inr (.inr (.inr (rf (vnC v) rc)))))), (zp, .inl (cQ, (vnP v), .inr (.inr (.inr (.inr (rf (vnP v) rp)))))), (zk, .inl (cQ, (vnK v), .inr (.inr (.inr (.inr (rf (vnK v) rk))))))] ((MR cI 4 (vnC v) rc (q4 (rowF (vnC v) (fSh (vR v (vday v % 6)) (vsh v) (vfl v)) (vsh v)) (rowF (vnC v) (fCo (vco v) (vfl v)) (vco v)) (rowF (vnC v) (fBu (vR v (vday v % 6)) (vsh v) (vbu v) (vfl v)) (vbu v)) (rowF (vnC v) (fFl (vR v (vday v % 6)) (vsh v) (vco v) (vfl v)) (vfl v)))) :: (MR cI 2 (vnP v) rp (q2 (upd w1 ip (((vpw v ip) + (vR v (vday v % 6))) - 3)) (vpa v))) :: (MR cI 3 (vnK v) rk (q3 (vkw v) (vka v) (vkb v))) :: sT)) := hD
                      refine lv_iinc (v := nI (ip + 1)) (lv' := [(4, .int (nI (ip + 1))), (5, .ref (rp ip)), (0, .ref z0), (1, .int (vR v (vday v % 6))), (2, .ref zp), (3, .int (nI (vnP v)))]) hx hb dX4_pass_229 hl (k := 5) rfl (nI_1 ip) (by decide) rfl (fun ls hl => ?_)
                      refine lv_goto (tgt := 156) hx hb dX4_pass_232 (by decide) ?_
                      exact ih156 (ip + 1) (by omega) (by omega) (upd w1 ip (((vpw v ip) + (vR v (vday v % 6))) - 3)) (by rw [e_w1]; exact rowF_upd _ _ _ (wth_3 ⟨⟨(n2 ip).1, (n2 ip).2.1⟩, n5 _⟩ c_11 c_13 c_14n)) _ _ (hP.part [0, 1, 2, 3, 4, 5] rfl) (hD.part [0, 1, 2, 3, 4, 5] (by decide) rfl) hS _ (lv_sub hl [2, 3, 4, 5, 0] rfl)
                · skip
                  have c_12n := Int32.not_le.mp c_12
                  refine lv_aload hx hb dX4_pass_196 (lv_at hl 0 rfl) ?_
                  refine lv_iconst (v := 0) hx hb dX4_pass_198 (by decide) ?_
                  refine lv_sipush (v := 400) hx hb dX4_pass_199 (by decide) ?_
                  refine rs_ hx hb hK hP hD hS (d := 1) (r := rp) (F := q2 (upd w1 ip ((vpw v ip) + (vR v (vday v % 6)))) (vpa v)) rfl ip (by omega) 0 (rfl) (by decide) (by decide) (q2 (upd w1 ip 400) (vpa v)) ((q2_u0 _ _ _ _).trans (by rw [upd_upd])) dX4_pass_202 (fun H locs hP hD hS => ?_)
                  have hP : va_P D vwCl (wS [(z0, .inr (4, [.ref zr, .ref zs, .ref zc, .ref zp, .ref zk, .int (nI (vday v)), .int (vcoal v), .int (vbar v), .int (vfine v), .int (vcrs v), .int (vcoin v), .int (vship v)])), (zr, .inl (cI, 6, .inl (vR v))), (zs, .inl (cI, 7, .inl (vS v))), (zc, .inl (cQ, (vnC v), .inr (.inr (.inr (.inr (rf (vnC v) rc)))))), (zp, .inl (cQ, (vnP v), .inr (.inr (.inr (.inr (rf (vnP v) rp)))))), (zk, .inl (cQ, (vnK v), .inr (.inr (.inr (.inr (rf (vnK v) rk))))))] ((MR cI 4 (vnC v) rc (q4 (rowF (vnC v) (fSh (vR v (vday v % 6)) (vsh v) (vfl v)) (vsh v)) (rowF (vnC v) (fCo (vco v) (vfl v)) (vco v)) (rowF (vnC v) (fBu (vR v (vday v % 6)) (vsh v) (vbu v) (vfl v)) (vbu v)) (rowF (vnC v) (fFl (vR v (vday v % 6)) (vsh v) (vco v) (vfl v)) (vfl v)))) :: (MR cI 2 (vnP v) rp (q2 (upd w1 ip 400) (vpa v))) :: (MR cI 3 (vnK v) rk (q3 (vkw v) (vka v) (vkb v))) :: sT)) _ := hP
                  have hD : va_D A (wS [(z0, .inr (4, [.ref zr, .ref zs, .ref zc, .ref zp, .ref zk, .int (nI (vday v)), .int (vcoal v), .int (vbar v), .int (vfine v), .int (vcrs v), .int (vcoin v), .int (vship v)])), (zr, .inl (cI, 6, .inl (vR v))), (zs, .inl (cI, 7, .inl (vS v))), (zc, .inl (cQ, (vnC v), .inr (.inr (.inr (.inr (rf (vnC v) rc)))))), (zp, .inl (cQ, (vnP v), .inr (.inr (.inr (.inr (rf (vnP v) rp)))))), (zk, .inl (cQ, (vnK v), .inr (.inr (.inr (.inr (rf (vnK v) rk))))))] ((MR cI 4 (vnC v) rc (q4 (rowF (vnC v) (fSh (vR v (vday v % 6)) (vsh v) (vfl v)) (vsh v)) (rowF (vnC v) (fCo (vco v) (vfl v)) (vco v)) (rowF (vnC v) (fBu (vR v (vday v % 6)) (vsh v) (vbu v) (vfl v)) (vbu v)) (rowF (vnC v) (fFl (vR v (vday v % 6)) (vsh v) (vco v) (vfl v)) (vfl v)))) :: (MR cI 2 (vnP v) rp (q2 (upd w1 ip 400) (vpa v))) :: (MR cI 3 (vnK v) rk (q3 (vkw v) (vka v) (vkb v))) :: sT)) := hD
                  refine lv_iload_n hx hb dX4_pass_203 rfl (lv_at hl 2 rfl) ?_
                  refine lv_if_ne (tgt := 229) hx hb dX4_pass_204 (by decide) (fun c_15 => ?_) (fun c_15 => ?_)
                  · skip
                    refine lv_iinc (v := nI (ip + 1)) (lv' := [(4, .int (nI (ip + 1))), (5, .ref (rp ip)), (0, .ref z0), (1, .int (vR v (vday v % 6))), (2, .ref zp), (3, .int (nI (vnP v)))]) hx hb dX4_pass_229 hl (k := 5) rfl (nI_1 ip) (by decide) rfl (fun ls hl => ?_)
                    refine lv_goto (tgt := 156) hx hb dX4_pass_232 (by decide) ?_
                    exact ih156 (ip + 1) (by omega) (by omega) (upd w1 ip 400) (by rw [e_w1]; exact rowF_upd _ _ _ (wth_2 ⟨⟨(n2 ip).1, (n2 ip).2.1⟩, n5 _⟩ c_11 c_15 c_12n)) _ _ (hP.part [0, 1, 2, 3, 4, 5] rfl) (hD.part [0, 1, 2, 3, 4, 5] (by decide) rfl) hS _ (lv_sub hl [2, 3, 4, 5, 0] rfl)
                  · skip
                    refine lv_aload hx hb dX4_pass_207 (lv_at hl 0 rfl) ?_
                    refine lv_iconst (v := 0) hx hb dX4_pass_209 (by decide) ?_
                    refine lv_aload hx hb dX4_pass_210 (lv_at hl 0 rfl) ?_
                    refine lv_iconst (v := 0) hx hb dX4_pass_212 (by decide) ?_
                    refine rl_ hx hb hK hP (d := 1) (r := rp) (F := q2 (upd w1 ip 400) (vpa v)) rfl ip (by omega) 0 (rfl) (by decide) (by decide) (v := 400) (pk_us) dX4_pass_213 ?_
                    refine lv_iconst (v := 3) hx hb dX4_pass_214 (by decide) ?_
                    refine lv_icmp_le (tgt := 227) hx hb dX4_pass_215 (by decide) (fun h => absurd h (by decide)) (fun _ => ?_)
                    refine lv_aload hx hb dX4_pass_218 (lv_at hl 0 rfl) ?_
                    refine lv_iconst (v := 0) hx hb dX4_pass_220 (by decide) ?_
                    refine rl_ hx hb hK hP (d := 1) (r := rp) (F := q2 (upd w1 ip 400) (vpa v)) rfl ip (by omega) 0 (rfl) (by decide) (by decide) (v := 400) (pk_us) dX4_pass_221 ?_
                    refine lv_iconst (v := 3) hx hb dX4_pass_222 (by decide) ?_
                    refine lv_isub hx hb dX4_pass_223 ?_
                    refine t_i 397 (by decide) ?_
                    refine lv_goto (tgt := 228) hx hb dX4_pass_224 (by decide) ?_
                    refine rs_ hx hb hK hP hD hS (d := 1) (r := rp) (F := q2 (upd w1 ip 400) (vpa v)) rfl ip (by omega) 0 (rfl) (by decide) (by decide) (q2 (upd w1 ip 397) (vpa v)) ((q2_u0 _ _ _ _).trans (by rw [upd_upd])) dX4_pass_228 (fun H locs hP hD hS => ?_)
                    have hP : va_P D vwCl (wS [(z0, .inr (4, [.ref zr, .ref zs, .ref zc, .ref zp, .ref zk, .int (nI (vday v)), .int (vcoal v), .int (vbar v), .int (vfine v), .int (vcrs v), .int (vcoin v), .int (vship v)])), (zr, .inl (cI, 6, .inl (vR v))), (zs, .inl (cI, 7, .inl (vS v))), (zc, .inl (cQ, (vnC v), .inr (.inr (.inr (.inr (rf (vnC v) rc)))))), (zp, .inl (cQ, (vnP v), .inr (.inr (.inr (.inr (rf (vnP v) rp)))))), (zk, .inl (cQ, (vnK v), .inr (.inr (.inr (.inr (rf (vnK v) rk))))))] ((MR cI 4 (vnC v) rc (q4 (rowF (vnC v) (fSh (vR v (vday v % 6)) (vsh v) (vfl v)) (vsh v)) (rowF (vnC v) (fCo (vco v) (vfl v)) (vco v)) (rowF (vnC v) (fBu (vR v (vday v % 6)) (vsh v) (vbu v) (vfl v)) (vbu v)) (rowF (vnC v) (fFl (vR v (vday v % 6)) (vsh v) (vco v) (vfl v)) (vfl v)))) :: (MR cI 2 (vnP v) rp (q2 (upd w1 ip 397) (vpa v))) :: (MR cI 3 (vnK v) rk (q3 (vkw v) (vka v) (vkb v))) :: sT)) _ := hP
                    have hD : va_D A (wS [(z0, .inr (4, [.ref zr, .ref zs, .ref zc, .ref zp, .ref zk, .int (nI (vday v)), .int (vcoal v), .int (vbar v), .int (vfine v), .int (vcrs v), .int (vcoin v), .int (vship v)])), (zr, .inl (cI, 6, .inl (vR v))), (zs, .inl (cI, 7, .inl (vS v))), (zc, .inl (cQ, (vnC v), .inr (.inr (.inr (.inr (rf (vnC v) rc)))))), (zp, .inl (cQ, (vnP v), .inr (.inr (.inr (.inr (rf (vnP v) rp)))))), (zk, .inl (cQ, (vnK v), .inr (.inr (.inr (.inr (rf (vnK v) rk))))))] ((MR cI 4 (vnC v) rc (q4 (rowF (vnC v) (fSh (vR v (vday v % 6)) (vsh v) (vfl v)) (vsh v)) (rowF (vnC v) (fCo (vco v) (vfl v)) (vco v)) (rowF (vnC v) (fBu (vR v (vday v % 6)) (vsh v) (vbu v) (vfl v)) (vbu v)) (rowF (vnC v) (fFl (vR v (vday v % 6)) (vsh v) (vco v) (vfl v)) (vfl v)))) :: (MR cI 2 (vnP v) rp (q2 (upd w1 ip 397) (vpa v))) :: (MR cI 3 (vnK v) rk (q3 (vkw v) (vka v) (vkb v))) :: sT)) := hD
                    refine lv_iinc (v := nI (ip + 1)) (lv' := [(4, .int (nI (ip + 1))), (5, .ref (rp ip)), (0, .ref z0), (1, .int (vR v (vday v % 6))), (2, .ref zp), (3, .int (nI (vnP v)))]) hx hb dX4_pass_229 hl (k := 5) rfl (nI_1 ip) (by decide) rfl (fun ls hl => ?_)
                    refine lv_goto (tgt := 156) hx hb dX4_pass_232 (by decide) ?_
                    exact ih156 (ip + 1) (by omega) (by omega) (upd w1 ip 397) (by rw [e_w1]; exact rowF_upd _ _ _ ((wth_5 ⟨⟨(n2 ip).1, (n2 ip).2.1⟩, n5 _⟩ c_15 c_12n).elim)) _ _ (hP.part [0, 1, 2, 3, 4, 5] rfl) (hD.part [0, 1, 2, 3, 4, 5] (by decide) rfl) hS _ (lv_sub hl [2, 3, 4, 5, 0] rfl)
              · skip
                refine lv_goto (tgt := 229) hx hb dX4_pass_175 (by decide) ?_
                refine lv_iinc (v := nI (ip + 1)) (lv' := [(4, .int (nI (ip + 1))), (5, .ref (rp ip)), (0, .ref z0), (1, .int (vR v (vday v % 6))), (2, .ref zp), (3, .int (nI (vnP v)))]) hx hb dX4_pass_229 hl (k := 5) rfl (nI_1 ip) (by decide) rfl (fun ls hl => ?_)
                refine lv_goto (tgt := 156) hx hb dX4_pass_232 (by decide) ?_
                exact ih156 (ip + 1) (by omega) (by omega) w1 (by rw [e_w1]; exact (rowF_same _ _ _ (by show wth _ _ = _; unfold wth; rw [if_pos (zero_le0 c_11)])).symm) _ _ (hP.part [0, 1, 2, 3, 4, 5] rfl) (hD.part [0, 1, 2, 3, 4, 5] (by decide) rfl) hS _ (lv_sub hl [2, 3, 4, 5, 0] rfl)
        exact loop156 ((vnP v) + 1) 0 (Nat.zero_le _) (by omega) (vpw v) ((rowF_0 _ _).symm) _ _ (hP.part [0, 1, 2, 3, 4, 5] rfl) (hD.part [0, 1, 2, 3, 4, 5] (by decide) rfl) hS _ (lv_sub hl [3, 4, 2, 1, 0] rfl)
      · skip
        have c_1n := Int32.not_le.mp c_1
        have c_1m := (nI_ltI (a := i) (b := vnC v) (by omega) (by omega)).mp c_1n
        refine lv_aload_n hx hb dX4_pass_30 rfl (lv_at hl 2 rfl) ?_
        refine lv_iload hx hb dX4_pass_31 (lv_at hl 4 rfl) ?_
        refine l_ax hx hb hK hP 3 (r := rc) rfl i (rfl) (by omega) (by omega) (by omega) dX4_pass_33 ?_
        refine lv_astore (lv' := [(5, .ref (rc i)), (0, .ref z0), (1, .int (vR v (vday v % 6))), (2, .ref zc), (3, .int (nI (vnC v))), (4, .int (nI i))]) hx hb dX4_pass_34 hl (by decide) rfl (fun ls hl => ?_)
        refine lv_aload hx hb dX4_pass_36 (lv_at hl 0 rfl) ?_
        refine lv_iconst (v := 3) hx hb dX4_pass_38 (by decide) ?_
        refine rl_ hx hb hK hP (d := 0) (r := rc) (F := q4 sh1 co1 bu1 fl1) rfl i (by omega) 3 (rfl) (by decide) (by decide) (v := vfl v i) (by rw [e_fl1]; exact rowF_at _ _ _ (Nat.le_refl _)) dX4_pass_39 ?_
        refine lv_if_ne (tgt := 46) hx hb dX4_pass_40 (by decide) (fun c_16 => ?_) (fun c_16 => ?_)
        · skip
          refine lv_iconst (v := 0) hx hb dX4_pass_46 (by decide) ?_
          refine lv_istore (lv' := [(6, .int 0), (5, .ref (rc i)), (0, .ref z0), (1, .int (vR v (vday v % 6))), (2, .ref zc), (3, .int (nI (vnC v))), (4, .int (nI i))]) hx hb dX4_pass_47 hl (by decide) rfl (fun ls hl => ?_)
          have hs : 0 ≤ (vsh v i).toInt ∧ (vsh v i).toInt ≤ 200 := by have q := n1 i; unfold toI at q; omega
          obtain ⟨mm, hmm, emm, ehm⟩ := burn_n (r := (vR v (vday v % 6))) hs.1
          have loop49 : ∀ (kf49 k : Nat), k ≤ mm → mm < k + kf49 → ∀ (a : Int32) (b : Int32), a = vsh v i - nI k → b = vbu v i + nI k → ∀ (H : Heap) (locs : List Loc), va_P D vwCl (wS [(z0, .inr (4, [.ref zr, .ref zs, .ref zc, .ref zp, .ref zk, .int (nI (vday v)), .int (vcoal v), .int (vbar v), .int (vfine v), .int (vcrs v), .int (vcoin v), .int (vship v)])), (zr, .inl (cI, 6, .inl (vR v))), (zs, .inl (cI, 7, .inl (vS v))), (zc, .inl (cQ, (vnC v), .inr (.inr (.inr (.inr (rf (vnC v) rc)))))), (zp, .inl (cQ, (vnP v), .inr (.inr (.inr (.inr (rf (vnP v) rp)))))), (zk, .inl (cQ, (vnK v), .inr (.inr (.inr (.inr (rf (vnK v) rk))))))] ((MR cI 4 (vnC v) rc (q4 (upd sh1 i a) co1 (upd bu1 i b) fl1)) :: (MR cI 2 (vnP v) rp (q2 (vpw v) (vpa v))) :: (MR cI 3 (vnK v) rk (q3 (vkw v) (vka v) (vkb v))) :: sT)) H → va_D A (wS [(z0, .inr (4, [.ref zr, .ref zs, .ref zc, .ref zp, .ref zk, .int (nI (vday v)), .int (vcoal v), .int (vbar v), .int (vfine v), .int (vcrs v), .int (vcoin v), .int (vship v)])), (zr, .inl (cI, 6, .inl (vR v))), (zs, .inl (cI, 7, .inl (vS v))), (zc, .inl (cQ, (vnC v), .inr (.inr (.inr (.inr (rf (vnC v) rc)))))), (zp, .inl (cQ, (vnP v), .inr (.inr (.inr (.inr (rf (vnP v) rp)))))), (zk, .inl (cQ, (vnK v), .inr (.inr (.inr (.inr (rf (vnK v) rk))))))] ((MR cI 4 (vnC v) rc (q4 (upd sh1 i a) co1 (upd bu1 i b) fl1)) :: (MR cI 2 (vnP v) rp (q2 (vpw v) (vpa v))) :: (MR cI 3 (vnK v) rk (q3 (vkw v) (vka v) (vkb v))) :: sT)) → va_S A s.heap H locs → ∀ (ls : Array Slot), lv_has ls 7 [(0, .ref z0), (1, .int (vR v (vday v % 6))), (2, .ref zc), (3, .int (nI (vnC v))), (4, .int (nI i)), (5, .ref (rc i)), (6, .int (nI k))] → W p l e rm_X4_pass s m args below meth c H locs 0 0 Q (F0 m 49 ls []) := by
            intro kf49
            induction kf49 with
            | zero =>
              intro k hle49 hlt49
              exact absurd hlt49 (by omega)
            | succ kf49 ih49 =>
              intro k hle49 hlt49 a b e_a e_b H locs hP hD hS ls hl
              refine lv_iload hx hb dX4_pass_49 (lv_at hl 6 rfl) ?_
              refine w_cut (J := 62) (rest := [.int (nI k)]) (bDaily (vR v (vday v % 6))) ?_ (fun jn_51_505 => ?_)
              · skip
                refine lv_icmp_ge (tgt := 94) hx hb dX4_pass_62 (by decide) (fun c_17 => ?_) (fun c_17 => ?_)
                · skip
                  have c_17n := Int32.not_lt.mpr c_17
                  have kx := (burn_T (k := k) hs ehm).2.1 c_17 hle49
                  refine lv_aload hx hb dX4_pass_94 (lv_at hl 5 rfl) ?_
                  refine lv_iconst (v := 1) hx hb dX4_pass_96 (by decide) ?_
                  refine w_cut (J := 115) (rest := [.int 1, .ref (rc i)]) (mx 0 (vco v i - 2)) ?_ (fun jn_97_513 => ?_)
                  · skip
                    refine rs_ hx hb hK hP hD hS (d := 0) (r := rc) (F := q4 (upd sh1 i a) co1 (upd bu1 i b) fl1) rfl i (by omega) 1 (rfl) (by decide) (by decide) (q4 (upd sh1 i a) (upd co1 i (mx 0 (vco v i - 2))) (upd bu1 i b) fl1) (q4_u1 _ _ _ _ _ _) dX4_pass_115 (fun H locs hP hD hS => ?_)
                    have hP : va_P D vwCl (wS [(z0, .inr (4, [.ref zr, .ref zs, .ref zc, .ref zp, .ref zk, .int (nI (vday v)), .int (vcoal v), .int (vbar v), .int (vfine v), .int (vcrs v), .int (vcoin v), .int (vship v)])), (zr, .inl (cI, 6, .inl (vR v))), (zs, .inl (cI, 7, .inl (vS v))), (zc, .inl (cQ, (vnC v), .inr (.inr (.inr (.inr (rf (vnC v) rc)))))), (zp, .inl (cQ, (vnP v), .inr (.inr (.inr (.inr (rf (vnP v) rp)))))), (zk, .inl (cQ, (vnK v), .inr (.inr (.inr (.inr (rf (vnK v) rk))))))] ((MR cI 4 (vnC v) rc (q4 (upd sh1 i a) (upd co1 i (mx 0 (vco v i - 2))) (upd bu1 i b) fl1)) :: (MR cI 2 (vnP v) rp (q2 (vpw v) (vpa v))) :: (MR cI 3 (vnK v) rk (q3 (vkw v) (vka v) (vkb v))) :: sT)) _ := hP
                    have hD : va_D A (wS [(z0, .inr (4, [.ref zr, .ref zs, .ref zc, .ref zp, .ref zk, .int (nI (vday v)), .int (vcoal v), .int (vbar v), .int (vfine v), .int (vcrs v), .int (vcoin v), .int (vship v)])), (zr, .inl (cI, 6, .inl (vR v))), (zs, .inl (cI, 7, .inl (vS v))), (zc, .inl (cQ, (vnC v), .inr (.inr (.inr (.inr (rf (vnC v) rc)))))), (zp, .inl (cQ, (vnP v), .inr (.inr (.inr (.inr (rf (vnP v) rp)))))), (zk, .inl (cQ, (vnK v), .inr (.inr (.inr (.inr (rf (vnK v) rk))))))] ((MR cI 4 (vnC v) rc (q4 (upd sh1 i a) (upd co1 i (mx 0 (vco v i - 2))) (upd bu1 i b) fl1)) :: (MR cI 2 (vnP v) rp (q2 (vpw v) (vpa v))) :: (MR cI 3 (vnK v) rk (q3 (vkw v) (vka v) (vkb v))) :: sT)) := hD
                    refine lv_aload hx hb dX4_pass_116 (lv_at hl 5 rfl) ?_
                    refine lv_iconst (v := 3) hx hb dX4_pass_118 (by decide) ?_
                    refine w_cut (J := 138) (rest := [.int 3, .ref (rc i)]) (bFl (mx 0 (vco v i - 2)) (vsh v i - bPart (vR v (vday v % 6)) (vsh v i))) ?_ (fun jn_119_520 => ?_)
                    · skip
                      refine rs_ hx hb hK hP hD hS (d := 0) (r := rc) (F := q4 (upd sh1 i a) (upd co1 i (mx 0 (vco v i - 2))) (upd bu1 i b) fl1) rfl i (by omega) 3 (rfl) (by decide) (by decide) (q4 (upd sh1 i a) (upd co1 i (mx 0 (vco v i - 2))) (upd bu1 i b) (upd fl1 i (bFl (mx 0 (vco v i - 2)) (vsh v i - bPart (vR v (vday v % 6)) (vsh v i))))) (q4_u3 _ _ _ _ _ _) dX4_pass_138 (fun H locs hP hD hS => ?_)
                      have hP : va_P D vwCl (wS [(z0, .inr (4, [.ref zr, .ref zs, .ref zc, .ref zp, .ref zk, .int (nI (vday v)), .int (vcoal v), .int (vbar v), .int (vfine v), .int (vcrs v), .int (vcoin v), .int (vship v)])), (zr, .inl (cI, 6, .inl (vR v))), (zs, .inl (cI, 7, .inl (vS v))), (zc, .inl (cQ, (vnC v), .inr (.inr (.inr (.inr (rf (vnC v) rc)))))), (zp, .inl (cQ, (vnP v), .inr (.inr (.inr (.inr (rf (vnP v) rp)))))), (zk, .inl (cQ, (vnK v), .inr (.inr (.inr (.inr (rf (vnK v) rk))))))] ((MR cI 4 (vnC v) rc (q4 (upd sh1 i a) (upd co1 i (mx 0 (vco v i - 2))) (upd bu1 i b) (upd fl1 i (bFl (mx 0 (vco v i - 2)) (vsh v i - bPart (vR v (vday v % 6)) (vsh v i)))))) :: (MR cI 2 (vnP v) rp (q2 (vpw v) (vpa v))) :: (MR cI 3 (vnK v) rk (q3 (vkw v) (vka v) (vkb v))) :: sT)) _ := hP
                      have hD : va_D A (wS [(z0, .inr (4, [.ref zr, .ref zs, .ref zc, .ref zp, .ref zk, .int (nI (vday v)), .int (vcoal v), .int (vbar v), .int (vfine v), .int (vcrs v), .int (vcoin v), .int (vship v)])), (zr, .inl (cI, 6, .inl (vR v))), (zs, .inl (cI, 7, .inl (vS v))), (zc, .inl (cQ, (vnC v), .inr (.inr (.inr (.inr (rf (vnC v) rc)))))), (zp, .inl (cQ, (vnP v), .inr (.inr (.inr (.inr (rf (vnP v) rp)))))), (zk, .inl (cQ, (vnK v), .inr (.inr (.inr (.inr (rf (vnK v) rk))))))] ((MR cI 4 (vnC v) rc (q4 (upd sh1 i a) (upd co1 i (mx 0 (vco v i - 2))) (upd bu1 i b) (upd fl1 i (bFl (mx 0 (vco v i - 2)) (vsh v i - bPart (vR v (vday v % 6)) (vsh v i)))))) :: (MR cI 2 (vnP v) rp (q2 (vpw v) (vpa v))) :: (MR cI 3 (vnK v) rk (q3 (vkw v) (vka v) (vkb v))) :: sT)) := hD
                      refine lv_iinc (v := nI (i + 1)) (lv' := [(4, .int (nI (i + 1))), (0, .ref z0), (1, .int (vR v (vday v % 6))), (2, .ref zc), (3, .int (nI (vnC v))), (5, .ref (rc i)), (6, .int (nI k))]) hx hb dX4_pass_139 hl (k := 4) rfl (nI_1 i) (by decide) rfl (fun ls hl => ?_)
                      refine lv_goto (tgt := 24) hx hb dX4_pass_142 (by decide) ?_
                      exact ih24 (i + 1) (by omega) (by omega) (upd sh1 i a) (upd co1 i (mx 0 (vco v i - 2))) (upd bu1 i b) (upd fl1 i (bFl (mx 0 (vco v i - 2)) (vsh v i - bPart (vR v (vday v % 6)) (vsh v i)))) (by rw [e_sh1]; exact rowF_upd _ _ _ (by simp only [fSh, eq_false c_1, eq_true c_1n, eq_false c_16, eq_true c_17, eq_false c_17n, if_false]; rw [e_a, kx, ← emm])) (by rw [e_co1]; exact rowF_upd _ _ _ (by simp only [fCo, eq_false c_1, eq_true c_1n, eq_false c_16, eq_true c_17, eq_false c_17n, if_false])) (by rw [e_bu1]; exact rowF_upd _ _ _ (by simp only [fBu, eq_false c_1, eq_true c_1n, eq_false c_16, eq_true c_17, eq_false c_17n, if_false]; rw [e_b, kx, ← emm])) (by rw [e_fl1]; exact rowF_upd _ _ _ (by simp only [fFl, eq_false c_1, eq_true c_1n, eq_false c_16, eq_true c_17, eq_false c_17n, if_false])) _ _ (hP.part [0, 1, 2, 3, 4, 5] rfl) (hD.part [0, 1, 2, 3, 4, 5] (by decide) rfl) hS _ (lv_sub hl [1, 2, 3, 4, 0] rfl)
                    · skip
                      refine lv_aload hx hb dX4_pass_119 (lv_at hl 5 rfl) ?_
                      refine lv_iconst (v := 0) hx hb dX4_pass_121 (by decide) ?_
                      refine rl_ hx hb hK hP (d := 0) (r := rc) (F := q4 (upd sh1 i a) (upd co1 i (mx 0 (vco v i - 2))) (upd bu1 i b) fl1) rfl i (by omega) 0 (rfl) (by decide) (by decide) (v := vsh v i - bPart (vR v (vday v % 6)) (vsh v i)) (pk_us.trans (by rw [e_a, kx, emm])) dX4_pass_122 ?_
                      refine lv_if_le (tgt := 137) hx hb dX4_pass_123 (by decide) (fun c_18 => ?_) (fun c_18 => ?_)
                      · skip
                        have c_18n := Int32.not_lt.mpr c_18
                        refine lv_iconst (v := 0) hx hb dX4_pass_137 (by decide) ?_
                        refine t_i (bFl (mx 0 (vco v i - 2)) (vsh v i - bPart (vR v (vday v % 6)) (vsh v i))) (by simp only [bFl, eq_false c_1, eq_true c_1n, eq_false c_16, eq_true c_17, eq_false c_17n, eq_true c_18, eq_false c_18n, if_true, if_false, ite_self]) ?_
                        exact jn_119_520
                      · skip
                        have c_18n := Int32.not_le.mp c_18
                        refine lv_aload hx hb dX4_pass_126 (lv_at hl 5 rfl) ?_
                        refine lv_iconst (v := 1) hx hb dX4_pass_128 (by decide) ?_
                        refine rl_ hx hb hK hP (d := 0) (r := rc) (F := q4 (upd sh1 i a) (upd co1 i (mx 0 (vco v i - 2))) (upd bu1 i b) fl1) rfl i (by omega) 1 (rfl) (by decide) (by decide) (v := mx 0 (vco v i - 2)) (pk_us) dX4_pass_129 ?_
                        refine lv_if_le (tgt := 137) hx hb dX4_pass_130 (by decide) (fun c_19 => ?_) (fun c_19 => ?_)
                        · skip
                          have c_19n := Int32.not_lt.mpr c_19
                          refine lv_iconst (v := 0) hx hb dX4_pass_137 (by decide) ?_
                          refine t_i (bFl (mx 0 (vco v i - 2)) (vsh v i - bPart (vR v (vday v % 6)) (vsh v i))) (by simp only [bFl, eq_false c_1, eq_true c_1n, eq_false c_16, eq_true c_17, eq_false c_17n, eq_false c_18, eq_true c_18n, eq_true c_19, eq_false c_19n, if_true, if_false, ite_self]) ?_
                          exact jn_119_520
                        · skip
                          have c_19n := Int32.not_le.mp c_19
                          refine lv_iconst (v := 1) hx hb dX4_pass_133 (by decide) ?_
                          refine lv_goto (tgt := 138) hx hb dX4_pass_134 (by decide) ?_
                          refine t_i (bFl (mx 0 (vco v i - 2)) (vsh v i - bPart (vR v (vday v % 6)) (vsh v i))) (by simp only [bFl, eq_false c_1, eq_true c_1n, eq_false c_16, eq_true c_17, eq_false c_17n, eq_false c_18, eq_true c_18n, eq_false c_19, eq_true c_19n, if_true, if_false, ite_self]) ?_
                          exact jn_119_520
                  · skip
                    refine lv_aload hx hb dX4_pass_97 (lv_at hl 5 rfl) ?_
                    refine lv_iconst (v := 1) hx hb dX4_pass_99 (by decide) ?_
                    refine rl_ hx hb hK hP (d := 0) (r := rc) (F := q4 (upd sh1 i a) co1 (upd bu1 i b) fl1) rfl i (by omega) 1 (rfl) (by decide) (by decide) (v := vco v i) (by rw [e_co1]; exact rowF_at _ _ _ (Nat.le_refl _)) dX4_pass_100 ?_
                    refine lv_iconst (v := 2) hx hb dX4_pass_101 (by decide) ?_
                    refine lv_icmp_le (tgt := 114) hx hb dX4_pass_102 (by decide) (fun c_20 => ?_) (fun c_20 => ?_)
                    · skip
                      have c_20n := Int32.not_lt.mpr c_20
                      refine lv_iconst (v := 0) hx hb dX4_pass_114 (by decide) ?_
                      refine t_i (mx 0 (vco v i - 2)) (mx_b (x1 i).1 c_20) ?_
                      exact jn_97_513
                    · skip
                      have c_20n := Int32.not_le.mp c_20
                      refine lv_aload hx hb dX4_pass_105 (lv_at hl 5 rfl) ?_
                      refine lv_iconst (v := 1) hx hb dX4_pass_107 (by decide) ?_
                      refine rl_ hx hb hK hP (d := 0) (r := rc) (F := q4 (upd sh1 i a) co1 (upd bu1 i b) fl1) rfl i (by omega) 1 (rfl) (by decide) (by decide) (v := vco v i) (by rw [e_co1]; exact rowF_at _ _ _ (Nat.le_refl _)) dX4_pass_108 ?_
                      refine lv_iconst (v := 2) hx hb dX4_pass_109 (by decide) ?_
                      refine lv_isub hx hb dX4_pass_110 ?_
                      refine lv_goto (tgt := 115) hx hb dX4_pass_111 (by decide) ?_
                      refine t_i (mx 0 (vco v i - 2)) (mx_a (by decide) c_20n) ?_
                      exact jn_97_513
                · skip
                  have c_17n := Int32.not_le.mp c_17
                  refine lv_aload hx hb dX4_pass_65 (lv_at hl 5 rfl) ?_
                  refine lv_iconst (v := 0) hx hb dX4_pass_67 (by decide) ?_
                  refine rl_ hx hb hK hP (d := 0) (r := rc) (F := q4 (upd sh1 i a) co1 (upd bu1 i b) fl1) rfl i (by omega) 0 (rfl) (by decide) (by decide) (v := vsh v i - nI k) (pk_us.trans e_a) dX4_pass_68 ?_
                  refine lv_if_le (tgt := 94) hx hb dX4_pass_69 (by decide) (fun c_21 => ?_) (fun c_21 => ?_)
                  · skip
                    have c_21n := Int32.not_lt.mpr c_21
                    have kx := (burn_T (k := k) hs ehm).2.2 c_21 hle49
                    refine lv_aload hx hb dX4_pass_94 (lv_at hl 5 rfl) ?_
                    refine lv_iconst (v := 1) hx hb dX4_pass_96 (by decide) ?_
                    refine w_cut (J := 115) (rest := [.int 1, .ref (rc i)]) (mx 0 (vco v i - 2)) ?_ (fun jn_97_587 => ?_)
                    · skip
                      refine rs_ hx hb hK hP hD hS (d := 0) (r := rc) (F := q4 (upd sh1 i a) co1 (upd bu1 i b) fl1) rfl i (by omega) 1 (rfl) (by decide) (by decide) (q4 (upd sh1 i a) (upd co1 i (mx 0 (vco v i - 2))) (upd bu1 i b) fl1) (q4_u1 _ _ _ _ _ _) dX4_pass_115 (fun H locs hP hD hS => ?_)
                      have hP : va_P D vwCl (wS [(z0, .inr (4, [.ref zr, .ref zs, .ref zc, .ref zp, .ref zk, .int (nI (vday v)), .int (vcoal v), .int (vbar v), .int (vfine v), .int (vcrs v), .int (vcoin v), .int (vship v)])), (zr, .inl (cI, 6, .inl (vR v))), (zs, .inl (cI, 7, .inl (vS v))), (zc, .inl (cQ, (vnC v), .inr (.inr (.inr (.inr (rf (vnC v) rc)))))), (zp, .inl (cQ, (vnP v), .inr (.inr (.inr (.inr (rf (vnP v) rp)))))), (zk, .inl (cQ, (vnK v), .inr (.inr (.inr (.inr (rf (vnK v) rk))))))] ((MR cI 4 (vnC v) rc (q4 (upd sh1 i a) (upd co1 i (mx 0 (vco v i - 2))) (upd bu1 i b) fl1)) :: (MR cI 2 (vnP v) rp (q2 (vpw v) (vpa v))) :: (MR cI 3 (vnK v) rk (q3 (vkw v) (vka v) (vkb v))) :: sT)) _ := hP
                      have hD : va_D A (wS [(z0, .inr (4, [.ref zr, .ref zs, .ref zc, .ref zp, .ref zk, .int (nI (vday v)), .int (vcoal v), .int (vbar v), .int (vfine v), .int (vcrs v), .int (vcoin v), .int (vship v)])), (zr, .inl (cI, 6, .inl (vR v))), (zs, .inl (cI, 7, .inl (vS v))), (zc, .inl (cQ, (vnC v), .inr (.inr (.inr (.inr (rf (vnC v) rc)))))), (zp, .inl (cQ, (vnP v), .inr (.inr (.inr (.inr (rf (vnP v) rp)))))), (zk, .inl (cQ, (vnK v), .inr (.inr (.inr (.inr (rf (vnK v) rk))))))] ((MR cI 4 (vnC v) rc (q4 (upd sh1 i a) (upd co1 i (mx 0 (vco v i - 2))) (upd bu1 i b) fl1)) :: (MR cI 2 (vnP v) rp (q2 (vpw v) (vpa v))) :: (MR cI 3 (vnK v) rk (q3 (vkw v) (vka v) (vkb v))) :: sT)) := hD
                      refine lv_aload hx hb dX4_pass_116 (lv_at hl 5 rfl) ?_
                      refine lv_iconst (v := 3) hx hb dX4_pass_118 (by decide) ?_
                      refine w_cut (J := 138) (rest := [.int 3, .ref (rc i)]) (bFl (mx 0 (vco v i - 2)) (vsh v i - bPart (vR v (vday v % 6)) (vsh v i))) ?_ (fun jn_119_594 => ?_)
                      · skip
                        refine rs_ hx hb hK hP hD hS (d := 0) (r := rc) (F := q4 (upd sh1 i a) (upd co1 i (mx 0 (vco v i - 2))) (upd bu1 i b) fl1) rfl i (by omega) 3 (rfl) (by decide) (by decide) (q4 (upd sh1 i a) (upd co1 i (mx 0 (vco v i - 2))) (upd bu1 i b) (upd fl1 i (bFl (mx 0 (vco v i - 2)) (vsh v i - bPart (vR v (vday v % 6)) (vsh v i))))) (q4_u3 _ _ _ _ _ _) dX4_pass_138 (fun H locs hP hD hS => ?_)
                        have hP : va_P D vwCl (wS [(z0, .inr (4, [.ref zr, .ref zs, .ref zc, .ref zp, .ref zk, .int (nI (vday v)), .int (vcoal v), .int (vbar v), .int (vfine v), .int (vcrs v), .int (vcoin v), .int (vship v)])), (zr, .inl (cI, 6, .inl (vR v))), (zs, .inl (cI, 7, .inl (vS v))), (zc, .inl (cQ, (vnC v), .inr (.inr (.inr (.inr (rf (vnC v) rc)))))), (zp, .inl (cQ, (vnP v), .inr (.inr (.inr (.inr (rf (vnP v) rp)))))), (zk, .inl (cQ, (vnK v), .inr (.inr (.inr (.inr (rf (vnK v) rk))))))] ((MR cI 4 (vnC v) rc (q4 (upd sh1 i a) (upd co1 i (mx 0 (vco v i - 2))) (upd bu1 i b) (upd fl1 i (bFl (mx 0 (vco v i - 2)) (vsh v i - bPart (vR v (vday v % 6)) (vsh v i)))))) :: (MR cI 2 (vnP v) rp (q2 (vpw v) (vpa v))) :: (MR cI 3 (vnK v) rk (q3 (vkw v) (vka v) (vkb v))) :: sT)) _ := hP
                        have hD : va_D A (wS [(z0, .inr (4, [.ref zr, .ref zs, .ref zc, .ref zp, .ref zk, .int (nI (vday v)), .int (vcoal v), .int (vbar v), .int (vfine v), .int (vcrs v), .int (vcoin v), .int (vship v)])), (zr, .inl (cI, 6, .inl (vR v))), (zs, .inl (cI, 7, .inl (vS v))), (zc, .inl (cQ, (vnC v), .inr (.inr (.inr (.inr (rf (vnC v) rc)))))), (zp, .inl (cQ, (vnP v), .inr (.inr (.inr (.inr (rf (vnP v) rp)))))), (zk, .inl (cQ, (vnK v), .inr (.inr (.inr (.inr (rf (vnK v) rk))))))] ((MR cI 4 (vnC v) rc (q4 (upd sh1 i a) (upd co1 i (mx 0 (vco v i - 2))) (upd bu1 i b) (upd fl1 i (bFl (mx 0 (vco v i - 2)) (vsh v i - bPart (vR v (vday v % 6)) (vsh v i)))))) :: (MR cI 2 (vnP v) rp (q2 (vpw v) (vpa v))) :: (MR cI 3 (vnK v) rk (q3 (vkw v) (vka v) (vkb v))) :: sT)) := hD
                        refine lv_iinc (v := nI (i + 1)) (lv' := [(4, .int (nI (i + 1))), (0, .ref z0), (1, .int (vR v (vday v % 6))), (2, .ref zc), (3, .int (nI (vnC v))), (5, .ref (rc i)), (6, .int (nI k))]) hx hb dX4_pass_139 hl (k := 4) rfl (nI_1 i) (by decide) rfl (fun ls hl => ?_)
                        refine lv_goto (tgt := 24) hx hb dX4_pass_142 (by decide) ?_
                        exact ih24 (i + 1) (by omega) (by omega) (upd sh1 i a) (upd co1 i (mx 0 (vco v i - 2))) (upd bu1 i b) (upd fl1 i (bFl (mx 0 (vco v i - 2)) (vsh v i - bPart (vR v (vday v % 6)) (vsh v i)))) (by rw [e_sh1]; exact rowF_upd _ _ _ (by simp only [fSh, eq_false c_1, eq_true c_1n, eq_false c_16, eq_false c_17, eq_true c_17n, eq_true c_21, eq_false c_21n, if_false]; rw [e_a, kx, ← emm])) (by rw [e_co1]; exact rowF_upd _ _ _ (by simp only [fCo, eq_false c_1, eq_true c_1n, eq_false c_16, eq_false c_17, eq_true c_17n, eq_true c_21, eq_false c_21n, if_false])) (by rw [e_bu1]; exact rowF_upd _ _ _ (by simp only [fBu, eq_false c_1, eq_true c_1n, eq_false c_16, eq_false c_17, eq_true c_17n, eq_true c_21, eq_false c_21n, if_false]; rw [e_b, kx, ← emm])) (by rw [e_fl1]; exact rowF_upd _ _ _ (by simp only [fFl, eq_false c_1, eq_true c_1n, eq_false c_16, eq_false c_17, eq_true c_17n, eq_true c_21, eq_false c_21n, if_false])) _ _ (hP.part [0, 1, 2, 3, 4, 5] rfl) (hD.part [0, 1, 2, 3, 4, 5] (by decide) rfl) hS _ (lv_sub hl [1, 2, 3, 4, 0] rfl)
                      · skip
                        refine lv_aload hx hb dX4_pass_119 (lv_at hl 5 rfl) ?_
                        refine lv_iconst (v := 0) hx hb dX4_pass_121 (by decide) ?_
                        refine rl_ hx hb hK hP (d := 0) (r := rc) (F := q4 (upd sh1 i a) (upd co1 i (mx 0 (vco v i - 2))) (upd bu1 i b) fl1) rfl i (by omega) 0 (rfl) (by decide) (by decide) (v := vsh v i - bPart (vR v (vday v % 6)) (vsh v i)) (pk_us.trans (by rw [e_a, kx, emm])) dX4_pass_122 ?_
                        refine lv_if_le (tgt := 137) hx hb dX4_pass_123 (by decide) (fun c_22 => ?_) (fun c_22 => ?_)
                        · skip
                          have c_22n := Int32.not_lt.mpr c_22
                          refine lv_iconst (v := 0) hx hb dX4_pass_137 (by decide) ?_
                          refine t_i (bFl (mx 0 (vco v i - 2)) (vsh v i - bPart (vR v (vday v % 6)) (vsh v i))) (by simp only [bFl, eq_false c_1, eq_true c_1n, eq_false c_16, eq_false c_17, eq_true c_17n, eq_true c_21, eq_false c_21n, eq_true c_22, eq_false c_22n, if_true, if_false, ite_self]) ?_
                          exact jn_119_594
                        · skip
                          have c_22n := Int32.not_le.mp c_22
                          refine lv_aload hx hb dX4_pass_126 (lv_at hl 5 rfl) ?_
                          refine lv_iconst (v := 1) hx hb dX4_pass_128 (by decide) ?_
                          refine rl_ hx hb hK hP (d := 0) (r := rc) (F := q4 (upd sh1 i a) (upd co1 i (mx 0 (vco v i - 2))) (upd bu1 i b) fl1) rfl i (by omega) 1 (rfl) (by decide) (by decide) (v := mx 0 (vco v i - 2)) (pk_us) dX4_pass_129 ?_
                          refine lv_if_le (tgt := 137) hx hb dX4_pass_130 (by decide) (fun c_23 => ?_) (fun c_23 => ?_)
                          · skip
                            have c_23n := Int32.not_lt.mpr c_23
                            refine lv_iconst (v := 0) hx hb dX4_pass_137 (by decide) ?_
                            refine t_i (bFl (mx 0 (vco v i - 2)) (vsh v i - bPart (vR v (vday v % 6)) (vsh v i))) (by simp only [bFl, eq_false c_1, eq_true c_1n, eq_false c_16, eq_false c_17, eq_true c_17n, eq_true c_21, eq_false c_21n, eq_false c_22, eq_true c_22n, eq_true c_23, eq_false c_23n, if_true, if_false, ite_self]) ?_
                            exact jn_119_594
                          · skip
                            have c_23n := Int32.not_le.mp c_23
                            refine lv_iconst (v := 1) hx hb dX4_pass_133 (by decide) ?_
                            refine lv_goto (tgt := 138) hx hb dX4_pass_134 (by decide) ?_
                            refine t_i (bFl (mx 0 (vco v i - 2)) (vsh v i - bPart (vR v (vday v % 6)) (vsh v i))) (by simp only [bFl, eq_false c_1, eq_true c_1n, eq_false c_16, eq_false c_17, eq_true c_17n, eq_true c_21, eq_false c_21n, eq_false c_22, eq_true c_22n, eq_false c_23, eq_true c_23n, if_true, if_false, ite_self]) ?_
                            exact jn_119_594
                    · skip
                      refine lv_aload hx hb dX4_pass_97 (lv_at hl 5 rfl) ?_
                      refine lv_iconst (v := 1) hx hb dX4_pass_99 (by decide) ?_
                      refine rl_ hx hb hK hP (d := 0) (r := rc) (F := q4 (upd sh1 i a) co1 (upd bu1 i b) fl1) rfl i (by omega) 1 (rfl) (by decide) (by decide) (v := vco v i) (by rw [e_co1]; exact rowF_at _ _ _ (Nat.le_refl _)) dX4_pass_100 ?_
                      refine lv_iconst (v := 2) hx hb dX4_pass_101 (by decide) ?_
                      refine lv_icmp_le (tgt := 114) hx hb dX4_pass_102 (by decide) (fun c_24 => ?_) (fun c_24 => ?_)
                      · skip
                        have c_24n := Int32.not_lt.mpr c_24
                        refine lv_iconst (v := 0) hx hb dX4_pass_114 (by decide) ?_
                        refine t_i (mx 0 (vco v i - 2)) (mx_b (x1 i).1 c_24) ?_
                        exact jn_97_587
                      · skip
                        have c_24n := Int32.not_le.mp c_24
                        refine lv_aload hx hb dX4_pass_105 (lv_at hl 5 rfl) ?_
                        refine lv_iconst (v := 1) hx hb dX4_pass_107 (by decide) ?_
                        refine rl_ hx hb hK hP (d := 0) (r := rc) (F := q4 (upd sh1 i a) co1 (upd bu1 i b) fl1) rfl i (by omega) 1 (rfl) (by decide) (by decide) (v := vco v i) (by rw [e_co1]; exact rowF_at _ _ _ (Nat.le_refl _)) dX4_pass_108 ?_
                        refine lv_iconst (v := 2) hx hb dX4_pass_109 (by decide) ?_
                        refine lv_isub hx hb dX4_pass_110 ?_
                        refine lv_goto (tgt := 115) hx hb dX4_pass_111 (by decide) ?_
                        refine t_i (mx 0 (vco v i - 2)) (mx_a (by decide) c_24n) ?_
                        exact jn_97_587
                  · skip
                    have c_21n := Int32.not_le.mp c_21
                    refine lv_aload hx hb dX4_pass_72 (lv_at hl 5 rfl) ?_
                    refine lv_iconst (v := 0) hx hb dX4_pass_74 (by decide) ?_
                    refine lv_dup2_11 hx hb dX4_pass_75 rfl rfl ?_
                    refine rl_ hx hb hK hP (d := 0) (r := rc) (F := q4 (upd sh1 i a) co1 (upd bu1 i b) fl1) rfl i (by omega) 0 (rfl) (by decide) (by decide) (v := a) (pk_us) dX4_pass_76 ?_
                    refine lv_iconst (v := 1) hx hb dX4_pass_77 (by decide) ?_
                    refine lv_isub hx hb dX4_pass_78 ?_
                    refine rs_ hx hb hK hP hD hS (d := 0) (r := rc) (F := q4 (upd sh1 i a) co1 (upd bu1 i b) fl1) rfl i (by omega) 0 (rfl) (by decide) (by decide) (q4 (upd sh1 i (a - 1)) co1 (upd bu1 i b) fl1) ((q4_u0 _ _ _ _ _ _).trans (by rw [upd_upd])) dX4_pass_79 (fun H locs hP hD hS => ?_)
                    have hP : va_P D vwCl (wS [(z0, .inr (4, [.ref zr, .ref zs, .ref zc, .ref zp, .ref zk, .int (nI (vday v)), .int (vcoal v), .int (vbar v), .int (vfine v), .int (vcrs v), .int (vcoin v), .int (vship v)])), (zr, .inl (cI, 6, .inl (vR v))), (zs, .inl (cI, 7, .inl (vS v))), (zc, .inl (cQ, (vnC v), .inr (.inr (.inr (.inr (rf (vnC v) rc)))))), (zp, .inl (cQ, (vnP v), .inr (.inr (.inr (.inr (rf (vnP v) rp)))))), (zk, .inl (cQ, (vnK v), .inr (.inr (.inr (.inr (rf (vnK v) rk))))))] ((MR cI 4 (vnC v) rc (q4 (upd sh1 i (a - 1)) co1 (upd bu1 i b) fl1)) :: (MR cI 2 (vnP v) rp (q2 (vpw v) (vpa v))) :: (MR cI 3 (vnK v) rk (q3 (vkw v) (vka v) (vkb v))) :: sT)) _ := hP
                    have hD : va_D A (wS [(z0, .inr (4, [.ref zr, .ref zs, .ref zc, .ref zp, .ref zk, .int (nI (vday v)), .int (vcoal v), .int (vbar v), .int (vfine v), .int (vcrs v), .int (vcoin v), .int (vship v)])), (zr, .inl (cI, 6, .inl (vR v))), (zs, .inl (cI, 7, .inl (vS v))), (zc, .inl (cQ, (vnC v), .inr (.inr (.inr (.inr (rf (vnC v) rc)))))), (zp, .inl (cQ, (vnP v), .inr (.inr (.inr (.inr (rf (vnP v) rp)))))), (zk, .inl (cQ, (vnK v), .inr (.inr (.inr (.inr (rf (vnK v) rk))))))] ((MR cI 4 (vnC v) rc (q4 (upd sh1 i (a - 1)) co1 (upd bu1 i b) fl1)) :: (MR cI 2 (vnP v) rp (q2 (vpw v) (vpa v))) :: (MR cI 3 (vnK v) rk (q3 (vkw v) (vka v) (vkb v))) :: sT)) := hD
                    refine lv_aload hx hb dX4_pass_80 (lv_at hl 5 rfl) ?_
                    refine lv_iconst (v := 2) hx hb dX4_pass_82 (by decide) ?_
                    refine lv_dup2_11 hx hb dX4_pass_83 rfl rfl ?_
                    refine rl_ hx hb hK hP (d := 0) (r := rc) (F := q4 (upd sh1 i (a - 1)) co1 (upd bu1 i b) fl1) rfl i (by omega) 2 (rfl) (by decide) (by decide) (v := b) (pk_us) dX4_pass_84 ?_
                    refine lv_iconst (v := 1) hx hb dX4_pass_85 (by decide) ?_
                    refine lv_iadd hx hb dX4_pass_86 ?_
                    refine rs_ hx hb hK hP hD hS (d := 0) (r := rc) (F := q4 (upd sh1 i (a - 1)) co1 (upd bu1 i b) fl1) rfl i (by omega) 2 (rfl) (by decide) (by decide) (q4 (upd sh1 i (a - 1)) co1 (upd bu1 i (b + 1)) fl1) ((q4_u2 _ _ _ _ _ _).trans (by rw [upd_upd])) dX4_pass_87 (fun H locs hP hD hS => ?_)
                    have hP : va_P D vwCl (wS [(z0, .inr (4, [.ref zr, .ref zs, .ref zc, .ref zp, .ref zk, .int (nI (vday v)), .int (vcoal v), .int (vbar v), .int (vfine v), .int (vcrs v), .int (vcoin v), .int (vship v)])), (zr, .inl (cI, 6, .inl (vR v))), (zs, .inl (cI, 7, .inl (vS v))), (zc, .inl (cQ, (vnC v), .inr (.inr (.inr (.inr (rf (vnC v) rc)))))), (zp, .inl (cQ, (vnP v), .inr (.inr (.inr (.inr (rf (vnP v) rp)))))), (zk, .inl (cQ, (vnK v), .inr (.inr (.inr (.inr (rf (vnK v) rk))))))] ((MR cI 4 (vnC v) rc (q4 (upd sh1 i (a - 1)) co1 (upd bu1 i (b + 1)) fl1)) :: (MR cI 2 (vnP v) rp (q2 (vpw v) (vpa v))) :: (MR cI 3 (vnK v) rk (q3 (vkw v) (vka v) (vkb v))) :: sT)) _ := hP
                    have hD : va_D A (wS [(z0, .inr (4, [.ref zr, .ref zs, .ref zc, .ref zp, .ref zk, .int (nI (vday v)), .int (vcoal v), .int (vbar v), .int (vfine v), .int (vcrs v), .int (vcoin v), .int (vship v)])), (zr, .inl (cI, 6, .inl (vR v))), (zs, .inl (cI, 7, .inl (vS v))), (zc, .inl (cQ, (vnC v), .inr (.inr (.inr (.inr (rf (vnC v) rc)))))), (zp, .inl (cQ, (vnP v), .inr (.inr (.inr (.inr (rf (vnP v) rp)))))), (zk, .inl (cQ, (vnK v), .inr (.inr (.inr (.inr (rf (vnK v) rk))))))] ((MR cI 4 (vnC v) rc (q4 (upd sh1 i (a - 1)) co1 (upd bu1 i (b + 1)) fl1)) :: (MR cI 2 (vnP v) rp (q2 (vpw v) (vpa v))) :: (MR cI 3 (vnK v) rk (q3 (vkw v) (vka v) (vkb v))) :: sT)) := hD
                    refine lv_iinc (v := nI (k + 1)) (lv' := [(6, .int (nI (k + 1))), (0, .ref z0), (1, .int (vR v (vday v % 6))), (2, .ref zc), (3, .int (nI (vnC v))), (4, .int (nI i)), (5, .ref (rc i))]) hx hb dX4_pass_88 hl (k := 6) rfl (nI_1 k) (by decide) rfl (fun ls hl => ?_)
                    refine lv_goto (tgt := 49) hx hb dX4_pass_91 (by decide) ?_
                    have hkm := (burn_T (k := k) hs ehm).1 ⟨c_17n, c_21n⟩ hle49
                    exact ih49 (k + 1) (by omega) (by omega) (a - 1) (b + 1) (by rw [e_a]; exact sub_s _ _) (by rw [e_b]; exact add_s _ _) _ _ (hP.part [0, 1, 2, 3, 4, 5] rfl) (hD.part [0, 1, 2, 3, 4, 5] (by decide) rfl) hS _ (lv_sub hl [1, 2, 3, 4, 5, 6, 0] rfl)
              · skip
                refine lv_iload_n hx hb dX4_pass_51 rfl (lv_at hl 1 rfl) ?_
                refine lv_iconst (v := 4) hx hb dX4_pass_52 (by decide) ?_
                refine lv_icmp_le (tgt := 60) hx hb dX4_pass_53 (by decide) (fun c_25 => ?_) (fun c_25 => ?_)
                · skip
                  have c_25n := Int32.not_lt.mpr c_25
                  refine lv_bipush (v := 8) hx hb dX4_pass_60 (by decide) ?_
                  refine t_i (bDaily (vR v (vday v % 6))) (daily_8 c_25) ?_
                  exact jn_51_505
                · skip
                  have c_25n := Int32.not_le.mp c_25
                  refine lv_iconst (v := 4) hx hb dX4_pass_56 (by decide) ?_
                  refine lv_goto (tgt := 62) hx hb dX4_pass_57 (by decide) ?_
                  refine t_i (bDaily (vR v (vday v % 6))) (daily_4 c_25n) ?_
                  exact jn_51_505
          have u1 : upd sh1 i (vsh v i) = sh1 := upd_self _ _ (by rw [e_sh1]; exact (rowF_at _ _ _ (Nat.le_refl _)).symm)
          have u2 : upd bu1 i (vbu v i) = bu1 := upd_self _ _ (by rw [e_bu1]; exact (rowF_at _ _ _ (Nat.le_refl _)).symm)
          have hP : va_P D vwCl (wS [(z0, .inr (4, [.ref zr, .ref zs, .ref zc, .ref zp, .ref zk, .int (nI (vday v)), .int (vcoal v), .int (vbar v), .int (vfine v), .int (vcrs v), .int (vcoin v), .int (vship v)])), (zr, .inl (cI, 6, .inl (vR v))), (zs, .inl (cI, 7, .inl (vS v))), (zc, .inl (cQ, (vnC v), .inr (.inr (.inr (.inr (rf (vnC v) rc)))))), (zp, .inl (cQ, (vnP v), .inr (.inr (.inr (.inr (rf (vnP v) rp)))))), (zk, .inl (cQ, (vnK v), .inr (.inr (.inr (.inr (rf (vnK v) rk))))))] ((MR cI 4 (vnC v) rc (q4 (upd sh1 i (vsh v i)) co1 (upd bu1 i (vbu v i)) fl1)) :: (MR cI 2 (vnP v) rp (q2 (vpw v) (vpa v))) :: (MR cI 3 (vnK v) rk (q3 (vkw v) (vka v) (vkb v))) :: sT)) H := by rw [u1, u2]; exact hP
          have hD : va_D A (wS [(z0, .inr (4, [.ref zr, .ref zs, .ref zc, .ref zp, .ref zk, .int (nI (vday v)), .int (vcoal v), .int (vbar v), .int (vfine v), .int (vcrs v), .int (vcoin v), .int (vship v)])), (zr, .inl (cI, 6, .inl (vR v))), (zs, .inl (cI, 7, .inl (vS v))), (zc, .inl (cQ, (vnC v), .inr (.inr (.inr (.inr (rf (vnC v) rc)))))), (zp, .inl (cQ, (vnP v), .inr (.inr (.inr (.inr (rf (vnP v) rp)))))), (zk, .inl (cQ, (vnK v), .inr (.inr (.inr (.inr (rf (vnK v) rk))))))] ((MR cI 4 (vnC v) rc (q4 (upd sh1 i (vsh v i)) co1 (upd bu1 i (vbu v i)) fl1)) :: (MR cI 2 (vnP v) rp (q2 (vpw v) (vpa v))) :: (MR cI 3 (vnK v) rk (q3 (vkw v) (vka v) (vkb v))) :: sT)) := by rw [u1, u2]; exact hD
          exact loop49 (mm + 1) 0 (Nat.zero_le _) (by omega) (vsh v i) (vbu v i) (by rw [nI_0, Int32.sub_zero]) (by rw [nI_0, Int32.add_zero]) _ _ (hP.part [0, 1, 2, 3, 4, 5] rfl) (hD.part [0, 1, 2, 3, 4, 5] (by decide) rfl) hS _ (lv_sub hl [2, 3, 4, 5, 6, 1, 0] rfl)
        · skip
          refine lv_goto (tgt := 139) hx hb dX4_pass_43 (by decide) ?_
          refine lv_iinc (v := nI (i + 1)) (lv' := [(4, .int (nI (i + 1))), (5, .ref (rc i)), (0, .ref z0), (1, .int (vR v (vday v % 6))), (2, .ref zc), (3, .int (nI (vnC v)))]) hx hb dX4_pass_139 hl (k := 5) rfl (nI_1 i) (by decide) rfl (fun ls hl => ?_)
          refine lv_goto (tgt := 24) hx hb dX4_pass_142 (by decide) ?_
          exact ih24 (i + 1) (by omega) (by omega) sh1 co1 bu1 fl1 (by rw [e_sh1]; exact (rowF_same _ _ _ (by simp only [fSh, fCo, fBu, fFl, eq_false c_1, eq_true c_1n, eq_true c_16, if_true])).symm) (by rw [e_co1]; exact (rowF_same _ _ _ (by simp only [fSh, fCo, fBu, fFl, eq_false c_1, eq_true c_1n, eq_true c_16, if_true])).symm) (by rw [e_bu1]; exact (rowF_same _ _ _ (by simp only [fSh, fCo, fBu, fFl, eq_false c_1, eq_true c_1n, eq_true c_16, if_true])).symm) (by rw [e_fl1]; exact (rowF_same _ _ _ (by simp only [fSh, fCo, fBu, fFl, eq_false c_1, eq_true c_1n, eq_true c_16, if_true])).symm) _ _ (hP.part [0, 1, 2, 3, 4, 5] rfl) (hD.part [0, 1, 2, 3, 4, 5] (by decide) rfl) hS _ (lv_sub hl [2, 3, 4, 5, 0] rfl)
  exact loop24 ((vnC v) + 1) 0 (Nat.zero_le _) (by omega) (vsh v) (vco v) (vbu v) (vfl v) ((rowF_0 _ _).symm) ((rowF_0 _ _).symm) ((rowF_0 _ _).symm) ((rowF_0 _ _).symm) _ _ (hP.part [0, 1, 2, 3, 4, 5] rfl) (hD.part [0, 1, 2, 3, 4, 5] (by decide) rfl) hS _ (lv_sub hl [4, 3, 2, 1, 0] rfl)
