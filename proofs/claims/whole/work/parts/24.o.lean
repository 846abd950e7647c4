/-! the law: its world, its rows -/
theorem le1 {n a C M : Nat} (h : n + M ≤ C) (h1 : Nat.ble a M = true) : n + a ≤ C := by
  have := Nat.le_of_ble_eq_true h1
  omega
theorem le2 {n a b C M : Nat} (h : n + M ≤ C) (h1 : Nat.ble (a + b) M = true) : n + a + b ≤ C := by
  have := Nat.le_of_ble_eq_true h1
  omega
theorem le3 {n a b d C M : Nat} (h : n + M ≤ C) (h1 : Nat.ble (a + b + d) M = true) : n + a + b + d ≤ C := by
  have := Nat.le_of_ble_eq_true h1
  omega
theorem wd0 {n M : Nat} : n ≤ n + M := Nat.le_add_right n M
theorem wd2 {n a b M : Nat} (h1 : Nat.ble (a + b) M = true) : n + a + b ≤ n + M := by
  have := Nat.le_of_ble_eq_true h1
  omega
theorem wd3 {n a b d M : Nat} (h1 : Nat.ble (a + b + d) M = true) : n + a + b + d ≤ n + M := by
  have := Nat.le_of_ble_eq_true h1
  omega
section
variable {p : Program} {l : Launch} {e : Env} {R : Room} {s : State} {m : MethodId} {args : Array Value} {below : List Frame} {meth : Method} {c : Code} {H : Heap} {locs : List Loc} {cells slots : Nat} {Q : State → Prop}
variable {cc : ByteArray} {pc : Nat} {rest : List Value} {ls : Array Slot} {A : Nat → Prop} {H0 : Heap}
theorem ld_s (hx : p.tables.exec = Jvm.exec) (hb : c.code = cc) {sb sL : Nat} {zs : Nat → Int32} (hX : va_X sb sL zs s H0) (hbl : sb < H0.size) (hbA : ¬ A sb) (hS : va_S A H0 H locs) (hL : sL ≤ 2048) {x : Int32} (j : Nat) (hi : x = nI j) (hlt : j < sL) (hdg : decode cc pc = .ok (.iaload, 1))
    (kk : W p l e R s m args below meth c H locs cells slots Q (F0 m (pc + 1) ls (.int (zs j) :: rest))) : W p l e R s m args below meth c H locs cells slots Q (F0 m pc ls (.int x :: .ref sb :: rest)) := by
  subst hi
  refine va_sld hx hb hX hbl hbA hS (vp_in_nI hlt (by omega)) hdg ?_
  rw [nI_clamp (by omega)]
  exact kk
theorem lc_eq (hx : p.tables.exec = Jvm.exec) (hb : c.code = cc) {x y : Int64} (h : x = y) (hdg : decode cc pc = .ok (.lcmp, 1))
    (kk : W p l e R s m args below meth c H locs cells slots Q (F0 m (pc + 1) ls (.int 0 :: rest))) : W p l e R s m args below meth c H locs cells slots Q (F0 m pc ls (.long y :: .long x :: rest)) := by
  subst h
  refine W.lcmp hx hb hdg ?_
  rw [show lg_cmp x x = 0 by simp [lg_cmp]]
  exact kk
end
theorem cn_Pile (v : VT) (x : Int32) : vnC v ≤ vnC (nPile v x) := by
  unfold nPile
  split
  · exact Nat.le_succ _
  · exact Nat.le_refl _
theorem cn_Dig (v : VT) (x : Int32) : vnP v ≤ vnP (nDig v x) := by
  unfold nDig
  split
  · exact Nat.le_succ _
  · exact Nat.le_refl _
theorem cn_Pan (v : VT) : vnK v ≤ vnK (nPan v) := by
  unfold nPan
  split
  · exact Nat.le_succ _
  · exact Nat.le_refl _
abbrev LW (cI cZ cJ : ClassId) (x0 xr xs n0 nc np nk nc1 nc2 nc3 nc4 np1 np2 np3 nk1 nk2 nk3 b0 bc bp bk bc1 bc2 bc3 bc4 bp1 bp2 bp3 bk1 bk2 bk3 o0 m0 m1 m2 m3 m4 m5 m6 : Nat) (v g : VT) (fo : Nat → Int64) (th : Int32) : va_W := [(x0, .inr (3, [.ref xr, .ref xs, .ref n0, .ref b0])), (xr, .inl (cI, 6, .inl (vR v))), (xs, .inl (cI, 7, .inl (vS v))), (n0, .inr (2, [.ref nc, .ref np, .ref nk, .int (nI (vday v)), .int (vcoal v), .int (vbar v), .int (vfine v), .int (vcrs v), .int (vcoin v), .int (vship v)])), (nc, .inr (0, [.ref nc1, .ref nc2, .ref nc3, .ref nc4, .int (nI (vnC v))])), (nc1, .inl (cI, 4, .inl (vsh v))), (nc2, .inl (cI, 4, .inl (vco v))), (nc3, .inl (cI, 4, .inl (vbu v))), (nc4, .inl (cZ, 4, .inl (vfl v))), (np, .inr (1, [.ref np1, .ref np2, .ref np3, .int (nI 4), .int (nI (vnP v))])), (np1, .inl (cI, 4, .inl (vpw v))), (np2, .inl (cI, 4, .inl (vpa v))), (np3, .inl (cZ, 4, .inl (vpb v))), (nk, .inr (1, [.ref nk1, .ref nk2, .ref nk3, .int (nI 3), .int (nI (vnK v))])), (nk1, .inl (cI, 4, .inl (vkw v))), (nk2, .inl (cI, 4, .inl (vka v))), (nk3, .inl (cZ, 4, .inl (vkb v))), (b0, .inr (2, [.ref bc, .ref bp, .ref bk, .int (nI (vday g)), .int (vcoal g), .int (vbar g), .int (vfine g), .int (vcrs g), .int (vcoin g), .int (vship g)])), (bc, .inr (0, [.ref bc1, .ref bc2, .ref bc3, .ref bc4, .int (nI (vnC g))])), (bc1, .inl (cI, 4, .inl (vsh g))), (bc2, .inl (cI, 4, .inl (vco g))), (bc3, .inl (cI, 4, .inl (vbu g))), (bc4, .inl (cZ, 4, .inl (vfl g))), (bp, .inr (1, [.ref bp1, .ref bp2, .ref bp3, .int (nI 4), .int (nI (vnP g))])), (bp1, .inl (cI, 4, .inl (vpw g))), (bp2, .inl (cI, 4, .inl (vpa g))), (bp3, .inl (cZ, 4, .inl (vpb g))), (bk, .inr (1, [.ref bk1, .ref bk2, .ref bk3, .int (nI 3), .int (nI (vnK g))])), (bk1, .inl (cI, 4, .inl (vkw g))), (bk2, .inl (cI, 4, .inl (vka g))), (bk3, .inl (cZ, 4, .inl (vkb g))), (o0, .inl (cJ, 1, .inr (.inl fo))), (m0, .inr (4, [.int th, .int (nI (vnC v)), .int (nI (vnP v)), .int (nI (vnK v)), .ref m1, .ref m2, .ref m3, .ref m4, .ref m5, .ref m6])), (m1, .inl (cI, 7, .inl (st7 (nI (vday v)) (vcoal v) (vbar v) (vfine v) (vcrs v) (vcoin v) (vship v)))), (m2, .inl (cI, 6, .inl (vR v))), (m3, .inl (cI, 7, .inl (vS v))), (m4, .inl (cI, 16, .inl (hp4 (vsh v) (vco v) (vbu v) (vfl v)))), (m5, .inl (cI, 8, .inl (ho2 (vpw v) (vpa v)))), (m6, .inl (cI, 9, .inl (ke3 (vkw v) (vka v) (vkb v))))]
