/-! the calls of the class that it takes; the invariant -/
theorem k_pile {v : VT} (hI : IS v) (x : Int32) (hx : 1 ≤ x ∧ x ≤ 200) (hn : vnC v < 4) : kPile v x = 0 := by
  have hb4 := hI.1
  have hb5 := hI.2.1
  have hb6 := hI.2.2.1
  unfold kPile
  rw [if_pos hx, if_neg (show ¬ 4 ≤ vnC v by omega)]
theorem n_pile {v : VT} (hI : IS v) (x : Int32) (hx : 1 ≤ x ∧ x ≤ 200) (hn : vnC v < 4) : nPile v x = mkV (upd (vsh v) (vnC v) x) (vco v) (vbu v) (vfl v) (vnC v + 1) (vpw v) (vpa v) (vpb v) (vnP v) (vkw v) (vka v) (vkb v) (vnK v) (vday v) (vcoal v) (vbar v) (vfine v) (vcrs v) (vcoin v) (vship v) (vR v) (vS v) := by
  have hb4 := hI.1
  have hb5 := hI.2.1
  have hb6 := hI.2.2.1
  have hk := k_pile hI x hx hn
  unfold nPile
  rw [if_pos hk]
set_option maxRecDepth 100000 in
theorem p_pile (l : Launch) (D : va_G) (cI cZ cJ : ClassId) (x0 xr xs n0 b0 : Nat) (nc np nk nc1 nc2 nc3 nc4 : Nat) (v : VT) (x : Int32) (hI : IS v) (hx : 1 ≤ x ∧ x ≤ 200) (hn : vnC v < 4) (hst : l.stackTraces = false) : Mp l yX3_pile cX3_pile 2 (some .int) rm_X3_pile D (TY cI cZ cJ) [.ref x0, .int x] [(x0, .inr (3, [.ref xr, .ref xs, .ref n0, .ref b0])), (n0, .inr (2, [.ref nc, .ref np, .ref nk, .int (nI (vday v)), .int (vcoal v), .int (vbar v), .int (vfine v), .int (vcrs v), .int (vcoin v), .int (vship v)])), (nc, .inr (0, [.ref nc1, .ref nc2, .ref nc3, .ref nc4, .int (nI (vnC v))])), (nc1, .inl (cI, 4, .inl (vsh v)))] (fun (r : Int32) (u : VT) => r = nI (vnC v) ∧ u = mkV (upd (vsh v) (vnC v) x) (vco v) (vbu v) (vfl v) (vnC v + 1) (vpw v) (vpa v) (vpb v) (vnP v) (vkw v) (vka v) (vkb v) (vnK v) (vday v) (vcoal v) (vbar v) (vfine v) (vcrs v) (vcoin v) (vship v) (vR v) (vS v)) (fun (u : VT) => [(x0, .inr (3, [.ref xr, .ref xs, .ref n0, .ref b0])), (n0, .inr (2, [.ref nc, .ref np, .ref nk, .int (nI (vday u)), .int (vcoal u), .int (vbar u), .int (vfine u), .int (vcrs u), .int (vcoin u), .int (vship u)])), (nc, .inr (0, [.ref nc1, .ref nc2, .ref nc3, .ref nc4, .int (nI (vnC u))])), (nc1, .inl (cI, 4, .inl (vsh u)))]) := by
  have hb4 := hI.1
  have hb5 := hI.2.1
  have hb6 := hI.2.2.1
  have hk := k_pile hI x hx hn
  exact Mp.ofX (c_X3_pile l D cI cZ cJ x0 xr xs n0 b0 nc np nk nc1 nc2 nc3 nc4 v x hI hst) (fun E h => by rcases h with ⟨-, h⟩ | ⟨-, h⟩ <;> (rw [hk] at h; exact absurd h (by decide))) (fun r u h => by
    obtain ⟨-, hr, hu⟩ := h
    refine ⟨hr.trans (rfl), hu.trans (n_pile hI x hx hn)⟩)
theorem k_dig {v : VT} (hI : IS v) (x : Int32) (hx : 0 ≤ x ∧ x ≤ 400) (hn : vnP v < 4) : kDig v x = 0 := by
  have hb4 := hI.1
  have hb5 := hI.2.1
  have hb6 := hI.2.2.1
  unfold kDig
  rw [if_pos hx, if_neg (show ¬ 4 ≤ vnP v by omega)]
theorem n_dig {v : VT} (hI : IS v) (x : Int32) (hx : 0 ≤ x ∧ x ≤ 400) (hn : vnP v < 4) : nDig v x = mkV (vsh v) (vco v) (vbu v) (vfl v) (vnC v) (upd (vpw v) (vnP v) x) (vpa v) (vpb v) (vnP v + 1) (vkw v) (vka v) (vkb v) (vnK v) (vday v) (vcoal v) (vbar v) (vfine v) (vcrs v) (vcoin v) (vship v) (vR v) (vS v) := by
  have hb4 := hI.1
  have hb5 := hI.2.1
  have hb6 := hI.2.2.1
  have hk := k_dig hI x hx hn
  unfold nDig
  rw [if_pos hk]
set_option maxRecDepth 100000 in
theorem p_dig (l : Launch) (D : va_G) (cI cZ cJ : ClassId) (x0 xr xs n0 b0 : Nat) (nc np nk np1 np2 np3 : Nat) (v : VT) (x : Int32) (hI : IS v) (hx : 0 ≤ x ∧ x ≤ 400) (hn : vnP v < 4) (hst : l.stackTraces = false) : Mp l yX3_dig cX3_dig 2 (some .int) rm_X3_dig D (TY cI cZ cJ) [.ref x0, .int x] [(x0, .inr (3, [.ref xr, .ref xs, .ref n0, .ref b0])), (n0, .inr (2, [.ref nc, .ref np, .ref nk, .int (nI (vday v)), .int (vcoal v), .int (vbar v), .int (vfine v), .int (vcrs v), .int (vcoin v), .int (vship v)])), (np, .inr (1, [.ref np1, .ref np2, .ref np3, .int (nI 4), .int (nI (vnP v))])), (np1, .inl (cI, 4, .inl (vpw v)))] (fun (r : Int32) (u : VT) => r = nI (vnP v) ∧ u = mkV (vsh v) (vco v) (vbu v) (vfl v) (vnC v) (upd (vpw v) (vnP v) x) (vpa v) (vpb v) (vnP v + 1) (vkw v) (vka v) (vkb v) (vnK v) (vday v) (vcoal v) (vbar v) (vfine v) (vcrs v) (vcoin v) (vship v) (vR v) (vS v)) (fun (u : VT) => [(x0, .inr (3, [.ref xr, .ref xs, .ref n0, .ref b0])), (n0, .inr (2, [.ref nc, .ref np, .ref nk, .int (nI (vday u)), .int (vcoal u), .int (vbar u), .int (vfine u), .int (vcrs u), .int (vcoin u), .int (vship u)])), (np, .inr (1, [.ref np1, .ref np2, .ref np3, .int (nI 4), .int (nI (vnP u))])), (np1, .inl (cI, 4, .inl (vpw u)))]) := by
  have hb4 := hI.1
  have hb5 := hI.2.1
  have hb6 := hI.2.2.1
  have hk := k_dig hI x hx hn
  exact Mp.ofX (c_X3_dig l D cI cZ cJ x0 xr xs n0 b0 nc np nk np1 np2 np3 v x hI hst) (fun E h => by rcases h with ⟨-, h⟩ | ⟨-, h⟩ <;> (rw [hk] at h; exact absurd h (by decide))) (fun r u h => by
    obtain ⟨-, hr, hu⟩ := h
    refine ⟨hr.trans (rfl), hu.trans (n_dig hI x hx hn)⟩)
theorem k_pan {v : VT} (hI : IS v)  (hn : vnK v < 3) : kPan v = 0 := by
  have hb4 := hI.1
  have hb5 := hI.2.1
  have hb6 := hI.2.2.1
  unfold kPan
  rw [if_neg (show ¬ 3 ≤ vnK v by omega)]
theorem n_pan {v : VT} (hI : IS v)  (hn : vnK v < 3) : nPan v = mkV (vsh v) (vco v) (vbu v) (vfl v) (vnC v) (vpw v) (vpa v) (vpb v) (vnP v) (upd (vkw v) (vnK v) 0) (vka v) (vkb v) (vnK v + 1) (vday v) (vcoal v) (vbar v) (vfine v) (vcrs v) (vcoin v) (vship v) (vR v) (vS v) := by
  have hb4 := hI.1
  have hb5 := hI.2.1
  have hb6 := hI.2.2.1
  have hk := k_pan hI  hn
  unfold nPan
  rw [if_pos hk]
set_option maxRecDepth 100000 in
theorem p_pan (l : Launch) (D : va_G) (cI cZ cJ : ClassId) (x0 xr xs n0 b0 : Nat) (nc np nk nk1 nk2 nk3 : Nat) (v : VT) (hI : IS v) (hn : vnK v < 3) (hst : l.stackTraces = false) : Mp l yX3_pan cX3_pan 1 (some .int) rm_X3_pan D (TY cI cZ cJ) [.ref x0] [(x0, .inr (3, [.ref xr, .ref xs, .ref n0, .ref b0])), (n0, .inr (2, [.ref nc, .ref np, .ref nk, .int (nI (vday v)), .int (vcoal v), .int (vbar v), .int (vfine v), .int (vcrs v), .int (vcoin v), .int (vship v)])), (nk, .inr (1, [.ref nk1, .ref nk2, .ref nk3, .int (nI 3), .int (nI (vnK v))])), (nk1, .inl (cI, 4, .inl (vkw v)))] (fun (r : Int32) (u : VT) => r = nI (vnK v) ∧ u = mkV (vsh v) (vco v) (vbu v) (vfl v) (vnC v) (vpw v) (vpa v) (vpb v) (vnP v) (upd (vkw v) (vnK v) 0) (vka v) (vkb v) (vnK v + 1) (vday v) (vcoal v) (vbar v) (vfine v) (vcrs v) (vcoin v) (vship v) (vR v) (vS v)) (fun (u : VT) => [(x0, .inr (3, [.ref xr, .ref xs, .ref n0, .ref b0])), (n0, .inr (2, [.ref nc, .ref np, .ref nk, .int (nI (vday u)), .int (vcoal u), .int (vbar u), .int (vfine u), .int (vcrs u), .int (vcoin u), .int (vship u)])), (nk, .inr (1, [.ref nk1, .ref nk2, .ref nk3, .int (nI 3), .int (nI (vnK u))])), (nk1, .inl (cI, 4, .inl (vkw u)))]) := by
  have hb4 := hI.1
  have hb5 := hI.2.1
  have hb6 := hI.2.2.1
  have hk := k_pan hI  hn
  exact Mp.ofX (c_X3_pan l D cI cZ cJ x0 xr xs n0 b0 nc np nk nk1 nk2 nk3 v hI hst) (fun E h => by obtain ⟨-, h⟩ := h; rw [hk] at h; exact absurd h (by decide)) (fun r u h => by
    obtain ⟨-, hr, hu⟩ := h
    refine ⟨hr.trans (rfl), hu.trans (n_pan hI  hn)⟩)
theorem k_bring0 {v : VT} (hI : IS v) (x : Int32) (hx : 1 ≤ x ∧ x ≤ 500) : kBring v 0 x = 0 := by
  have hb4 := hI.1
  have hb5 := hI.2.1
  have hb6 := hI.2.2.1
  unfold kBring
  rw [if_pos (show (0 : Int32) ≤ 0 ∧ (0 : Int32) ≤ 1 by decide), if_pos hx]
theorem n_bring0 {v : VT} (hI : IS v) (x : Int32) (hx : 1 ≤ x ∧ x ≤ 500) : nBring v 0 x = mkV (vsh v) (vco v) (vbu v) (vfl v) (vnC v) (vpw v) (vpa v) (vpb v) (vnP v) (vkw v) (vka v) (vkb v) (vnK v) (vday v) (mn 500 (vcoal v + x)) (vbar v) (vfine v) (vcrs v) (vcoin v) (vship v) (vR v) (vS v) := by
  have hb4 := hI.1
  have hb5 := hI.2.1
  have hb6 := hI.2.2.1
  have hk := k_bring0 hI x hx
  unfold nBring
  rw [if_pos hk, if_pos rfl]
set_option maxRecDepth 100000 in
theorem p_bring0 (l : Launch) (D : va_G) (cI cZ cJ : ClassId) (x0 xr xs n0 b0 : Nat) (nc np nk : Nat) (v : VT) (x : Int32) (hI : IS v) (hx : 1 ≤ x ∧ x ≤ 500) (hst : l.stackTraces = false) : Mp l yX3_bring cX3_bring 3 (some .int) rm_X3_bring D (TY cI cZ cJ) [.ref x0, .int 0, .int x] [(x0, .inr (3, [.ref xr, .ref xs, .ref n0, .ref b0])), (n0, .inr (2, [.ref nc, .ref np, .ref nk, .int (nI (vday v)), .int (vcoal v), .int (vbar v), .int (vfine v), .int (vcrs v), .int (vcoin v), .int (vship v)]))] (fun (r : Int32) (u : VT) => r = mn 500 (vcoal v + x) ∧ u = mkV (vsh v) (vco v) (vbu v) (vfl v) (vnC v) (vpw v) (vpa v) (vpb v) (vnP v) (vkw v) (vka v) (vkb v) (vnK v) (vday v) (mn 500 (vcoal v + x)) (vbar v) (vfine v) (vcrs v) (vcoin v) (vship v) (vR v) (vS v)) (fun (u : VT) => [(x0, .inr (3, [.ref xr, .ref xs, .ref n0, .ref b0])), (n0, .inr (2, [.ref nc, .ref np, .ref nk, .int (nI (vday u)), .int (vcoal u), .int (vbar u), .int (vfine u), .int (vcrs u), .int (vcoin u), .int (vship u)]))]) := by
  have hb4 := hI.1
  have hb5 := hI.2.1
  have hb6 := hI.2.2.1
  have hk := k_bring0 hI x hx
  exact Mp.ofX (c_X3_bring l D cI cZ cJ x0 xr xs n0 b0 nc np nk v 0 x hI hst) (fun E h => by rcases h with ⟨-, h⟩ | ⟨-, h⟩ <;> (rw [hk] at h; exact absurd h (by decide))) (fun r u h => by
    obtain ⟨-, hr, hu⟩ := h
    refine ⟨hr.trans (by unfold rBring; exact if_pos rfl), hu.trans (n_bring0 hI x hx)⟩)
theorem k_bring1 {v : VT} (hI : IS v) (x : Int32) (hx : 1 ≤ x ∧ x ≤ 500) : kBring v 1 x = 0 := by
  have hb4 := hI.1
  have hb5 := hI.2.1
  have hb6 := hI.2.2.1
  unfold kBring
  rw [if_pos (show (0 : Int32) ≤ 1 ∧ (1 : Int32) ≤ 1 by decide), if_pos hx]
theorem n_bring1 {v : VT} (hI : IS v) (x : Int32) (hx : 1 ≤ x ∧ x ≤ 500) : nBring v 1 x = mkV (vsh v) (vco v) (vbu v) (vfl v) (vnC v) (vpw v) (vpa v) (vpb v) (vnP v) (vkw v) (vka v) (vkb v) (vnK v) (vday v) (vcoal v) (mn 99 (vbar v + x)) (vfine v) (vcrs v) (vcoin v) (vship v) (vR v) (vS v) := by
  have hb4 := hI.1
  have hb5 := hI.2.1
  have hb6 := hI.2.2.1
  have hk := k_bring1 hI x hx
  unfold nBring
  rw [if_pos hk, if_neg (by decide)]
set_option maxRecDepth 100000 in
theorem p_bring1 (l : Launch) (D : va_G) (cI cZ cJ : ClassId) (x0 xr xs n0 b0 : Nat) (nc np nk : Nat) (v : VT) (x : Int32) (hI : IS v) (hx : 1 ≤ x ∧ x ≤ 500) (hst : l.stackTraces = false) : Mp l yX3_bring cX3_bring 3 (some .int) rm_X3_bring D (TY cI cZ cJ) [.ref x0, .int 1, .int x] [(x0, .inr (3, [.ref xr, .ref xs, .ref n0, .ref b0])), (n0, .inr (2, [.ref nc, .ref np, .ref nk, .int (nI (vday v)), .int (vcoal v), .int (vbar v), .int (vfine v), .int (vcrs v), .int (vcoin v), .int (vship v)]))] (fun (r : Int32) (u : VT) => r = mn 99 (vbar v + x) ∧ u = mkV (vsh v) (vco v) (vbu v) (vfl v) (vnC v) (vpw v) (vpa v) (vpb v) (vnP v) (vkw v) (vka v) (vkb v) (vnK v) (vday v) (vcoal v) (mn 99 (vbar v + x)) (vfine v) (vcrs v) (vcoin v) (vship v) (vR v) (vS v)) (fun (u : VT) => [(x0, .inr (3, [.ref xr, .ref xs, .ref n0, .ref b0])), (n0, .inr (2, [.ref nc, .ref np, .ref nk, .int (nI (vday u)), .int (vcoal u), .int (vbar u), .int (vfine u), .int (vcrs u), .int (vcoin u), .int (vship u)]))]) := by
  have hb4 := hI.1
  have hb5 := hI.2.1
  have hb6 := hI.2.2.1
  have hk := k_bring1 hI x hx
  exact Mp.ofX (c_X3_bring l D cI cZ cJ x0 xr xs n0 b0 nc np nk v 1 x hI hst) (fun E h => by rcases h with ⟨-, h⟩ | ⟨-, h⟩ <;> (rw [hk] at h; exact absurd h (by decide))) (fun r u h => by
    obtain ⟨-, hr, hu⟩ := h
    refine ⟨hr.trans (by unfold rBring; exact if_neg (by decide)), hu.trans (n_bring1 hI x hx)⟩)
theorem k_rain {v : VT} (hI : IS v) (i : Nat) (x : Int32) (hi : i < 6) (hx : 0 ≤ x ∧ x ≤ 9) : kRain v (nI i) x = 0 := by
  have hb4 := hI.1
  have hb5 := hI.2.1
  have hb6 := hI.2.2.1
  unfold kRain
  rw [if_pos (show 0 ≤ nI i ∧ nI i ≤ 5 from ⟨nI_pos' (by omega), (nI_leI (a := i) (b := 5) (by omega) (by omega)).mpr (by omega)⟩), if_pos hx]
theorem n_rain {v : VT} (hI : IS v) (i : Nat) (x : Int32) (hi : i < 6) (hx : 0 ≤ x ∧ x ≤ 9) : nRain v (nI i) x = mkV (vsh v) (vco v) (vbu v) (vfl v) (vnC v) (vpw v) (vpa v) (vpb v) (vnP v) (vkw v) (vka v) (vkb v) (vnK v) (vday v) (vcoal v) (vbar v) (vfine v) (vcrs v) (vcoin v) (vship v) (upd (vR v) i x) (vS v) := by
  have hb4 := hI.1
  have hb5 := hI.2.1
  have hb6 := hI.2.2.1
  have hk := k_rain hI i x hi hx
  unfold nRain
  rw [if_pos hk]
  simp only [ix_nI (show i < 2147483648 by omega)]
set_option maxRecDepth 100000 in
theorem p_rain (l : Launch) (D : va_G) (cI cZ cJ : ClassId) (x0 xr xs n0 b0 : Nat) (v : VT) (i : Nat) (x : Int32) (hI : IS v) (hi : i < 6) (hx : 0 ≤ x ∧ x ≤ 9) (hst : l.stackTraces = false) : Mp l yX3_setRain cX3_setRain 4 (some .int) rm_X3_setRain D (TY cI cZ cJ) [.ref x0, .int (nI i), .int x] [(x0, .inr (3, [.ref xr, .ref xs, .ref n0, .ref b0])), (xr, .inl (cI, 6, .inl (vR v)))] (fun (r : Int32) (u : VT) => r = vR v i ∧ u = mkV (vsh v) (vco v) (vbu v) (vfl v) (vnC v) (vpw v) (vpa v) (vpb v) (vnP v) (vkw v) (vka v) (vkb v) (vnK v) (vday v) (vcoal v) (vbar v) (vfine v) (vcrs v) (vcoin v) (vship v) (upd (vR v) i x) (vS v)) (fun (u : VT) => [(x0, .inr (3, [.ref xr, .ref xs, .ref n0, .ref b0])), (xr, .inl (cI, 6, .inl (vR u)))]) := by
  have hb4 := hI.1
  have hb5 := hI.2.1
  have hb6 := hI.2.2.1
  have hk := k_rain hI i x hi hx
  exact Mp.ofX (c_X3_setRain l D cI cZ cJ x0 xr xs n0 b0 v (nI i) x hI hst) (fun E h => by rcases h with ⟨-, h⟩ | ⟨-, h⟩ <;> (rw [hk] at h; exact absurd h (by decide))) (fun r u h => by
    obtain ⟨-, hr, hu⟩ := h
    refine ⟨hr.trans (by unfold rRain; rw [ix_nI (show i < 2147483648 by omega)]), hu.trans (n_rain hI i x hi hx)⟩)
theorem k_ship {v : VT} (hI : IS v) (i : Nat) (x : Int32) (hi : i < 7) (hx : 0 ≤ x ∧ x ≤ 60) : kShip v (nI i) x = 0 := by
  have hb4 := hI.1
  have hb5 := hI.2.1
  have hb6 := hI.2.2.1
  unfold kShip
  rw [if_pos (show 0 ≤ nI i ∧ nI i ≤ 6 from ⟨nI_pos' (by omega), (nI_leI (a := i) (b := 6) (by omega) (by omega)).mpr (by omega)⟩), if_pos hx]
theorem n_ship {v : VT} (hI : IS v) (i : Nat) (x : Int32) (hi : i < 7) (hx : 0 ≤ x ∧ x ≤ 60) : nShip v (nI i) x = mkV (vsh v) (vco v) (vbu v) (vfl v) (vnC v) (vpw v) (vpa v) (vpb v) (vnP v) (vkw v) (vka v) (vkb v) (vnK v) (vday v) (vcoal v) (vbar v) (vfine v) (vcrs v) (vcoin v) (vship v) (vR v) (upd (vS v) i x) := by
  have hb4 := hI.1
  have hb5 := hI.2.1
  have hb6 := hI.2.2.1
  have hk := k_ship hI i x hi hx
  unfold nShip
  rw [if_pos hk]
  simp only [ix_nI (show i < 2147483648 by omega)]
set_option maxRecDepth 100000 in
theorem p_ship (l : Launch) (D : va_G) (cI cZ cJ : ClassId) (x0 xr xs n0 b0 : Nat) (v : VT) (i : Nat) (x : Int32) (hI : IS v) (hi : i < 7) (hx : 0 ≤ x ∧ x ≤ 60) (hst : l.stackTraces = false) : Mp l yX3_setShip cX3_setShip 4 (some .int) rm_X3_setShip D (TY cI cZ cJ) [.ref x0, .int (nI i), .int x] [(x0, .inr (3, [.ref xr, .ref xs, .ref n0, .ref b0])), (xs, .inl (cI, 7, .inl (vS v)))] (fun (r : Int32) (u : VT) => r = vS v i ∧ u = mkV (vsh v) (vco v) (vbu v) (vfl v) (vnC v) (vpw v) (vpa v) (vpb v) (vnP v) (vkw v) (vka v) (vkb v) (vnK v) (vday v) (vcoal v) (vbar v) (vfine v) (vcrs v) (vcoin v) (vship v) (vR v) (upd (vS v) i x)) (fun (u : VT) => [(x0, .inr (3, [.ref xr, .ref xs, .ref n0, .ref b0])), (xs, .inl (cI, 7, .inl (vS u)))]) := by
  have hb4 := hI.1
  have hb5 := hI.2.1
  have hb6 := hI.2.2.1
  have hk := k_ship hI i x hi hx
  exact Mp.ofX (c_X3_setShip l D cI cZ cJ x0 xr xs n0 b0 v (nI i) x hI hst) (fun E h => by rcases h with ⟨-, h⟩ | ⟨-, h⟩ <;> (rw [hk] at h; exact absurd h (by decide))) (fun r u h => by
    obtain ⟨-, hr, hu⟩ := h
    refine ⟨hr.trans (by unfold rShip; rw [ix_nI (show i < 2147483648 by omega)]), hu.trans (n_ship hI i x hi hx)⟩)
theorem k_light {v : VT} (hI : IS v) (i : Nat) (x : Int32) (hi : i < vnC v) (hx : 1 ≤ x ∧ x ≤ 60) (h1 : ¬ vcoal v < x) (h2 : ¬ vsh v i = 0) : kLight v (nI i) x = 0 := by
  have hb4 := hI.1
  have hb5 := hI.2.1
  have hb6 := hI.2.2.1
  unfold kLight
  rw [if_pos (show 0 ≤ nI i ∧ nI i < nI (vnC v) from ⟨nI_pos' (by omega), nI_lt hi (by omega)⟩), if_pos hx, if_neg h1, ix_nI (show i < 2147483648 by omega), if_neg h2]
theorem n_light {v : VT} (hI : IS v) (i : Nat) (x : Int32) (hi : i < vnC v) (hx : 1 ≤ x ∧ x ≤ 60) (h1 : ¬ vcoal v < x) (h2 : ¬ vsh v i = 0) : nLight v (nI i) x = mkV (vsh v) (upd (vco v) i (mn 60 (vco v i + x))) (vbu v) (upd (vfl v) i 1) (vnC v) (vpw v) (vpa v) (vpb v) (vnP v) (vkw v) (vka v) (vkb v) (vnK v) (vday v) (vcoal v - x) (vbar v) (vfine v) (vcrs v) (vcoin v) (vship v) (vR v) (vS v) := by
  have hb4 := hI.1
  have hb5 := hI.2.1
  have hb6 := hI.2.2.1
  have hk := k_light hI i x hi hx h1 h2
  unfold nLight
  rw [if_pos hk]
  simp only [ix_nI (show i < 2147483648 by omega)]
set_option maxRecDepth 100000 in
theorem p_light (l : Launch) (D : va_G) (cI cZ cJ : ClassId) (x0 xr xs n0 b0 : Nat) (nc np nk nc1 nc2 nc3 nc4 : Nat) (v : VT) (i : Nat) (x : Int32) (hI : IS v) (hi : i < vnC v) (hx : 1 ≤ x ∧ x ≤ 60) (h1 : ¬ vcoal v < x) (h2 : ¬ vsh v i = 0) (hst : l.stackTraces = false) : Mp l yX3_light cX3_light 4 (some .int) rm_X3_light D (TY cI cZ cJ) [.ref x0, .int (nI i), .int x] [(x0, .inr (3, [.ref xr, .ref xs, .ref n0, .ref b0])), (n0, .inr (2, [.ref nc, .ref np, .ref nk, .int (nI (vday v)), .int (vcoal v), .int (vbar v), .int (vfine v), .int (vcrs v), .int (vcoin v), .int (vship v)])), (nc, .inr (0, [.ref nc1, .ref nc2, .ref nc3, .ref nc4, .int (nI (vnC v))])), (nc1, .inl (cI, 4, .inl (vsh v))), (nc2, .inl (cI, 4, .inl (vco v))), (nc4, .inl (cZ, 4, .inl (vfl v)))] (fun (r : Int32) (u : VT) => r = mn 60 (vco v i + x) ∧ u = mkV (vsh v) (upd (vco v) i (mn 60 (vco v i + x))) (vbu v) (upd (vfl v) i 1) (vnC v) (vpw v) (vpa v) (vpb v) (vnP v) (vkw v) (vka v) (vkb v) (vnK v) (vday v) (vcoal v - x) (vbar v) (vfine v) (vcrs v) (vcoin v) (vship v) (vR v) (vS v)) (fun (u : VT) => [(x0, .inr (3, [.ref xr, .ref xs, .ref n0, .ref b0])), (n0, .inr (2, [.ref nc, .ref np, .ref nk, .int (nI (vday u)), .int (vcoal u), .int (vbar u), .int (vfine u), .int (vcrs u), .int (vcoin u), .int (vship u)])), (nc, .inr (0, [.ref nc1, .ref nc2, .ref nc3, .ref nc4, .int (nI (vnC u))])), (nc1, .inl (cI, 4, .inl (vsh u))), (nc2, .inl (cI, 4, .inl (vco u))), (nc4, .inl (cZ, 4, .inl (vfl u)))]) := by
  have hb4 := hI.1
  have hb5 := hI.2.1
  have hb6 := hI.2.2.1
  have hk := k_light hI i x hi hx h1 h2
  exact Mp.ofX (c_X3_light l D cI cZ cJ x0 xr xs n0 b0 nc np nk nc1 nc2 nc3 nc4 v (nI i) x hI hst) (fun E h => by rcases h with ⟨-, h⟩ | ⟨-, h⟩ | ⟨-, h⟩ <;> (rw [hk] at h; exact absurd h (by decide))) (fun r u h => by
    obtain ⟨-, hr, hu⟩ := h
    refine ⟨hr.trans (by unfold rLight; rw [ix_nI (show i < 2147483648 by omega)]), hu.trans (n_light hI i x hi hx h1 h2)⟩)
theorem k_steep {v : VT} (hI : IS v) (i j : Nat) (hi : i < vnC v) (hj : j < vnP v) (h1 : ¬ vbu v i = 0) (h2 : vfl v i = 0) (h3 : ¬ vpw v j = 0) : kSteep v (nI i) (nI j) = 0 := by
  have hb4 := hI.1
  have hb5 := hI.2.1
  have hb6 := hI.2.2.1
  unfold kSteep
  rw [if_pos (show 0 ≤ nI i ∧ nI i < nI (vnC v) from ⟨nI_pos' (by omega), nI_lt hi (by omega)⟩), if_pos (show 0 ≤ nI j ∧ nI j < nI (vnP v) from ⟨nI_pos' (by omega), nI_lt hj (by omega)⟩), ix_nI (show i < 2147483648 by omega), ix_nI (show j < 2147483648 by omega), if_neg h1, if_pos h2, if_neg h3]
theorem n_steep {v : VT} (hI : IS v) (i j : Nat) (hi : i < vnC v) (hj : j < vnP v) (h1 : ¬ vbu v i = 0) (h2 : vfl v i = 0) (h3 : ¬ vpw v j = 0) : nSteep v (nI i) (nI j) = mkV (vsh v) (vco v) (upd (vbu v) i 0) (vfl v) (vnC v) (vpw v) (upd (vpa v) j (vpa v j + vbu v i / 2)) (vpb v) (vnP v) (vkw v) (vka v) (vkb v) (vnK v) (vday v) (vcoal v) (vbar v) (vfine v) (vcrs v) (vcoin v) (vship v) (vR v) (vS v) := by
  have hb4 := hI.1
  have hb5 := hI.2.1
  have hb6 := hI.2.2.1
  have hk := k_steep hI i j hi hj h1 h2 h3
  unfold nSteep
  rw [if_pos hk]
  simp only [ix_nI (show i < 2147483648 by omega), ix_nI (show j < 2147483648 by omega)]
set_option maxRecDepth 100000 in
theorem p_steep (l : Launch) (D : va_G) (cI cZ cJ : ClassId) (x0 xr xs n0 b0 : Nat) (nc np nk nc1 nc2 nc3 nc4 np1 np2 np3 : Nat) (v : VT) (i j : Nat) (hI : IS v) (hi : i < vnC v) (hj : j < vnP v) (h1 : ¬ vbu v i = 0) (h2 : vfl v i = 0) (h3 : ¬ vpw v j = 0) (hst : l.stackTraces = false) : Mp l yX3_steep cX3_steep 5 (some .int) rm_X3_steep D (TY cI cZ cJ) [.ref x0, .int (nI i), .int (nI j)] [(x0, .inr (3, [.ref xr, .ref xs, .ref n0, .ref b0])), (n0, .inr (2, [.ref nc, .ref np, .ref nk, .int (nI (vday v)), .int (vcoal v), .int (vbar v), .int (vfine v), .int (vcrs v), .int (vcoin v), .int (vship v)])), (nc, .inr (0, [.ref nc1, .ref nc2, .ref nc3, .ref nc4, .int (nI (vnC v))])), (nc3, .inl (cI, 4, .inl (vbu v))), (nc4, .inl (cZ, 4, .inl (vfl v))), (np, .inr (1, [.ref np1, .ref np2, .ref np3, .int (nI 4), .int (nI (vnP v))])), (np1, .inl (cI, 4, .inl (vpw v))), (np2, .inl (cI, 4, .inl (vpa v)))] (fun (r : Int32) (u : VT) => r = vpa v j + vbu v i / 2 ∧ u = mkV (vsh v) (vco v) (upd (vbu v) i 0) (vfl v) (vnC v) (vpw v) (upd (vpa v) j (vpa v j + vbu v i / 2)) (vpb v) (vnP v) (vkw v) (vka v) (vkb v) (vnK v) (vday v) (vcoal v) (vbar v) (vfine v) (vcrs v) (vcoin v) (vship v) (vR v) (vS v)) (fun (u : VT) => [(x0, .inr (3, [.ref xr, .ref xs, .ref n0, .ref b0])), (n0, .inr (2, [.ref nc, .ref np, .ref nk, .int (nI (vday u)), .int (vcoal u), .int (vbar u), .int (vfine u), .int (vcrs u), .int (vcoin u), .int (vship u)])), (nc, .inr (0, [.ref nc1, .ref nc2, .ref nc3, .ref nc4, .int (nI (vnC u))])), (nc3, .inl (cI, 4, .inl (vbu u))), (nc4, .inl (cZ, 4, .inl (vfl u))), (np, .inr (1, [.ref np1, .ref np2, .ref np3, .int (nI 4), .int (nI (vnP u))])), (np1, .inl (cI, 4, .inl (vpw u))), (np2, .inl (cI, 4, .inl (vpa u)))]) := by
  have hb4 := hI.1
  have hb5 := hI.2.1
  have hb6 := hI.2.2.1
  have hk := k_steep hI i j hi hj h1 h2 h3
  exact Mp.ofX (c_X3_steep l D cI cZ cJ x0 xr xs n0 b0 nc np nk nc1 nc2 nc3 nc4 np1 np2 np3 v (nI i) (nI j) hI hst) (fun E h => by rcases h with ⟨-, h⟩ | ⟨-, h⟩ <;> (rw [hk] at h; exact absurd h (by decide))) (fun r u h => by
    obtain ⟨-, hr, hu⟩ := h
    refine ⟨hr.trans (by unfold rSteep; rw [ix_nI (show i < 2147483648 by omega), ix_nI (show j < 2147483648 by omega)]), hu.trans (n_steep hI i j hi hj h1 h2 h3)⟩)
theorem k_draw {v : VT} (hI : IS v) (i j : Nat) (x : Int32) (hi : i < vnP v) (hj : j < vnK v) (hx : 1 ≤ x ∧ x ≤ 150) (h1 : ¬ vpw v i < x) (h2 : vkw v j + x ≤ 150) : kDraw v (nI i) (nI j) x = 0 := by
  have hb4 := hI.1
  have hb5 := hI.2.1
  have hb6 := hI.2.2.1
  unfold kDraw
  rw [if_pos (show 0 ≤ nI i ∧ nI i < nI (vnP v) from ⟨nI_pos' (by omega), nI_lt hi (by omega)⟩), if_pos (show 0 ≤ nI j ∧ nI j < nI (vnK v) from ⟨nI_pos' (by omega), nI_lt hj (by omega)⟩), if_pos hx, ix_nI (show i < 2147483648 by omega), ix_nI (show j < 2147483648 by omega), if_neg h1, if_pos h2]
theorem n_draw {v : VT} (hI : IS v) (i j : Nat) (x : Int32) (hi : i < vnP v) (hj : j < vnK v) (hx : 1 ≤ x ∧ x ≤ 150) (h1 : ¬ vpw v i < x) (h2 : vkw v j + x ≤ 150) : nDraw v (nI i) (nI j) x = mkV (vsh v) (vco v) (vbu v) (vfl v) (vnC v) (upd (vpw v) i (vpw v i - x)) (upd (vpa v) i (vpa v i - vpa v i * x / vpw v i)) (vpb v) (vnP v) (upd (vkw v) j (vkw v j + x)) (upd (vka v) j (vka v j + vpa v i * x / vpw v i)) (vkb v) (vnK v) (vday v) (vcoal v) (vbar v) (vfine v) (vcrs v) (vcoin v) (vship v) (vR v) (vS v) := by
  have hb4 := hI.1
  have hb5 := hI.2.1
  have hb6 := hI.2.2.1
  have hk := k_draw hI i j x hi hj hx h1 h2
  unfold nDraw
  rw [if_pos hk]
  simp only [ix_nI (show i < 2147483648 by omega), ix_nI (show j < 2147483648 by omega)]
set_option maxRecDepth 100000 in
theorem p_draw (l : Launch) (D : va_G) (cI cZ cJ : ClassId) (x0 xr xs n0 b0 : Nat) (nc np nk np1 np2 np3 nk1 nk2 nk3 : Nat) (v : VT) (i j : Nat) (x : Int32) (hI : IS v) (hi : i < vnP v) (hj : j < vnK v) (hx : 1 ≤ x ∧ x ≤ 150) (h1 : ¬ vpw v i < x) (h2 : vkw v j + x ≤ 150) (hst : l.stackTraces = false) : Mp l yX3_draw cX3_draw 8 (some .int) rm_X3_draw D (TY cI cZ cJ) [.ref x0, .int (nI i), .int (nI j), .int x] [(x0, .inr (3, [.ref xr, .ref xs, .ref n0, .ref b0])), (n0, .inr (2, [.ref nc, .ref np, .ref nk, .int (nI (vday v)), .int (vcoal v), .int (vbar v), .int (vfine v), .int (vcrs v), .int (vcoin v), .int (vship v)])), (np, .inr (1, [.ref np1, .ref np2, .ref np3, .int (nI 4), .int (nI (vnP v))])), (np1, .inl (cI, 4, .inl (vpw v))), (np2, .inl (cI, 4, .inl (vpa v))), (nk, .inr (1, [.ref nk1, .ref nk2, .ref nk3, .int (nI 3), .int (nI (vnK v))])), (nk1, .inl (cI, 4, .inl (vkw v))), (nk2, .inl (cI, 4, .inl (vka v)))] (fun (r : Int32) (u : VT) => r = vpa v i * x / vpw v i ∧ u = mkV (vsh v) (vco v) (vbu v) (vfl v) (vnC v) (upd (vpw v) i (vpw v i - x)) (upd (vpa v) i (vpa v i - vpa v i * x / vpw v i)) (vpb v) (vnP v) (upd (vkw v) j (vkw v j + x)) (upd (vka v) j (vka v j + vpa v i * x / vpw v i)) (vkb v) (vnK v) (vday v) (vcoal v) (vbar v) (vfine v) (vcrs v) (vcoin v) (vship v) (vR v) (vS v)) (fun (u : VT) => [(x0, .inr (3, [.ref xr, .ref xs, .ref n0, .ref b0])), (n0, .inr (2, [.ref nc, .ref np, .ref nk, .int (nI (vday u)), .int (vcoal u), .int (vbar u), .int (vfine u), .int (vcrs u), .int (vcoin u), .int (vship u)])), (np, .inr (1, [.ref np1, .ref np2, .ref np3, .int (nI 4), .int (nI (vnP u))])), (np1, .inl (cI, 4, .inl (vpw u))), (np2, .inl (cI, 4, .inl (vpa u))), (nk, .inr (1, [.ref nk1, .ref nk2, .ref nk3, .int (nI 3), .int (nI (vnK u))])), (nk1, .inl (cI, 4, .inl (vkw u))), (nk2, .inl (cI, 4, .inl (vka u)))]) := by
  have hb4 := hI.1
  have hb5 := hI.2.1
  have hb6 := hI.2.2.1
  have hk := k_draw hI i j x hi hj hx h1 h2
  exact Mp.ofX (c_X3_draw l D cI cZ cJ x0 xr xs n0 b0 nc np nk np1 np2 np3 nk1 nk2 nk3 v (nI i) (nI j) x hI hst) (fun E h => by rcases h with ⟨-, h⟩ | ⟨-, h⟩ | ⟨-, h⟩ <;> (rw [hk] at h; exact absurd h (by decide))) (fun r u h => by
    obtain ⟨-, hr, hu⟩ := h
    refine ⟨hr.trans (by unfold rDraw; rw [ix_nI (show i < 2147483648 by omega)]), hu.trans (n_draw hI i j x hi hj hx h1 h2)⟩)
theorem k_boil {v : VT} (hI : IS v) (i : Nat) (hi : i < vnK v) : kBoil v (nI i) = 0 := by
  have hb4 := hI.1
  have hb5 := hI.2.1
  have hb6 := hI.2.2.1
  unfold kBoil
  rw [if_pos (show 0 ≤ nI i ∧ nI i < nI (vnK v) from ⟨nI_pos' (by omega), nI_lt hi (by omega)⟩)]
theorem n_boil {v : VT} (hI : IS v) (i : Nat) (hi : i < vnK v) : nBoil v (nI i) = mkV (vsh v) (vco v) (vbu v) (vfl v) (vnC v) (vpw v) (vpa v) (vpb v) (vnP v) (vkw v) (vka v) (upd (vkb v) i (tog (vkb v i))) (vnK v) (vday v) (vcoal v) (vbar v) (vfine v) (vcrs v) (vcoin v) (vship v) (vR v) (vS v) := by
  have hb4 := hI.1
  have hb5 := hI.2.1
  have hb6 := hI.2.2.1
  have hk := k_boil hI i hi
  unfold nBoil
  rw [if_pos hk]
  simp only [ix_nI (show i < 2147483648 by omega)]
set_option maxRecDepth 100000 in
theorem p_boil (l : Launch) (D : va_G) (cI cZ cJ : ClassId) (x0 xr xs n0 b0 : Nat) (nc np nk nk1 nk2 nk3 : Nat) (v : VT) (i : Nat) (hI : IS v) (hi : i < vnK v) (hst : l.stackTraces = false) : Mp l yX3_boil cX3_boil 2 (some .boolean) rm_X3_boil D (TY cI cZ cJ) [.ref x0, .int (nI i)] [(x0, .inr (3, [.ref xr, .ref xs, .ref n0, .ref b0])), (n0, .inr (2, [.ref nc, .ref np, .ref nk, .int (nI (vday v)), .int (vcoal v), .int (vbar v), .int (vfine v), .int (vcrs v), .int (vcoin v), .int (vship v)])), (nk, .inr (1, [.ref nk1, .ref nk2, .ref nk3, .int (nI 3), .int (nI (vnK v))])), (nk3, .inl (cZ, 4, .inl (vkb v)))] (fun (r : Int32) (u : VT) => r = tog (vkb v i) ∧ u = mkV (vsh v) (vco v) (vbu v) (vfl v) (vnC v) (vpw v) (vpa v) (vpb v) (vnP v) (vkw v) (vka v) (upd (vkb v) i (tog (vkb v i))) (vnK v) (vday v) (vcoal v) (vbar v) (vfine v) (vcrs v) (vcoin v) (vship v) (vR v) (vS v)) (fun (u : VT) => [(x0, .inr (3, [.ref xr, .ref xs, .ref n0, .ref b0])), (n0, .inr (2, [.ref nc, .ref np, .ref nk, .int (nI (vday u)), .int (vcoal u), .int (vbar u), .int (vfine u), .int (vcrs u), .int (vcoin u), .int (vship u)])), (nk, .inr (1, [.ref nk1, .ref nk2, .ref nk3, .int (nI 3), .int (nI (vnK u))])), (nk3, .inl (cZ, 4, .inl (vkb u)))]) := by
  have hb4 := hI.1
  have hb5 := hI.2.1
  have hb6 := hI.2.2.1
  have hk := k_boil hI i hi
  exact Mp.ofX (c_X3_boil l D cI cZ cJ x0 xr xs n0 b0 nc np nk nk1 nk2 nk3 v (nI i) hI hst) (fun E h => by obtain ⟨-, h⟩ := h; rw [hk] at h; exact absurd h (by decide)) (fun r u h => by
    obtain ⟨-, hr, hu⟩ := h
    refine ⟨hr.trans (by unfold rBoil; rw [ix_nI (show i < 2147483648 by omega)]), hu.trans (n_boil hI i hi)⟩)
theorem k_pour0 {v : VT} (hI : IS v) (i : Nat) (x : Int32) (hi : i < vnK v) (hx : 1 ≤ x ∧ x ≤ 20) (h1 : ¬ vbar v < x) (h2 : ¬ vka v i = 0) (he : eggK v i = 1) : kPour v (nI i) x = 0 := by
  have hb4 := hI.1
  have hb5 := hI.2.1
  have hb6 := hI.2.2.1
  unfold kPour
  rw [if_pos (show 0 ≤ nI i ∧ nI i < nI (vnK v) from ⟨nI_pos' (by omega), nI_lt hi (by omega)⟩), if_pos hx, if_neg h1, ix_nI (show i < 2147483648 by omega), if_neg h2]
theorem n_pour0 {v : VT} (hI : IS v) (i : Nat) (x : Int32) (hi : i < vnK v) (hx : 1 ≤ x ∧ x ≤ 20) (h1 : ¬ vbar v < x) (h2 : ¬ vka v i = 0) (he : eggK v i = 1) : nPour v (nI i) x = mkV (vsh v) (vco v) (vbu v) (vfl v) (vnC v) (vpw v) (vpa v) (vpb v) (vnP v) (upd (vkw v) i 0) (upd (vka v) i 0) (upd (vkb v) i 0) (vnK v) (vday v) (vcoal v) (vbar v - x) (vfine v + crys (vkw v i) (vka v i) x) (vcrs v) (vcoin v) (vship v) (vR v) (vS v) := by
  have hb4 := hI.1
  have hb5 := hI.2.1
  have hb6 := hI.2.2.1
  have hk := k_pour0 hI i x hi hx h1 h2 he
  unfold nPour
  rw [if_pos hk, if_pos (by rw [ix_nI (show i < 2147483648 by omega)]; exact he)]
  simp only [ix_nI (show i < 2147483648 by omega)]
set_option maxRecDepth 100000 in
theorem p_pour0 (l : Launch) (D : va_G) (cI cZ cJ : ClassId) (x0 xr xs n0 b0 : Nat) (nc np nk nk1 nk2 nk3 : Nat) (v : VT) (i : Nat) (x : Int32) (hI : IS v) (hi : i < vnK v) (hx : 1 ≤ x ∧ x ≤ 20) (h1 : ¬ vbar v < x) (h2 : ¬ vka v i = 0) (he : eggK v i = 1) (hst : l.stackTraces = false) : Mp l yX3_pour cX3_pour 4 (some .int) rm_X3_pour D (TY cI cZ cJ) [.ref x0, .int (nI i), .int x] [(x0, .inr (3, [.ref xr, .ref xs, .ref n0, .ref b0])), (n0, .inr (2, [.ref nc, .ref np, .ref nk, .int (nI (vday v)), .int (vcoal v), .int (vbar v), .int (vfine v), .int (vcrs v), .int (vcoin v), .int (vship v)])), (nk, .inr (1, [.ref nk1, .ref nk2, .ref nk3, .int (nI 3), .int (nI (vnK v))])), (nk1, .inl (cI, 4, .inl (vkw v))), (nk2, .inl (cI, 4, .inl (vka v))), (nk3, .inl (cZ, 4, .inl (vkb v)))] (fun (r : Int32) (u : VT) => r = crys (vkw v i) (vka v i) x ∧ u = mkV (vsh v) (vco v) (vbu v) (vfl v) (vnC v) (vpw v) (vpa v) (vpb v) (vnP v) (upd (vkw v) i 0) (upd (vka v) i 0) (upd (vkb v) i 0) (vnK v) (vday v) (vcoal v) (vbar v - x) (vfine v + crys (vkw v i) (vka v i) x) (vcrs v) (vcoin v) (vship v) (vR v) (vS v)) (fun (u : VT) => [(x0, .inr (3, [.ref xr, .ref xs, .ref n0, .ref b0])), (n0, .inr (2, [.ref nc, .ref np, .ref nk, .int (nI (vday u)), .int (vcoal u), .int (vbar u), .int (vfine u), .int (vcrs u), .int (vcoin u), .int (vship u)])), (nk, .inr (1, [.ref nk1, .ref nk2, .ref nk3, .int (nI 3), .int (nI (vnK u))])), (nk1, .inl (cI, 4, .inl (vkw u))), (nk2, .inl (cI, 4, .inl (vka u))), (nk3, .inl (cZ, 4, .inl (vkb u)))]) := by
  have hb4 := hI.1
  have hb5 := hI.2.1
  have hb6 := hI.2.2.1
  have hk := k_pour0 hI i x hi hx h1 h2 he
  exact Mp.ofX (c_X3_pour l D cI cZ cJ x0 xr xs n0 b0 nc np nk nk1 nk2 nk3 v (nI i) x hI hst) (fun E h => by rcases h with ⟨-, h⟩ | ⟨-, h⟩ | ⟨-, h⟩ <;> (rw [hk] at h; exact absurd h (by decide))) (fun r u h => by
    obtain ⟨-, hr, hu⟩ := h
    refine ⟨hr.trans (by unfold rPour; rw [ix_nI (show i < 2147483648 by omega)]), hu.trans (n_pour0 hI i x hi hx h1 h2 he)⟩)
theorem k_pour1 {v : VT} (hI : IS v) (i : Nat) (x : Int32) (hi : i < vnK v) (hx : 1 ≤ x ∧ x ≤ 20) (h1 : ¬ vbar v < x) (h2 : ¬ vka v i = 0) (he : ¬ eggK v i = 1) : kPour v (nI i) x = 0 := by
  have hb4 := hI.1
  have hb5 := hI.2.1
  have hb6 := hI.2.2.1
  unfold kPour
  rw [if_pos (show 0 ≤ nI i ∧ nI i < nI (vnK v) from ⟨nI_pos' (by omega), nI_lt hi (by omega)⟩), if_pos hx, if_neg h1, ix_nI (show i < 2147483648 by omega), if_neg h2]
theorem n_pour1 {v : VT} (hI : IS v) (i : Nat) (x : Int32) (hi : i < vnK v) (hx : 1 ≤ x ∧ x ≤ 20) (h1 : ¬ vbar v < x) (h2 : ¬ vka v i = 0) (he : ¬ eggK v i = 1) : nPour v (nI i) x = mkV (vsh v) (vco v) (vbu v) (vfl v) (vnC v) (vpw v) (vpa v) (vpb v) (vnP v) (upd (vkw v) i 0) (upd (vka v) i 0) (upd (vkb v) i 0) (vnK v) (vday v) (vcoal v) (vbar v - x) (vfine v) (vcrs v + crys (vkw v i) (vka v i) x) (vcoin v) (vship v) (vR v) (vS v) := by
  have hb4 := hI.1
  have hb5 := hI.2.1
  have hb6 := hI.2.2.1
  have hk := k_pour1 hI i x hi hx h1 h2 he
  unfold nPour
  rw [if_pos hk, if_neg (by rw [ix_nI (show i < 2147483648 by omega)]; exact he)]
  simp only [ix_nI (show i < 2147483648 by omega)]
set_option maxRecDepth 100000 in
theorem p_pour1 (l : Launch) (D : va_G) (cI cZ cJ : ClassId) (x0 xr xs n0 b0 : Nat) (nc np nk nk1 nk2 nk3 : Nat) (v : VT) (i : Nat) (x : Int32) (hI : IS v) (hi : i < vnK v) (hx : 1 ≤ x ∧ x ≤ 20) (h1 : ¬ vbar v < x) (h2 : ¬ vka v i = 0) (he : ¬ eggK v i = 1) (hst : l.stackTraces = false) : Mp l yX3_pour cX3_pour 4 (some .int) rm_X3_pour D (TY cI cZ cJ) [.ref x0, .int (nI i), .int x] [(x0, .inr (3, [.ref xr, .ref xs, .ref n0, .ref b0])), (n0, .inr (2, [.ref nc, .ref np, .ref nk, .int (nI (vday v)), .int (vcoal v), .int (vbar v), .int (vfine v), .int (vcrs v), .int (vcoin v), .int (vship v)])), (nk, .inr (1, [.ref nk1, .ref nk2, .ref nk3, .int (nI 3), .int (nI (vnK v))])), (nk1, .inl (cI, 4, .inl (vkw v))), (nk2, .inl (cI, 4, .inl (vka v))), (nk3, .inl (cZ, 4, .inl (vkb v)))] (fun (r : Int32) (u : VT) => r = crys (vkw v i) (vka v i) x ∧ u = mkV (vsh v) (vco v) (vbu v) (vfl v) (vnC v) (vpw v) (vpa v) (vpb v) (vnP v) (upd (vkw v) i 0) (upd (vka v) i 0) (upd (vkb v) i 0) (vnK v) (vday v) (vcoal v) (vbar v - x) (vfine v) (vcrs v + crys (vkw v i) (vka v i) x) (vcoin v) (vship v) (vR v) (vS v)) (fun (u : VT) => [(x0, .inr (3, [.ref xr, .ref xs, .ref n0, .ref b0])), (n0, .inr (2, [.ref nc, .ref np, .ref nk, .int (nI (vday u)), .int (vcoal u), .int (vbar u), .int (vfine u), .int (vcrs u), .int (vcoin u), .int (vship u)])), (nk, .inr (1, [.ref nk1, .ref nk2, .ref nk3, .int (nI 3), .int (nI (vnK u))])), (nk1, .inl (cI, 4, .inl (vkw u))), (nk2, .inl (cI, 4, .inl (vka u))), (nk3, .inl (cZ, 4, .inl (vkb u)))]) := by
  have hb4 := hI.1
  have hb5 := hI.2.1
  have hb6 := hI.2.2.1
  have hk := k_pour1 hI i x hi hx h1 h2 he
  exact Mp.ofX (c_X3_pour l D cI cZ cJ x0 xr xs n0 b0 nc np nk nk1 nk2 nk3 v (nI i) x hI hst) (fun E h => by rcases h with ⟨-, h⟩ | ⟨-, h⟩ | ⟨-, h⟩ <;> (rw [hk] at h; exact absurd h (by decide))) (fun r u h => by
    obtain ⟨-, hr, hu⟩ := h
    refine ⟨hr.trans (by unfold rPour; rw [ix_nI (show i < 2147483648 by omega)]), hu.trans (n_pour1 hI i x hi hx h1 h2 he)⟩)
theorem k_clamp {v : VT} (hI : IS v) (i : Nat) (x : Int32) (hi : i < vnC v) (hx : 0 ≤ x ∧ x ≤ 3) : kClamp v (nI i) x = 0 := by
  have hb4 := hI.1
  have hb5 := hI.2.1
  have hb6 := hI.2.2.1
  unfold kClamp
  rw [if_pos (show 0 ≤ nI i ∧ nI i < nI (vnC v) from ⟨nI_pos' (by omega), nI_lt hi (by omega)⟩), if_pos hx]
set_option maxRecDepth 100000 in
theorem p_clamp (l : Launch) (D : va_G) (cI cZ cJ : ClassId) (x0 xr xs n0 b0 : Nat) (nc np nk nc1 nc2 nc3 nc4 : Nat) (v : VT) (i : Nat) (x : Int32) (hI : IS v) (hi : i < vnC v) (hx : 0 ≤ x ∧ x ≤ 3) (hst : l.stackTraces = false) : Mp l yX3_clamp cX3_clamp 3 (some .int) rm_X3_clamp D (TY cI cZ cJ) [.ref x0, .int (nI i), .int x] [(x0, .inr (3, [.ref xr, .ref xs, .ref n0, .ref b0])), (n0, .inr (2, [.ref nc, .ref np, .ref nk, .int (nI (vday v)), .int (vcoal v), .int (vbar v), .int (vfine v), .int (vcrs v), .int (vcoin v), .int (vship v)])), (nc, .inr (0, [.ref nc1, .ref nc2, .ref nc3, .ref nc4, .int (nI (vnC v))])), (nc1, .inl (cI, 4, .inl (vsh v))), (nc2, .inl (cI, 4, .inl (vco v))), (nc3, .inl (cI, 4, .inl (vbu v))), (nc4, .inl (cZ, 4, .inl (vfl v)))] (fun (r : Int32) (u : Unit) => r = ctell (vsh v) (vco v) (vbu v) (vfl v) i x) (fun (u : Unit) => [(x0, .inr (3, [.ref xr, .ref xs, .ref n0, .ref b0])), (n0, .inr (2, [.ref nc, .ref np, .ref nk, .int (nI (vday v)), .int (vcoal v), .int (vbar v), .int (vfine v), .int (vcrs v), .int (vcoin v), .int (vship v)])), (nc, .inr (0, [.ref nc1, .ref nc2, .ref nc3, .ref nc4, .int (nI (vnC v))])), (nc1, .inl (cI, 4, .inl (vsh v))), (nc2, .inl (cI, 4, .inl (vco v))), (nc3, .inl (cI, 4, .inl (vbu v))), (nc4, .inl (cZ, 4, .inl (vfl v)))]) := by
  have hb4 := hI.1
  have hb5 := hI.2.1
  have hb6 := hI.2.2.1
  have hk := k_clamp hI i x hi hx
  exact Mp.ofX (c_X3_clamp l D cI cZ cJ x0 xr xs n0 b0 nc np nk nc1 nc2 nc3 nc4 v (nI i) x hI hst) (fun E h => by obtain ⟨-, h⟩ := h; rw [hk] at h; exact absurd h (by decide)) (fun r u h => by
    obtain ⟨-, hr⟩ := h
    refine hr.trans (by unfold rClamp; rw [ix_nI (show i < 2147483648 by omega)]))
theorem k_pit {v : VT} (hI : IS v) (i : Nat) (x : Int32) (hi : i < vnP v) (hx : 0 ≤ x ∧ x ≤ 3) : kPit v (nI i) x = 0 := by
  have hb4 := hI.1
  have hb5 := hI.2.1
  have hb6 := hI.2.2.1
  unfold kPit
  rw [if_pos (show 0 ≤ nI i ∧ nI i < nI (vnP v) from ⟨nI_pos' (by omega), nI_lt hi (by omega)⟩), if_pos hx]
set_option maxRecDepth 100000 in
theorem p_pit (l : Launch) (D : va_G) (cI cZ cJ : ClassId) (x0 xr xs n0 b0 : Nat) (nc np nk np1 np2 np3 : Nat) (v : VT) (i : Nat) (x : Int32) (hI : IS v) (hi : i < vnP v) (hx : 0 ≤ x ∧ x ≤ 3) (hst : l.stackTraces = false) : Mp l yX3_pit cX3_pit 3 (some .int) rm_X3_pit D (TY cI cZ cJ) [.ref x0, .int (nI i), .int x] [(x0, .inr (3, [.ref xr, .ref xs, .ref n0, .ref b0])), (n0, .inr (2, [.ref nc, .ref np, .ref nk, .int (nI (vday v)), .int (vcoal v), .int (vbar v), .int (vfine v), .int (vcrs v), .int (vcoin v), .int (vship v)])), (np, .inr (1, [.ref np1, .ref np2, .ref np3, .int (nI 4), .int (nI (vnP v))])), (np1, .inl (cI, 4, .inl (vpw v))), (np2, .inl (cI, 4, .inl (vpa v))), (np3, .inl (cZ, 4, .inl (vpb v)))] (fun (r : Int32) (u : Unit) => r = ltell (vpw v) (vpa v) (vpb v) i x) (fun (u : Unit) => [(x0, .inr (3, [.ref xr, .ref xs, .ref n0, .ref b0])), (n0, .inr (2, [.ref nc, .ref np, .ref nk, .int (nI (vday v)), .int (vcoal v), .int (vbar v), .int (vfine v), .int (vcrs v), .int (vcoin v), .int (vship v)])), (np, .inr (1, [.ref np1, .ref np2, .ref np3, .int (nI 4), .int (nI (vnP v))])), (np1, .inl (cI, 4, .inl (vpw v))), (np2, .inl (cI, 4, .inl (vpa v))), (np3, .inl (cZ, 4, .inl (vpb v)))]) := by
  have hb4 := hI.1
  have hb5 := hI.2.1
  have hb6 := hI.2.2.1
  have hk := k_pit hI i x hi hx
  exact Mp.ofX (c_X3_pit l D cI cZ cJ x0 xr xs n0 b0 nc np nk np1 np2 np3 v (nI i) x hI hst) (fun E h => by obtain ⟨-, h⟩ := h; rw [hk] at h; exact absurd h (by decide)) (fun r u h => by
    obtain ⟨-, hr⟩ := h
    refine hr.trans (by unfold rPit; rw [ix_nI (show i < 2147483648 by omega)]))
theorem k_about {v : VT} (hI : IS v) (i : Nat) (x : Int32) (hi : i < vnK v) (hx : 0 ≤ x ∧ x ≤ 4) : kAbout v (nI i) x = 0 := by
  have hb4 := hI.1
  have hb5 := hI.2.1
  have hb6 := hI.2.2.1
  unfold kAbout
  rw [if_pos (show 0 ≤ nI i ∧ nI i < nI (vnK v) from ⟨nI_pos' (by omega), nI_lt hi (by omega)⟩), if_pos hx]
set_option maxRecDepth 100000 in
theorem p_about (l : Launch) (D : va_G) (cI cZ cJ : ClassId) (x0 xr xs n0 b0 : Nat) (nc np nk nk1 nk2 nk3 : Nat) (v : VT) (i : Nat) (x : Int32) (hI : IS v) (hi : i < vnK v) (hx : 0 ≤ x ∧ x ≤ 4) (hst : l.stackTraces = false) : Mp l yX3_about cX3_about 3 (some .int) rm_X3_about D (TY cI cZ cJ) [.ref x0, .int (nI i), .int x] [(x0, .inr (3, [.ref xr, .ref xs, .ref n0, .ref b0])), (n0, .inr (2, [.ref nc, .ref np, .ref nk, .int (nI (vday v)), .int (vcoal v), .int (vbar v), .int (vfine v), .int (vcrs v), .int (vcoin v), .int (vship v)])), (nk, .inr (1, [.ref nk1, .ref nk2, .ref nk3, .int (nI 3), .int (nI (vnK v))])), (nk1, .inl (cI, 4, .inl (vkw v))), (nk2, .inl (cI, 4, .inl (vka v))), (nk3, .inl (cZ, 4, .inl (vkb v)))] (fun (r : Int32) (u : Unit) => r = ltell (vkw v) (vka v) (vkb v) i x) (fun (u : Unit) => [(x0, .inr (3, [.ref xr, .ref xs, .ref n0, .ref b0])), (n0, .inr (2, [.ref nc, .ref np, .ref nk, .int (nI (vday v)), .int (vcoal v), .int (vbar v), .int (vfine v), .int (vcrs v), .int (vcoin v), .int (vship v)])), (nk, .inr (1, [.ref nk1, .ref nk2, .ref nk3, .int (nI 3), .int (nI (vnK v))])), (nk1, .inl (cI, 4, .inl (vkw v))), (nk2, .inl (cI, 4, .inl (vka v))), (nk3, .inl (cZ, 4, .inl (vkb v)))]) := by
  have hb4 := hI.1
  have hb5 := hI.2.1
  have hb6 := hI.2.2.1
  have hk := k_about hI i x hi hx
  exact Mp.ofX (c_X3_about l D cI cZ cJ x0 xr xs n0 b0 nc np nk nk1 nk2 nk3 v (nI i) x hI hst) (fun E h => by obtain ⟨-, h⟩ := h; rw [hk] at h; exact absurd h (by decide)) (fun r u h => by
    obtain ⟨-, hr⟩ := h
    refine hr.trans (by unfold rAbout; rw [ix_nI (show i < 2147483648 by omega)]))
theorem k_count {v : VT} (hI : IS v) (x : Int32) (hx : 0 ≤ x ∧ x ≤ 9) : kCount v x = 0 := by
  have hb4 := hI.1
  have hb5 := hI.2.1
  have hb6 := hI.2.2.1
  unfold kCount
  rw [if_pos hx]
set_option maxRecDepth 100000 in
theorem p_count (l : Launch) (D : va_G) (cI cZ cJ : ClassId) (x0 xr xs n0 b0 : Nat) (nc np nk nc1 nc2 nc3 nc4 np1 np2 np3 nk1 nk2 nk3 : Nat) (v : VT) (x : Int32) (hI : IS v) (hx : 0 ≤ x ∧ x ≤ 9) (hst : l.stackTraces = false) : Mp l yX3_count cX3_count 2 (some .int) rm_X3_count D (TY cI cZ cJ) [.ref x0, .int x] [(x0, .inr (3, [.ref xr, .ref xs, .ref n0, .ref b0])), (xr, .inl (cI, 6, .inl (vR v))), (n0, .inr (2, [.ref nc, .ref np, .ref nk, .int (nI (vday v)), .int (vcoal v), .int (vbar v), .int (vfine v), .int (vcrs v), .int (vcoin v), .int (vship v)])), (nc, .inr (0, [.ref nc1, .ref nc2, .ref nc3, .ref nc4, .int (nI (vnC v))])), (nc4, .inl (cZ, 4, .inl (vfl v))), (np, .inr (1, [.ref np1, .ref np2, .ref np3, .int (nI 4), .int (nI (vnP v))])), (np2, .inl (cI, 4, .inl (vpa v))), (nk, .inr (1, [.ref nk1, .ref nk2, .ref nk3, .int (nI 3), .int (nI (vnK v))])), (nk2, .inl (cI, 4, .inl (vka v)))] (fun (r : Int32) (u : Unit) => r = cntR (vR v) v x) (fun (u : Unit) => [(x0, .inr (3, [.ref xr, .ref xs, .ref n0, .ref b0])), (xr, .inl (cI, 6, .inl (vR v))), (n0, .inr (2, [.ref nc, .ref np, .ref nk, .int (nI (vday v)), .int (vcoal v), .int (vbar v), .int (vfine v), .int (vcrs v), .int (vcoin v), .int (vship v)])), (nc, .inr (0, [.ref nc1, .ref nc2, .ref nc3, .ref nc4, .int (nI (vnC v))])), (nc4, .inl (cZ, 4, .inl (vfl v))), (np, .inr (1, [.ref np1, .ref np2, .ref np3, .int (nI 4), .int (nI (vnP v))])), (np2, .inl (cI, 4, .inl (vpa v))), (nk, .inr (1, [.ref nk1, .ref nk2, .ref nk3, .int (nI 3), .int (nI (vnK v))])), (nk2, .inl (cI, 4, .inl (vka v)))]) := by
  have hb4 := hI.1
  have hb5 := hI.2.1
  have hb6 := hI.2.2.1
  have hk := k_count hI x hx
  exact Mp.ofX (c_X3_count l D cI cZ cJ x0 xr xs n0 b0 nc np nk nc1 nc2 nc3 nc4 np1 np2 np3 nk1 nk2 nk3 v x hI hst) (fun E h => by obtain ⟨-, h⟩ := h; rw [hk] at h; exact absurd h (by decide)) (fun r u h => by
    obtain ⟨-, hr⟩ := h
    refine hr.trans (rfl))
theorem k_pass {v : VT} (hI : IS v)   : kPass v 1 = 0 := by
  have hb4 := hI.1
  have hb5 := hI.2.1
  have hb6 := hI.2.2.1
  unfold kPass
  rw [if_pos (show (1 : Int32) ≤ 1 ∧ (1 : Int32) ≤ 60 by decide)]
theorem n_pass {v : VT} (hI : IS v)   : nPass v 1 = dayV v := (if_pos (k_pass hI)).trans (by rw [show ix 1 = 1 by decide]; rfl)
set_option maxRecDepth 100000 in
theorem p_pass (l : Launch) (D : va_G) (cI cZ cJ : ClassId) (x0 xr xs n0 b0 : Nat) (nc np nk nc1 nc2 nc3 nc4 np1 np2 np3 nk1 nk2 nk3 : Nat) (v : VT) (hI : IS v) (hst : l.stackTraces = false) : Mp l yX3_pass cX3_pass 3 (some .int) rm_X3_pass D (TY cI cZ cJ) [.ref x0, .int 1] [(x0, .inr (3, [.ref xr, .ref xs, .ref n0, .ref b0])), (xr, .inl (cI, 6, .inl (vR v))), (xs, .inl (cI, 7, .inl (vS v))), (n0, .inr (2, [.ref nc, .ref np, .ref nk, .int (nI (vday v)), .int (vcoal v), .int (vbar v), .int (vfine v), .int (vcrs v), .int (vcoin v), .int (vship v)])), (nc, .inr (0, [.ref nc1, .ref nc2, .ref nc3, .ref nc4, .int (nI (vnC v))])), (nc1, .inl (cI, 4, .inl (vsh v))), (nc2, .inl (cI, 4, .inl (vco v))), (nc3, .inl (cI, 4, .inl (vbu v))), (nc4, .inl (cZ, 4, .inl (vfl v))), (np, .inr (1, [.ref np1, .ref np2, .ref np3, .int (nI 4), .int (nI (vnP v))])), (np1, .inl (cI, 4, .inl (vpw v))), (np2, .inl (cI, 4, .inl (vpa v))), (np3, .inl (cZ, 4, .inl (vpb v))), (nk, .inr (1, [.ref nk1, .ref nk2, .ref nk3, .int (nI 3), .int (nI (vnK v))])), (nk1, .inl (cI, 4, .inl (vkw v))), (nk2, .inl (cI, 4, .inl (vka v))), (nk3, .inl (cZ, 4, .inl (vkb v)))] (fun (r : Int32) (u : VT) => r = vcoin (dayV v) - vcoin v ∧ u = dayV v) (fun (u : VT) => [(x0, .inr (3, [.ref xr, .ref xs, .ref n0, .ref b0])), (xr, .inl (cI, 6, .inl (vR u))), (xs, .inl (cI, 7, .inl (vS u))), (n0, .inr (2, [.ref nc, .ref np, .ref nk, .int (nI (vday u)), .int (vcoal u), .int (vbar u), .int (vfine u), .int (vcrs u), .int (vcoin u), .int (vship u)])), (nc, .inr (0, [.ref nc1, .ref nc2, .ref nc3, .ref nc4, .int (nI (vnC u))])), (nc1, .inl (cI, 4, .inl (vsh u))), (nc2, .inl (cI, 4, .inl (vco u))), (nc3, .inl (cI, 4, .inl (vbu u))), (nc4, .inl (cZ, 4, .inl (vfl u))), (np, .inr (1, [.ref np1, .ref np2, .ref np3, .int (nI 4), .int (nI (vnP u))])), (np1, .inl (cI, 4, .inl (vpw u))), (np2, .inl (cI, 4, .inl (vpa u))), (np3, .inl (cZ, 4, .inl (vpb u))), (nk, .inr (1, [.ref nk1, .ref nk2, .ref nk3, .int (nI 3), .int (nI (vnK u))])), (nk1, .inl (cI, 4, .inl (vkw u))), (nk2, .inl (cI, 4, .inl (vka u))), (nk3, .inl (cZ, 4, .inl (vkb u)))]) := by
  have hb4 := hI.1
  have hb5 := hI.2.1
  have hb6 := hI.2.2.1
  have hk := k_pass hI  
  exact Mp.ofX (c_X3_pass l D cI cZ cJ x0 xr xs n0 b0 nc np nk nc1 nc2 nc3 nc4 np1 np2 np3 nk1 nk2 nk3 v 1 hI hst) (fun E h => by obtain ⟨-, h⟩ := h; rw [hk] at h; exact absurd h (by decide)) (fun r u h => by
    obtain ⟨-, hr, hu⟩ := h
    refine ⟨hr.trans (by unfold rPass; rw [show ix 1 = 1 by decide]; rfl), hu.trans (n_pass hI  )⟩)
theorem k_right {v : VT} (hI : IS v) (i : Nat) (hi : i < vnK v) : kRight v (nI i) = 0 := by
  have hb4 := hI.1
  have hb5 := hI.2.1
  have hb6 := hI.2.2.1
  unfold kRight
  rw [if_pos (show 0 ≤ nI i ∧ nI i < nI (vnK v) from ⟨nI_pos' (by omega), nI_lt hi (by omega)⟩)]
set_option maxRecDepth 100000 in
theorem p_right (l : Launch) (D : va_G) (cI cZ cJ : ClassId) (x0 xr xs n0 b0 : Nat) (nc np nk nc1 nc2 nc3 nc4 np1 np2 np3 nk1 nk2 nk3 : Nat) (v : VT) (bc bp bk bc1 bc2 bc3 bc4 bp1 bp2 bp3 bk1 bk2 bk3 : Nat) (g : VT) (i : Nat) (hI : IS v) (hAg : AH v g) (hi : i < vnK v) (hst : l.stackTraces = false) : Mp l yX3_right cX3_right 3 (some .int) rm_X3_right D (TY cI cZ cJ) [.ref x0, .int (nI i)] [(x0, .inr (3, [.ref xr, .ref xs, .ref n0, .ref b0])), (xr, .inl (cI, 6, .inl (vR v))), (xs, .inl (cI, 7, .inl (vS v))), (n0, .inr (2, [.ref nc, .ref np, .ref nk, .int (nI (vday v)), .int (vcoal v), .int (vbar v), .int (vfine v), .int (vcrs v), .int (vcoin v), .int (vship v)])), (nc, .inr (0, [.ref nc1, .ref nc2, .ref nc3, .ref nc4, .int (nI (vnC v))])), (nc1, .inl (cI, 4, .inl (vsh v))), (nc2, .inl (cI, 4, .inl (vco v))), (nc3, .inl (cI, 4, .inl (vbu v))), (nc4, .inl (cZ, 4, .inl (vfl v))), (np, .inr (1, [.ref np1, .ref np2, .ref np3, .int (nI 4), .int (nI (vnP v))])), (np1, .inl (cI, 4, .inl (vpw v))), (np2, .inl (cI, 4, .inl (vpa v))), (np3, .inl (cZ, 4, .inl (vpb v))), (nk, .inr (1, [.ref nk1, .ref nk2, .ref nk3, .int (nI 3), .int (nI (vnK v))])), (nk1, .inl (cI, 4, .inl (vkw v))), (nk2, .inl (cI, 4, .inl (vka v))), (nk3, .inl (cZ, 4, .inl (vkb v))), (b0, .inr (2, [.ref bc, .ref bp, .ref bk, .int (nI (vday g)), .int (vcoal g), .int (vbar g), .int (vfine g), .int (vcrs g), .int (vcoin g), .int (vship g)])), (bc, .inr (0, [.ref bc1, .ref bc2, .ref bc3, .ref bc4, .int (nI (vnC g))])), (bc1, .inl (cI, 4, .inl (vsh g))), (bc2, .inl (cI, 4, .inl (vco g))), (bc3, .inl (cI, 4, .inl (vbu g))), (bc4, .inl (cZ, 4, .inl (vfl g))), (bp, .inr (1, [.ref bp1, .ref bp2, .ref bp3, .int (nI 4), .int (nI (vnP g))])), (bp1, .inl (cI, 4, .inl (vpw g))), (bp2, .inl (cI, 4, .inl (vpa g))), (bp3, .inl (cZ, 4, .inl (vpb g))), (bk, .inr (1, [.ref bk1, .ref bk2, .ref bk3, .int (nI 3), .int (nI (vnK g))])), (bk1, .inl (cI, 4, .inl (vkw g))), (bk2, .inl (cI, 4, .inl (vka g))), (bk3, .inl (cZ, 4, .inl (vkb g)))] (fun (r : Int32) (u : VT) => r = rgt v i 0 60 ∧ AH v u) (fun (u : VT) => [(x0, .inr (3, [.ref xr, .ref xs, .ref n0, .ref b0])), (xr, .inl (cI, 6, .inl (vR v))), (xs, .inl (cI, 7, .inl (vS v))), (n0, .inr (2, [.ref nc, .ref np, .ref nk, .int (nI (vday v)), .int (vcoal v), .int (vbar v), .int (vfine v), .int (vcrs v), .int (vcoin v), .int (vship v)])), (nc, .inr (0, [.ref nc1, .ref nc2, .ref nc3, .ref nc4, .int (nI (vnC v))])), (nc1, .inl (cI, 4, .inl (vsh v))), (nc2, .inl (cI, 4, .inl (vco v))), (nc3, .inl (cI, 4, .inl (vbu v))), (nc4, .inl (cZ, 4, .inl (vfl v))), (np, .inr (1, [.ref np1, .ref np2, .ref np3, .int (nI 4), .int (nI (vnP v))])), (np1, .inl (cI, 4, .inl (vpw v))), (np2, .inl (cI, 4, .inl (vpa v))), (np3, .inl (cZ, 4, .inl (vpb v))), (nk, .inr (1, [.ref nk1, .ref nk2, .ref nk3, .int (nI 3), .int (nI (vnK v))])), (nk1, .inl (cI, 4, .inl (vkw v))), (nk2, .inl (cI, 4, .inl (vka v))), (nk3, .inl (cZ, 4, .inl (vkb v))), (b0, .inr (2, [.ref bc, .ref bp, .ref bk, .int (nI (vday u)), .int (vcoal u), .int (vbar u), .int (vfine u), .int (vcrs u), .int (vcoin u), .int (vship u)])), (bc, .inr (0, [.ref bc1, .ref bc2, .ref bc3, .ref bc4, .int (nI (vnC u))])), (bc1, .inl (cI, 4, .inl (vsh u))), (bc2, .inl (cI, 4, .inl (vco u))), (bc3, .inl (cI, 4, .inl (vbu u))), (bc4, .inl (cZ, 4, .inl (vfl u))), (bp, .inr (1, [.ref bp1, .ref bp2, .ref bp3, .int (nI 4), .int (nI (vnP u))])), (bp1, .inl (cI, 4, .inl (vpw u))), (bp2, .inl (cI, 4, .inl (vpa u))), (bp3, .inl (cZ, 4, .inl (vpb u))), (bk, .inr (1, [.ref bk1, .ref bk2, .ref bk3, .int (nI 3), .int (nI (vnK u))])), (bk1, .inl (cI, 4, .inl (vkw u))), (bk2, .inl (cI, 4, .inl (vka u))), (bk3, .inl (cZ, 4, .inl (vkb u)))]) := by
  have hb4 := hI.1
  have hb5 := hI.2.1
  have hb6 := hI.2.2.1
  have hk := k_right hI i hi
  exact Mp.ofX (c_X3_right l D cI cZ cJ x0 xr xs n0 b0 nc np nk nc1 nc2 nc3 nc4 np1 np2 np3 nk1 nk2 nk3 v (nI i) bc bp bk bc1 bc2 bc3 bc4 bp1 bp2 bp3 bk1 bk2 bk3 g hI hAg hst) (fun E h => by obtain ⟨-, h⟩ := h; rw [hk] at h; exact absurd h (by decide)) (fun r u h => by
    obtain ⟨-, hr, hu⟩ := h
    refine ⟨hr.trans (by unfold rRight; rw [ix_nI (show i < 2147483648 by omega)]), hu⟩)
theorem k_foresee {v : VT} (hI : IS v) (x : Int32) (hx : x = 2 ∨ 4 ≤ x ∧ x ≤ 7) : kForesee v 1 x = 0 := by
  have hb4 := hI.1
  have hb5 := hI.2.1
  have hb6 := hI.2.2.1
  unfold kForesee
  rw [if_pos (show (1 : Int32) ≤ 1 ∧ (1 : Int32) ≤ 60 by decide)]
  rcases hx with rfl | h
  · rfl
  · rw [if_pos h]; split <;> rfl
set_option maxRecDepth 100000 in
theorem p_foresee (l : Launch) (D : va_G) (cI cZ cJ : ClassId) (x0 xr xs n0 b0 : Nat) (nc np nk nc1 nc2 nc3 nc4 np1 np2 np3 nk1 nk2 nk3 : Nat) (v : VT) (bc bp bk bc1 bc2 bc3 bc4 bp1 bp2 bp3 bk1 bk2 bk3 : Nat) (g : VT) (x : Int32) (hI : IS v) (hAg : AH v g) (hx : x = 2 ∨ 4 ≤ x ∧ x ≤ 7) (hst : l.stackTraces = false) : Mp l yX3_foresee cX3_foresee 3 (some .int) rm_X3_foresee D (TY cI cZ cJ) [.ref x0, .int 1, .int x] [(x0, .inr (3, [.ref xr, .ref xs, .ref n0, .ref b0])), (xr, .inl (cI, 6, .inl (vR v))), (xs, .inl (cI, 7, .inl (vS v))), (n0, .inr (2, [.ref nc, .ref np, .ref nk, .int (nI (vday v)), .int (vcoal v), .int (vbar v), .int (vfine v), .int (vcrs v), .int (vcoin v), .int (vship v)])), (nc, .inr (0, [.ref nc1, .ref nc2, .ref nc3, .ref nc4, .int (nI (vnC v))])), (nc1, .inl (cI, 4, .inl (vsh v))), (nc2, .inl (cI, 4, .inl (vco v))), (nc3, .inl (cI, 4, .inl (vbu v))), (nc4, .inl (cZ, 4, .inl (vfl v))), (np, .inr (1, [.ref np1, .ref np2, .ref np3, .int (nI 4), .int (nI (vnP v))])), (np1, .inl (cI, 4, .inl (vpw v))), (np2, .inl (cI, 4, .inl (vpa v))), (np3, .inl (cZ, 4, .inl (vpb v))), (nk, .inr (1, [.ref nk1, .ref nk2, .ref nk3, .int (nI 3), .int (nI (vnK v))])), (nk1, .inl (cI, 4, .inl (vkw v))), (nk2, .inl (cI, 4, .inl (vka v))), (nk3, .inl (cZ, 4, .inl (vkb v))), (b0, .inr (2, [.ref bc, .ref bp, .ref bk, .int (nI (vday g)), .int (vcoal g), .int (vbar g), .int (vfine g), .int (vcrs g), .int (vcoin g), .int (vship g)])), (bc, .inr (0, [.ref bc1, .ref bc2, .ref bc3, .ref bc4, .int (nI (vnC g))])), (bc1, .inl (cI, 4, .inl (vsh g))), (bc2, .inl (cI, 4, .inl (vco g))), (bc3, .inl (cI, 4, .inl (vbu g))), (bc4, .inl (cZ, 4, .inl (vfl g))), (bp, .inr (1, [.ref bp1, .ref bp2, .ref bp3, .int (nI 4), .int (nI (vnP g))])), (bp1, .inl (cI, 4, .inl (vpw g))), (bp2, .inl (cI, 4, .inl (vpa g))), (bp3, .inl (cZ, 4, .inl (vpb g))), (bk, .inr (1, [.ref bk1, .ref bk2, .ref bk3, .int (nI 3), .int (nI (vnK g))])), (bk1, .inl (cI, 4, .inl (vkw g))), (bk2, .inl (cI, 4, .inl (vka g))), (bk3, .inl (cZ, 4, .inl (vkb g)))] (fun (r : Int32) (u : VT) => r = cntR (vR v) (dayV v) x ∧ AH v u) (fun (u : VT) => [(x0, .inr (3, [.ref xr, .ref xs, .ref n0, .ref b0])), (xr, .inl (cI, 6, .inl (vR v))), (xs, .inl (cI, 7, .inl (vS v))), (n0, .inr (2, [.ref nc, .ref np, .ref nk, .int (nI (vday v)), .int (vcoal v), .int (vbar v), .int (vfine v), .int (vcrs v), .int (vcoin v), .int (vship v)])), (nc, .inr (0, [.ref nc1, .ref nc2, .ref nc3, .ref nc4, .int (nI (vnC v))])), (nc1, .inl (cI, 4, .inl (vsh v))), (nc2, .inl (cI, 4, .inl (vco v))), (nc3, .inl (cI, 4, .inl (vbu v))), (nc4, .inl (cZ, 4, .inl (vfl v))), (np, .inr (1, [.ref np1, .ref np2, .ref np3, .int (nI 4), .int (nI (vnP v))])), (np1, .inl (cI, 4, .inl (vpw v))), (np2, .inl (cI, 4, .inl (vpa v))), (np3, .inl (cZ, 4, .inl (vpb v))), (nk, .inr (1, [.ref nk1, .ref nk2, .ref nk3, .int (nI 3), .int (nI (vnK v))])), (nk1, .inl (cI, 4, .inl (vkw v))), (nk2, .inl (cI, 4, .inl (vka v))), (nk3, .inl (cZ, 4, .inl (vkb v))), (b0, .inr (2, [.ref bc, .ref bp, .ref bk, .int (nI (vday u)), .int (vcoal u), .int (vbar u), .int (vfine u), .int (vcrs u), .int (vcoin u), .int (vship u)])), (bc, .inr (0, [.ref bc1, .ref bc2, .ref bc3, .ref bc4, .int (nI (vnC u))])), (bc1, .inl (cI, 4, .inl (vsh u))), (bc2, .inl (cI, 4, .inl (vco u))), (bc3, .inl (cI, 4, .inl (vbu u))), (bc4, .inl (cZ, 4, .inl (vfl u))), (bp, .inr (1, [.ref bp1, .ref bp2, .ref bp3, .int (nI 4), .int (nI (vnP u))])), (bp1, .inl (cI, 4, .inl (vpw u))), (bp2, .inl (cI, 4, .inl (vpa u))), (bp3, .inl (cZ, 4, .inl (vpb u))), (bk, .inr (1, [.ref bk1, .ref bk2, .ref bk3, .int (nI 3), .int (nI (vnK u))])), (bk1, .inl (cI, 4, .inl (vkw u))), (bk2, .inl (cI, 4, .inl (vka u))), (bk3, .inl (cZ, 4, .inl (vkb u)))]) := by
  have hb4 := hI.1
  have hb5 := hI.2.1
  have hb6 := hI.2.2.1
  have hk := k_foresee hI x hx
  exact Mp.ofX (c_X3_foresee l D cI cZ cJ x0 xr xs n0 b0 nc np nk nc1 nc2 nc3 nc4 np1 np2 np3 nk1 nk2 nk3 v 1 x bc bp bk bc1 bc2 bc3 bc4 bp1 bp2 bp3 bk1 bk2 bk3 g hI hAg hst) (fun E h => by rcases h with ⟨-, h⟩ | ⟨-, h⟩ <;> (rw [hk] at h; exact absurd h (by decide))) (fun r u h => by
    obtain ⟨-, hr, hu⟩ := h
    refine ⟨hr.trans (by unfold rForesee; rw [show ix 1 = 1 by decide]; rfl), hu⟩)
theorem k_barrels {v : VT} (hI : IS v) (i : Nat) (hi : i < vnK v) : kBarrels v (nI i) = 0 := by
  have hb4 := hI.1
  have hb5 := hI.2.1
  have hb6 := hI.2.2.1
  unfold kBarrels
  rw [if_pos (show 0 ≤ nI i ∧ nI i < nI (vnK v) from ⟨nI_pos' (by omega), nI_lt hi (by omega)⟩)]
set_option maxRecDepth 100000 in
theorem p_barrels (l : Launch) (D : va_G) (cI cZ cJ : ClassId) (x0 xr xs n0 b0 : Nat) (nc np nk nk1 nk2 nk3 : Nat) (v : VT) (i : Nat) (hI : IS v) (hi : i < vnK v) (hst : l.stackTraces = false) : Mp l yX3_barrels cX3_barrels 4 (some .int) rm_X3_barrels D (TY cI cZ cJ) [.ref x0, .int (nI i)] [(x0, .inr (3, [.ref xr, .ref xs, .ref n0, .ref b0])), (n0, .inr (2, [.ref nc, .ref np, .ref nk, .int (nI (vday v)), .int (vcoal v), .int (vbar v), .int (vfine v), .int (vcrs v), .int (vcoin v), .int (vship v)])), (nk, .inr (1, [.ref nk1, .ref nk2, .ref nk3, .int (nI 3), .int (nI (vnK v))])), (nk1, .inl (cI, 4, .inl (vkw v))), (nk2, .inl (cI, 4, .inl (vka v)))] (fun (r : Int32) (u : Unit) => r = if vka v i = 0 then -1 else bst (vkw v i) (vka v i) 19) (fun (u : Unit) => [(x0, .inr (3, [.ref xr, .ref xs, .ref n0, .ref b0])), (n0, .inr (2, [.ref nc, .ref np, .ref nk, .int (nI (vday v)), .int (vcoal v), .int (vbar v), .int (vfine v), .int (vcrs v), .int (vcoin v), .int (vship v)])), (nk, .inr (1, [.ref nk1, .ref nk2, .ref nk3, .int (nI 3), .int (nI (vnK v))])), (nk1, .inl (cI, 4, .inl (vkw v))), (nk2, .inl (cI, 4, .inl (vka v)))]) := by
  have hb4 := hI.1
  have hb5 := hI.2.1
  have hb6 := hI.2.2.1
  have hk := k_barrels hI i hi
  exact Mp.ofX (c_X3_barrels l D cI cZ cJ x0 xr xs n0 b0 nc np nk nk1 nk2 nk3 v (nI i) hI hst) (fun E h => by obtain ⟨-, h⟩ := h; rw [hk] at h; exact absurd h (by decide)) (fun r u h => by
    obtain ⟨-, hr⟩ := h
    refine hr.trans (by unfold rBarrels; rw [ix_nI (show i < 2147483648 by omega)]))
theorem k_dry {v : VT} (hI : IS v) (i : Nat) (hi : i < vnP v) : kDry v (nI i) = 0 := by
  have hb4 := hI.1
  have hb5 := hI.2.1
  have hb6 := hI.2.2.1
  unfold kDry
  rw [if_pos (show 0 ≤ nI i ∧ nI i < nI (vnP v) from ⟨nI_pos' (by omega), nI_lt hi (by omega)⟩)]
set_option maxRecDepth 100000 in
theorem p_dry (l : Launch) (D : va_G) (cI cZ cJ : ClassId) (x0 xr xs n0 b0 : Nat) (nc np nk np1 np2 np3 : Nat) (v : VT) (i : Nat) (hI : IS v) (hpw : ∀ j, 0 ≤ vpw v j) (hi : i < vnP v) (hst : l.stackTraces = false) : Mp l yX3_dry cX3_dry 5 (some .int) rm_X3_dry D (TY cI cZ cJ) [.ref x0, .int (nI i)] [(x0, .inr (3, [.ref xr, .ref xs, .ref n0, .ref b0])), (n0, .inr (2, [.ref nc, .ref np, .ref nk, .int (nI (vday v)), .int (vcoal v), .int (vbar v), .int (vfine v), .int (vcrs v), .int (vcoin v), .int (vship v)])), (np, .inr (1, [.ref np1, .ref np2, .ref np3, .int (nI 4), .int (nI (vnP v))])), (np1, .inl (cI, 4, .inl (vpw v))), (np2, .inl (cI, 4, .inl (vpa v)))] (fun (r : Int32) (u : Unit) => r = if vpa v i = 0 then -1 else dryN (vpw v i) (vpa v i) 0 (ix (vpw v i))) (fun (u : Unit) => [(x0, .inr (3, [.ref xr, .ref xs, .ref n0, .ref b0])), (n0, .inr (2, [.ref nc, .ref np, .ref nk, .int (nI (vday v)), .int (vcoal v), .int (vbar v), .int (vfine v), .int (vcrs v), .int (vcoin v), .int (vship v)])), (np, .inr (1, [.ref np1, .ref np2, .ref np3, .int (nI 4), .int (nI (vnP v))])), (np1, .inl (cI, 4, .inl (vpw v))), (np2, .inl (cI, 4, .inl (vpa v)))]) := by
  have hb4 := hI.1
  have hb5 := hI.2.1
  have hb6 := hI.2.2.1
  have hk := k_dry hI i hi
  exact Mp.ofX (c_X3_dry l D cI cZ cJ x0 xr xs n0 b0 nc np nk np1 np2 np3 v (nI i) hI hpw hst) (fun E h => by obtain ⟨-, h⟩ := h; rw [hk] at h; exact absurd h (by decide)) (fun r u h => by
    obtain ⟨-, hr⟩ := h
    refine hr.trans (by unfold rDry; rw [ix_nI (show i < 2147483648 by omega)]))
/-- coal, barrels, crystals and tables within their bounds -/
def EX (k : Nat) (v : VT) : Prop := (∀ j, 0 ≤ toI (vco v) j ∧ toI (vco v) j ≤ 60) ∧ (0 ≤ (vcoal v).toInt ∧ (vcoal v).toInt ≤ 500) ∧ (0 ≤ (vbar v).toInt ∧ (vbar v).toInt ≤ 99) ∧ (∀ j, 0 ≤ toI (vS v) j ∧ toI (vS v) j ≤ 60) ∧ 0 ≤ (vfine v).toInt ∧ 0 ≤ (vcrs v).toInt ∧ (vfine v).toInt + (vcrs v).toInt ≤ 60000 * k
def GG (k : Nat) (v : VT) : Prop := IV k v ∧ EX k v
theorem EX_mk {k : Nat} {sh co bu fl pw pa pb kw ka kb R S : Nat → Int32} {nC nP nK day : Nat} {coal bar fine crs coin ship : Int32} (h1 : ∀ j, 0 ≤ toI co j ∧ toI co j ≤ 60) (h2 : 0 ≤ coal.toInt ∧ coal.toInt ≤ 500) (h3 : 0 ≤ bar.toInt ∧ bar.toInt ≤ 99) (h4 : ∀ j, 0 ≤ toI S j ∧ toI S j ≤ 60) (h5 : 0 ≤ fine.toInt) (h6 : 0 ≤ crs.toInt) (h7 : fine.toInt + crs.toInt ≤ 60000 * k) : EX k (mkV sh co bu fl nC pw pa pb nP kw ka kb nK day coal bar fine crs coin ship R S) := ⟨h1, h2, h3, h4, h5, h6, h7⟩
theorem EX_up {k : Nat} {v : VT} (h : EX k v) : EX (k + 1) v := ⟨h.1, h.2.1, h.2.2.1, h.2.2.2.1, h.2.2.2.2.1, h.2.2.2.2.2.1, by have := h.2.2.2.2.2.2; omega⟩
theorem GG_up {k : Nat} {v : VT} (h : GG k v) : GG (k + 1) v := ⟨IV_up h.1, EX_up h.2⟩
theorem crys_T {w a b : Int32} (ha : 0 ≤ a.toInt) (hb : 1 ≤ b.toInt ∧ b.toInt ≤ 20) : 0 ≤ (crys w a b).toInt ∧ (crys w a b).toInt ≤ a.toInt := by
  unfold crys
  generalize eggB (strg w a) = z
  have e2 : (2 : Int32).toInt = 2 := by decide
  have e3 : (3 : Int32).toInt = 3 := by decide
  have e5 : (5 : Int32).toInt = 5 := by decide
  have hc : 2 ≤ (cby z).toInt ∧ (cby z).toInt ≤ 5 := by
    unfold cby
    by_cases h : z = 0
    · rw [if_pos h, e2]; omega
    · rw [if_neg h]
      by_cases h2 : z = 1
      · rw [if_pos h2, e5]; omega
      · rw [if_neg h2, e3]; omega
  have m0 : 0 ≤ (cby z).toInt * b.toInt := Int.mul_nonneg (by omega) (by omega)
  have m1 : (cby z).toInt * b.toInt ≤ 5 * 20 := Int.mul_le_mul hc.2 hb.2 (by omega) (by omega)
  have em : (cby z * b).toInt = (cby z).toInt * b.toInt := by
    rw [Int32.toInt_mul]
    exact Int.bmod_eq_of_le (by omega) (by omega)
  rw [mn_T, em]
  omega
theorem g_pile {k : Nat} (hk : k < 512) {v : VT} (h : GG k v) (x : Int32) (hx : 1 ≤ x ∧ x ≤ 200) (hn : vnC v < 4) : GG (k + 1) (mkV (upd (vsh v) (vnC v) x) (vco v) (vbu v) (vfl v) (vnC v + 1) (vpw v) (vpa v) (vpb v) (vnP v) (vkw v) (vka v) (vkb v) (vnK v) (vday v) (vcoal v) (vbar v) (vfine v) (vcrs v) (vcoin v) (vship v) (vR v) (vS v)) := by
  refine ⟨by rw [← n_pile h.1.1 x hx hn]; exact IV_Pile hk h.1 _, ?_⟩
  obtain ⟨h1, h2, h3, h4, h5, h6, h7⟩ := EX_up h.2
  exact EX_mk h1 h2 h3 h4 h5 h6 h7
theorem g_dig {k : Nat} (hk : k < 512) {v : VT} (h : GG k v) (x : Int32) (hx : 0 ≤ x ∧ x ≤ 400) (hn : vnP v < 4) : GG (k + 1) (mkV (vsh v) (vco v) (vbu v) (vfl v) (vnC v) (upd (vpw v) (vnP v) x) (vpa v) (vpb v) (vnP v + 1) (vkw v) (vka v) (vkb v) (vnK v) (vday v) (vcoal v) (vbar v) (vfine v) (vcrs v) (vcoin v) (vship v) (vR v) (vS v)) := by
  refine ⟨by rw [← n_dig h.1.1 x hx hn]; exact IV_Dig hk h.1 _, ?_⟩
  obtain ⟨h1, h2, h3, h4, h5, h6, h7⟩ := EX_up h.2
  exact EX_mk h1 h2 h3 h4 h5 h6 h7
theorem g_pan {k : Nat} (hk : k < 512) {v : VT} (h : GG k v)  (hn : vnK v < 3) : GG (k + 1) (mkV (vsh v) (vco v) (vbu v) (vfl v) (vnC v) (vpw v) (vpa v) (vpb v) (vnP v) (upd (vkw v) (vnK v) 0) (vka v) (vkb v) (vnK v + 1) (vday v) (vcoal v) (vbar v) (vfine v) (vcrs v) (vcoin v) (vship v) (vR v) (vS v)) := by
  refine ⟨by rw [← n_pan h.1.1  hn]; exact IV_Pan hk h.1, ?_⟩
  obtain ⟨h1, h2, h3, h4, h5, h6, h7⟩ := EX_up h.2
  exact EX_mk h1 h2 h3 h4 h5 h6 h7
theorem g_bring0 {k : Nat} (hk : k < 512) {v : VT} (h : GG k v) (x : Int32) (hx : 1 ≤ x ∧ x ≤ 500) : GG (k + 1) (mkV (vsh v) (vco v) (vbu v) (vfl v) (vnC v) (vpw v) (vpa v) (vpb v) (vnP v) (vkw v) (vka v) (vkb v) (vnK v) (vday v) (mn 500 (vcoal v + x)) (vbar v) (vfine v) (vcrs v) (vcoin v) (vship v) (vR v) (vS v)) := by
  refine ⟨by rw [← n_bring0 h.1.1 x hx]; exact IV_Bring hk h.1 _ _, ?_⟩
  obtain ⟨h1, h2, h3, h4, h5, h6, h7⟩ := EX_up h.2
  exact EX_mk h1 (by have e : (500 : Int32).toInt = 500 := (by decide); have b1 := ge_t (n := 1) (by decide) hx.1; have b2 := le_t (n := 500) (by decide) hx.2; rw [mn_T, tIa (by omega) (by omega)]; omega) h3 h4 h5 h6 h7
theorem g_bring1 {k : Nat} (hk : k < 512) {v : VT} (h : GG k v) (x : Int32) (hx : 1 ≤ x ∧ x ≤ 500) : GG (k + 1) (mkV (vsh v) (vco v) (vbu v) (vfl v) (vnC v) (vpw v) (vpa v) (vpb v) (vnP v) (vkw v) (vka v) (vkb v) (vnK v) (vday v) (vcoal v) (mn 99 (vbar v + x)) (vfine v) (vcrs v) (vcoin v) (vship v) (vR v) (vS v)) := by
  refine ⟨by rw [← n_bring1 h.1.1 x hx]; exact IV_Bring hk h.1 _ _, ?_⟩
  obtain ⟨h1, h2, h3, h4, h5, h6, h7⟩ := EX_up h.2
  exact EX_mk h1 h2 (by have e : (99 : Int32).toInt = 99 := (by decide); have b1 := ge_t (n := 1) (by decide) hx.1; have b2 := le_t (n := 500) (by decide) hx.2; rw [mn_T, tIa (by omega) (by omega)]; omega) h4 h5 h6 h7
theorem g_rain {k : Nat} (hk : k < 512) {v : VT} (h : GG k v) (i : Nat) (x : Int32) (hi : i < 6) (hx : 0 ≤ x ∧ x ≤ 9) : GG (k + 1) (mkV (vsh v) (vco v) (vbu v) (vfl v) (vnC v) (vpw v) (vpa v) (vpb v) (vnP v) (vkw v) (vka v) (vkb v) (vnK v) (vday v) (vcoal v) (vbar v) (vfine v) (vcrs v) (vcoin v) (vship v) (upd (vR v) i x) (vS v)) := by
  refine ⟨by rw [← n_rain h.1.1 i x hi hx]; exact IV_Rain hk h.1 _ _, ?_⟩
  obtain ⟨h1, h2, h3, h4, h5, h6, h7⟩ := EX_up h.2
  exact EX_mk h1 h2 h3 h4 h5 h6 h7
theorem g_ship {k : Nat} (hk : k < 512) {v : VT} (h : GG k v) (i : Nat) (x : Int32) (hi : i < 7) (hx : 0 ≤ x ∧ x ≤ 60) : GG (k + 1) (mkV (vsh v) (vco v) (vbu v) (vfl v) (vnC v) (vpw v) (vpa v) (vpb v) (vnP v) (vkw v) (vka v) (vkb v) (vnK v) (vday v) (vcoal v) (vbar v) (vfine v) (vcrs v) (vcoin v) (vship v) (vR v) (upd (vS v) i x)) := by
  refine ⟨by rw [← n_ship h.1.1 i x hi hx]; exact IV_Ship hk h.1 _ _, ?_⟩
  obtain ⟨h1, h2, h3, h4, h5, h6, h7⟩ := EX_up h.2
  exact EX_mk h1 h2 h3 (upd_all (P := fun _ z => 0 ≤ z.toInt ∧ z.toInt ≤ 60) ⟨z_le.mp hx.1, le_t (by decide) hx.2⟩ h4) h5 h6 h7
theorem g_light {k : Nat} (hk : k < 512) {v : VT} (h : GG k v) (i : Nat) (x : Int32) (hi : i < vnC v) (hx : 1 ≤ x ∧ x ≤ 60) (h1x : ¬ vcoal v < x) (h2x : ¬ vsh v i = 0) : GG (k + 1) (mkV (vsh v) (upd (vco v) i (mn 60 (vco v i + x))) (vbu v) (upd (vfl v) i 1) (vnC v) (vpw v) (vpa v) (vpb v) (vnP v) (vkw v) (vka v) (vkb v) (vnK v) (vday v) (vcoal v - x) (vbar v) (vfine v) (vcrs v) (vcoin v) (vship v) (vR v) (vS v)) := by
  refine ⟨by rw [← n_light h.1.1 i x hi hx h1x h2x]; exact IV_Light hk h.1 _ _, ?_⟩
  obtain ⟨h1, h2, h3, h4, h5, h6, h7⟩ := EX_up h.2
  have h7a := h.2.2.2.2.2.2.2
  have b1 := ge_t (n := 1) (by decide) hx.1
  have b2 := le_t (n := 60) (by decide) hx.2
  exact EX_mk (upd_all (P := fun _ z => 0 ≤ z.toInt ∧ z.toInt ≤ 60) (by have e : (60 : Int32).toInt = 60 := (by decide); have b3 := h1 i; unfold toI at b3; rw [mn_T, tIa (by omega) (by omega)]; omega) h1) (by have b3 := Int32.le_iff_toInt_le.mp (Int32.not_lt.mp h1x); rw [tIs (by omega) (by omega)]; omega) h3 h4 h5 h6 h7
theorem g_steep {k : Nat} (hk : k < 512) {v : VT} (h : GG k v) (i j : Nat) (hi : i < vnC v) (hj : j < vnP v) (h1x : ¬ vbu v i = 0) (h2x : vfl v i = 0) (h3x : ¬ vpw v j = 0) : GG (k + 1) (mkV (vsh v) (vco v) (upd (vbu v) i 0) (vfl v) (vnC v) (vpw v) (upd (vpa v) j (vpa v j + vbu v i / 2)) (vpb v) (vnP v) (vkw v) (vka v) (vkb v) (vnK v) (vday v) (vcoal v) (vbar v) (vfine v) (vcrs v) (vcoin v) (vship v) (vR v) (vS v)) := by
  refine ⟨by rw [← n_steep h.1.1 i j hi hj h1x h2x h3x]; exact IV_Steep hk h.1 _ _, ?_⟩
  obtain ⟨h1, h2, h3, h4, h5, h6, h7⟩ := EX_up h.2
  exact EX_mk h1 h2 h3 h4 h5 h6 h7
theorem g_draw {k : Nat} (hk : k < 512) {v : VT} (h : GG k v) (i j : Nat) (x : Int32) (hi : i < vnP v) (hj : j < vnK v) (hx : 1 ≤ x ∧ x ≤ 150) (h1x : ¬ vpw v i < x) (h2x : vkw v j + x ≤ 150) : GG (k + 1) (mkV (vsh v) (vco v) (vbu v) (vfl v) (vnC v) (upd (vpw v) i (vpw v i - x)) (upd (vpa v) i (vpa v i - vpa v i * x / vpw v i)) (vpb v) (vnP v) (upd (vkw v) j (vkw v j + x)) (upd (vka v) j (vka v j + vpa v i * x / vpw v i)) (vkb v) (vnK v) (vday v) (vcoal v) (vbar v) (vfine v) (vcrs v) (vcoin v) (vship v) (vR v) (vS v)) := by
  refine ⟨by rw [← n_draw h.1.1 i j x hi hj hx h1x h2x]; exact IV_Draw hk h.1 _ _ _, ?_⟩
  obtain ⟨h1, h2, h3, h4, h5, h6, h7⟩ := EX_up h.2
  exact EX_mk h1 h2 h3 h4 h5 h6 h7
theorem g_boil {k : Nat} (hk : k < 512) {v : VT} (h : GG k v) (i : Nat) (hi : i < vnK v) : GG (k + 1) (mkV (vsh v) (vco v) (vbu v) (vfl v) (vnC v) (vpw v) (vpa v) (vpb v) (vnP v) (vkw v) (vka v) (upd (vkb v) i (tog (vkb v i))) (vnK v) (vday v) (vcoal v) (vbar v) (vfine v) (vcrs v) (vcoin v) (vship v) (vR v) (vS v)) := by
  refine ⟨by rw [← n_boil h.1.1 i hi]; exact IV_Boil hk h.1 _, ?_⟩
  obtain ⟨h1, h2, h3, h4, h5, h6, h7⟩ := EX_up h.2
  exact EX_mk h1 h2 h3 h4 h5 h6 h7
theorem g_pour0 {k : Nat} (hk : k < 512) {v : VT} (h : GG k v) (i : Nat) (x : Int32) (hi : i < vnK v) (hx : 1 ≤ x ∧ x ≤ 20) (h1x : ¬ vbar v < x) (h2x : ¬ vka v i = 0) (he : eggK v i = 1) : GG (k + 1) (mkV (vsh v) (vco v) (vbu v) (vfl v) (vnC v) (vpw v) (vpa v) (vpb v) (vnP v) (upd (vkw v) i 0) (upd (vka v) i 0) (upd (vkb v) i 0) (vnK v) (vday v) (vcoal v) (vbar v - x) (vfine v + crys (vkw v i) (vka v i) x) (vcrs v) (vcoin v) (vship v) (vR v) (vS v)) := by
  refine ⟨by rw [← n_pour0 h.1.1 i x hi hx h1x h2x he]; exact IV_Pour hk h.1 _ _, ?_⟩
  obtain ⟨h1, h2, h3, h4, h5, h6, h7⟩ := EX_up h.2
  have h7a := h.2.2.2.2.2.2.2
  have b1 := ge_t (n := 1) (by decide) hx.1
  have b2 := le_t (n := 20) (by decide) hx.2
  have bk := NN.ka h.1.2.1 (k := i) (by have := h.1.1.2.2.1; omega)
  unfold toI at bk
  have bc := crys_T (w := vkw v i) (a := vka v i) (b := x) bk.2.2.1 ⟨b1, b2⟩
  exact EX_mk h1 h2 (by have b3 := Int32.le_iff_toInt_le.mp (Int32.not_lt.mp h1x); rw [tIs (by omega) (by omega)]; omega) h4 (by rw [tIa (by omega) (by omega)]; omega) h6 (by rw [tIa (by omega) (by omega)]; omega)
theorem g_pour1 {k : Nat} (hk : k < 512) {v : VT} (h : GG k v) (i : Nat) (x : Int32) (hi : i < vnK v) (hx : 1 ≤ x ∧ x ≤ 20) (h1x : ¬ vbar v < x) (h2x : ¬ vka v i = 0) (he : ¬ eggK v i = 1) : GG (k + 1) (mkV (vsh v) (vco v) (vbu v) (vfl v) (vnC v) (vpw v) (vpa v) (vpb v) (vnP v) (upd (vkw v) i 0) (upd (vka v) i 0) (upd (vkb v) i 0) (vnK v) (vday v) (vcoal v) (vbar v - x) (vfine v) (vcrs v + crys (vkw v i) (vka v i) x) (vcoin v) (vship v) (vR v) (vS v)) := by
  refine ⟨by rw [← n_pour1 h.1.1 i x hi hx h1x h2x he]; exact IV_Pour hk h.1 _ _, ?_⟩
  obtain ⟨h1, h2, h3, h4, h5, h6, h7⟩ := EX_up h.2
  have h7a := h.2.2.2.2.2.2.2
  have b1 := ge_t (n := 1) (by decide) hx.1
  have b2 := le_t (n := 20) (by decide) hx.2
  have bk := NN.ka h.1.2.1 (k := i) (by have := h.1.1.2.2.1; omega)
  unfold toI at bk
  have bc := crys_T (w := vkw v i) (a := vka v i) (b := x) bk.2.2.1 ⟨b1, b2⟩
  exact EX_mk h1 h2 (by have b3 := Int32.le_iff_toInt_le.mp (Int32.not_lt.mp h1x); rw [tIs (by omega) (by omega)]; omega) h4 h5 (by rw [tIa (by omega) (by omega)]; omega) (by rw [tIa (by omega) (by omega)]; omega)
theorem cN_T {kw kb : Nat → Int32} {c : Int32} (h : 0 ≤ c.toInt ∧ c.toInt ≤ 500) (i : Nat) : 0 ≤ (cN kw kb c i).toInt ∧ (cN kw kb c i).toInt ≤ 500 := by
  induction i with
  | zero => exact h
  | succ i ih =>
    simp only [cN]
    split
    · exact ih
    · split
      · exact ih
      · split
        · exact ih
        · rename_i h2 _
          have e4 : (4 : Int32).toInt = 4 := by decide
          have h3 := Int32.le_iff_toInt_le.mp (Int32.not_lt.mp h2)
          rw [tIs (by omega) (by omega)]
          omega
/-- what the ship takes, fine ones and coarse ones -/
theorem sh_T {t f c : Int32} (ht : 0 ≤ t.toInt ∧ t.toInt ≤ 60) (hf : 0 ≤ f.toInt) (hc : 0 ≤ c.toInt) : (mn t f).toInt = min t.toInt f.toInt ∧ (t - mn t f).toInt = t.toInt - min t.toInt f.toInt ∧ (mn (t - mn t f) c).toInt = min (t.toInt - min t.toInt f.toInt) c.toInt ∧ (f - mn t f).toInt = f.toInt - min t.toInt f.toInt ∧ (c - mn (t - mn t f) c).toInt = c.toInt - min (t.toInt - min t.toInt f.toInt) c.toInt := by
  have a := mn_T t f
  have l1 := f.toInt_lt
  have l2 := c.toInt_lt
  have b : (t - mn t f).toInt = t.toInt - min t.toInt f.toInt := by rw [tIs (by omega) (by omega), a]
  have d := mn_T (t - mn t f) c
  rw [b] at d
  refine ⟨a, b, d, ?_, ?_⟩
  · rw [tIs (by omega) (by omega), a]
  · rw [tIs (by omega) (by omega), d]
theorem EX_day {k : Nat} {v : VT} (h : EX k v) : EX k (dayV v) := by
  obtain ⟨h1, h2, h3, h4, h5, h6, h7⟩ := h
  have ht := h4 (vday v % 7)
  unfold toI at ht
  have q := sh_T ht h5 h6
  refine EX_mk (fun j => ?_) (cN_T h2 _) h3 h4 (by rw [q.2.2.2.1]; omega) (by rw [q.2.2.2.2]; omega) (by rw [q.2.2.2.1, q.2.2.2.2]; omega)
  have b := h1 j
  unfold toI at b ⊢
  unfold rowF
  by_cases hj : j < vnC v
  · simp only [hj, if_true, fCo]
    by_cases hf : vfl v j = 0
    · rw [if_pos hf]; exact b
    · rw [if_neg hf]
      have e0 : (0 : Int32).toInt = 0 := by decide
      have e2 : (2 : Int32).toInt = 2 := by decide
      rw [mx_T, tIs (by omega) (by omega), e0, e2]
      omega
  · simp only [hj, if_false]; exact b
theorem g_pass {k : Nat} (hk : k < 512) {v : VT} (h : GG k v) : GG (k + 1) (dayV v) := by
  refine ⟨by rw [← n_pass h.1.1]; exact IV_Pass hk h.1 1, EX_up (EX_day h.2)⟩
theorem GG_0 : GG 0 V0 := ⟨IV_0, EX_mk (fun _ => by show 0 ≤ (0 : Int32).toInt ∧ (0 : Int32).toInt ≤ 60; decide) (by decide) (by decide) (fun _ => by show 0 ≤ (0 : Int32).toInt ∧ (0 : Int32).toInt ≤ 60; decide) (by decide) (by decide) (by decide)⟩
