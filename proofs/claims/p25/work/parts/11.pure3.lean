/-! what each call answers, and what is behind it: k the code (0: it returns), r the answer, n the works then -/
def ix (x : Int32) : Nat := x.toNatClampNeg
theorem ix_nI {j : Nat} (h : j < 2147483648) : ix (nI j) = j := nI_clamp h
def cntR (R : Nat → Int32) (v : VT) (x : Int32) : Int32 := if x = 0 then nI (vday v) else if x = 1 then R (vday v % 6) else if x = 2 then vcoal v else if x = 3 then vbar v else if x = 4 then vfine v else if x = 5 then vcrs v else if x = 6 then vcoin v else if x = 7 then sumF (fun j => b01 (vfl v j)) (vnC v) else if x = 8 then sumF (vpa v) (vnP v) + sumF (vka v) (vnK v) else vship v
def eggK (v : VT) (k : Nat) : Int32 := eggB (strg (vkw v k) (vka v k))
/-- days until the egg swims in pan k: from the day i on, f days looked at behind it -/
def rgt (v : VT) (k : Nat) : Nat → Nat → Int32
  | i, 0 => if eggK (dIt i v) k = 1 then nI i else -1
  | i, f + 1 => if eggK (dIt i v) k = 1 then nI i else rgt v k (i + 1) f
def bst (w a : Int32) : Nat → Int32
  | 0 => 1
  | i + 1 => if crys w a (nI (i + 2)) ≤ crys w a (bst w a i) then bst w a i else nI (i + 2)
def dryN (w a : Int32) : Nat → Nat → Int32
  | i, 0 => nI i
  | i, f + 1 => if eggB (strg (w - nI i) a) = 0 then dryN w a (i + 1) f else nI i
def dgW (f : Nat → Int32) : Nat → Int64 → Int64
  | 0, d => d
  | w + 1, d => dgW f w d * 31 + (f w).toInt64
def dgK (g : Nat → Nat → Int32) (q : Nat) : Nat → Int64 → Int64
  | 0, d => d
  | k + 1, d => dgW (g k) q (dgK g q k d)
def dgV (v : VT) : Int64 :=
  dgK (fun k w => ltell (vkw v) (vka v) (vkb v) k (nI w)) 5 (vnK v) (dgK (fun k w => ltell (vpw v) (vpa v) (vpb v) k (nI w)) 4 (vnP v)
    (dgK (fun k w => ctell (vsh v) (vco v) (vbu v) (vfl v) k (nI w)) 4 (vnC v) (dgW (vS v) 7 (dgW (vR v) 6 (dgW (fun w => cntR (vR v) v (nI w)) 10 1231)))))
def mnS (v : VT) : Int32 := sumF (fun j => strg (vpw v j) (vpa v j)) (vnP v) + sumF (fun j => strg (vkw v j) (vka v j)) (vnK v)
def mnN (v : VT) : Int32 := sumF (fil (vpw v) (vpa v)) (vnP v) + sumF (fil (vkw v) (vka v)) (vnK v)
def kBring (v : VT) (x : Int32) (m : Int32) : Int32 := if 0 ≤ x ∧ x ≤ 1 then (if 1 ≤ m ∧ m ≤ 500 then 0 else 2) else 1
def rBring (v : VT) (x : Int32) (m : Int32) : Int32 := if x = 0 then mn 500 (vcoal v + m) else mn 99 (vbar v + m)
def nBring (v : VT) (x : Int32) (m : Int32) : VT := if kBring v x m = 0 then (if x = 0 then mkV (vsh v) (vco v) (vbu v) (vfl v) (vnC v) (vpw v) (vpa v) (vpb v) (vnP v) (vkw v) (vka v) (vkb v) (vnK v) (vday v) (mn 500 (vcoal v + m)) (vbar v) (vfine v) (vcrs v) (vcoin v) (vship v) (vR v) (vS v) else mkV (vsh v) (vco v) (vbu v) (vfl v) (vnC v) (vpw v) (vpa v) (vpb v) (vnP v) (vkw v) (vka v) (vkb v) (vnK v) (vday v) (vcoal v) (mn 99 (vbar v + m)) (vfine v) (vcrs v) (vcoin v) (vship v) (vR v) (vS v)) else v
def kRain (v : VT) (d : Int32) (r : Int32) : Int32 := if 0 ≤ d ∧ d ≤ 5 then (if 0 ≤ r ∧ r ≤ 9 then 0 else 2) else 1
def rRain (v : VT) (d : Int32) (r : Int32) : Int32 := vR v (ix d)
def nRain (v : VT) (d : Int32) (r : Int32) : VT := if kRain v d r = 0 then mkV (vsh v) (vco v) (vbu v) (vfl v) (vnC v) (vpw v) (vpa v) (vpb v) (vnP v) (vkw v) (vka v) (vkb v) (vnK v) (vday v) (vcoal v) (vbar v) (vfine v) (vcrs v) (vcoin v) (vship v) (upd (vR v) (ix d) r) (vS v) else v
def kShip (v : VT) (d : Int32) (r : Int32) : Int32 := if 0 ≤ d ∧ d ≤ 6 then (if 0 ≤ r ∧ r ≤ 60 then 0 else 2) else 1
def rShip (v : VT) (d : Int32) (r : Int32) : Int32 := vS v (ix d)
def nShip (v : VT) (d : Int32) (r : Int32) : VT := if kShip v d r = 0 then mkV (vsh v) (vco v) (vbu v) (vfl v) (vnC v) (vpw v) (vpa v) (vpb v) (vnP v) (vkw v) (vka v) (vkb v) (vnK v) (vday v) (vcoal v) (vbar v) (vfine v) (vcrs v) (vcoin v) (vship v) (vR v) (upd (vS v) (ix d) r) else v
def kPile (v : VT) (x : Int32) : Int32 := if 1 ≤ x ∧ x ≤ 200 then (if 4 ≤ vnC v then 2 else 0) else 1
def rPile (v : VT) (x : Int32) : Int32 := nI (vnC v)
def nPile (v : VT) (x : Int32) : VT := if kPile v x = 0 then mkV (upd (vsh v) (vnC v) x) (vco v) (vbu v) (vfl v) (vnC v + 1) (vpw v) (vpa v) (vpb v) (vnP v) (vkw v) (vka v) (vkb v) (vnK v) (vday v) (vcoal v) (vbar v) (vfine v) (vcrs v) (vcoin v) (vship v) (vR v) (vS v) else v
def kLight (v : VT) (c : Int32) (q : Int32) : Int32 := if 0 ≤ c ∧ c < nI (vnC v) then (if 1 ≤ q ∧ q ≤ 60 then (if vcoal v < q then 3 else if vsh v (ix c) = 0 then 3 else 0) else 2) else 1
def rLight (v : VT) (c : Int32) (q : Int32) : Int32 := mn 60 (vco v (ix c) + q)
def nLight (v : VT) (c : Int32) (q : Int32) : VT := if kLight v c q = 0 then mkV (vsh v) (upd (vco v) (ix c) (mn 60 (vco v (ix c) + q))) (vbu v) (upd (vfl v) (ix c) 1) (vnC v) (vpw v) (vpa v) (vpb v) (vnP v) (vkw v) (vka v) (vkb v) (vnK v) (vday v) (vcoal v - q) (vbar v) (vfine v) (vcrs v) (vcoin v) (vship v) (vR v) (vS v) else v
def kDig (v : VT) (x : Int32) : Int32 := if 0 ≤ x ∧ x ≤ 400 then (if 4 ≤ vnP v then 2 else 0) else 1
def rDig (v : VT) (x : Int32) : Int32 := nI (vnP v)
def nDig (v : VT) (x : Int32) : VT := if kDig v x = 0 then mkV (vsh v) (vco v) (vbu v) (vfl v) (vnC v) (upd (vpw v) (vnP v) x) (vpa v) (vpb v) (vnP v + 1) (vkw v) (vka v) (vkb v) (vnK v) (vday v) (vcoal v) (vbar v) (vfine v) (vcrs v) (vcoin v) (vship v) (vR v) (vS v) else v
def kSteep (v : VT) (c : Int32) (q : Int32) : Int32 := if 0 ≤ c ∧ c < nI (vnC v) then (if 0 ≤ q ∧ q < nI (vnP v) then (if vbu v (ix c) = 0 then 2 else if vfl v (ix c) = 0 then (if vpw v (ix q) = 0 then 2 else 0) else 2) else 1) else 1
def rSteep (v : VT) (c : Int32) (q : Int32) : Int32 := vpa v (ix q) + vbu v (ix c) / 2
def nSteep (v : VT) (c : Int32) (q : Int32) : VT := if kSteep v c q = 0 then mkV (vsh v) (vco v) (upd (vbu v) (ix c) 0) (vfl v) (vnC v) (vpw v) (upd (vpa v) (ix q) (vpa v (ix q) + vbu v (ix c) / 2)) (vpb v) (vnP v) (vkw v) (vka v) (vkb v) (vnK v) (vday v) (vcoal v) (vbar v) (vfine v) (vcrs v) (vcoin v) (vship v) (vR v) (vS v) else v
def kPan (v : VT)  : Int32 := if 3 ≤ vnK v then 1 else 0
def rPan (v : VT)  : Int32 := nI (vnK v)
def nPan (v : VT)  : VT := if kPan v  = 0 then mkV (vsh v) (vco v) (vbu v) (vfl v) (vnC v) (vpw v) (vpa v) (vpb v) (vnP v) (upd (vkw v) (vnK v) 0) (vka v) (vkb v) (vnK v + 1) (vday v) (vcoal v) (vbar v) (vfine v) (vcrs v) (vcoin v) (vship v) (vR v) (vS v) else v
def kDraw (v : VT) (q : Int32) (k : Int32) (w : Int32) : Int32 := if 0 ≤ q ∧ q < nI (vnP v) then (if 0 ≤ k ∧ k < nI (vnK v) then (if 1 ≤ w ∧ w ≤ 150 then (if vpw v (ix q) < w then 3 else if vkw v (ix k) + w ≤ 150 then 0 else 3) else 2) else 1) else 1
def rDraw (v : VT) (q : Int32) (k : Int32) (w : Int32) : Int32 := vpa v (ix q) * w / vpw v (ix q)
def nDraw (v : VT) (q : Int32) (k : Int32) (w : Int32) : VT := if kDraw v q k w = 0 then mkV (vsh v) (vco v) (vbu v) (vfl v) (vnC v) (upd (vpw v) (ix q) (vpw v (ix q) - w)) (upd (vpa v) (ix q) (vpa v (ix q) - vpa v (ix q) * w / vpw v (ix q))) (vpb v) (vnP v) (upd (vkw v) (ix k) (vkw v (ix k) + w)) (upd (vka v) (ix k) (vka v (ix k) + vpa v (ix q) * w / vpw v (ix q))) (vkb v) (vnK v) (vday v) (vcoal v) (vbar v) (vfine v) (vcrs v) (vcoin v) (vship v) (vR v) (vS v) else v
def tog (x : Int32) : Int32 := if x = 0 then 1 else 0
def kBoil (v : VT) (k : Int32) : Int32 := if 0 ≤ k ∧ k < nI (vnK v) then 0 else 1
def rBoil (v : VT) (k : Int32) : Int32 := tog (vkb v (ix k))
def nBoil (v : VT) (k : Int32) : VT := if kBoil v k = 0 then mkV (vsh v) (vco v) (vbu v) (vfl v) (vnC v) (vpw v) (vpa v) (vpb v) (vnP v) (vkw v) (vka v) (upd (vkb v) (ix k) (tog (vkb v (ix k)))) (vnK v) (vday v) (vcoal v) (vbar v) (vfine v) (vcrs v) (vcoin v) (vship v) (vR v) (vS v) else v
def kPour (v : VT) (k : Int32) (b : Int32) : Int32 := if 0 ≤ k ∧ k < nI (vnK v) then (if 1 ≤ b ∧ b ≤ 20 then (if vbar v < b then 3 else if vka v (ix k) = 0 then 3 else 0) else 2) else 1
def rPour (v : VT) (k : Int32) (b : Int32) : Int32 := crys (vkw v (ix k)) (vka v (ix k)) b
def nPour (v : VT) (k : Int32) (b : Int32) : VT := if kPour v k b = 0 then (if eggK v (ix k) = 1 then mkV (vsh v) (vco v) (vbu v) (vfl v) (vnC v) (vpw v) (vpa v) (vpb v) (vnP v) (upd (vkw v) (ix k) 0) (upd (vka v) (ix k) 0) (upd (vkb v) (ix k) 0) (vnK v) (vday v) (vcoal v) (vbar v - b) (vfine v + crys (vkw v (ix k)) (vka v (ix k)) b) (vcrs v) (vcoin v) (vship v) (vR v) (vS v) else mkV (vsh v) (vco v) (vbu v) (vfl v) (vnC v) (vpw v) (vpa v) (vpb v) (vnP v) (upd (vkw v) (ix k) 0) (upd (vka v) (ix k) 0) (upd (vkb v) (ix k) 0) (vnK v) (vday v) (vcoal v) (vbar v - b) (vfine v) (vcrs v + crys (vkw v (ix k)) (vka v (ix k)) b) (vcoin v) (vship v) (vR v) (vS v)) else v
def kClamp (v : VT) (c : Int32) (x : Int32) : Int32 := if 0 ≤ c ∧ c < nI (vnC v) then (if 0 ≤ x ∧ x ≤ 3 then 0 else 1) else 1
def rClamp (v : VT) (c : Int32) (x : Int32) : Int32 := ctell (vsh v) (vco v) (vbu v) (vfl v) (ix c) x
def kPit (v : VT) (q : Int32) (x : Int32) : Int32 := if 0 ≤ q ∧ q < nI (vnP v) then (if 0 ≤ x ∧ x ≤ 3 then 0 else 1) else 1
def rPit (v : VT) (q : Int32) (x : Int32) : Int32 := ltell (vpw v) (vpa v) (vpb v) (ix q) x
def kAbout (v : VT) (k : Int32) (x : Int32) : Int32 := if 0 ≤ k ∧ k < nI (vnK v) then (if 0 ≤ x ∧ x ≤ 4 then 0 else 1) else 1
def rAbout (v : VT) (k : Int32) (x : Int32) : Int32 := ltell (vkw v) (vka v) (vkb v) (ix k) x
def kCount (v : VT) (x : Int32) : Int32 := if 0 ≤ x ∧ x ≤ 9 then 0 else 1
def rCount (v : VT) (x : Int32) : Int32 := cntR (vR v) v x
def kPass (v : VT) (d : Int32) : Int32 := if 1 ≤ d ∧ d ≤ 60 then 0 else 1
def rPass (v : VT) (d : Int32) : Int32 := vcoin (dIt (ix d) v) - vcoin v
def nPass (v : VT) (d : Int32) : VT := if kPass v d = 0 then dIt (ix d) v else v
def kRight (v : VT) (k : Int32) : Int32 := if 0 ≤ k ∧ k < nI (vnK v) then 0 else 1
def rRight (v : VT) (k : Int32) : Int32 := rgt v (ix k) 0 60
def kForesee (v : VT) (d : Int32) (x : Int32) : Int32 := if 1 ≤ d ∧ d ≤ 60 then (if x = 2 then 0 else if 4 ≤ x ∧ x ≤ 7 then 0 else 2) else 1
def rForesee (v : VT) (d : Int32) (x : Int32) : Int32 := cntR (vR v) (dIt (ix d) v) x
def kBarrels (v : VT) (k : Int32) : Int32 := if 0 ≤ k ∧ k < nI (vnK v) then 0 else 1
def rBarrels (v : VT) (k : Int32) : Int32 := if vka v (ix k) = 0 then -1 else bst (vkw v (ix k)) (vka v (ix k)) 19
def kDry (v : VT) (q : Int32) : Int32 := if 0 ≤ q ∧ q < nI (vnP v) then 0 else 1
def rDry (v : VT) (q : Int32) : Int32 := if vpa v (ix q) = 0 then -1 else dryN (vpw v (ix q)) (vpa v (ix q)) 0 (ix (vpw v (ix q)))
theorem vR_dIt (n : Nat) (v : VT) : vR (dIt n v) = vR v := by
  induction n with
  | zero => rfl
  | succ n ih => exact (show vR (dayV (dIt n v)) = vR (dIt n v) from rfl).trans ih
theorem vS_dIt (n : Nat) (v : VT) : vS (dIt n v) = vS v := by
  induction n with
  | zero => rfl
  | succ n ih => exact (show vS (dayV (dIt n v)) = vS (dIt n v) from rfl).trans ih
theorem vday_dIt (n : Nat) (v : VT) : vday (dIt n v) = vday v + n := by
  induction n with
  | zero => rfl
  | succ n ih => exact (show vday (dayV (dIt n v)) = vday (dIt n v) + 1 from rfl).trans (by rw [ih]; omega)
theorem vnC_dIt (n : Nat) (v : VT) : vnC (dIt n v) = vnC v := by
  induction n with
  | zero => rfl
  | succ n ih => exact (show vnC (dayV (dIt n v)) = vnC (dIt n v) from rfl).trans ih
theorem vnP_dIt (n : Nat) (v : VT) : vnP (dIt n v) = vnP v := by
  induction n with
  | zero => rfl
  | succ n ih => exact (show vnP (dayV (dIt n v)) = vnP (dIt n v) from rfl).trans ih
theorem vnK_dIt (n : Nat) (v : VT) : vnK (dIt n v) = vnK v := by
  induction n with
  | zero => rfl
  | succ n ih => exact (show vnK (dayV (dIt n v)) = vnK (dIt n v) from rfl).trans ih
theorem inP {x b : Int32} {n : Nat} (hb : b.toInt = n) (h : 0 ≤ x ∧ x ≤ b) : ∃ j : Nat, j ≤ n ∧ x = nI j := nI_of2 hb (Int32.not_lt.mpr h.1) h.2
theorem inP1 {x b : Int32} {n : Nat} (hb : b.toInt = n) (h : 1 ≤ x ∧ x ≤ b) : ∃ j : Nat, 1 ≤ j ∧ j ≤ n ∧ x = nI j := by
  have h0 : (0 : Int32) ≤ x := Int32.le_trans (by decide) h.1
  obtain ⟨j, hj, rfl⟩ := nI_of2 hb (Int32.not_lt.mpr h0) h.2
  have hn : n < 2 ^ 31 := by
    have := b.toInt_lt
    omega
  exact ⟨j, (nI_leI (a := 1) (by omega) (by omega)).mp h.1, hj, rfl⟩
theorem hasT {j n : Nat} (hn : n < 2147483648) (h : j < n) : 0 ≤ nI j ∧ nI j < nI n := ⟨nI_pos' (by omega), nI_lt h (by omega)⟩
/-- rows behind the last are empty; v's numbers of rows, u's rows -/
def AH (v u : VT) : Prop := (∀ j, vnC v ≤ j → vsh u j = 0 ∧ vco u j = 0 ∧ vbu u j = 0 ∧ vfl u j = 0) ∧ (∀ j, vnP v ≤ j → vpw u j = 0 ∧ vpa u j = 0 ∧ vpb u j = 0) ∧ (∀ j, vnK v ≤ j → vkw u j = 0 ∧ vka u j = 0 ∧ vkb u j = 0)
/-- what the walks ask of the works -/
def IS (v : VT) : Prop := vnC v ≤ 4 ∧ vnP v ≤ 4 ∧ vnK v ≤ 3 ∧ AH v v ∧ (∀ j, vfl v j = 0 ∨ vfl v j = 1) ∧ (∀ j, vpb v j = 0 ∨ vpb v j = 1) ∧ (∀ j, vkb v j = 0 ∨ vkb v j = 1) ∧ vday v ≤ 1000000
theorem nar01 {x : Int32} (h : x = 0 ∨ x = 1) : vp_nar .boolean x = x := by rcases h with rfl | rfl <;> decide
