/-! the works as one value, and what happens to it: the words of all contracts -/
abbrev CT : Type := (Nat → Int32) × (Nat → Int32) × (Nat → Int32) × (Nat → Int32) × Nat
abbrev LT : Type := (Nat → Int32) × (Nat → Int32) × (Nat → Int32) × Nat
abbrev IT : Type := Nat × Int32 × Int32 × Int32 × Int32 × Int32 × Int32
abbrev VT : Type := CT × LT × LT × IT × (Nat → Int32) × (Nat → Int32)
def vsh (v : VT) : Nat → Int32 := v.1.1
def vco (v : VT) : Nat → Int32 := v.1.2.1
def vbu (v : VT) : Nat → Int32 := v.1.2.2.1
def vfl (v : VT) : Nat → Int32 := v.1.2.2.2.1
def vnC (v : VT) : Nat := v.1.2.2.2.2
def vpw (v : VT) : Nat → Int32 := v.2.1.1
def vpa (v : VT) : Nat → Int32 := v.2.1.2.1
def vpb (v : VT) : Nat → Int32 := v.2.1.2.2.1
def vnP (v : VT) : Nat := v.2.1.2.2.2
def vkw (v : VT) : Nat → Int32 := v.2.2.1.1
def vka (v : VT) : Nat → Int32 := v.2.2.1.2.1
def vkb (v : VT) : Nat → Int32 := v.2.2.1.2.2.1
def vnK (v : VT) : Nat := v.2.2.1.2.2.2
def vday (v : VT) : Nat := v.2.2.2.1.1
def vcoal (v : VT) : Int32 := v.2.2.2.1.2.1
def vbar (v : VT) : Int32 := v.2.2.2.1.2.2.1
def vfine (v : VT) : Int32 := v.2.2.2.1.2.2.2.1
def vcrs (v : VT) : Int32 := v.2.2.2.1.2.2.2.2.1
def vcoin (v : VT) : Int32 := v.2.2.2.1.2.2.2.2.2.1
def vship (v : VT) : Int32 := v.2.2.2.1.2.2.2.2.2.2
def vR (v : VT) : Nat → Int32 := v.2.2.2.2.1
def vS (v : VT) : Nat → Int32 := v.2.2.2.2.2
def mkV (sh co bu fl : Nat → Int32) (nC : Nat) (pw pa pb : Nat → Int32) (nP : Nat) (kw ka kb : Nat → Int32) (nK : Nat) (day : Nat) (coal bar fine crs coin ship : Int32) (R S : Nat → Int32) : VT := ((sh, co, bu, fl, nC), (pw, pa, pb, nP), (kw, ka, kb, nK), (day, coal, bar, fine, crs, coin, ship), R, S)
/-- numbers: what a liquor is, what the egg does, what comes of a pour -/
def strg (w a : Int32) : Int32 := if w + a ≤ 0 then 0 else 100 * a / (w + a)
def eggB (s : Int32) : Int32 := if s < 20 then 0 else if s < 35 then 1 else 2
def cby (e : Int32) : Int32 := if e = 0 then 2 else if e = 1 then 5 else 3
def crys (w a b : Int32) : Int32 := mn a (cby (eggB (strg w a)) * b)
def b01 (x : Int32) : Int32 := if x = 0 then 0 else 1
/-- rows below n told by g, the others by f -/
def rowF (n : Nat) (g f : Nat → Int32) : Nat → Int32 := fun j => if j < n then g j else f j
theorem rowF_0 (g f : Nat → Int32) : rowF 0 g f = f := funext fun j => by simp [rowF]
theorem rowF_at (n : Nat) (g f : Nat → Int32) {j : Nat} (h : n ≤ j) : rowF n g f j = f j := by simp [rowF, Nat.not_lt.mpr h]
theorem rowF_lt (n : Nat) (g f : Nat → Int32) {j : Nat} (h : j < n) : rowF n g f j = g j := by simp [rowF, h]
theorem rowF_upd (n : Nat) (g f : Nat → Int32) {x : Int32} (h : x = g n) : upd (rowF n g f) n x = rowF (n + 1) g f := by
  subst h
  funext j
  simp only [upd, rowF]
  by_cases h1 : j = n
  · subst h1; simp
  · have h2 : j < n + 1 ↔ j < n := by omega
    simp [h1, h2]
theorem rowF_same (n : Nat) (g f : Nat → Int32) (h : g n = f n) : rowF (n + 1) g f = rowF n g f := by
  rw [← rowF_upd n g f (x := g n) rfl, h]
  funext j
  simp only [upd]
  by_cases h1 : j = n
  · subst h1; simp [rowF]
  · simp [h1]
/-- a day -/
def bDaily (r : Int32) : Int32 := if r < 5 then 8 else 4
def bPart (r s : Int32) : Int32 := mn (bDaily r) s
def bFl (c s : Int32) : Int32 := if c ≤ 0 then 0 else if s ≤ 0 then 0 else 1
def fSh (r : Int32) (sh fl : Nat → Int32) : Nat → Int32 := fun j => if fl j = 0 then sh j else sh j - bPart r (sh j)
def fCo (co fl : Nat → Int32) : Nat → Int32 := fun j => if fl j = 0 then co j else mx 0 (co j - 2)
def fBu (r : Int32) (sh bu fl : Nat → Int32) : Nat → Int32 := fun j => if fl j = 0 then bu j else bu j + bPart r (sh j)
def fFl (r : Int32) (sh co fl : Nat → Int32) : Nat → Int32 := fun j => if fl j = 0 then fl j else bFl (mx 0 (co j - 2)) (sh j - bPart r (sh j))
def wth (r w : Int32) : Int32 := if w ≤ 0 then w else if r = 0 then mx 0 (mn 400 (w + r) - 3) else mn 400 (w + r)
def cN (kw kb : Nat → Int32) (coal : Int32) : Nat → Int32
  | 0 => coal
  | i + 1 => if kb i = 0 then cN kw kb coal i else if cN kw kb coal i < 4 then cN kw kb coal i else if kw i = 0 then cN kw kb coal i else cN kw kb coal i - 4
def fKb (kw kb c : Nat → Int32) : Nat → Int32 := fun j => if kb j = 0 then kb j else if c j < 4 then 0 else if kw j = 0 then 0 else kb j
def fKw (kw kb c : Nat → Int32) : Nat → Int32 := fun j => if kb j = 0 then kw j else if c j < 4 then kw j else if kw j = 0 then kw j else mx 0 (kw j - 12)
def dayV (v : VT) : VT :=
  let r := vR v (vday v % 6)
  let t := vS v (vday v % 7)
  let c := cN (vkw v) (vkb v) (vcoal v)
  let f1 := mn t (vfine v)
  let c1 := mn (t - f1) (vcrs v)
  mkV (rowF (vnC v) (fSh r (vsh v) (vfl v)) (vsh v)) (rowF (vnC v) (fCo (vco v) (vfl v)) (vco v)) (rowF (vnC v) (fBu r (vsh v) (vbu v) (vfl v)) (vbu v)) (rowF (vnC v) (fFl r (vsh v) (vco v) (vfl v)) (vfl v)) (vnC v)
    (rowF (vnP v) (fun j => wth r (vpw v j)) (vpw v)) (vpa v) (vpb v) (vnP v)
    (rowF (vnK v) (fKw (vkw v) (vkb v) c) (vkw v)) (vka v) (rowF (vnK v) (fKb (vkw v) (vkb v) c) (vkb v)) (vnK v)
    (vday v + 1) (c (vnK v)) (vbar v) (vfine v - f1) (vcrs v - c1) (vcoin v + (5 * f1 + 2 * c1)) (vship v + (f1 + c1)) (vR v) (vS v)
def dIt : Nat → VT → VT
  | 0, v => v
  | n + 1, v => dayV (dIt n v)
