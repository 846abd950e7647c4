abbrev TY (cI cZ _cJ : ClassId) : List (ClassId × FieldType) := [(cI, .int), (cZ, .boolean)]
theorem hasP {x : Int32} {n : Nat} (hn : n < 2147483648) (h0 : ¬ x < 0) (h1 : ¬ nI n ≤ x) : ∃ j : Nat, j < n ∧ x = nI j := by
  obtain ⟨j, hj, rfl⟩ := nI_of h0
  exact ⟨j, (nI_ltI (by omega) (by omega)).mp (Int32.not_le.mp h1), rfl⟩
theorem rowF_all {n : Nat} {g f : Nat → Int32} (h : ∀ j, n ≤ j → f j = g j) : rowF n g f = g := funext fun j => by
  by_cases hj : j < n
  · exact rowF_lt n g f hj
  · rw [rowF_at n g f (by omega)]; exact h j (by omega)
def sumF (f : Nat → Int32) : Nat → Int32
  | 0 => 0
  | i + 1 => sumF f i + f i
def ctell (sh co bu fl : Nat → Int32) (k : Nat) (w : Int32) : Int32 := if w = 0 then sh k else if w = 1 then co k else if w = 2 then bu k else b01 (fl k)
def ltell (wa al bo : Nat → Int32) (k : Nat) (w : Int32) : Int32 := if w = 0 then wa k else if w = 1 then al k else if w = 2 then strg (wa k) (al k) else if w = 3 then eggB (strg (wa k) (al k)) else b01 (bo k)
def fil (wa al : Nat → Int32) : Nat → Int32 := fun j => if wa j + al j ≤ 0 then 0 else 1
theorem floorMod_x {a b : Nat} (ha : a < 2147483648) (hb : b < 2147483648) : 0 ≤ nI a ^^^ nI b := by
  have h1 : nI a ^^^ nI b = nI (a ^^^ b) := by
    apply Int32.toBitVec_inj.mp
    show BitVec.ofNat 32 a ^^^ BitVec.ofNat 32 b = BitVec.ofNat 32 (a ^^^ b)
    apply BitVec.eq_of_toNat_eq
    simp [BitVec.toNat_xor, BitVec.toNat_ofNat, Nat.xor_mod_two_pow]
  rw [h1]
  exact nI_pos' (Nat.xor_lt_two_pow (n := 31) (by omega) (by omega))
