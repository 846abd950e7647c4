/-! the law's invariant: what holds of the works behind k calls; every call keeps it -/
def IV (k : Nat) (v : VT) : Prop := IS v ∧ NN v ∧ vday v ≤ 60 * k ∧ alm v ≤ 100 * k
theorem IV_mk {k : Nat} {sh co bu fl pw pa pb kw ka kb R S : Nat → Int32} {nC nP nK day : Nat} {coal bar fine crs coin ship : Int32} (h1 : nC ≤ 4) (h2 : nP ≤ 4) (h3 : nK ≤ 3)
    (hAC : ∀ j, nC ≤ j → sh j = 0 ∧ co j = 0 ∧ bu j = 0 ∧ fl j = 0) (hAP : ∀ j, nP ≤ j → pw j = 0 ∧ pa j = 0 ∧ pb j = 0) (hAK : ∀ j, nK ≤ j → kw j = 0 ∧ ka j = 0 ∧ kb j = 0)
    (hf1 : ∀ j, fl j = 0 ∨ fl j = 1) (hf2 : ∀ j, pb j = 0 ∨ pb j = 1) (hf3 : ∀ j, kb j = 0 ∨ kb j = 1)
    (hC : ∀ j, 0 ≤ toI sh j ∧ 0 ≤ toI bu j ∧ toI sh j + toI bu j ≤ 200) (hP : ∀ j, 0 ≤ toI pw j ∧ toI pw j ≤ 400 ∧ 0 ≤ toI pa j) (hK : ∀ j, 0 ≤ toI kw j ∧ toI kw j ≤ 150 ∧ 0 ≤ toI ka j)
    (ha : toI pa 0 + toI pa 1 + toI pa 2 + toI pa 3 + toI ka 0 + toI ka 1 + toI ka 2 ≤ 100 * k) (hk : k ≤ 512) (hR : ∀ j, 0 ≤ toI R j ∧ toI R j ≤ 9) (hd : day ≤ 60 * k) : IV k (mkV sh co bu fl nC pw pa pb nP kw ka kb nK day coal bar fine crs coin ship R S) :=
  ⟨⟨h1, h2, h3, ⟨hAC, hAP, hAK⟩, hf1, hf2, hf3, by show day ≤ 1000000; omega⟩, ⟨hC, hP, hK, by show toI pa 0 + toI pa 1 + toI pa 2 + toI pa 3 + toI ka 0 + toI ka 1 + toI ka 2 ≤ 60000; omega, hR⟩, hd, ha⟩
theorem IV_0 : IV 0 V0 := by
  have z : toI (fun _ => (0 : Int32)) = fun _ => 0 := funext fun _ => (by decide : (0 : Int32).toInt = 0)
  refine IV_mk (by decide) (by decide) (by decide) (fun _ _ => ⟨rfl, rfl, rfl, rfl⟩) (fun _ _ => ⟨rfl, rfl, rfl⟩) (fun _ _ => ⟨rfl, rfl, rfl⟩) (fun _ => Or.inl rfl) (fun _ => Or.inl rfl) (fun _ => Or.inl rfl) (fun _ => ?_) (fun _ => ?_) (fun _ => ?_) ?_ (by decide) (fun _ => ?_) (by decide) <;> (rw [z]; simp)
theorem upd_all {P : Nat → Int32 → Prop} {f : Nat → Int32} {i : Nat} {x : Int32} (hx : P i x) (hf : ∀ j, P j (f j)) (j : Nat) : P j (upd f i x j) := by
  by_cases h : j = i
  · subst h; rw [pk_us]; exact hx
  · rw [pk_un h]; exact hf j
theorem upd_ge {f : Nat → Int32} {i n : Nat} {x : Int32} (hi : i < n) {j : Nat} (hj : n ≤ j) : upd f i x j = f j := pk_un (by omega)
theorem s4_upd (f : Nat → Int32) {q : Nat} (hq : q < 4) (z : Int32) : toI (upd f q z) 0 + toI (upd f q z) 1 + toI (upd f q z) 2 + toI (upd f q z) 3 = toI f 0 + toI f 1 + toI f 2 + toI f 3 - toI f q + z.toInt := by
  rcases (show q = 0 ∨ q = 1 ∨ q = 2 ∨ q = 3 by omega) with rfl | rfl | rfl | rfl <;> simp only [toI, upd] <;> simp <;> omega
theorem s3_upd (f : Nat → Int32) {q : Nat} (hq : q < 3) (z : Int32) : toI (upd f q z) 0 + toI (upd f q z) 1 + toI (upd f q z) 2 = toI f 0 + toI f 1 + toI f 2 - toI f q + z.toInt := by
  rcases (show q = 0 ∨ q = 1 ∨ q = 2 by omega) with rfl | rfl | rfl <;> simp only [toI, upd] <;> simp <;> omega
theorem AH_le {v u g : VT} (h : AH v g) (hC : vnC v ≤ vnC u) (hP : vnP v ≤ vnP u) (hK : vnK v ≤ vnK u) : AH u g := ⟨fun j hj => h.1 j (Nat.le_trans hC hj), fun j hj => h.2.1 j (Nat.le_trans hP hj), fun j hj => h.2.2 j (Nat.le_trans hK hj)⟩
theorem IV_up {k : Nat} {v : VT} (h : IV k v) : IV (k + 1) v := ⟨h.1, h.2.1, by have := h.2.2.1; omega, by have := h.2.2.2; omega⟩
theorem le_t {a b : Int32} {n : Int} (hb : b.toInt = n) (h : a ≤ b) : a.toInt ≤ n := hb ▸ Int32.le_iff_toInt_le.mp h
theorem ge_t {a b : Int32} {n : Int} (hb : b.toInt = n) (h : b ≤ a) : n ≤ a.toInt := hb ▸ Int32.le_iff_toInt_le.mp h
theorem ix_lt {x : Int32} {n : Nat} (hn : n < 1000) (h : 0 ≤ x ∧ x < nI n) : ix x < n := by
  have h0 : 0 ≤ x.toInt := z_le.mp h.1
  have h1 := Int32.lt_iff_toInt_lt.mp h.2
  rw [nI_toInt (by omega)] at h1
  unfold ix Int32.toNatClampNeg
  omega
theorem IV_core {k : Nat} (hk : k < 512) {v u : VT} (h : IV k v) (e1 : vsh u = vsh v) (e2 : vco u = vco v) (e3 : vbu u = vbu v) (e4 : vfl u = vfl v) (e5 : vnC u = vnC v) (e6 : vpw u = vpw v) (e7 : vpa u = vpa v) (e8 : vpb u = vpb v) (e9 : vnP u = vnP v) (e10 : vkw u = vkw v) (e11 : vka u = vka v) (e12 : vkb u = vkb v) (e13 : vnK u = vnK v) (e14 : vday u = vday v) (e15 : vR u = vR v) : IV (k + 1) u := by
  have h := IV_up h
  unfold IV IS NN AH alm at h ⊢
  rw [e1, e2, e3, e4, e5, e6, e7, e8, e9, e10, e11, e12, e13, e14, e15]
  exact h
theorem IV_Bring {k : Nat} (hk : k < 512) {v : VT} (h : IV k v) (x m : Int32) : IV (k + 1) (nBring v x m) := by
  unfold nBring
  split
  · split <;> exact IV_core hk h rfl rfl rfl rfl rfl rfl rfl rfl rfl rfl rfl rfl rfl rfl rfl
  · exact IV_up h
theorem IV_Ship {k : Nat} (hk : k < 512) {v : VT} (h : IV k v) (d r : Int32) : IV (k + 1) (nShip v d r) := by
  unfold nShip
  split
  · exact IV_core hk h rfl rfl rfl rfl rfl rfl rfl rfl rfl rfl rfl rfl rfl rfl rfl
  · exact IV_up h
theorem IV_Rain {k : Nat} (hk : k < 512) {v : VT} (h : IV k v) (d r : Int32) : IV (k + 1) (nRain v d r) := by
  by_cases c : kRain v d r = 0
  · rw [show nRain v d r = _ from if_pos c]
    obtain ⟨⟨h1, h2, h3, ⟨h4, h5, h6⟩, h7, h8, h9, h10⟩, ⟨q1, q2, q3, q4, q5⟩, q6, q7⟩ := IV_up h
    unfold alm at q7
    unfold kRain at c
    by_cases c1 : 0 ≤ d ∧ d ≤ 5
    · rw [if_pos c1] at c
      by_cases c2 : 0 ≤ r ∧ r ≤ 9
      · refine IV_mk h1 h2 h3 h4 h5 h6 h7 h8 h9 q1 q2 q3 q7 (by omega) (upd_all (P := fun _ z => 0 ≤ z.toInt ∧ z.toInt ≤ 9) ⟨z_le.mp c2.1, le_t (by decide) c2.2⟩ q5) q6
      · rw [if_neg c2] at c; exact absurd c (by decide)
    · rw [if_neg c1] at c; exact absurd c (by decide)
  · rw [show nRain v d r = v from if_neg c]; exact IV_up h
theorem IV_Pile {k : Nat} (hk : k < 512) {v : VT} (h : IV k v) (x : Int32) : IV (k + 1) (nPile v x) := by
  by_cases c : kPile v x = 0
  · rw [show nPile v x = _ from if_pos c]
    obtain ⟨⟨h1, h2, h3, ⟨h4, h5, h6⟩, h7, h8, h9, h10⟩, ⟨q1, q2, q3, q4, q5⟩, q6, q7⟩ := IV_up h
    unfold alm at q7
    unfold kPile at c
    by_cases c1 : 1 ≤ x ∧ x ≤ 200
    · rw [if_pos c1] at c
      by_cases c2 : 4 ≤ vnC v
      · rw [if_pos c2] at c; exact absurd c (by decide)
      · have a1 := ge_t (n := 1) (by decide) c1.1
        have a2 := le_t (n := 200) (by decide) c1.2
        have z0 := (h4 (vnC v) (Nat.le_refl _)).2.2.1
        refine IV_mk (by omega) h2 h3 (fun j hj => ?_) h5 h6 h7 h8 h9 (fun j => ?_) q2 q3 q7 (by omega) q5 q6
        · rw [upd_ge (n := vnC v + 1) (by omega) hj]; exact h4 j (by omega)
        · refine upd_all (P := fun j z => 0 ≤ z.toInt ∧ 0 ≤ toI (vbu v) j ∧ z.toInt + toI (vbu v) j ≤ 200) ?_ q1 j
          have : toI (vbu v) (vnC v) = 0 := by unfold toI; rw [z0]; decide
          omega
    · rw [if_neg c1] at c; exact absurd c (by decide)
  · rw [show nPile v x = v from if_neg c]; exact IV_up h
theorem IV_Light {k : Nat} (hk : k < 512) {v : VT} (h : IV k v) (d q : Int32) : IV (k + 1) (nLight v d q) := by
  by_cases c : kLight v d q = 0
  · rw [show nLight v d q = _ from if_pos c]
    obtain ⟨⟨h1, h2, h3, ⟨h4, h5, h6⟩, h7, h8, h9, h10⟩, ⟨q1, q2, q3, q4, q5⟩, q6, q7⟩ := IV_up h
    unfold alm at q7
    unfold kLight at c
    by_cases c1 : 0 ≤ d ∧ d < nI (vnC v)
    · have hi := ix_lt (by omega) c1
      refine IV_mk h1 h2 h3 (fun j hj => ?_) h5 h6 (fun j => upd_all (P := fun _ z => z = 0 ∨ z = 1) (Or.inr rfl) h7 j) h8 h9 q1 q2 q3 q7 (by omega) q5 q6
      rw [upd_ge hi hj, upd_ge hi hj]; exact h4 j hj
    · rw [if_neg c1] at c; exact absurd c (by decide)
  · rw [show nLight v d q = v from if_neg c]; exact IV_up h
theorem IV_Dig {k : Nat} (hk : k < 512) {v : VT} (h : IV k v) (x : Int32) : IV (k + 1) (nDig v x) := by
  by_cases c : kDig v x = 0
  · rw [show nDig v x = _ from if_pos c]
    obtain ⟨⟨h1, h2, h3, ⟨h4, h5, h6⟩, h7, h8, h9, h10⟩, ⟨q1, q2, q3, q4, q5⟩, q6, q7⟩ := IV_up h
    unfold alm at q7
    unfold kDig at c
    by_cases c1 : 0 ≤ x ∧ x ≤ 400
    · rw [if_pos c1] at c
      by_cases c2 : 4 ≤ vnP v
      · rw [if_pos c2] at c; exact absurd c (by decide)
      · have a1 := z_le.mp c1.1
        have a2 := le_t (n := 400) (by decide) c1.2
        refine IV_mk h1 (by omega) h3 h4 (fun j hj => ?_) h6 h7 h8 h9 q1 (fun j => ?_) q3 q7 (by omega) q5 q6
        · rw [upd_ge (n := vnP v + 1) (by omega) hj]; exact h5 j (by omega)
        · refine upd_all (P := fun j z => 0 ≤ z.toInt ∧ z.toInt ≤ 400 ∧ 0 ≤ toI (vpa v) j) ?_ q2 j
          exact ⟨a1, a2, (q2 _).2.2⟩
    · rw [if_neg c1] at c; exact absurd c (by decide)
  · rw [show nDig v x = v from if_neg c]; exact IV_up h
theorem IV_Steep {k : Nat} (hk : k < 512) {v : VT} (h : IV k v) (d q : Int32) : IV (k + 1) (nSteep v d q) := by
  by_cases c : kSteep v d q = 0
  · rw [show nSteep v d q = _ from if_pos c]
    obtain ⟨⟨h1, h2, h3, ⟨h4, h5, h6⟩, h7, h8, h9, h10⟩, ⟨q1, q2, q3, q4, q5⟩, q6, q7⟩ := h
    unfold alm at q7
    unfold kSteep at c
    by_cases c1 : 0 ≤ d ∧ d < nI (vnC v)
    · rw [if_pos c1] at c
      by_cases c2 : 0 ≤ q ∧ q < nI (vnP v)
      · have hi := ix_lt (by omega) c1
        have hj := ix_lt (by omega) c2
        generalize ix d = i at hi ⊢
        generalize ix q = j at hj ⊢
        have b := q1 i
        have p := q2 j
        have e2 : (2 : Int32).toInt = 2 := by decide
        have hd : (vbu v i / 2).toInt = toI (vbu v) i / 2 := by
          unfold toI at b ⊢
          rw [lg_idiv_nonneg (by omega) (by omega), e2]
        have hP := (NN.pa ⟨q1, q2, q3, q4, q5⟩ (k := j) (by omega)).2.2
        have ha : (vpa v j + vbu v i / 2).toInt = toI (vpa v) j + toI (vbu v) i / 2 := by
          rw [tIa] <;> rw [hd] <;> unfold toI at * <;> omega
        refine IV_mk h1 h2 h3 (fun r hr => ?_) (fun r hr => ?_) h6 h7 h8 h9 (fun r => ?_) (fun r => ?_) q3 ?_ (by omega) q5 (by omega)
        · rw [upd_ge hi hr]; exact h4 r hr
        · rw [upd_ge hj hr]; exact h5 r hr
        · refine upd_all (P := fun r z => 0 ≤ toI (vsh v) r ∧ 0 ≤ z.toInt ∧ toI (vsh v) r + z.toInt ≤ 200) ?_ q1 r
          have e0 : (0 : Int32).toInt = 0 := by decide
          omega
        · refine upd_all (P := fun r z => 0 ≤ toI (vpw v) r ∧ toI (vpw v) r ≤ 400 ∧ 0 ≤ z.toInt) ?_ q2 r
          rw [ha]
          omega
        · have s4 := s4_upd (vpa v) (q := j) (by omega) (vpa v j + vbu v i / 2)
          rw [ha] at s4
          omega
      · rw [if_neg c2] at c; exact absurd c (by decide)
    · rw [if_neg c1] at c; exact absurd c (by decide)
  · rw [show nSteep v d q = v from if_neg c]; exact IV_up h
theorem IV_Pan {k : Nat} (hk : k < 512) {v : VT} (h : IV k v) : IV (k + 1) (nPan v) := by
  by_cases c : kPan v = 0
  · rw [show nPan v = _ from if_pos c]
    obtain ⟨⟨h1, h2, h3, ⟨h4, h5, h6⟩, h7, h8, h9, h10⟩, ⟨q1, q2, q3, q4, q5⟩, q6, q7⟩ := IV_up h
    unfold alm at q7
    unfold kPan at c
    by_cases c1 : 3 ≤ vnK v
    · rw [if_pos c1] at c; exact absurd c (by decide)
    · refine IV_mk h1 h2 (by omega) h4 h5 (fun j hj => ?_) h7 h8 h9 q1 q2 (fun j => ?_) q7 (by omega) q5 q6
      · rw [upd_ge (n := vnK v + 1) (by omega) hj]; exact h6 j (by omega)
      · refine upd_all (P := fun j z => 0 ≤ z.toInt ∧ z.toInt ≤ 150 ∧ 0 ≤ toI (vka v) j) ?_ q3 j
        exact ⟨by decide, by decide, (q3 _).2.2⟩
  · rw [show nPan v = v from if_neg c]; exact IV_up h
theorem IV_Boil {k : Nat} (hk : k < 512) {v : VT} (h : IV k v) (x : Int32) : IV (k + 1) (nBoil v x) := by
  by_cases c : kBoil v x = 0
  · rw [show nBoil v x = _ from if_pos c]
    obtain ⟨⟨h1, h2, h3, ⟨h4, h5, h6⟩, h7, h8, h9, h10⟩, ⟨q1, q2, q3, q4, q5⟩, q6, q7⟩ := IV_up h
    unfold alm at q7
    unfold kBoil at c
    by_cases c1 : 0 ≤ x ∧ x < nI (vnK v)
    · have hi := ix_lt (by omega) c1
      refine IV_mk h1 h2 h3 h4 h5 (fun j hj => ?_) h7 h8 (fun j => upd_all (P := fun _ z => z = 0 ∨ z = 1) (tog_01 _) h9 j) q1 q2 q3 q7 (by omega) q5 q6
      rw [upd_ge hi hj]; exact h6 j hj
    · rw [if_neg c1] at c; exact absurd c (by decide)
  · rw [show nBoil v x = v from if_neg c]; exact IV_up h
theorem IV_Pour {k : Nat} (hk : k < 512) {v : VT} (h : IV k v) (x b : Int32) : IV (k + 1) (nPour v x b) := by
  by_cases c : kPour v x b = 0
  · have hi : ix x < vnK v := by
      unfold kPour at c
      by_cases c1 : 0 ≤ x ∧ x < nI (vnK v)
      · exact ix_lt (by have := h.1.2.2.1; omega) c1
      · rw [if_neg c1] at c; exact absurd c (by decide)
    rw [show nPour v x b = _ from if_pos c]
    obtain ⟨⟨h1, h2, h3, ⟨h4, h5, h6⟩, h7, h8, h9, h10⟩, ⟨q1, q2, q3, q4, q5⟩, q6, q7⟩ := IV_up h
    unfold alm at q7
    generalize ix x = i at hi ⊢
    have s3 := s3_upd (vka v) (q := i) (by omega) 0
    have e0 : (0 : Int32).toInt = 0 := by decide
    have z0 := (q3 i).2.2
    split
    · refine IV_mk h1 h2 h3 h4 h5 (fun j hj => ?_) h7 h8 (fun j => upd_all (P := fun _ z => z = 0 ∨ z = 1) (Or.inl rfl) h9 j) q1 q2 (fun j => ?_) (by omega) (by omega) q5 q6
      · rw [upd_ge hi hj, upd_ge hi hj, upd_ge hi hj]; exact h6 j hj
      · refine upd_all (P := fun j z => 0 ≤ z.toInt ∧ z.toInt ≤ 150 ∧ 0 ≤ toI (upd (vka v) i 0) j) ?_ (fun j => ⟨(q3 j).1, (q3 j).2.1, ?_⟩) j
        · exact ⟨by decide, by decide, upd_all (P := fun _ z => 0 ≤ z.toInt) (by decide) (fun j => (q3 j).2.2) i⟩
        · exact upd_all (P := fun _ z => 0 ≤ z.toInt) (by decide) (fun j => (q3 j).2.2) j
    · refine IV_mk h1 h2 h3 h4 h5 (fun j hj => ?_) h7 h8 (fun j => upd_all (P := fun _ z => z = 0 ∨ z = 1) (Or.inl rfl) h9 j) q1 q2 (fun j => ?_) (by omega) (by omega) q5 q6
      · rw [upd_ge hi hj, upd_ge hi hj, upd_ge hi hj]; exact h6 j hj
      · refine upd_all (P := fun j z => 0 ≤ z.toInt ∧ z.toInt ≤ 150 ∧ 0 ≤ toI (upd (vka v) i 0) j) ?_ (fun j => ⟨(q3 j).1, (q3 j).2.1, ?_⟩) j
        · exact ⟨by decide, by decide, upd_all (P := fun _ z => 0 ≤ z.toInt) (by decide) (fun j => (q3 j).2.2) i⟩
        · exact upd_all (P := fun _ z => 0 ≤ z.toInt) (by decide) (fun j => (q3 j).2.2) j
  · rw [show nPour v x b = v from if_neg c]; exact IV_up h
/-- what is drawn: not less than nothing, not more than the pit has -/
theorem draw_T {a w p : Int32} (ha : 0 ≤ a.toInt) (ha2 : a.toInt ≤ 60000) (hw : 1 ≤ w.toInt) (hw2 : w.toInt ≤ 150) (hp : w.toInt ≤ p.toInt) : 0 ≤ (a * w / p).toInt ∧ (a * w / p).toInt ≤ a.toInt := by
  have m0 : 0 ≤ a.toInt * w.toInt := Int.mul_nonneg ha (by omega)
  have m1 : a.toInt * w.toInt ≤ 60000 * 150 := Int.mul_le_mul ha2 hw2 (by omega) (by omega)
  have em : (a * w).toInt = a.toInt * w.toInt := by
    rw [Int32.toInt_mul]
    exact Int.bmod_eq_of_le (by omega) (by omega)
  have ed : (a * w / p).toInt = a.toInt * w.toInt / p.toInt := by
    rw [lg_idiv_nonneg (by omega) (by omega), em]
  rw [ed]
  refine ⟨Int.ediv_nonneg m0 (by omega), ?_⟩
  have m2 : a.toInt * w.toInt ≤ a.toInt * p.toInt := Int.mul_le_mul_of_nonneg_left hp ha
  exact Int.ediv_le_of_le_mul (by omega) m2
theorem IV_Draw {k : Nat} (hk : k < 512) {v : VT} (h : IV k v) (q x w : Int32) : IV (k + 1) (nDraw v q x w) := by
  by_cases c : kDraw v q x w = 0
  · rw [show nDraw v q x w = _ from if_pos c]
    obtain ⟨⟨h1, h2, h3, ⟨h4, h5, h6⟩, h7, h8, h9, h10⟩, ⟨q1, q2, q3, q4, q5⟩, q6, q7⟩ := IV_up h
    unfold alm at q7
    unfold kDraw at c
    by_cases c1 : 0 ≤ q ∧ q < nI (vnP v)
    · rw [if_pos c1] at c
      by_cases c2 : 0 ≤ x ∧ x < nI (vnK v)
      · rw [if_pos c2] at c
        by_cases c3 : 1 ≤ w ∧ w ≤ 150
        · rw [if_pos c3] at c
          have hi := ix_lt (by omega) c1
          have hj := ix_lt (by omega) c2
          generalize ix q = i at c hi ⊢
          generalize ix x = j at c hj ⊢
          by_cases c4 : vpw v i < w
          · rw [if_pos c4] at c; exact absurd c (by decide)
          · rw [if_neg c4] at c
            by_cases c5 : vkw v j + w ≤ 150
            · have w1 := ge_t (n := 1) (by decide) c3.1
              have w2 := le_t (n := 150) (by decide) c3.2
              have w3 := Int32.le_iff_toInt_le.mp (Int32.not_lt.mp c4)
              have P := NN.pa ⟨q1, q2, q3, q4, q5⟩ (k := i) (by omega)
              have K := NN.ka ⟨q1, q2, q3, q4, q5⟩ (k := j) (by omega)
              have w5 := le_t (n := 150) (by decide) c5
              unfold toI at P K
              rw [tIa (by omega) (by omega)] at w5
              have dr := draw_T P.2.2.1 P.2.2.2 w1 w2 w3
              generalize vpa v i * w / vpw v i = z at dr ⊢
              have e1 : (vpw v i - w).toInt = (vpw v i).toInt - w.toInt := tIs (by omega) (by omega)
              have e2 : (vpa v i - z).toInt = (vpa v i).toInt - z.toInt := tIs (by omega) (by omega)
              have e3 : (vkw v j + w).toInt = (vkw v j).toInt + w.toInt := tIa (by omega) (by omega)
              have e4 : (vka v j + z).toInt = (vka v j).toInt + z.toInt := tIa (by omega) (by omega)
              have s4 := s4_upd (vpa v) (q := i) (by omega) (vpa v i - z)
              have s3 := s3_upd (vka v) (q := j) (by omega) (vka v j + z)
              rw [e2] at s4
              rw [e4] at s3
              have t4 : toI (vpa v) i = (vpa v i).toInt := rfl
              have t3 : toI (vka v) j = (vka v j).toInt := rfl
              refine IV_mk h1 h2 h3 h4 (fun r hr => ?_) (fun r hr => ?_) h7 h8 h9 q1 (fun r => ?_) (fun r => ?_) (by omega) (by omega) q5 q6
              · rw [upd_ge hi hr, upd_ge hi hr]; exact h5 r hr
              · rw [upd_ge hj hr, upd_ge hj hr]; exact h6 r hr
              · have a1 := upd_all (P := fun r y => 0 ≤ y.toInt ∧ y.toInt ≤ 400) (f := vpw v) (i := i) (x := vpw v i - w) (by rw [e1]; omega) (fun r => ⟨(q2 r).1, (q2 r).2.1⟩) r
                have a2 := upd_all (P := fun r y => 0 ≤ y.toInt) (f := vpa v) (i := i) (x := vpa v i - z) (by rw [e2]; omega) (fun r => (q2 r).2.2) r
                exact ⟨a1.1, a1.2, a2⟩
              · have a1 := upd_all (P := fun r y => 0 ≤ y.toInt ∧ y.toInt ≤ 150) (f := vkw v) (i := j) (x := vkw v j + w) (by rw [e3]; omega) (fun r => ⟨(q3 r).1, (q3 r).2.1⟩) r
                have a2 := upd_all (P := fun r y => 0 ≤ y.toInt) (f := vka v) (i := j) (x := vka v j + z) (by rw [e4]; omega) (fun r => (q3 r).2.2) r
                exact ⟨a1.1, a1.2, a2⟩
            · rw [if_neg c5] at c; exact absurd c (by decide)
        · rw [if_neg c3] at c; exact absurd c (by decide)
      · rw [if_neg c2] at c; exact absurd c (by decide)
    · rw [if_neg c1] at c; exact absurd c (by decide)
  · rw [show nDraw v q x w = v from if_neg c]; exact IV_up h
theorem alm_dIt (n : Nat) (v : VT) : alm (dIt n v) = alm v := by
  induction n with
  | zero => rfl
  | succ n ih => exact (show alm (dayV (dIt n v)) = alm (dIt n v) from rfl).trans ih
theorem IV_Pass {k : Nat} (hk : k < 512) {v : VT} (h : IV k v) (d : Int32) : IV (k + 1) (nPass v d) := by
  by_cases c : kPass v d = 0
  · rw [show nPass v d = _ from if_pos c]
    unfold kPass at c
    by_cases c1 : 1 ≤ d ∧ d ≤ 60
    · obtain ⟨j, h1, hj, rfl⟩ := inP1 (n := 60) (by decide) c1
      rw [ix_nI (by omega)]
      have hd := h.2.2.1
      exact ⟨IS_dIt h.1 (by omega), NN_dIt h.2.1 j, by rw [vday_dIt]; omega, by rw [alm_dIt]; have := h.2.2.2; omega⟩
    · rw [if_neg c1] at c; exact absurd c (by decide)
  · rw [show nPass v d = v from if_neg c]; exact IV_up h
theorem nP_Pass (v : VT) (d : Int32) : vnC (nPass v d) = vnC v ∧ vnP (nPass v d) = vnP v ∧ vnK (nPass v d) = vnK v := by
  unfold nPass
  split
  · exact ⟨vnC_dIt _ _, vnP_dIt _ _, vnK_dIt _ _⟩
  · exact ⟨rfl, rfl, rfl⟩
theorem u_Bring_vsh (v : VT) (x m : Int32) : vsh (nBring v x m) = vsh v := by unfold nBring; split <;> first | rfl | (split <;> rfl)
theorem u_Bring_vco (v : VT) (x m : Int32) : vco (nBring v x m) = vco v := by unfold nBring; split <;> first | rfl | (split <;> rfl)
theorem u_Bring_vbu (v : VT) (x m : Int32) : vbu (nBring v x m) = vbu v := by unfold nBring; split <;> first | rfl | (split <;> rfl)
theorem u_Bring_vfl (v : VT) (x m : Int32) : vfl (nBring v x m) = vfl v := by unfold nBring; split <;> first | rfl | (split <;> rfl)
theorem u_Bring_vnC (v : VT) (x m : Int32) : vnC (nBring v x m) = vnC v := by unfold nBring; split <;> first | rfl | (split <;> rfl)
theorem u_Bring_vpw (v : VT) (x m : Int32) : vpw (nBring v x m) = vpw v := by unfold nBring; split <;> first | rfl | (split <;> rfl)
theorem u_Bring_vpa (v : VT) (x m : Int32) : vpa (nBring v x m) = vpa v := by unfold nBring; split <;> first | rfl | (split <;> rfl)
theorem u_Bring_vpb (v : VT) (x m : Int32) : vpb (nBring v x m) = vpb v := by unfold nBring; split <;> first | rfl | (split <;> rfl)
theorem u_Bring_vnP (v : VT) (x m : Int32) : vnP (nBring v x m) = vnP v := by unfold nBring; split <;> first | rfl | (split <;> rfl)
theorem u_Bring_vkw (v : VT) (x m : Int32) : vkw (nBring v x m) = vkw v := by unfold nBring; split <;> first | rfl | (split <;> rfl)
theorem u_Bring_vka (v : VT) (x m : Int32) : vka (nBring v x m) = vka v := by unfold nBring; split <;> first | rfl | (split <;> rfl)
theorem u_Bring_vkb (v : VT) (x m : Int32) : vkb (nBring v x m) = vkb v := by unfold nBring; split <;> first | rfl | (split <;> rfl)
theorem u_Bring_vnK (v : VT) (x m : Int32) : vnK (nBring v x m) = vnK v := by unfold nBring; split <;> first | rfl | (split <;> rfl)
theorem u_Bring_vday (v : VT) (x m : Int32) : vday (nBring v x m) = vday v := by unfold nBring; split <;> first | rfl | (split <;> rfl)
theorem u_Bring_vfine (v : VT) (x m : Int32) : vfine (nBring v x m) = vfine v := by unfold nBring; split <;> first | rfl | (split <;> rfl)
theorem u_Bring_vcrs (v : VT) (x m : Int32) : vcrs (nBring v x m) = vcrs v := by unfold nBring; split <;> first | rfl | (split <;> rfl)
theorem u_Bring_vcoin (v : VT) (x m : Int32) : vcoin (nBring v x m) = vcoin v := by unfold nBring; split <;> first | rfl | (split <;> rfl)
theorem u_Bring_vship (v : VT) (x m : Int32) : vship (nBring v x m) = vship v := by unfold nBring; split <;> first | rfl | (split <;> rfl)
theorem u_Bring_vR (v : VT) (x m : Int32) : vR (nBring v x m) = vR v := by unfold nBring; split <;> first | rfl | (split <;> rfl)
theorem u_Bring_vS (v : VT) (x m : Int32) : vS (nBring v x m) = vS v := by unfold nBring; split <;> first | rfl | (split <;> rfl)
theorem u_Rain_vsh (v : VT) (d r : Int32) : vsh (nRain v d r) = vsh v := by unfold nRain; split <;> first | rfl | (split <;> rfl)
theorem u_Rain_vco (v : VT) (d r : Int32) : vco (nRain v d r) = vco v := by unfold nRain; split <;> first | rfl | (split <;> rfl)
theorem u_Rain_vbu (v : VT) (d r : Int32) : vbu (nRain v d r) = vbu v := by unfold nRain; split <;> first | rfl | (split <;> rfl)
theorem u_Rain_vfl (v : VT) (d r : Int32) : vfl (nRain v d r) = vfl v := by unfold nRain; split <;> first | rfl | (split <;> rfl)
theorem u_Rain_vnC (v : VT) (d r : Int32) : vnC (nRain v d r) = vnC v := by unfold nRain; split <;> first | rfl | (split <;> rfl)
theorem u_Rain_vpw (v : VT) (d r : Int32) : vpw (nRain v d r) = vpw v := by unfold nRain; split <;> first | rfl | (split <;> rfl)
theorem u_Rain_vpa (v : VT) (d r : Int32) : vpa (nRain v d r) = vpa v := by unfold nRain; split <;> first | rfl | (split <;> rfl)
theorem u_Rain_vpb (v : VT) (d r : Int32) : vpb (nRain v d r) = vpb v := by unfold nRain; split <;> first | rfl | (split <;> rfl)
theorem u_Rain_vnP (v : VT) (d r : Int32) : vnP (nRain v d r) = vnP v := by unfold nRain; split <;> first | rfl | (split <;> rfl)
theorem u_Rain_vkw (v : VT) (d r : Int32) : vkw (nRain v d r) = vkw v := by unfold nRain; split <;> first | rfl | (split <;> rfl)
theorem u_Rain_vka (v : VT) (d r : Int32) : vka (nRain v d r) = vka v := by unfold nRain; split <;> first | rfl | (split <;> rfl)
theorem u_Rain_vkb (v : VT) (d r : Int32) : vkb (nRain v d r) = vkb v := by unfold nRain; split <;> first | rfl | (split <;> rfl)
theorem u_Rain_vnK (v : VT) (d r : Int32) : vnK (nRain v d r) = vnK v := by unfold nRain; split <;> first | rfl | (split <;> rfl)
theorem u_Rain_vday (v : VT) (d r : Int32) : vday (nRain v d r) = vday v := by unfold nRain; split <;> first | rfl | (split <;> rfl)
theorem u_Rain_vcoal (v : VT) (d r : Int32) : vcoal (nRain v d r) = vcoal v := by unfold nRain; split <;> first | rfl | (split <;> rfl)
theorem u_Rain_vbar (v : VT) (d r : Int32) : vbar (nRain v d r) = vbar v := by unfold nRain; split <;> first | rfl | (split <;> rfl)
theorem u_Rain_vfine (v : VT) (d r : Int32) : vfine (nRain v d r) = vfine v := by unfold nRain; split <;> first | rfl | (split <;> rfl)
theorem u_Rain_vcrs (v : VT) (d r : Int32) : vcrs (nRain v d r) = vcrs v := by unfold nRain; split <;> first | rfl | (split <;> rfl)
theorem u_Rain_vcoin (v : VT) (d r : Int32) : vcoin (nRain v d r) = vcoin v := by unfold nRain; split <;> first | rfl | (split <;> rfl)
theorem u_Rain_vship (v : VT) (d r : Int32) : vship (nRain v d r) = vship v := by unfold nRain; split <;> first | rfl | (split <;> rfl)
theorem u_Rain_vS (v : VT) (d r : Int32) : vS (nRain v d r) = vS v := by unfold nRain; split <;> first | rfl | (split <;> rfl)
theorem u_Ship_vsh (v : VT) (d r : Int32) : vsh (nShip v d r) = vsh v := by unfold nShip; split <;> first | rfl | (split <;> rfl)
theorem u_Ship_vco (v : VT) (d r : Int32) : vco (nShip v d r) = vco v := by unfold nShip; split <;> first | rfl | (split <;> rfl)
theorem u_Ship_vbu (v : VT) (d r : Int32) : vbu (nShip v d r) = vbu v := by unfold nShip; split <;> first | rfl | (split <;> rfl)
theorem u_Ship_vfl (v : VT) (d r : Int32) : vfl (nShip v d r) = vfl v := by unfold nShip; split <;> first | rfl | (split <;> rfl)
theorem u_Ship_vnC (v : VT) (d r : Int32) : vnC (nShip v d r) = vnC v := by unfold nShip; split <;> first | rfl | (split <;> rfl)
theorem u_Ship_vpw (v : VT) (d r : Int32) : vpw (nShip v d r) = vpw v := by unfold nShip; split <;> first | rfl | (split <;> rfl)
theorem u_Ship_vpa (v : VT) (d r : Int32) : vpa (nShip v d r) = vpa v := by unfold nShip; split <;> first | rfl | (split <;> rfl)
theorem u_Ship_vpb (v : VT) (d r : Int32) : vpb (nShip v d r) = vpb v := by unfold nShip; split <;> first | rfl | (split <;> rfl)
theorem u_Ship_vnP (v : VT) (d r : Int32) : vnP (nShip v d r) = vnP v := by unfold nShip; split <;> first | rfl | (split <;> rfl)
theorem u_Ship_vkw (v : VT) (d r : Int32) : vkw (nShip v d r) = vkw v := by unfold nShip; split <;> first | rfl | (split <;> rfl)
theorem u_Ship_vka (v : VT) (d r : Int32) : vka (nShip v d r) = vka v := by unfold nShip; split <;> first | rfl | (split <;> rfl)
theorem u_Ship_vkb (v : VT) (d r : Int32) : vkb (nShip v d r) = vkb v := by unfold nShip; split <;> first | rfl | (split <;> rfl)
theorem u_Ship_vnK (v : VT) (d r : Int32) : vnK (nShip v d r) = vnK v := by unfold nShip; split <;> first | rfl | (split <;> rfl)
theorem u_Ship_vday (v : VT) (d r : Int32) : vday (nShip v d r) = vday v := by unfold nShip; split <;> first | rfl | (split <;> rfl)
theorem u_Ship_vcoal (v : VT) (d r : Int32) : vcoal (nShip v d r) = vcoal v := by unfold nShip; split <;> first | rfl | (split <;> rfl)
theorem u_Ship_vbar (v : VT) (d r : Int32) : vbar (nShip v d r) = vbar v := by unfold nShip; split <;> first | rfl | (split <;> rfl)
theorem u_Ship_vfine (v : VT) (d r : Int32) : vfine (nShip v d r) = vfine v := by unfold nShip; split <;> first | rfl | (split <;> rfl)
theorem u_Ship_vcrs (v : VT) (d r : Int32) : vcrs (nShip v d r) = vcrs v := by unfold nShip; split <;> first | rfl | (split <;> rfl)
theorem u_Ship_vcoin (v : VT) (d r : Int32) : vcoin (nShip v d r) = vcoin v := by unfold nShip; split <;> first | rfl | (split <;> rfl)
theorem u_Ship_vship (v : VT) (d r : Int32) : vship (nShip v d r) = vship v := by unfold nShip; split <;> first | rfl | (split <;> rfl)
theorem u_Ship_vR (v : VT) (d r : Int32) : vR (nShip v d r) = vR v := by unfold nShip; split <;> first | rfl | (split <;> rfl)
theorem u_Pile_vco (v : VT) (x : Int32) : vco (nPile v x) = vco v := by unfold nPile; split <;> first | rfl | (split <;> rfl)
theorem u_Pile_vbu (v : VT) (x : Int32) : vbu (nPile v x) = vbu v := by unfold nPile; split <;> first | rfl | (split <;> rfl)
theorem u_Pile_vfl (v : VT) (x : Int32) : vfl (nPile v x) = vfl v := by unfold nPile; split <;> first | rfl | (split <;> rfl)
theorem u_Pile_vpw (v : VT) (x : Int32) : vpw (nPile v x) = vpw v := by unfold nPile; split <;> first | rfl | (split <;> rfl)
theorem u_Pile_vpa (v : VT) (x : Int32) : vpa (nPile v x) = vpa v := by unfold nPile; split <;> first | rfl | (split <;> rfl)
theorem u_Pile_vpb (v : VT) (x : Int32) : vpb (nPile v x) = vpb v := by unfold nPile; split <;> first | rfl | (split <;> rfl)
theorem u_Pile_vnP (v : VT) (x : Int32) : vnP (nPile v x) = vnP v := by unfold nPile; split <;> first | rfl | (split <;> rfl)
theorem u_Pile_vkw (v : VT) (x : Int32) : vkw (nPile v x) = vkw v := by unfold nPile; split <;> first | rfl | (split <;> rfl)
theorem u_Pile_vka (v : VT) (x : Int32) : vka (nPile v x) = vka v := by unfold nPile; split <;> first | rfl | (split <;> rfl)
theorem u_Pile_vkb (v : VT) (x : Int32) : vkb (nPile v x) = vkb v := by unfold nPile; split <;> first | rfl | (split <;> rfl)
theorem u_Pile_vnK (v : VT) (x : Int32) : vnK (nPile v x) = vnK v := by unfold nPile; split <;> first | rfl | (split <;> rfl)
theorem u_Pile_vday (v : VT) (x : Int32) : vday (nPile v x) = vday v := by unfold nPile; split <;> first | rfl | (split <;> rfl)
theorem u_Pile_vcoal (v : VT) (x : Int32) : vcoal (nPile v x) = vcoal v := by unfold nPile; split <;> first | rfl | (split <;> rfl)
theorem u_Pile_vbar (v : VT) (x : Int32) : vbar (nPile v x) = vbar v := by unfold nPile; split <;> first | rfl | (split <;> rfl)
theorem u_Pile_vfine (v : VT) (x : Int32) : vfine (nPile v x) = vfine v := by unfold nPile; split <;> first | rfl | (split <;> rfl)
theorem u_Pile_vcrs (v : VT) (x : Int32) : vcrs (nPile v x) = vcrs v := by unfold nPile; split <;> first | rfl | (split <;> rfl)
theorem u_Pile_vcoin (v : VT) (x : Int32) : vcoin (nPile v x) = vcoin v := by unfold nPile; split <;> first | rfl | (split <;> rfl)
theorem u_Pile_vship (v : VT) (x : Int32) : vship (nPile v x) = vship v := by unfold nPile; split <;> first | rfl | (split <;> rfl)
theorem u_Pile_vR (v : VT) (x : Int32) : vR (nPile v x) = vR v := by unfold nPile; split <;> first | rfl | (split <;> rfl)
theorem u_Pile_vS (v : VT) (x : Int32) : vS (nPile v x) = vS v := by unfold nPile; split <;> first | rfl | (split <;> rfl)
theorem u_Light_vsh (v : VT) (c q : Int32) : vsh (nLight v c q) = vsh v := by unfold nLight; split <;> first | rfl | (split <;> rfl)
theorem u_Light_vbu (v : VT) (c q : Int32) : vbu (nLight v c q) = vbu v := by unfold nLight; split <;> first | rfl | (split <;> rfl)
theorem u_Light_vnC (v : VT) (c q : Int32) : vnC (nLight v c q) = vnC v := by unfold nLight; split <;> first | rfl | (split <;> rfl)
theorem u_Light_vpw (v : VT) (c q : Int32) : vpw (nLight v c q) = vpw v := by unfold nLight; split <;> first | rfl | (split <;> rfl)
theorem u_Light_vpa (v : VT) (c q : Int32) : vpa (nLight v c q) = vpa v := by unfold nLight; split <;> first | rfl | (split <;> rfl)
theorem u_Light_vpb (v : VT) (c q : Int32) : vpb (nLight v c q) = vpb v := by unfold nLight; split <;> first | rfl | (split <;> rfl)
theorem u_Light_vnP (v : VT) (c q : Int32) : vnP (nLight v c q) = vnP v := by unfold nLight; split <;> first | rfl | (split <;> rfl)
theorem u_Light_vkw (v : VT) (c q : Int32) : vkw (nLight v c q) = vkw v := by unfold nLight; split <;> first | rfl | (split <;> rfl)
theorem u_Light_vka (v : VT) (c q : Int32) : vka (nLight v c q) = vka v := by unfold nLight; split <;> first | rfl | (split <;> rfl)
theorem u_Light_vkb (v : VT) (c q : Int32) : vkb (nLight v c q) = vkb v := by unfold nLight; split <;> first | rfl | (split <;> rfl)
theorem u_Light_vnK (v : VT) (c q : Int32) : vnK (nLight v c q) = vnK v := by unfold nLight; split <;> first | rfl | (split <;> rfl)
theorem u_Light_vday (v : VT) (c q : Int32) : vday (nLight v c q) = vday v := by unfold nLight; split <;> first | rfl | (split <;> rfl)
theorem u_Light_vbar (v : VT) (c q : Int32) : vbar (nLight v c q) = vbar v := by unfold nLight; split <;> first | rfl | (split <;> rfl)
theorem u_Light_vfine (v : VT) (c q : Int32) : vfine (nLight v c q) = vfine v := by unfold nLight; split <;> first | rfl | (split <;> rfl)
theorem u_Light_vcrs (v : VT) (c q : Int32) : vcrs (nLight v c q) = vcrs v := by unfold nLight; split <;> first | rfl | (split <;> rfl)
theorem u_Light_vcoin (v : VT) (c q : Int32) : vcoin (nLight v c q) = vcoin v := by unfold nLight; split <;> first | rfl | (split <;> rfl)
theorem u_Light_vship (v : VT) (c q : Int32) : vship (nLight v c q) = vship v := by unfold nLight; split <;> first | rfl | (split <;> rfl)
theorem u_Light_vR (v : VT) (c q : Int32) : vR (nLight v c q) = vR v := by unfold nLight; split <;> first | rfl | (split <;> rfl)
theorem u_Light_vS (v : VT) (c q : Int32) : vS (nLight v c q) = vS v := by unfold nLight; split <;> first | rfl | (split <;> rfl)
theorem u_Dig_vsh (v : VT) (x : Int32) : vsh (nDig v x) = vsh v := by unfold nDig; split <;> first | rfl | (split <;> rfl)
theorem u_Dig_vco (v : VT) (x : Int32) : vco (nDig v x) = vco v := by unfold nDig; split <;> first | rfl | (split <;> rfl)
theorem u_Dig_vbu (v : VT) (x : Int32) : vbu (nDig v x) = vbu v := by unfold nDig; split <;> first | rfl | (split <;> rfl)
theorem u_Dig_vfl (v : VT) (x : Int32) : vfl (nDig v x) = vfl v := by unfold nDig; split <;> first | rfl | (split <;> rfl)
theorem u_Dig_vnC (v : VT) (x : Int32) : vnC (nDig v x) = vnC v := by unfold nDig; split <;> first | rfl | (split <;> rfl)
theorem u_Dig_vpa (v : VT) (x : Int32) : vpa (nDig v x) = vpa v := by unfold nDig; split <;> first | rfl | (split <;> rfl)
theorem u_Dig_vpb (v : VT) (x : Int32) : vpb (nDig v x) = vpb v := by unfold nDig; split <;> first | rfl | (split <;> rfl)
theorem u_Dig_vkw (v : VT) (x : Int32) : vkw (nDig v x) = vkw v := by unfold nDig; split <;> first | rfl | (split <;> rfl)
theorem u_Dig_vka (v : VT) (x : Int32) : vka (nDig v x) = vka v := by unfold nDig; split <;> first | rfl | (split <;> rfl)
theorem u_Dig_vkb (v : VT) (x : Int32) : vkb (nDig v x) = vkb v := by unfold nDig; split <;> first | rfl | (split <;> rfl)
theorem u_Dig_vnK (v : VT) (x : Int32) : vnK (nDig v x) = vnK v := by unfold nDig; split <;> first | rfl | (split <;> rfl)
theorem u_Dig_vday (v : VT) (x : Int32) : vday (nDig v x) = vday v := by unfold nDig; split <;> first | rfl | (split <;> rfl)
theorem u_Dig_vcoal (v : VT) (x : Int32) : vcoal (nDig v x) = vcoal v := by unfold nDig; split <;> first | rfl | (split <;> rfl)
theorem u_Dig_vbar (v : VT) (x : Int32) : vbar (nDig v x) = vbar v := by unfold nDig; split <;> first | rfl | (split <;> rfl)
theorem u_Dig_vfine (v : VT) (x : Int32) : vfine (nDig v x) = vfine v := by unfold nDig; split <;> first | rfl | (split <;> rfl)
theorem u_Dig_vcrs (v : VT) (x : Int32) : vcrs (nDig v x) = vcrs v := by unfold nDig; split <;> first | rfl | (split <;> rfl)
theorem u_Dig_vcoin (v : VT) (x : Int32) : vcoin (nDig v x) = vcoin v := by unfold nDig; split <;> first | rfl | (split <;> rfl)
theorem u_Dig_vship (v : VT) (x : Int32) : vship (nDig v x) = vship v := by unfold nDig; split <;> first | rfl | (split <;> rfl)
theorem u_Dig_vR (v : VT) (x : Int32) : vR (nDig v x) = vR v := by unfold nDig; split <;> first | rfl | (split <;> rfl)
theorem u_Dig_vS (v : VT) (x : Int32) : vS (nDig v x) = vS v := by unfold nDig; split <;> first | rfl | (split <;> rfl)
theorem u_Steep_vsh (v : VT) (c q : Int32) : vsh (nSteep v c q) = vsh v := by unfold nSteep; split <;> first | rfl | (split <;> rfl)
theorem u_Steep_vco (v : VT) (c q : Int32) : vco (nSteep v c q) = vco v := by unfold nSteep; split <;> first | rfl | (split <;> rfl)
theorem u_Steep_vfl (v : VT) (c q : Int32) : vfl (nSteep v c q) = vfl v := by unfold nSteep; split <;> first | rfl | (split <;> rfl)
theorem u_Steep_vnC (v : VT) (c q : Int32) : vnC (nSteep v c q) = vnC v := by unfold nSteep; split <;> first | rfl | (split <;> rfl)
theorem u_Steep_vpw (v : VT) (c q : Int32) : vpw (nSteep v c q) = vpw v := by unfold nSteep; split <;> first | rfl | (split <;> rfl)
theorem u_Steep_vpb (v : VT) (c q : Int32) : vpb (nSteep v c q) = vpb v := by unfold nSteep; split <;> first | rfl | (split <;> rfl)
theorem u_Steep_vnP (v : VT) (c q : Int32) : vnP (nSteep v c q) = vnP v := by unfold nSteep; split <;> first | rfl | (split <;> rfl)
theorem u_Steep_vkw (v : VT) (c q : Int32) : vkw (nSteep v c q) = vkw v := by unfold nSteep; split <;> first | rfl | (split <;> rfl)
theorem u_Steep_vka (v : VT) (c q : Int32) : vka (nSteep v c q) = vka v := by unfold nSteep; split <;> first | rfl | (split <;> rfl)
theorem u_Steep_vkb (v : VT) (c q : Int32) : vkb (nSteep v c q) = vkb v := by unfold nSteep; split <;> first | rfl | (split <;> rfl)
theorem u_Steep_vnK (v : VT) (c q : Int32) : vnK (nSteep v c q) = vnK v := by unfold nSteep; split <;> first | rfl | (split <;> rfl)
theorem u_Steep_vday (v : VT) (c q : Int32) : vday (nSteep v c q) = vday v := by unfold nSteep; split <;> first | rfl | (split <;> rfl)
theorem u_Steep_vcoal (v : VT) (c q : Int32) : vcoal (nSteep v c q) = vcoal v := by unfold nSteep; split <;> first | rfl | (split <;> rfl)
theorem u_Steep_vbar (v : VT) (c q : Int32) : vbar (nSteep v c q) = vbar v := by unfold nSteep; split <;> first | rfl | (split <;> rfl)
theorem u_Steep_vfine (v : VT) (c q : Int32) : vfine (nSteep v c q) = vfine v := by unfold nSteep; split <;> first | rfl | (split <;> rfl)
theorem u_Steep_vcrs (v : VT) (c q : Int32) : vcrs (nSteep v c q) = vcrs v := by unfold nSteep; split <;> first | rfl | (split <;> rfl)
theorem u_Steep_vcoin (v : VT) (c q : Int32) : vcoin (nSteep v c q) = vcoin v := by unfold nSteep; split <;> first | rfl | (split <;> rfl)
theorem u_Steep_vship (v : VT) (c q : Int32) : vship (nSteep v c q) = vship v := by unfold nSteep; split <;> first | rfl | (split <;> rfl)
theorem u_Steep_vR (v : VT) (c q : Int32) : vR (nSteep v c q) = vR v := by unfold nSteep; split <;> first | rfl | (split <;> rfl)
theorem u_Steep_vS (v : VT) (c q : Int32) : vS (nSteep v c q) = vS v := by unfold nSteep; split <;> first | rfl | (split <;> rfl)
theorem u_Pan_vsh (v : VT) : vsh (nPan v ) = vsh v := by unfold nPan; split <;> first | rfl | (split <;> rfl)
theorem u_Pan_vco (v : VT) : vco (nPan v ) = vco v := by unfold nPan; split <;> first | rfl | (split <;> rfl)
theorem u_Pan_vbu (v : VT) : vbu (nPan v ) = vbu v := by unfold nPan; split <;> first | rfl | (split <;> rfl)
theorem u_Pan_vfl (v : VT) : vfl (nPan v ) = vfl v := by unfold nPan; split <;> first | rfl | (split <;> rfl)
theorem u_Pan_vnC (v : VT) : vnC (nPan v ) = vnC v := by unfold nPan; split <;> first | rfl | (split <;> rfl)
theorem u_Pan_vpw (v : VT) : vpw (nPan v ) = vpw v := by unfold nPan; split <;> first | rfl | (split <;> rfl)
theorem u_Pan_vpa (v : VT) : vpa (nPan v ) = vpa v := by unfold nPan; split <;> first | rfl | (split <;> rfl)
theorem u_Pan_vpb (v : VT) : vpb (nPan v ) = vpb v := by unfold nPan; split <;> first | rfl | (split <;> rfl)
theorem u_Pan_vnP (v : VT) : vnP (nPan v ) = vnP v := by unfold nPan; split <;> first | rfl | (split <;> rfl)
theorem u_Pan_vka (v : VT) : vka (nPan v ) = vka v := by unfold nPan; split <;> first | rfl | (split <;> rfl)
theorem u_Pan_vkb (v : VT) : vkb (nPan v ) = vkb v := by unfold nPan; split <;> first | rfl | (split <;> rfl)
theorem u_Pan_vday (v : VT) : vday (nPan v ) = vday v := by unfold nPan; split <;> first | rfl | (split <;> rfl)
theorem u_Pan_vcoal (v : VT) : vcoal (nPan v ) = vcoal v := by unfold nPan; split <;> first | rfl | (split <;> rfl)
theorem u_Pan_vbar (v : VT) : vbar (nPan v ) = vbar v := by unfold nPan; split <;> first | rfl | (split <;> rfl)
theorem u_Pan_vfine (v : VT) : vfine (nPan v ) = vfine v := by unfold nPan; split <;> first | rfl | (split <;> rfl)
theorem u_Pan_vcrs (v : VT) : vcrs (nPan v ) = vcrs v := by unfold nPan; split <;> first | rfl | (split <;> rfl)
theorem u_Pan_vcoin (v : VT) : vcoin (nPan v ) = vcoin v := by unfold nPan; split <;> first | rfl | (split <;> rfl)
theorem u_Pan_vship (v : VT) : vship (nPan v ) = vship v := by unfold nPan; split <;> first | rfl | (split <;> rfl)
theorem u_Pan_vR (v : VT) : vR (nPan v ) = vR v := by unfold nPan; split <;> first | rfl | (split <;> rfl)
theorem u_Pan_vS (v : VT) : vS (nPan v ) = vS v := by unfold nPan; split <;> first | rfl | (split <;> rfl)
theorem u_Draw_vsh (v : VT) (q k w : Int32) : vsh (nDraw v q k w) = vsh v := by unfold nDraw; split <;> first | rfl | (split <;> rfl)
theorem u_Draw_vco (v : VT) (q k w : Int32) : vco (nDraw v q k w) = vco v := by unfold nDraw; split <;> first | rfl | (split <;> rfl)
theorem u_Draw_vbu (v : VT) (q k w : Int32) : vbu (nDraw v q k w) = vbu v := by unfold nDraw; split <;> first | rfl | (split <;> rfl)
theorem u_Draw_vfl (v : VT) (q k w : Int32) : vfl (nDraw v q k w) = vfl v := by unfold nDraw; split <;> first | rfl | (split <;> rfl)
theorem u_Draw_vnC (v : VT) (q k w : Int32) : vnC (nDraw v q k w) = vnC v := by unfold nDraw; split <;> first | rfl | (split <;> rfl)
theorem u_Draw_vpb (v : VT) (q k w : Int32) : vpb (nDraw v q k w) = vpb v := by unfold nDraw; split <;> first | rfl | (split <;> rfl)
theorem u_Draw_vnP (v : VT) (q k w : Int32) : vnP (nDraw v q k w) = vnP v := by unfold nDraw; split <;> first | rfl | (split <;> rfl)
theorem u_Draw_vkb (v : VT) (q k w : Int32) : vkb (nDraw v q k w) = vkb v := by unfold nDraw; split <;> first | rfl | (split <;> rfl)
theorem u_Draw_vnK (v : VT) (q k w : Int32) : vnK (nDraw v q k w) = vnK v := by unfold nDraw; split <;> first | rfl | (split <;> rfl)
theorem u_Draw_vday (v : VT) (q k w : Int32) : vday (nDraw v q k w) = vday v := by unfold nDraw; split <;> first | rfl | (split <;> rfl)
theorem u_Draw_vcoal (v : VT) (q k w : Int32) : vcoal (nDraw v q k w) = vcoal v := by unfold nDraw; split <;> first | rfl | (split <;> rfl)
theorem u_Draw_vbar (v : VT) (q k w : Int32) : vbar (nDraw v q k w) = vbar v := by unfold nDraw; split <;> first | rfl | (split <;> rfl)
theorem u_Draw_vfine (v : VT) (q k w : Int32) : vfine (nDraw v q k w) = vfine v := by unfold nDraw; split <;> first | rfl | (split <;> rfl)
theorem u_Draw_vcrs (v : VT) (q k w : Int32) : vcrs (nDraw v q k w) = vcrs v := by unfold nDraw; split <;> first | rfl | (split <;> rfl)
theorem u_Draw_vcoin (v : VT) (q k w : Int32) : vcoin (nDraw v q k w) = vcoin v := by unfold nDraw; split <;> first | rfl | (split <;> rfl)
theorem u_Draw_vship (v : VT) (q k w : Int32) : vship (nDraw v q k w) = vship v := by unfold nDraw; split <;> first | rfl | (split <;> rfl)
theorem u_Draw_vR (v : VT) (q k w : Int32) : vR (nDraw v q k w) = vR v := by unfold nDraw; split <;> first | rfl | (split <;> rfl)
theorem u_Draw_vS (v : VT) (q k w : Int32) : vS (nDraw v q k w) = vS v := by unfold nDraw; split <;> first | rfl | (split <;> rfl)
theorem u_Boil_vsh (v : VT) (k : Int32) : vsh (nBoil v k) = vsh v := by unfold nBoil; split <;> first | rfl | (split <;> rfl)
theorem u_Boil_vco (v : VT) (k : Int32) : vco (nBoil v k) = vco v := by unfold nBoil; split <;> first | rfl | (split <;> rfl)
theorem u_Boil_vbu (v : VT) (k : Int32) : vbu (nBoil v k) = vbu v := by unfold nBoil; split <;> first | rfl | (split <;> rfl)
theorem u_Boil_vfl (v : VT) (k : Int32) : vfl (nBoil v k) = vfl v := by unfold nBoil; split <;> first | rfl | (split <;> rfl)
theorem u_Boil_vnC (v : VT) (k : Int32) : vnC (nBoil v k) = vnC v := by unfold nBoil; split <;> first | rfl | (split <;> rfl)
theorem u_Boil_vpw (v : VT) (k : Int32) : vpw (nBoil v k) = vpw v := by unfold nBoil; split <;> first | rfl | (split <;> rfl)
theorem u_Boil_vpa (v : VT) (k : Int32) : vpa (nBoil v k) = vpa v := by unfold nBoil; split <;> first | rfl | (split <;> rfl)
theorem u_Boil_vpb (v : VT) (k : Int32) : vpb (nBoil v k) = vpb v := by unfold nBoil; split <;> first | rfl | (split <;> rfl)
theorem u_Boil_vnP (v : VT) (k : Int32) : vnP (nBoil v k) = vnP v := by unfold nBoil; split <;> first | rfl | (split <;> rfl)
theorem u_Boil_vkw (v : VT) (k : Int32) : vkw (nBoil v k) = vkw v := by unfold nBoil; split <;> first | rfl | (split <;> rfl)
theorem u_Boil_vka (v : VT) (k : Int32) : vka (nBoil v k) = vka v := by unfold nBoil; split <;> first | rfl | (split <;> rfl)
theorem u_Boil_vnK (v : VT) (k : Int32) : vnK (nBoil v k) = vnK v := by unfold nBoil; split <;> first | rfl | (split <;> rfl)
theorem u_Boil_vday (v : VT) (k : Int32) : vday (nBoil v k) = vday v := by unfold nBoil; split <;> first | rfl | (split <;> rfl)
theorem u_Boil_vcoal (v : VT) (k : Int32) : vcoal (nBoil v k) = vcoal v := by unfold nBoil; split <;> first | rfl | (split <;> rfl)
theorem u_Boil_vbar (v : VT) (k : Int32) : vbar (nBoil v k) = vbar v := by unfold nBoil; split <;> first | rfl | (split <;> rfl)
theorem u_Boil_vfine (v : VT) (k : Int32) : vfine (nBoil v k) = vfine v := by unfold nBoil; split <;> first | rfl | (split <;> rfl)
theorem u_Boil_vcrs (v : VT) (k : Int32) : vcrs (nBoil v k) = vcrs v := by unfold nBoil; split <;> first | rfl | (split <;> rfl)
theorem u_Boil_vcoin (v : VT) (k : Int32) : vcoin (nBoil v k) = vcoin v := by unfold nBoil; split <;> first | rfl | (split <;> rfl)
theorem u_Boil_vship (v : VT) (k : Int32) : vship (nBoil v k) = vship v := by unfold nBoil; split <;> first | rfl | (split <;> rfl)
theorem u_Boil_vR (v : VT) (k : Int32) : vR (nBoil v k) = vR v := by unfold nBoil; split <;> first | rfl | (split <;> rfl)
theorem u_Boil_vS (v : VT) (k : Int32) : vS (nBoil v k) = vS v := by unfold nBoil; split <;> first | rfl | (split <;> rfl)
theorem u_Pour_vsh (v : VT) (k b : Int32) : vsh (nPour v k b) = vsh v := by unfold nPour; split <;> first | rfl | (split <;> rfl)
theorem u_Pour_vco (v : VT) (k b : Int32) : vco (nPour v k b) = vco v := by unfold nPour; split <;> first | rfl | (split <;> rfl)
theorem u_Pour_vbu (v : VT) (k b : Int32) : vbu (nPour v k b) = vbu v := by unfold nPour; split <;> first | rfl | (split <;> rfl)
theorem u_Pour_vfl (v : VT) (k b : Int32) : vfl (nPour v k b) = vfl v := by unfold nPour; split <;> first | rfl | (split <;> rfl)
theorem u_Pour_vnC (v : VT) (k b : Int32) : vnC (nPour v k b) = vnC v := by unfold nPour; split <;> first | rfl | (split <;> rfl)
theorem u_Pour_vpw (v : VT) (k b : Int32) : vpw (nPour v k b) = vpw v := by unfold nPour; split <;> first | rfl | (split <;> rfl)
theorem u_Pour_vpa (v : VT) (k b : Int32) : vpa (nPour v k b) = vpa v := by unfold nPour; split <;> first | rfl | (split <;> rfl)
theorem u_Pour_vpb (v : VT) (k b : Int32) : vpb (nPour v k b) = vpb v := by unfold nPour; split <;> first | rfl | (split <;> rfl)
theorem u_Pour_vnP (v : VT) (k b : Int32) : vnP (nPour v k b) = vnP v := by unfold nPour; split <;> first | rfl | (split <;> rfl)
theorem u_Pour_vnK (v : VT) (k b : Int32) : vnK (nPour v k b) = vnK v := by unfold nPour; split <;> first | rfl | (split <;> rfl)
theorem u_Pour_vday (v : VT) (k b : Int32) : vday (nPour v k b) = vday v := by unfold nPour; split <;> first | rfl | (split <;> rfl)
theorem u_Pour_vcoal (v : VT) (k b : Int32) : vcoal (nPour v k b) = vcoal v := by unfold nPour; split <;> first | rfl | (split <;> rfl)
theorem u_Pour_vcoin (v : VT) (k b : Int32) : vcoin (nPour v k b) = vcoin v := by unfold nPour; split <;> first | rfl | (split <;> rfl)
theorem u_Pour_vship (v : VT) (k b : Int32) : vship (nPour v k b) = vship v := by unfold nPour; split <;> first | rfl | (split <;> rfl)
theorem u_Pour_vR (v : VT) (k b : Int32) : vR (nPour v k b) = vR v := by unfold nPour; split <;> first | rfl | (split <;> rfl)
theorem u_Pour_vS (v : VT) (k b : Int32) : vS (nPour v k b) = vS v := by unfold nPour; split <;> first | rfl | (split <;> rfl)
