/-! numbers, and the works' invariant -/
theorem upd_self (f : Nat → Int32) (k : Nat) {x : Int32} (h : x = f k) : upd f k x = f := funext fun j => by
  unfold upd; by_cases hj : j = k <;> simp [hj, h]
/-- n - 1 as the last of the places -/
theorem le_pred {x : Int32} {n : Nat} (hn : n < 1000) : x ≤ nI n - 1 ↔ x < nI n := by
  rw [Int32.le_iff_toInt_le, Int32.lt_iff_toInt_lt]
  have h1 : (nI n - nI 1).toInt = (n : Int) - 1 := pk_sub_toInt (by omega) (by omega)
  have h2 : (nI n).toInt = (n : Int) := nI_toInt (by omega)
  have h3 : nI n - 1 = nI n - nI 1 := rfl
  rw [h3, h1, h2]
  omega
theorem mn_comm (x y : Int32) : mn x y = mn y x := by
  unfold mn
  by_cases h1 : y < x
  · have h2 : ¬ x < y := fun q => Int32.lt_irrefl (Int32.lt_trans h1 q)
    rw [if_pos h1, if_neg h2]
  · by_cases h2 : x < y
    · rw [if_neg h1, if_pos h2]
    · rw [if_neg h1, if_neg h2]
      exact Int32.le_antisymm (Int32.not_lt.mp h1) (Int32.not_lt.mp h2)
theorem or01 {x : Int32} (h : 0 ≤ x ∧ x ≤ 1) : x = 0 ∨ x = 1 := by
  obtain ⟨j, hj, rfl⟩ := inP (n := 1) (by decide) h
  rcases (show j = 0 ∨ j = 1 by omega) with rfl | rfl
  · exact Or.inl rfl
  · exact Or.inr rfl
theorem one_tog {x : Int32} (h : x = 0 ∨ x = 1) : 1 - x = tog x := by rcases h with rfl | rfl <;> decide
theorem tog_01 (x : Int32) : tog x = 0 ∨ tog x = 1 := by unfold tog; by_cases h : x = 0 <;> simp [h]
theorem b01_of {x : Int32} (h : x = 0 ∨ x = 1) : b01 x = x := by rcases h with rfl | rfl <;> decide
theorem ne0_1 {x : Int32} (h : x = 1) : ¬ x = 0 := by rw [h]; decide
theorem eq0_n1 {x : Int32} (h : x = 0 ∨ x = 1) (h1 : ¬ x = 1) : x = 0 := h.resolve_right h1
theorem zero_le0 {x : Int32} (h : x = 0) : x ≤ 0 := h ▸ Int32.le_refl _
theorem ne_le0 {x : Int32} (h : ¬ x = 0) (h0 : 0 ≤ x) : ¬ x ≤ 0 := fun q => h (Int32.le_antisymm q h0)
def tld (w a x : Int32) : Int32 := if x = 0 then w else if x = 1 then a else if x = 2 then strg w a else eggB (strg w a)
/-- the numbers of the works: what the reference's other words need -/
def toI (f : Nat → Int32) (j : Nat) : Int := (f j).toInt
def alm (v : VT) : Int := toI (vpa v) 0 + toI (vpa v) 1 + toI (vpa v) 2 + toI (vpa v) 3 + toI (vka v) 0 + toI (vka v) 1 + toI (vka v) 2
def NN (v : VT) : Prop := (∀ j, 0 ≤ toI (vsh v) j ∧ 0 ≤ toI (vbu v) j ∧ toI (vsh v) j + toI (vbu v) j ≤ 200) ∧ (∀ j, 0 ≤ toI (vpw v) j ∧ toI (vpw v) j ≤ 400 ∧ 0 ≤ toI (vpa v) j) ∧ (∀ j, 0 ≤ toI (vkw v) j ∧ toI (vkw v) j ≤ 150 ∧ 0 ≤ toI (vka v) j) ∧ alm v ≤ 60000 ∧ (∀ j, 0 ≤ toI (vR v) j ∧ toI (vR v) j ≤ 9)
theorem tIa {x y : Int32} (h1 : -2147483648 ≤ x.toInt + y.toInt) (h2 : x.toInt + y.toInt ≤ 2147483647) : (x + y).toInt = x.toInt + y.toInt := by
  rw [Int32.toInt_add]
  exact Int.bmod_eq_of_le (by omega) (by omega)
theorem tIs {x y : Int32} (h1 : -2147483648 ≤ x.toInt - y.toInt) (h2 : x.toInt - y.toInt ≤ 2147483647) : (x - y).toInt = x.toInt - y.toInt := by
  rw [Int32.toInt_sub]
  exact Int.bmod_eq_of_le (by omega) (by omega)
theorem z_le {x : Int32} : 0 ≤ x ↔ 0 ≤ x.toInt := by
  rw [Int32.le_iff_toInt_le]
  exact Iff.rfl
theorem ge0_add {x y : Int32} (hx : 0 ≤ x.toInt) (hy : 0 ≤ y.toInt) (h : x.toInt + y.toInt ≤ 2147483647) : 0 ≤ x + y := by
  rw [z_le, tIa (by omega) h]
  omega
theorem NN.ka {v : VT} (h : NN v) {k : Nat} (hk : k < 3) : 0 ≤ toI (vkw v) k ∧ toI (vkw v) k ≤ 150 ∧ 0 ≤ toI (vka v) k ∧ toI (vka v) k ≤ 60000 := by
  obtain ⟨h1, h2, h3, h4, h5⟩ := h
  have p0 := h2 0
  have p1 := h2 1
  have p2 := h2 2
  have p3 := h2 3
  have k0 := h3 0
  have k1 := h3 1
  have k2 := h3 2
  unfold alm at h4
  have hk' : k = 0 ∨ k = 1 ∨ k = 2 := by omega
  rcases hk' with rfl | rfl | rfl <;> omega
theorem NN.pa {v : VT} (h : NN v) {k : Nat} (hk : k < 4) : 0 ≤ toI (vpw v) k ∧ toI (vpw v) k ≤ 400 ∧ 0 ≤ toI (vpa v) k ∧ toI (vpa v) k ≤ 60000 := by
  obtain ⟨h1, h2, h3, h4, h5⟩ := h
  have p0 := h2 0
  have p1 := h2 1
  have p2 := h2 2
  have p3 := h2 3
  have k0 := h3 0
  have k1 := h3 1
  have k2 := h3 2
  unfold alm at h4
  have hk' : k = 0 ∨ k = 1 ∨ k = 2 ∨ k = 3 := by omega
  rcases hk' with rfl | rfl | rfl | rfl <;> omega
theorem NN.k0 {v : VT} (h : NN v) {k : Nat} (hk : k < 3) : 0 ≤ vkw v k + vka v k := by
  have q := h.ka hk
  unfold toI at q
  exact ge0_add (by omega) (by omega) (by omega)
theorem NN.p0 {v : VT} (h : NN v) {k : Nat} (hk : k < 4) : 0 ≤ vpw v k + vpa v k := by
  have q := h.pa hk
  unfold toI at q
  exact ge0_add (by omega) (by omega) (by omega)
theorem eq4_le {n : Nat} (hn : n < 1000) {m : Nat} (hm : m < 1000) (h : nI n = nI m) : m ≤ n := by
  have := (nI_eq (a := n) (b := m) (by omega) (by omega)).mp h
  omega
theorem ne4_lt {n m : Nat} (hm : n ≤ m) (h : ¬ nI n = nI m) : ¬ m ≤ n := fun q => h (by rw [Nat.le_antisymm hm q])
theorem tog_n1 {x : Int32} (h : ¬ tog x = 1) : tog x = 0 := (tog_01 x).resolve_right h
theorem in03 {x : Int32} (h : 0 ≤ x ∧ x ≤ 3) : x = 0 ∨ x = 1 ∨ x = 2 ∨ x = 3 := by
  obtain ⟨j, hj, rfl⟩ := inP (n := 3) (by decide) h
  rcases (show j = 0 ∨ j = 1 ∨ j = 2 ∨ j = 3 by omega) with rfl | rfl | rfl | rfl <;> decide
theorem in04 {x : Int32} (h : 0 ≤ x ∧ x ≤ 4) : x = 0 ∨ x = 1 ∨ x = 2 ∨ x = 3 ∨ x = 4 := by
  obtain ⟨j, hj, rfl⟩ := inP (n := 4) (by decide) h
  rcases (show j = 0 ∨ j = 1 ∨ j = 2 ∨ j = 3 ∨ j = 4 by omega) with rfl | rfl | rfl | rfl | rfl <;> decide
theorem in09 {x : Int32} (h : 0 ≤ x ∧ x ≤ 9) : x = 0 ∨ x = 1 ∨ x = 2 ∨ x = 3 ∨ x = 4 ∨ x = 5 ∨ x = 6 ∨ x = 7 ∨ x = 8 ∨ x = 9 := by
  obtain ⟨j, hj, rfl⟩ := inP (n := 9) (by decide) h
  rcases (show j = 0 ∨ j = 1 ∨ j = 2 ∨ j = 3 ∨ j = 4 ∨ j = 5 ∨ j = 6 ∨ j = 7 ∨ j = 8 ∨ j = 9 by omega) with rfl | rfl | rfl | rfl | rfl | rfl | rfl | rfl | rfl | rfl <;> decide
theorem mn_T (x y : Int32) : (mn x y).toInt = min x.toInt y.toInt := by
  unfold mn
  by_cases h : y < x
  · rw [if_pos h]
    have := Int32.lt_iff_toInt_lt.mp h
    omega
  · rw [if_neg h]
    have := Int32.le_iff_toInt_le.mp (Int32.not_lt.mp h)
    omega
theorem mx_T (x y : Int32) : (mx x y).toInt = max x.toInt y.toInt := by
  unfold mx
  by_cases h : x < y
  · rw [if_pos h]
    have := Int32.lt_iff_toInt_lt.mp h
    omega
  · rw [if_neg h]
    have := Int32.le_iff_toInt_le.mp (Int32.not_lt.mp h)
    omega
theorem mx0_ge (x : Int32) : 0 ≤ mx 0 x := by
  rw [z_le, mx_T]
  have : (0 : Int32).toInt = 0 := by decide
  omega
theorem bPart_T (r : Int32) {s : Int32} (h : 0 ≤ s.toInt) : 0 ≤ (bPart r s).toInt ∧ (bPart r s).toInt ≤ s.toInt := by
  have h8 : (8 : Int32).toInt = 8 := by decide
  have h4 : (4 : Int32).toInt = 4 := by decide
  unfold bPart bDaily
  rw [mn_T]
  by_cases hr : r < 5
  · rw [if_pos hr, h8]; omega
  · rw [if_neg hr, h4]; omega
theorem part_ge (r : Int32) {s : Int32} (h : 0 ≤ s) : 0 ≤ s - bPart r s := by
  have hs := z_le.mp h
  have b := bPart_T r hs
  have h1 := s.toInt_lt
  rw [z_le, tIs (by omega) (by omega)]
  omega
theorem wth_id {w r : Int32} (h0 : 0 ≤ w.toInt) (h1 : w.toInt ≤ 400) (h2 : 0 ≤ r.toInt) (h3 : r.toInt ≤ 9) : mx 0 (mn 400 (w + r) - 0) = mn 400 (w + r) := by
  have e4 : (400 : Int32).toInt = 400 := by decide
  have e0 : (0 : Int32).toInt = 0 := by decide
  have a : (w + r).toInt = w.toInt + r.toInt := tIa (by omega) (by omega)
  have b := mn_T 400 (w + r)
  rw [a, e4] at b
  apply Int32.toInt_inj.mp
  rw [mx_T, tIs (by omega) (by omega), e0]
  omega
theorem wth_T {w r : Int32} (h0 : 0 ≤ w.toInt) (h1 : w.toInt ≤ 400) (h2 : 0 ≤ r.toInt) (h3 : r.toInt ≤ 9) : 0 ≤ (wth r w).toInt ∧ (wth r w).toInt ≤ 400 := by
  have e4 : (400 : Int32).toInt = 400 := by decide
  have e3 : (3 : Int32).toInt = 3 := by decide
  have e0 : (0 : Int32).toInt = 0 := by decide
  have a : (w + r).toInt = w.toInt + r.toInt := tIa (by omega) (by omega)
  have b := mn_T 400 (w + r)
  rw [a, e4] at b
  unfold wth
  by_cases q : w ≤ 0
  · rw [if_pos q]; omega
  · rw [if_neg q]
    by_cases q2 : r = 0
    · rw [if_pos q2, mx_T, tIs (by omega) (by omega), e0, e3]
      omega
    · rw [if_neg q2]; omega
theorem boil_T {w : Int32} (h0 : 0 ≤ w.toInt) (h1 : w.toInt ≤ 150) : 0 ≤ (mx 0 (w - 12)).toInt ∧ (mx 0 (w - 12)).toInt ≤ 150 := by
  have e : (12 : Int32).toInt = 12 := by decide
  have e0 : (0 : Int32).toInt = 0 := by decide
  rw [mx_T, tIs (by omega) (by omega), e, e0]
  omega
theorem NN_day {v : VT} (h : NN v) : NN (dayV v) := by
  obtain ⟨h1, h2, h3, h4, h5⟩ := h
  refine ⟨fun j => ?_, fun j => ?_, fun j => ?_, h4, h5⟩
  · show 0 ≤ (rowF (vnC v) (fSh (vR v (vday v % 6)) (vsh v) (vfl v)) (vsh v) j).toInt ∧ 0 ≤ (rowF (vnC v) (fBu (vR v (vday v % 6)) (vsh v) (vbu v) (vfl v)) (vbu v) j).toInt ∧ (rowF (vnC v) (fSh (vR v (vday v % 6)) (vsh v) (vfl v)) (vsh v) j).toInt + (rowF (vnC v) (fBu (vR v (vday v % 6)) (vsh v) (vbu v) (vfl v)) (vbu v) j).toInt ≤ 200
    generalize vR v (vday v % 6) = r
    have q := h1 j
    unfold toI at q
    unfold rowF
    by_cases hj : j < vnC v
    · simp only [hj, if_true, fSh, fBu]
      by_cases hf : vfl v j = 0
      · simp only [hf, if_true]; exact q
      · simp only [hf, if_false]
        have b := bPart_T r (s := vsh v j) q.1
        rw [tIs (by omega) (by omega), tIa (by omega) (by omega)]
        omega
    · simp only [hj, if_false]; exact q
  · show 0 ≤ (rowF (vnP v) (fun j => wth (vR v (vday v % 6)) (vpw v j)) (vpw v) j).toInt ∧ (rowF (vnP v) (fun j => wth (vR v (vday v % 6)) (vpw v j)) (vpw v) j).toInt ≤ 400 ∧ 0 ≤ toI (vpa v) j
    have q := h2 j
    have q5 := h5 (vday v % 6)
    unfold toI at q q5 ⊢
    unfold rowF
    by_cases hj : j < vnP v
    · simp only [hj, if_true]
      have z := wth_T q.1 q.2.1 q5.1 q5.2
      omega
    · simp only [hj, if_false]; exact q
  · show 0 ≤ (rowF (vnK v) (fKw (vkw v) (vkb v) (cN (vkw v) (vkb v) (vcoal v))) (vkw v) j).toInt ∧ (rowF (vnK v) (fKw (vkw v) (vkb v) (cN (vkw v) (vkb v) (vcoal v))) (vkw v) j).toInt ≤ 150 ∧ 0 ≤ toI (vka v) j
    have q := h3 j
    unfold toI at q ⊢
    unfold rowF
    by_cases hj : j < vnK v
    · simp only [hj, if_true, fKw]
      have z := boil_T q.1 q.2.1
      by_cases a1 : vkb v j = 0
      · simp only [a1, if_true]; exact q
      · by_cases a2 : cN (vkw v) (vkb v) (vcoal v) j < 4
        · simp only [a1, a2, if_true, if_false]; exact q
        · by_cases a3 : vkw v j = 0
          · simp only [a1, a2, if_false]
            rw [if_pos a3]; exact q
          · simp only [a1, a2, if_false]
            rw [if_neg a3]; omega
    · simp only [hj, if_false]; exact q
theorem NN_dIt {v : VT} (h : NN v) (n : Nat) : NN (dIt n v) := by
  induction n with
  | zero => exact h
  | succ n ih => exact NN_day ih
theorem fl_day {v : VT} (h : ∀ j, vfl v j = 0 ∨ vfl v j = 1) (j : Nat) : vfl (dayV v) j = 0 ∨ vfl (dayV v) j = 1 := by
  show rowF (vnC v) (fFl (vR v (vday v % 6)) (vsh v) (vco v) (vfl v)) (vfl v) j = 0 ∨ rowF (vnC v) (fFl (vR v (vday v % 6)) (vsh v) (vco v) (vfl v)) (vfl v) j = 1
  generalize vR v (vday v % 6) = r
  unfold rowF
  by_cases hj : j < vnC v
  · simp only [hj, if_true, fFl]
    by_cases hf : vfl v j = 0
    · rw [if_pos hf]; exact h j
    · rw [if_neg hf]
      unfold bFl
      by_cases q1 : mx 0 (vco v j - 2) ≤ 0
      · rw [if_pos q1]; exact Or.inl rfl
      · rw [if_neg q1]
        by_cases q2 : vsh v j - bPart r (vsh v j) ≤ 0
        · rw [if_pos q2]; exact Or.inl rfl
        · rw [if_neg q2]; exact Or.inr rfl
  · simp only [hj, if_false]; exact h j
theorem fl_dIt {v : VT} (h : ∀ j, vfl v j = 0 ∨ vfl v j = 1) (n : Nat) : ∀ j, vfl (dIt n v) j = 0 ∨ vfl (dIt n v) j = 1 := by
  induction n with
  | zero => exact h
  | succ n ih => exact fl_day ih
theorem kb_day {v : VT} (h : ∀ j, vkb v j = 0 ∨ vkb v j = 1) (j : Nat) : vkb (dayV v) j = 0 ∨ vkb (dayV v) j = 1 := by
  show rowF (vnK v) (fKb (vkw v) (vkb v) (cN (vkw v) (vkb v) (vcoal v))) (vkb v) j = 0 ∨ rowF (vnK v) (fKb (vkw v) (vkb v) (cN (vkw v) (vkb v) (vcoal v))) (vkb v) j = 1
  unfold rowF
  by_cases hj : j < vnK v
  · simp only [hj, if_true, fKb]
    by_cases a1 : vkb v j = 0
    · rw [if_pos a1]; exact h j
    · rw [if_neg a1]
      by_cases a2 : cN (vkw v) (vkb v) (vcoal v) j < 4
      · rw [if_pos a2]; exact Or.inl rfl
      · rw [if_neg a2]
        by_cases a3 : vkw v j = 0
        · rw [if_pos a3]; exact Or.inl rfl
        · rw [if_neg a3]; exact h j
  · simp only [hj, if_false]; exact h j
theorem kb_dIt {v : VT} (h : ∀ j, vkb v j = 0 ∨ vkb v j = 1) (n : Nat) : ∀ j, vkb (dIt n v) j = 0 ∨ vkb (dIt n v) j = 1 := by
  induction n with
  | zero => exact h
  | succ n ih => exact kb_day ih
theorem pb_dIt (v : VT) (n : Nat) : vpb (dIt n v) = vpb v := by
  induction n with
  | zero => rfl
  | succ n ih => exact (show vpb (dayV (dIt n v)) = vpb (dIt n v) from rfl).trans ih
theorem IS_dIt {v : VT} (h : IS v) {n : Nat} (hn : vday v + n ≤ 1000000) : IS (dIt n v) := by
  obtain ⟨h1, h2, h3, h4, h5, h6, h7, h8⟩ := h
  have z := AH_dIt h4 n
  refine ⟨by rw [vnC_dIt]; exact h1, by rw [vnP_dIt]; exact h2, by rw [vnK_dIt]; exact h3, ⟨?_, ?_, ?_⟩, fl_dIt h5 n, by rw [pb_dIt]; exact h6, kb_dIt h7 n, by rw [vday_dIt]; exact hn⟩
  · rw [vnC_dIt]; exact z.1
  · rw [vnP_dIt]; exact z.2.1
  · rw [vnK_dIt]; exact z.2.2
def IV (k : Nat) (v : VT) : Prop := IS v ∧ NN v ∧ vday v ≤ 60 * k ∧ alm v ≤ 100 * k
theorem IV_mk {k : Nat} {sh co bu fl pw pa pb kw ka kb R S : Nat → Int32} {nC nP nK day : Nat} {coal bar fine crs coin ship : Int32} (h1 : nC ≤ 4) (h2 : nP ≤ 4) (h3 : nK ≤ 3)
    (hAC : ∀ j, nC ≤ j → sh j = 0 ∧ co j = 0 ∧ bu j = 0 ∧ fl j = 0) (hAP : ∀ j, nP ≤ j → pw j = 0 ∧ pa j = 0 ∧ pb j = 0) (hAK : ∀ j, nK ≤ j → kw j = 0 ∧ ka j = 0 ∧ kb j = 0)
    (hf1 : ∀ j, fl j = 0 ∨ fl j = 1) (hf2 : ∀ j, pb j = 0 ∨ pb j = 1) (hf3 : ∀ j, kb j = 0 ∨ kb j = 1)
    (hC : ∀ j, 0 ≤ toI sh j ∧ 0 ≤ toI bu j ∧ toI sh j + toI bu j ≤ 200) (hP : ∀ j, 0 ≤ toI pw j ∧ toI pw j ≤ 400 ∧ 0 ≤ toI pa j) (hK : ∀ j, 0 ≤ toI kw j ∧ toI kw j ≤ 150 ∧ 0 ≤ toI ka j)
    (ha : toI pa 0 + toI pa 1 + toI pa 2 + toI pa 3 + toI ka 0 + toI ka 1 + toI ka 2 ≤ 100 * k) (hk : k ≤ 512) (hR : ∀ j, 0 ≤ toI R j ∧ toI R j ≤ 9) (hd : day ≤ 60 * k) : IV k (mkV sh co bu fl nC pw pa pb nP kw ka kb nK day coal bar fine crs coin ship R S) :=
  ⟨⟨h1, h2, h3, ⟨hAC, hAP, hAK⟩, hf1, hf2, hf3, by show day ≤ 1000000; omega⟩, ⟨hC, hP, hK, by show toI pa 0 + toI pa 1 + toI pa 2 + toI pa 3 + toI ka 0 + toI ka 1 + toI ka 2 ≤ 60000; omega, hR⟩, hd, ha⟩
theorem IV_0 : IV 0 V0 := by
  have z : toI (fun _ => (0 : Int32)) = fun _ => 0 := funext fun _ => (by decide : (0 : Int32).toInt = 0)
  refine IV_mk (by decide) (by decide) (by decide) (fun _ _ => ⟨rfl, rfl, rfl, rfl⟩) (fun _ _ => ⟨rfl, rfl, rfl⟩) (fun _ _ => ⟨rfl, rfl, rfl⟩) (fun _ => Or.inl rfl) (fun _ => Or.inl rfl) (fun _ => Or.inl rfl) (fun _ => ?_) (fun _ => ?_) (fun _ => ?_) ?_ (by decide) (fun _ => ?_) (by decide) <;> (rw [z]; simp)
theorem upd_all {P : Nat → Int32 → Prop} {f : Nat → Int32} {i : Nat} {x : Int32} (hx : P i x) (hf : ∀ j, P j (f j)) (j : Nat) : P j (upd f i x j) := by
  by_cases h : j = i
  · subst h; rw [pk_us]; exact hx
  · rw [pk_un h]; exact hf j
theorem upd_ge {f : Nat → Int32} {i n : Nat} {x : Int32} (hi : i < n) {j : Nat} (hj : n ≤ j) : upd f i x j = f j := pk_un (by omega)
theorem s4_upd (f : Nat → Int32) {q : Nat} (hq : q < 4) (z : Int32) : toI (upd f q z) 0 + toI (upd f q z) 1 + toI (upd f q z) 2 + toI (upd f q z) 3 = toI f 0 + toI f 1 + toI f 2 + toI f 3 - toI f q + z.toInt := by
  rcases (show q = 0 ∨ q = 1 ∨ q = 2 ∨ q = 3 by omega) with rfl | rfl | rfl | rfl <;> simp only [toI, upd] <;> simp <;> omega
theorem s3_upd (f : Nat → Int32) {q : Nat} (hq : q < 3) (z : Int32) : toI (upd f q z) 0 + toI (upd f q z) 1 + toI (upd f q z) 2 = toI f 0 + toI f 1 + toI f 2 - toI f q + z.toInt := by
  rcases (show q = 0 ∨ q = 1 ∨ q = 2 by omega) with rfl | rfl | rfl <;> simp only [toI, upd] <;> simp <;> omega
theorem AH_le {v u g : VT} (h : AH v g) (hC : vnC v ≤ vnC u) (hP : vnP v ≤ vnP u) (hK : vnK v ≤ vnK u) : AH u g := ⟨fun j hj => h.1 j (Nat.le_trans hC hj), fun j hj => h.2.1 j (Nat.le_trans hP hj), fun j hj => h.2.2 j (Nat.le_trans hK hj)⟩
theorem IV_up {k : Nat} {v : VT} (h : IV k v) : IV (k + 1) v := ⟨h.1, h.2.1, by have := h.2.2.1; omega, by have := h.2.2.2; omega⟩
theorem le_t {a b : Int32} {n : Int} (hb : b.toInt = n) (h : a ≤ b) : a.toInt ≤ n := hb ▸ Int32.le_iff_toInt_le.mp h
theorem ge_t {a b : Int32} {n : Int} (hb : b.toInt = n) (h : b ≤ a) : n ≤ a.toInt := hb ▸ Int32.le_iff_toInt_le.mp h
theorem ix_lt {x : Int32} {n : Nat} (hn : n < 1000) (h : 0 ≤ x ∧ x < nI n) : ix x < n := by
  have h0 : 0 ≤ x.toInt := z_le.mp h.1
  have h1 := Int32.lt_iff_toInt_lt.mp h.2
  rw [nI_toInt (by omega)] at h1
  unfold ix Int32.toNatClampNeg
  omega
theorem IV_core {k : Nat} (hk : k < 512) {v u : VT} (h : IV k v) (e1 : vsh u = vsh v) (e2 : vco u = vco v) (e3 : vbu u = vbu v) (e4 : vfl u = vfl v) (e5 : vnC u = vnC v) (e6 : vpw u = vpw v) (e7 : vpa u = vpa v) (e8 : vpb u = vpb v) (e9 : vnP u = vnP v) (e10 : vkw u = vkw v) (e11 : vka u = vka v) (e12 : vkb u = vkb v) (e13 : vnK u = vnK v) (e14 : vday u = vday v) (e15 : vR u = vR v) : IV (k + 1) u := by
  have h := IV_up h
  unfold IV IS NN AH alm at h ⊢
  rw [e1, e2, e3, e4, e5, e6, e7, e8, e9, e10, e11, e12, e13, e14, e15]
  exact h
theorem IV_Bring {k : Nat} (hk : k < 512) {v : VT} (h : IV k v) (x m : Int32) : IV (k + 1) (nBring v x m) := by
  unfold nBring
  split
  · split <;> exact IV_core hk h rfl rfl rfl rfl rfl rfl rfl rfl rfl rfl rfl rfl rfl rfl rfl
  · exact IV_up h
theorem IV_Ship {k : Nat} (hk : k < 512) {v : VT} (h : IV k v) (d r : Int32) : IV (k + 1) (nShip v d r) := by
  unfold nShip
  split
  · exact IV_core hk h rfl rfl rfl rfl rfl rfl rfl rfl rfl rfl rfl rfl rfl rfl rfl
  · exact IV_up h
theorem IV_Rain {k : Nat} (hk : k < 512) {v : VT} (h : IV k v) (d r : Int32) : IV (k + 1) (nRain v d r) := by
  by_cases c : kRain v d r = 0
  · rw [show nRain v d r = _ from if_pos c]
    obtain ⟨⟨h1, h2, h3, ⟨h4, h5, h6⟩, h7, h8, h9, h10⟩, ⟨q1, q2, q3, q4, q5⟩, q6, q7⟩ := IV_up h
    unfold alm at q7
    unfold kRain at c
    by_cases c1 : 0 ≤ d ∧ d ≤ 5
    · rw [if_pos c1] at c
      by_cases c2 : 0 ≤ r ∧ r ≤ 9
      · refine IV_mk h1 h2 h3 h4 h5 h6 h7 h8 h9 q1 q2 q3 q7 (by omega) (upd_all (P := fun _ z => 0 ≤ z.toInt ∧ z.toInt ≤ 9) ⟨z_le.mp c2.1, le_t (by decide) c2.2⟩ q5) q6
      · rw [if_neg c2] at c; exact absurd c (by decide)
    · rw [if_neg c1] at c; exact absurd c (by decide)
  · rw [show nRain v d r = v from if_neg c]; exact IV_up h
theorem IV_Pile {k : Nat} (hk : k < 512) {v : VT} (h : IV k v) (x : Int32) : IV (k + 1) (nPile v x) := by
  by_cases c : kPile v x = 0
  · rw [show nPile v x = _ from if_pos c]
    obtain ⟨⟨h1, h2, h3, ⟨h4, h5, h6⟩, h7, h8, h9, h10⟩, ⟨q1, q2, q3, q4, q5⟩, q6, q7⟩ := IV_up h
    unfold alm at q7
    unfold kPile at c
    by_cases c1 : 1 ≤ x ∧ x ≤ 200
    · rw [if_pos c1] at c
      by_cases c2 : 4 ≤ vnC v
      · rw [if_pos c2] at c; exact absurd c (by decide)
      · have a1 := ge_t (n := 1) (by decide) c1.1
        have a2 := le_t (n := 200) (by decide) c1.2
        have z0 := (h4 (vnC v) (Nat.le_refl _)).2.2.1
        refine IV_mk (by omega) h2 h3 (fun j hj => ?_) h5 h6 h7 h8 h9 (fun j => ?_) q2 q3 q7 (by omega) q5 q6
        · rw [upd_ge (n := vnC v + 1) (by omega) hj]; exact h4 j (by omega)
        · refine upd_all (P := fun j z => 0 ≤ z.toInt ∧ 0 ≤ toI (vbu v) j ∧ z.toInt + toI (vbu v) j ≤ 200) ?_ q1 j
          have : toI (vbu v) (vnC v) = 0 := by unfold toI; rw [z0]; decide
          omega
    · rw [if_neg c1] at c; exact absurd c (by decide)
  · rw [show nPile v x = v from if_neg c]; exact IV_up h
theorem IV_Light {k : Nat} (hk : k < 512) {v : VT} (h : IV k v) (d q : Int32) : IV (k + 1) (nLight v d q) := by
  by_cases c : kLight v d q = 0
  · rw [show nLight v d q = _ from if_pos c]
    obtain ⟨⟨h1, h2, h3, ⟨h4, h5, h6⟩, h7, h8, h9, h10⟩, ⟨q1, q2, q3, q4, q5⟩, q6, q7⟩ := IV_up h
    unfold alm at q7
    unfold kLight at c
    by_cases c1 : 0 ≤ d ∧ d < nI (vnC v)
    · have hi := ix_lt (by omega) c1
      refine IV_mk h1 h2 h3 (fun j hj => ?_) h5 h6 (fun j => upd_all (P := fun _ z => z = 0 ∨ z = 1) (Or.inr rfl) h7 j) h8 h9 q1 q2 q3 q7 (by omega) q5 q6
      rw [upd_ge hi hj, upd_ge hi hj]; exact h4 j hj
    · rw [if_neg c1] at c; exact absurd c (by decide)
  · rw [show nLight v d q = v from if_neg c]; exact IV_up h
theorem IV_Dig {k : Nat} (hk : k < 512) {v : VT} (h : IV k v) (x : Int32) : IV (k + 1) (nDig v x) := by
  by_cases c : kDig v x = 0
  · rw [show nDig v x = _ from if_pos c]
    obtain ⟨⟨h1, h2, h3, ⟨h4, h5, h6⟩, h7, h8, h9, h10⟩, ⟨q1, q2, q3, q4, q5⟩, q6, q7⟩ := IV_up h
    unfold alm at q7
    unfold kDig at c
    by_cases c1 : 0 ≤ x ∧ x ≤ 400
    · rw [if_pos c1] at c
      by_cases c2 : 4 ≤ vnP v
      · rw [if_pos c2] at c; exact absurd c (by decide)
      · have a1 := z_le.mp c1.1
        have a2 := le_t (n := 400) (by decide) c1.2
        refine IV_mk h1 (by omega) h3 h4 (fun j hj => ?_) h6 h7 h8 h9 q1 (fun j => ?_) q3 q7 (by omega) q5 q6
        · rw [upd_ge (n := vnP v + 1) (by omega) hj]; exact h5 j (by omega)
        · refine upd_all (P := fun j z => 0 ≤ z.toInt ∧ z.toInt ≤ 400 ∧ 0 ≤ toI (vpa v) j) ?_ q2 j
          exact ⟨a1, a2, (q2 _).2.2⟩
    · rw [if_neg c1] at c; exact absurd c (by decide)
  · rw [show nDig v x = v from if_neg c]; exact IV_up h
theorem IV_Steep {k : Nat} (hk : k < 512) {v : VT} (h : IV k v) (d q : Int32) : IV (k + 1) (nSteep v d q) := by
  by_cases c : kSteep v d q = 0
  · rw [show nSteep v d q = _ from if_pos c]
    obtain ⟨⟨h1, h2, h3, ⟨h4, h5, h6⟩, h7, h8, h9, h10⟩, ⟨q1, q2, q3, q4, q5⟩, q6, q7⟩ := h
    unfold alm at q7
    unfold kSteep at c
    by_cases c1 : 0 ≤ d ∧ d < nI (vnC v)
    · rw [if_pos c1] at c
      by_cases c2 : 0 ≤ q ∧ q < nI (vnP v)
      · have hi := ix_lt (by omega) c1
        have hj := ix_lt (by omega) c2
        generalize ix d = i at hi ⊢
        generalize ix q = j at hj ⊢
        have b := q1 i
        have p := q2 j
        have e2 : (2 : Int32).toInt = 2 := by decide
        have hd : (vbu v i / 2).toInt = toI (vbu v) i / 2 := by
          unfold toI at b ⊢
          rw [lg_idiv_nonneg (by omega) (by omega), e2]
        have hP := (NN.pa ⟨q1, q2, q3, q4, q5⟩ (k := j) (by omega)).2.2
        have ha : (vpa v j + vbu v i / 2).toInt = toI (vpa v) j + toI (vbu v) i / 2 := by
          rw [tIa] <;> rw [hd] <;> unfold toI at * <;> omega
        refine IV_mk h1 h2 h3 (fun r hr => ?_) (fun r hr => ?_) h6 h7 h8 h9 (fun r => ?_) (fun r => ?_) q3 ?_ (by omega) q5 (by omega)
        · rw [upd_ge hi hr]; exact h4 r hr
        · rw [upd_ge hj hr]; exact h5 r hr
        · refine upd_all (P := fun r z => 0 ≤ toI (vsh v) r ∧ 0 ≤ z.toInt ∧ toI (vsh v) r + z.toInt ≤ 200) ?_ q1 r
          have e0 : (0 : Int32).toInt = 0 := by decide
          omega
        · refine upd_all (P := fun r z => 0 ≤ toI (vpw v) r ∧ toI (vpw v) r ≤ 400 ∧ 0 ≤ z.toInt) ?_ q2 r
          rw [ha]
          omega
        · have s4 := s4_upd (vpa v) (q := j) (by omega) (vpa v j + vbu v i / 2)
          rw [ha] at s4
          omega
      · rw [if_neg c2] at c; exact absurd c (by decide)
    · rw [if_neg c1] at c; exact absurd c (by decide)
  · rw [show nSteep v d q = v from if_neg c]; exact IV_up h
theorem IV_Pan {k : Nat} (hk : k < 512) {v : VT} (h : IV k v) : IV (k + 1) (nPan v) := by
  by_cases c : kPan v = 0
  · rw [show nPan v = _ from if_pos c]
    obtain ⟨⟨h1, h2, h3, ⟨h4, h5, h6⟩, h7, h8, h9, h10⟩, ⟨q1, q2, q3, q4, q5⟩, q6, q7⟩ := IV_up h
    unfold alm at q7
    unfold kPan at c
    by_cases c1 : 3 ≤ vnK v
    · rw [if_pos c1] at c; exact absurd c (by decide)
    · refine IV_mk h1 h2 (by omega) h4 h5 (fun j hj => ?_) h7 h8 h9 q1 q2 (fun j => ?_) q7 (by omega) q5 q6
      · rw [upd_ge (n := vnK v + 1) (by omega) hj]; exact h6 j (by omega)
      · refine upd_all (P := fun j z => 0 ≤ z.toInt ∧ z.toInt ≤ 150 ∧ 0 ≤ toI (vka v) j) ?_ q3 j
        exact ⟨by decide, by decide, (q3 _).2.2⟩
  · rw [show nPan v = v from if_neg c]; exact IV_up h
theorem IV_Boil {k : Nat} (hk : k < 512) {v : VT} (h : IV k v) (x : Int32) : IV (k + 1) (nBoil v x) := by
  by_cases c : kBoil v x = 0
  · rw [show nBoil v x = _ from if_pos c]
    obtain ⟨⟨h1, h2, h3, ⟨h4, h5, h6⟩, h7, h8, h9, h10⟩, ⟨q1, q2, q3, q4, q5⟩, q6, q7⟩ := IV_up h
    unfold alm at q7
    unfold kBoil at c
    by_cases c1 : 0 ≤ x ∧ x < nI (vnK v)
    · have hi := ix_lt (by omega) c1
      refine IV_mk h1 h2 h3 h4 h5 (fun j hj => ?_) h7 h8 (fun j => upd_all (P := fun _ z => z = 0 ∨ z = 1) (tog_01 _) h9 j) q1 q2 q3 q7 (by omega) q5 q6
      rw [upd_ge hi hj]; exact h6 j hj
    · rw [if_neg c1] at c; exact absurd c (by decide)
  · rw [show nBoil v x = v from if_neg c]; exact IV_up h
theorem IV_Pour {k : Nat} (hk : k < 512) {v : VT} (h : IV k v) (x b : Int32) : IV (k + 1) (nPour v x b) := by
  by_cases c : kPour v x b = 0
  · have hi : ix x < vnK v := by
      unfold kPour at c
      by_cases c1 : 0 ≤ x ∧ x < nI (vnK v)
      · exact ix_lt (by have := h.1.2.2.1; omega) c1
      · rw [if_neg c1] at c; exact absurd c (by decide)
    rw [show nPour v x b = _ from if_pos c]
    obtain ⟨⟨h1, h2, h3, ⟨h4, h5, h6⟩, h7, h8, h9, h10⟩, ⟨q1, q2, q3, q4, q5⟩, q6, q7⟩ := IV_up h
    unfold alm at q7
    generalize ix x = i at hi ⊢
    have s3 := s3_upd (vka v) (q := i) (by omega) 0
    have e0 : (0 : Int32).toInt = 0 := by decide
    have z0 := (q3 i).2.2
    split
    · refine IV_mk h1 h2 h3 h4 h5 (fun j hj => ?_) h7 h8 (fun j => upd_all (P := fun _ z => z = 0 ∨ z = 1) (Or.inl rfl) h9 j) q1 q2 (fun j => ?_) (by omega) (by omega) q5 q6
      · rw [upd_ge hi hj, upd_ge hi hj, upd_ge hi hj]; exact h6 j hj
      · refine upd_all (P := fun j z => 0 ≤ z.toInt ∧ z.toInt ≤ 150 ∧ 0 ≤ toI (upd (vka v) i 0) j) ?_ (fun j => ⟨(q3 j).1, (q3 j).2.1, ?_⟩) j
        · exact ⟨by decide, by decide, upd_all (P := fun _ z => 0 ≤ z.toInt) (by decide) (fun j => (q3 j).2.2) i⟩
        · exact upd_all (P := fun _ z => 0 ≤ z.toInt) (by decide) (fun j => (q3 j).2.2) j
    · refine IV_mk h1 h2 h3 h4 h5 (fun j hj => ?_) h7 h8 (fun j => upd_all (P := fun _ z => z = 0 ∨ z = 1) (Or.inl rfl) h9 j) q1 q2 (fun j => ?_) (by omega) (by omega) q5 q6
      · rw [upd_ge hi hj, upd_ge hi hj, upd_ge hi hj]; exact h6 j hj
      · refine upd_all (P := fun j z => 0 ≤ z.toInt ∧ z.toInt ≤ 150 ∧ 0 ≤ toI (upd (vka v) i 0) j) ?_ (fun j => ⟨(q3 j).1, (q3 j).2.1, ?_⟩) j
        · exact ⟨by decide, by decide, upd_all (P := fun _ z => 0 ≤ z.toInt) (by decide) (fun j => (q3 j).2.2) i⟩
        · exact upd_all (P := fun _ z => 0 ≤ z.toInt) (by decide) (fun j => (q3 j).2.2) j
  · rw [show nPour v x b = v from if_neg c]; exact IV_up h
/-- what is drawn: not less than nothing, not more than the pit has -/
theorem draw_T {a w p : Int32} (ha : 0 ≤ a.toInt) (ha2 : a.toInt ≤ 60000) (hw : 1 ≤ w.toInt) (hw2 : w.toInt ≤ 150) (hp : w.toInt ≤ p.toInt) : 0 ≤ (a * w / p).toInt ∧ (a * w / p).toInt ≤ a.toInt := by
  have m0 : 0 ≤ a.toInt * w.toInt := Int.mul_nonneg ha (by omega)
  have m1 : a.toInt * w.toInt ≤ 60000 * 150 := Int.mul_le_mul ha2 hw2 (by omega) (by omega)
  have em : (a * w).toInt = a.toInt * w.toInt := by
    rw [Int32.toInt_mul]
    exact Int.bmod_eq_of_le (by omega) (by omega)
  have ed : (a * w / p).toInt = a.toInt * w.toInt / p.toInt := by
    rw [lg_idiv_nonneg (by omega) (by omega), em]
  rw [ed]
  refine ⟨Int.ediv_nonneg m0 (by omega), ?_⟩
  have m2 : a.toInt * w.toInt ≤ a.toInt * p.toInt := Int.mul_le_mul_of_nonneg_left hp ha
  exact Int.ediv_le_of_le_mul (by omega) m2
theorem IV_Draw {k : Nat} (hk : k < 512) {v : VT} (h : IV k v) (q x w : Int32) : IV (k + 1) (nDraw v q x w) := by
  by_cases c : kDraw v q x w = 0
  · rw [show nDraw v q x w = _ from if_pos c]
    obtain ⟨⟨h1, h2, h3, ⟨h4, h5, h6⟩, h7, h8, h9, h10⟩, ⟨q1, q2, q3, q4, q5⟩, q6, q7⟩ := IV_up h
    unfold alm at q7
    unfold kDraw at c
    by_cases c1 : 0 ≤ q ∧ q < nI (vnP v)
    · rw [if_pos c1] at c
      by_cases c2 : 0 ≤ x ∧ x < nI (vnK v)
      · rw [if_pos c2] at c
        by_cases c3 : 1 ≤ w ∧ w ≤ 150
        · rw [if_pos c3] at c
          have hi := ix_lt (by omega) c1
          have hj := ix_lt (by omega) c2
          generalize ix q = i at c hi ⊢
          generalize ix x = j at c hj ⊢
          by_cases c4 : vpw v i < w
          · rw [if_pos c4] at c; exact absurd c (by decide)
          · rw [if_neg c4] at c
            by_cases c5 : vkw v j + w ≤ 150
            · have w1 := ge_t (n := 1) (by decide) c3.1
              have w2 := le_t (n := 150) (by decide) c3.2
              have w3 := Int32.le_iff_toInt_le.mp (Int32.not_lt.mp c4)
              have P := NN.pa ⟨q1, q2, q3, q4, q5⟩ (k := i) (by omega)
              have K := NN.ka ⟨q1, q2, q3, q4, q5⟩ (k := j) (by omega)
              have w5 := le_t (n := 150) (by decide) c5
              unfold toI at P K
              rw [tIa (by omega) (by omega)] at w5
              have dr := draw_T P.2.2.1 P.2.2.2 w1 w2 w3
              generalize vpa v i * w / vpw v i = z at dr ⊢
              have e1 : (vpw v i - w).toInt = (vpw v i).toInt - w.toInt := tIs (by omega) (by omega)
              have e2 : (vpa v i - z).toInt = (vpa v i).toInt - z.toInt := tIs (by omega) (by omega)
              have e3 : (vkw v j + w).toInt = (vkw v j).toInt + w.toInt := tIa (by omega) (by omega)
              have e4 : (vka v j + z).toInt = (vka v j).toInt + z.toInt := tIa (by omega) (by omega)
              have s4 := s4_upd (vpa v) (q := i) (by omega) (vpa v i - z)
              have s3 := s3_upd (vka v) (q := j) (by omega) (vka v j + z)
              rw [e2] at s4
              rw [e4] at s3
              have t4 : toI (vpa v) i = (vpa v i).toInt := rfl
              have t3 : toI (vka v) j = (vka v j).toInt := rfl
              refine IV_mk h1 h2 h3 h4 (fun r hr => ?_) (fun r hr => ?_) h7 h8 h9 q1 (fun r => ?_) (fun r => ?_) (by omega) (by omega) q5 q6
              · rw [upd_ge hi hr, upd_ge hi hr]; exact h5 r hr
              · rw [upd_ge hj hr, upd_ge hj hr]; exact h6 r hr
              · have a1 := upd_all (P := fun r y => 0 ≤ y.toInt ∧ y.toInt ≤ 400) (f := vpw v) (i := i) (x := vpw v i - w) (by rw [e1]; omega) (fun r => ⟨(q2 r).1, (q2 r).2.1⟩) r
                have a2 := upd_all (P := fun r y => 0 ≤ y.toInt) (f := vpa v) (i := i) (x := vpa v i - z) (by rw [e2]; omega) (fun r => (q2 r).2.2) r
                exact ⟨a1.1, a1.2, a2⟩
              · have a1 := upd_all (P := fun r y => 0 ≤ y.toInt ∧ y.toInt ≤ 150) (f := vkw v) (i := j) (x := vkw v j + w) (by rw [e3]; omega) (fun r => ⟨(q3 r).1, (q3 r).2.1⟩) r
                have a2 := upd_all (P := fun r y => 0 ≤ y.toInt) (f := vka v) (i := j) (x := vka v j + z) (by rw [e4]; omega) (fun r => (q3 r).2.2) r
                exact ⟨a1.1, a1.2, a2⟩
            · rw [if_neg c5] at c; exact absurd c (by decide)
        · rw [if_neg c3] at c; exact absurd c (by decide)
      · rw [if_neg c2] at c; exact absurd c (by decide)
    · rw [if_neg c1] at c; exact absurd c (by decide)
  · rw [show nDraw v q x w = v from if_neg c]; exact IV_up h
theorem alm_dIt (n : Nat) (v : VT) : alm (dIt n v) = alm v := by
  induction n with
  | zero => rfl
  | succ n ih => exact (show alm (dayV (dIt n v)) = alm (dIt n v) from rfl).trans ih
theorem IV_Pass {k : Nat} (hk : k < 512) {v : VT} (h : IV k v) (d : Int32) : IV (k + 1) (nPass v d) := by
  by_cases c : kPass v d = 0
  · rw [show nPass v d = _ from if_pos c]
    unfold kPass at c
    by_cases c1 : 1 ≤ d ∧ d ≤ 60
    · obtain ⟨j, h1, hj, rfl⟩ := inP1 (n := 60) (by decide) c1
      rw [ix_nI (by omega)]
      have hd := h.2.2.1
      exact ⟨IS_dIt h.1 (by omega), NN_dIt h.2.1 j, by rw [vday_dIt]; omega, by rw [alm_dIt]; have := h.2.2.2; omega⟩
    · rw [if_neg c1] at c; exact absurd c (by decide)
  · rw [show nPass v d = v from if_neg c]; exact IV_up h
theorem nP_Pass (v : VT) (d : Int32) : vnC (nPass v d) = vnC v ∧ vnP (nPass v d) = vnP v ∧ vnK (nPass v d) = vnK v := by
  unfold nPass
  split
  · exact ⟨vnC_dIt _ _, vnP_dIt _ _, vnK_dIt _ _⟩
  · exact ⟨rfl, rfl, rfl⟩
