/-! what a day does, as the law asks it -/
theorem ss_ (a b : Int32) : a - (a - b) = b := by
  rw [Int32.sub_eq_add_neg a (a - b), Int32.neg_sub, Int32.add_comm, Int32.sub_add_cancel]
theorem dd_ {t f c : Int32} (ht : 0 ≤ t.toInt ∧ t.toInt ≤ 60) (hf : 0 ≤ f.toInt) (hc : 0 ≤ c.toInt) (hs : f.toInt + c.toInt ≤ 100000000) : ¬ mn t f < 0 ∧ ¬ mn (t - mn t f) c < 0 ∧ mn t f + mn (t - mn t f) c = mn t (f + c) ∧ (0 < mn (t - mn t f) c → f - mn t f = 0) := by
  obtain ⟨a, b, d, e, g⟩ := sh_T ht hf hc
  have e0 : (0 : Int32).toInt = 0 := by decide
  have fc : (f + c).toInt = f.toInt + c.toInt := tIa (by omega) (by omega)
  refine ⟨fun q => ?_, fun q => ?_, ?_, fun q => ?_⟩
  · have := Int32.lt_iff_toInt_lt.mp q
    omega
  · have := Int32.lt_iff_toInt_lt.mp q
    omega
  · apply Int32.toInt_inj.mp
    rw [tIa (by omega) (by omega), a, d, mn_T, fc]
    omega
  · have := Int32.lt_iff_toInt_lt.mp q
    apply Int32.toInt_inj.mp
    rw [e]
    omega
section
variable {k : Nat} {v : VT} (h : GG k v)
theorem tS (h : GG k v) : 0 ≤ (vS v (vday v % 7)).toInt ∧ (vS v (vday v % 7)).toInt ≤ 60 := h.2.2.2.2.1 _
theorem ddV (h : GG k v) (hk : k ≤ 512) : ¬ mn (vS v (vday v % 7)) (vfine v) < 0 ∧ ¬ mn (vS v (vday v % 7) - mn (vS v (vday v % 7)) (vfine v)) (vcrs v) < 0 ∧ mn (vS v (vday v % 7)) (vfine v) + mn (vS v (vday v % 7) - mn (vS v (vday v % 7)) (vfine v)) (vcrs v) = mn (vS v (vday v % 7)) (vfine v + vcrs v) ∧ (0 < mn (vS v (vday v % 7) - mn (vS v (vday v % 7)) (vfine v)) (vcrs v) → vfine v - mn (vS v (vday v % 7)) (vfine v) = 0) :=
  dd_ (tS h) h.2.2.2.2.2.1 h.2.2.2.2.2.2.1 (by have := h.2.2.2.2.2.2.2; omega)
theorem D1 (h : GG k v) (hk : k ≤ 512) : ¬ vfine v - vfine (dayV v) < 0 := by
  have e : vfine v - vfine (dayV v) = mn (vS v (vday v % 7)) (vfine v) := ss_ _ _
  rw [e]
  exact (ddV h hk).1
theorem D2 (h : GG k v) (hk : k ≤ 512) : ¬ vcrs v - vcrs (dayV v) < 0 := by
  have e : vcrs v - vcrs (dayV v) = mn (vS v (vday v % 7) - mn (vS v (vday v % 7)) (vfine v)) (vcrs v) := ss_ _ _
  rw [e]
  exact (ddV h hk).2.1
theorem D3 : vcoin (dayV v) - vcoin v = 5 * (vfine v - vfine (dayV v)) + 2 * (vcrs v - vcrs (dayV v)) := by
  have e : vfine v - vfine (dayV v) = mn (vS v (vday v % 7)) (vfine v) := ss_ _ _
  have e2 : vcrs v - vcrs (dayV v) = mn (vS v (vday v % 7) - mn (vS v (vday v % 7)) (vfine v)) (vcrs v) := ss_ _ _
  rw [e, e2]
  exact (add_back (vcoin v) _).symm
theorem D4 : vcoin (dayV v) = vcoin v + (vcoin (dayV v) - vcoin v) := by
  rw [Int32.add_comm, Int32.sub_add_cancel]
theorem D5 : vship (dayV v) = vship v + (vfine v - vfine (dayV v)) + (vcrs v - vcrs (dayV v)) := by
  have e : vfine v - vfine (dayV v) = mn (vS v (vday v % 7)) (vfine v) := ss_ _ _
  have e2 : vcrs v - vcrs (dayV v) = mn (vS v (vday v % 7) - mn (vS v (vday v % 7)) (vfine v)) (vcrs v) := ss_ _ _
  rw [e, e2, Int32.add_assoc]
  rfl
theorem D6 (h : GG k v) (hk : k ≤ 512) : (vfine v - vfine (dayV v)) + (vcrs v - vcrs (dayV v)) = mn (vS (dayV v) (vday v % 7)) (vfine v + vcrs v) := by
  have e : vfine v - vfine (dayV v) = mn (vS v (vday v % 7)) (vfine v) := ss_ _ _
  have e2 : vcrs v - vcrs (dayV v) = mn (vS v (vday v % 7) - mn (vS v (vday v % 7)) (vfine v)) (vcrs v) := ss_ _ _
  rw [e, e2]
  exact (ddV h hk).2.2.1
theorem D7 (h : GG k v) (hk : k ≤ 512) (c : 0 < vcrs v - vcrs (dayV v)) : vfine (dayV v) = 0 := by
  have e2 : vcrs v - vcrs (dayV v) = mn (vS v (vday v % 7) - mn (vS v (vday v % 7)) (vfine v)) (vcrs v) := ss_ _ _
  rw [e2] at c
  exact (ddV h hk).2.2.2 c
/-- clamps -/
theorem b0_of {x : Int32} (hx : x = 0 ∨ x = 1) (h : b01 x = 0) : x = 0 := by rw [b01_of hx] at h; exact h
theorem bn_of {x : Int32} (hx : x = 0 ∨ x = 1) (h : ¬ b01 x = 0) : ¬ x = 0 := by rw [b01_of hx] at h; exact h
theorem b1_of {x : Int32} (hx : x = 0 ∨ x = 1) (h : ¬ b01 x = 0) : b01 x = 1 := by rw [b01_of hx] at h ⊢; exact hx.resolve_left h
theorem d_sh {i : Nat} (hi : i < vnC v) : vsh (dayV v) i = fSh (vR v (vday v % 6)) (vsh v) (vfl v) i := rowF_lt _ _ _ hi
theorem d_co {i : Nat} (hi : i < vnC v) : vco (dayV v) i = fCo (vco v) (vfl v) i := rowF_lt _ _ _ hi
theorem d_bu {i : Nat} (hi : i < vnC v) : vbu (dayV v) i = fBu (vR v (vday v % 6)) (vsh v) (vbu v) (vfl v) i := rowF_lt _ _ _ hi
theorem d_fl {i : Nat} (hi : i < vnC v) : vfl (dayV v) i = fFl (vR v (vday v % 6)) (vsh v) (vco v) (vfl v) i := rowF_lt _ _ _ hi
theorem E1 {i : Nat} (hi : i < vnC v) (c : vfl v i = 0) : vsh v i - vsh (dayV v) i = 0 := by
  rw [d_sh hi]
  unfold fSh
  rw [if_pos c, Int32.sub_self]
theorem E2 {i : Nat} (hi : i < vnC v) (c : vfl v i = 0) : vco (dayV v) i = vco v i := by
  rw [d_co hi]
  exact if_pos c
theorem E3 {i : Nat} (hi : i < vnC v) (c : vfl v i = 0) : b01 (vfl (dayV v) i) = 0 := by
  rw [d_fl hi]
  unfold fFl
  rw [if_pos c, c]
  decide
theorem E4 {i : Nat} (hi : i < vnC v) (c : ¬ vfl v i = 0) : vsh v i - vsh (dayV v) i = mn (vsh v i) (bDaily (vR v (vday v % 6))) := by
  rw [d_sh hi]
  unfold fSh
  rw [if_neg c, ss_]
  exact mn_comm _ _
theorem E5 {i : Nat} (hi : i < vnC v) (c : ¬ vfl v i = 0) : vco (dayV v) i = mx 0 (vco v i - 2) := by
  rw [d_co hi]
  exact if_neg c
theorem E6 {i : Nat} (hi : i < vnC v) (c : ¬ vfl v i = 0) : vfl (dayV v) i = bFl (vco (dayV v) i) (vsh (dayV v) i) := by
  rw [d_fl hi, E5 hi c, d_sh hi]
  unfold fFl fSh
  rw [if_neg c, if_neg c]
theorem E6a {i : Nat} (hi : i < vnC v) (c : ¬ vfl v i = 0) (a : 0 < vsh (dayV v) i) (b : 0 < vco (dayV v) i) : b01 (vfl (dayV v) i) = 1 := by
  rw [E6 hi c]
  unfold bFl
  rw [if_neg (Int32.not_le.mpr b), if_neg (Int32.not_le.mpr a)]
  decide
theorem E6b {i : Nat} (hi : i < vnC v) (c : ¬ vfl v i = 0) (a : vsh (dayV v) i ≤ 0) : b01 (vfl (dayV v) i) = 0 := by
  rw [E6 hi c]
  unfold bFl
  rw [if_pos a, ite_self]
  decide
theorem E6c {i : Nat} (hi : i < vnC v) (c : ¬ vfl v i = 0) (a : vco (dayV v) i ≤ 0) : b01 (vfl (dayV v) i) = 0 := by
  rw [E6 hi c]
  unfold bFl
  rw [if_pos a]
  decide
theorem E7 {i : Nat} (hi : i < vnC v) : vbu (dayV v) i = vbu v i + (vsh v i - vsh (dayV v) i) := by
  rw [d_bu hi, d_sh hi]
  unfold fBu fSh
  by_cases c : vfl v i = 0
  · rw [if_pos c, if_pos c, Int32.sub_self, Int32.add_zero]
  · rw [if_neg c, if_neg c, ss_]
theorem daily_l {r : Int32} (c : r < 5) : 8 = bDaily r := by unfold bDaily; rw [if_pos c]
theorem daily_g {r : Int32} (c : 5 ≤ r) : 4 = bDaily r := by unfold bDaily; rw [if_neg (Int32.not_lt.mpr c)]
/-- pits -/
theorem d_pw {i : Nat} (hi : i < vnP v) : vpw (dayV v) i = wth (vR v (vday v % 6)) (vpw v i) := rowF_lt (vnP v) (fun j => wth (vR v (vday v % 6)) (vpw v j)) (vpw v) hi
theorem wB (h : GG k v) (i : Nat) : (0 ≤ (vpw v i).toInt ∧ (vpw v i).toInt ≤ 400) ∧ 0 ≤ (vR v (vday v % 6)).toInt ∧ (vR v (vday v % 6)).toInt ≤ 9 := ⟨⟨(h.1.2.1.2.1 i).1, (h.1.2.1.2.1 i).2.1⟩, h.1.2.1.2.2.2.2 _⟩
theorem F1 {i : Nat} (hi : i < vnP v) (c : vpw v i = 0) : 0 = vpw (dayV v) i := by
  rw [d_pw hi, c]
  rfl
theorem F2 (h : GG k v) {i : Nat} (hi : i < vnP v) (c : ¬ vpw v i = 0) (r : vR v (vday v % 6) = 0) : mx 0 (vpw v i - 3) = vpw (dayV v) i := by
  have b := wB h i
  have e0 : (0 : Int32).toInt = 0 := by decide
  have e3 : (3 : Int32).toInt = 3 := by decide
  rw [d_pw hi]
  apply Int32.toInt_inj.mp
  rw [(wthI b.1.1 b.1.2 b.2.1 b.2.2).2.1 (pos_of b.1.1 c) (by rw [r]; exact e0), mx_T, tIs (by omega) (by omega)]
  omega
theorem F3 (h : GG k v) {i : Nat} (hi : i < vnP v) (c : ¬ vpw v i = 0) (r : ¬ vR v (vday v % 6) = 0) : mn 400 (vpw v i + vR v (vday v % 6)) = vpw (dayV v) i := by
  have b := wB h i
  have e4 : (400 : Int32).toInt = 400 := by decide
  rw [d_pw hi]
  apply Int32.toInt_inj.mp
  rw [(wthI b.1.1 b.1.2 b.2.1 b.2.2).2.2 (pos_of b.1.1 c) (pos_of b.2.1 r), mn_T, tIa (by omega) (by omega), e4]
def dryA (v : VT) (i : Nat) : Int32 := if vpa v i = 0 then -1 else dryN (vpw v i) (vpa v i) 0 (ix (vpw v i))
theorem dryN_nat (w a : Int32) : ∀ (f i : Nat), ∃ n, i ≤ n ∧ n ≤ i + f ∧ dryN w a i f = nI n
  | 0, i => ⟨i, Nat.le_refl _, Nat.le_refl _, rfl⟩
  | f + 1, i => by
    by_cases c : eggB (strg (w - nI i) a) = 0
    · obtain ⟨n, h1, h2, h3⟩ := dryN_nat w a f (i + 1)
      exact ⟨n, by omega, by omega, by simp only [dryN, c, if_true]; exact h3⟩
    · exact ⟨i, Nat.le_refl _, by omega, by simp only [dryN, c, if_false]⟩
theorem strg_0 (w : Int32) : strg w 0 = 0 := by
  unfold strg
  by_cases c : w + 0 ≤ 0
  · rw [if_pos c]
  · rw [if_neg c, Int32.mul_zero, Int32.zero_div]
theorem F4 {v : VT} {i : Nat} (c : 0 < eggB (strg (vpw v i) (vpa v i))) : dryA v i = 0 := by
  unfold dryA
  by_cases a : vpa v i = 0
  · rw [a, strg_0] at c
    exact absurd c (by decide)
  · rw [if_neg a]
    have hne : ¬ eggB (strg (vpw v i - nI 0) (vpa v i)) = 0 := by
      rw [nI_0, Int32.sub_zero]
      intro q
      rw [q] at c
      exact absurd c (by decide)
    rw [dry_stop hne, nI_0]
theorem F5a {v : VT} {i : Nat} (a : vpa v i = 0) : dryA v i = -1 := if_pos a
theorem ix_T {x : Int32} (h0 : 0 ≤ x.toInt) : (ix x : Int) = x.toInt := by
  unfold ix Int32.toNatClampNeg
  omega
theorem dry_n {v : VT} {i : Nat} (hw : 0 ≤ (vpw v i).toInt ∧ (vpw v i).toInt ≤ 400) (a : ¬ vpa v i = 0) : ∃ n : Nat, (n : Int) ≤ (vpw v i).toInt ∧ dryA v i = nI n := by
  obtain ⟨n, -, h2, h3⟩ := dryN_nat (vpw v i) (vpa v i) (ix (vpw v i)) 0
  have e := ix_T hw.1
  exact ⟨n, by omega, by unfold dryA; rw [if_neg a]; exact h3⟩
theorem F5b {v : VT} {i : Nat} (hw : 0 ≤ (vpw v i).toInt ∧ (vpw v i).toInt ≤ 400) (a : ¬ vpa v i = 0) : ¬ dryA v i = -1 := by
  obtain ⟨n, h1, h2⟩ := dry_n hw a
  rw [h2]
  intro q
  have q1 := congrArg Int32.toInt q
  rw [nI_toInt (by omega)] at q1
  have e : (-1 : Int32).toInt = -1 := by decide
  omega
theorem F6 {v : VT} {i : Nat} (hw : 0 ≤ (vpw v i).toInt ∧ (vpw v i).toInt ≤ 400) : dryA v i ≤ vpw v i := by
  rw [Int32.le_iff_toInt_le]
  by_cases a : vpa v i = 0
  · rw [F5a a]
    have e : (-1 : Int32).toInt = -1 := by decide
    omega
  · obtain ⟨n, h1, h2⟩ := dry_n hw a
    rw [h2, nI_toInt (by omega)]
    exact h1
/-- pans -/
abbrev cV (v : VT) : Nat → Int32 := cN (vkw v) (vkb v) (vcoal v)
theorem d_kw {i : Nat} (hi : i < vnK v) : vkw (dayV v) i = fKw (vkw v) (vkb v) (cV v) i := rowF_lt _ _ _ hi
theorem d_kb {i : Nat} (hi : i < vnK v) : vkb (dayV v) i = fKb (vkw v) (vkb v) (cV v) i := rowF_lt _ _ _ hi
/-- either nothing goes, or it boils -/
theorem Gc (h : GG k v) {i : Nat} (hi : i < vnK v) : (vkw (dayV v) i = vkw v i ∧ cV v (i + 1) = cV v i) ∨ (¬ vkb v i = 0 ∧ vkb (dayV v) i = vkb v i ∧ (vkw (dayV v) i).toInt = max 0 ((vkw v i).toInt - 12) ∧ 0 < (vkw v i).toInt ∧ cV v (i + 1) = cV v i - 4) := by
  have b := h.1.2.1.2.2.1 i
  unfold toI at b
  rw [d_kw hi, d_kb hi]
  show (fKw (vkw v) (vkb v) (cV v) i = vkw v i ∧ cN (vkw v) (vkb v) (vcoal v) (i + 1) = cV v i) ∨ _
  have e0 : (0 : Int32).toInt = 0 := by decide
  have e12 : (12 : Int32).toInt = 12 := by decide
  unfold fKw fKb
  by_cases a1 : vkb v i = 0
  · exact Or.inl ⟨if_pos a1, by simp only [cN]; rw [if_pos a1]⟩
  · by_cases a2 : cV v i < 4
    · exact Or.inl ⟨by rw [if_neg a1, if_pos a2], by simp only [cN]; rw [if_neg a1, if_pos a2]⟩
    · by_cases a3 : vkw v i = 0
      · exact Or.inl ⟨by rw [if_neg a1, if_neg a2, if_pos a3], by simp only [cN]; rw [if_neg a1, if_neg a2, if_pos a3]⟩
      · refine Or.inr ⟨a1, by rw [if_neg a1, if_neg a2, if_neg a3], ?_, pos_of b.1 a3, ?_⟩
        · rw [if_neg a1, if_neg a2, if_neg a3, mx_T, tIs (by omega) (by omega), e0, e12]
        · show cN (vkw v) (vkb v) (vcoal v) (i + 1) = cV v i - 4
          simp only [cN]
          rw [if_neg a1, if_neg a2, if_neg a3]
theorem Gg (h : GG k v) {i : Nat} (hi : i < vnK v) : 0 ≤ (vkw v i - vkw (dayV v) i).toInt ∧ (vkw v i - vkw (dayV v) i).toInt ≤ 12 ∧ (0 < (vkw v i - vkw (dayV v) i).toInt → ¬ vkb v i = 0 ∧ vkb (dayV v) i = vkb v i ∧ cV v (i + 1) = cV v i - 4) ∧ (¬ 0 < (vkw v i - vkw (dayV v) i).toInt → cV v (i + 1) = cV v i) := by
  have b := h.1.2.1.2.2.1 i
  unfold toI at b
  rcases Gc h hi with ⟨e, e2⟩ | ⟨a1, a2, a3, a4, a5⟩
  · rw [e, Int32.sub_self]
    exact ⟨by decide, by decide, fun q => absurd q (by decide), fun _ => e2⟩
  · have z : (vkw v i - vkw (dayV v) i).toInt = (vkw v i).toInt - max 0 ((vkw v i).toInt - 12) := by rw [tIs (by omega) (by omega), a3]
    rw [z]
    exact ⟨by omega, by omega, fun _ => ⟨a1, a2, a5⟩, fun q => absurd (by omega) q⟩
theorem G1 (h : GG k v) {i : Nat} (hi : i < vnK v) : ¬ vkw v i - vkw (dayV v) i < 0 := fun q => by
  have e0 : (0 : Int32).toInt = 0 := by decide
  have := Int32.lt_iff_toInt_lt.mp q
  have := (Gg h hi).1
  omega
theorem G2 (h : GG k v) {i : Nat} (hi : i < vnK v) : ¬ 12 < vkw v i - vkw (dayV v) i := fun q => by
  have e0 : (12 : Int32).toInt = 12 := by decide
  have := Int32.lt_iff_toInt_lt.mp q
  have := (Gg h hi).2.1
  omega
theorem Gp {x : Int32} (c : 0 < x) : 0 < x.toInt := by
  have e0 : (0 : Int32).toInt = 0 := by decide
  have := Int32.lt_iff_toInt_lt.mp c
  omega
theorem G3 (h : GG k v) {i : Nat} (hi : i < vnK v) (c : 0 < vkw v i - vkw (dayV v) i) : ¬ b01 (vkb v i) = 0 := by
  rw [b01_of (h.1.1.2.2.2.2.2.2.1 i)]
  exact ((Gg h hi).2.2.1 (Gp c)).1
theorem G4 (h : GG k v) {i : Nat} (hi : i < vnK v) (c : 0 < vkw v i - vkw (dayV v) i) : ¬ b01 (vkb (dayV v) i) = 0 := by
  rw [((Gg h hi).2.2.1 (Gp c)).2.1]
  exact G3 h hi c
def ckd (v : VT) (i : Nat) : Int32 := if 0 < vkw v i - vkw (dayV v) i then 1 else 0
theorem ck1 {v : VT} {i : Nat} (c : 0 < vkw v i - vkw (dayV v) i) : 1 = ckd v i := (if_pos c).symm
theorem ck0 {v : VT} {i : Nat} (c : vkw v i - vkw (dayV v) i ≤ 0) : 0 = ckd v i := (if_neg (Int32.not_lt.mpr c)).symm
theorem H0_ (h : GG k v) : ∀ i : Nat, i ≤ vnK v → cV v i = vcoal v - 4 * sumF (ckd v) i
  | 0, _ => by
    show vcoal v = vcoal v - 4 * 0
    rw [Int32.mul_zero, Int32.sub_zero]
  | i + 1, hi => by
    have ih := H0_ h i (by omega)
    have g := Gg h (i := i) (by omega)
    show cV v (i + 1) = vcoal v - 4 * (sumF (ckd v) i + ckd v i)
    unfold ckd
    by_cases c : 0 < vkw v i - vkw (dayV v) i
    · rw [(g.2.2.1 (Gp c)).2.2, ih, if_pos c, Int32.mul_add, Int32.mul_one, Int32.sub_sub]
      rfl
    · rw [g.2.2.2 (fun q => c (by rw [Int32.lt_iff_toInt_lt]; exact q)), ih, if_neg c, Int32.add_zero]
      rfl
theorem H1 (h : GG k v) : vcoal (dayV v) = vcoal v - 4 * sumF (ckd v) (vnK v) := H0_ h (vnK v) (Nat.le_refl _)
theorem strgT {w a : Int32} (hw : 0 ≤ w.toInt ∧ w.toInt ≤ 1000) (ha : 0 ≤ a.toInt ∧ a.toInt ≤ 60000) : (w.toInt + a.toInt ≤ 0 → (strg w a).toInt = 0) ∧ (0 < w.toInt + a.toInt → (strg w a).toInt = 100 * a.toInt / (w.toInt + a.toInt)) := by
  have e0 : (0 : Int32).toInt = 0 := by decide
  have e1 : (100 : Int32).toInt = 100 := by decide
  have s : (w + a).toInt = w.toInt + a.toInt := tIa (by omega) (by omega)
  have em : (100 * a).toInt = 100 * a.toInt := by
    rw [Int32.toInt_mul, e1]
    exact Int.bmod_eq_of_le (by omega) (by omega)
  unfold strg
  refine ⟨fun c => ?_, fun c => ?_⟩
  · rw [if_pos (by rw [Int32.le_iff_toInt_le]; omega), e0]
  · rw [if_neg (by rw [Int32.le_iff_toInt_le]; omega), lg_idiv_nonneg (by omega) (by omega), em, s]
theorem G5 (h : GG k v) {i : Nat} (hi : i < vnK v) (h3 : vnK v ≤ 3) : ¬ strg (vkw (dayV v) i) (vka v i) < strg (vkw v i) (vka v i) := fun q => by
  have b := NN.ka h.1.2.1 (k := i) (by omega)
  have b' := NN.ka (NN_day h.1.2.1) (k := i) (by omega)
  unfold toI at b b'
  have g := Gg h hi
  have z : (vkw v i - vkw (dayV v) i).toInt = (vkw v i).toInt - (vkw (dayV v) i).toInt := tIs (by omega) (by omega)
  have q1 := Int32.lt_iff_toInt_lt.mp q
  have s1 := strgT (w := vkw v i) (a := vka v i) ⟨b.1, by omega⟩ b.2.2
  have s2 := strgT (w := vkw (dayV v) i) (a := vka v i) ⟨b'.1, by omega⟩ b.2.2
  generalize (vkw v i).toInt = w at *
  generalize (vkw (dayV v) i).toInt = w' at *
  generalize (vka v i).toInt = a at *
  by_cases c : 0 < w + a
  · by_cases c' : 0 < w' + a
    · rw [s1.2 c, s2.2 c'] at q1
      have m1 : 100 * a / (w + a) ≤ 100 * a / (w' + a) := by
        apply Int.le_ediv_of_mul_le c'
        have n0 : 0 ≤ 100 * a / (w + a) := Int.ediv_nonneg (by omega) (by omega)
        have n1 : 100 * a / (w + a) * (w' + a) ≤ 100 * a / (w + a) * (w + a) := Int.mul_le_mul_of_nonneg_left (by omega) n0
        have n2 : 100 * a / (w + a) * (w + a) ≤ 100 * a := Int.ediv_mul_le _ (by omega)
        omega
      omega
    · have a0 : a = 0 := by omega
      rw [s1.2 c, a0] at q1
      have z0 : (100 * 0 : Int) / (w + 0) = 0 := by simp
      rw [z0] at q1
      rw [s2.1 (by omega)] at q1
      omega
  · rw [s1.1 (by omega), s2.1 (by omega)] at q1
    omega
/-- the day on which the egg swims, a day later -/
theorem dIt_day (v : VT) : ∀ n : Nat, dIt n (dayV v) = dIt (n + 1) v
  | 0 => rfl
  | n + 1 => by
    show dayV (dIt n (dayV v)) = dayV (dIt (n + 1) v)
    rw [dIt_day v n]
theorem rgt_lo (v : VT) (k : Nat) : ∀ (f i : Nat), rgt v k i f = -1 ∨ ∃ j, i ≤ j ∧ j ≤ i + f ∧ rgt v k i f = nI j
  | 0, i => by
    by_cases c : eggK (dIt i v) k = 1
    · exact Or.inr ⟨i, Nat.le_refl _, Nat.le_refl _, by simp only [rgt, c, if_true]⟩
    · exact Or.inl (by simp only [rgt, c, if_false])
  | f + 1, i => by
    by_cases c : eggK (dIt i v) k = 1
    · exact Or.inr ⟨i, Nat.le_refl _, by omega, by simp only [rgt, c, if_true]⟩
    · have e : rgt v k i (f + 1) = rgt v k (i + 1) f := by simp only [rgt, c, if_false]
      rw [e]
      rcases rgt_lo v k f (i + 1) with q | ⟨j, h1, h2, h3⟩
      · exact Or.inl q
      · exact Or.inr ⟨j, by omega, by omega, h3⟩
theorem rgt_sh (v : VT) (k : Nat) : ∀ (f i j : Nat), i + f < 1000 → rgt v k (i + 1) f = nI (j + 1) → j + 1 < 2000 → rgt (dayV v) k i f = nI j
  | 0, i, j, hf, h, hj => by
    by_cases c : eggK (dIt (i + 1) v) k = 1
    · simp only [rgt, c, if_true] at h
      have h2 := (nI_eq (a := i + 1) (b := j + 1) (by omega) (by omega)).mp h
      simp only [rgt]
      rw [dIt_day, if_pos c, show i = j by omega]
    · simp only [rgt, c, if_false] at h
      exfalso
      have q1 := congrArg Int32.toInt h
      rw [nI_toInt (by omega)] at q1
      have e : (-1 : Int32).toInt = -1 := by decide
      omega
  | f + 1, i, j, hf, h, hj => by
    by_cases c : eggK (dIt (i + 1) v) k = 1
    · simp only [rgt, c, if_true] at h
      have h2 := (nI_eq (a := i + 1) (b := j + 1) (by omega) (by omega)).mp h
      simp only [rgt]
      rw [dIt_day, if_pos c, show i = j by omega]
    · have e : rgt v k (i + 1) (f + 1) = rgt v k (i + 1 + 1) f := by simp only [rgt, c, if_false]
      rw [e] at h
      simp only [rgt]
      rw [dIt_day, if_neg c]
      exact rgt_sh v k f (i + 1) j (by omega) h hj
theorem rgt_mo (v : VT) (k : Nat) : ∀ (f i : Nat) (j : Nat), j < 2000 → rgt v k i f = nI j → rgt v k i (f + 1) = nI j
  | 0, i, j, hj, h => by
    by_cases c : eggK (dIt i v) k = 1
    · simp only [rgt, c, if_true] at h ⊢
      exact h
    · simp only [rgt, c, if_false] at h
      exfalso
      have q1 := congrArg Int32.toInt h
      rw [nI_toInt (by omega)] at q1
      have e : (-1 : Int32).toInt = -1 := by decide
      omega
  | f + 1, i, j, hj, h => by
    by_cases c : eggK (dIt i v) k = 1
    · simp only [rgt, c, if_true] at h ⊢
      exact h
    · have e : rgt v k i (f + 1) = rgt v k (i + 1) f := by simp only [rgt, c, if_false]
      have e2 : rgt v k i (f + 1 + 1) = rgt v k (i + 1) (f + 1) := by simp only [rgt, c, if_false]
      rw [e] at h
      rw [e2]
      exact rgt_mo v k f (i + 1) j hj h
theorem rgt_1 (v : VT) (k : Nat) (h : ¬ rgt v k 0 60 = 0) : rgt v k 0 60 = rgt v k 1 59 := by
  have e : rgt v k 0 60 = if eggK (dIt 0 v) k = 1 then nI 0 else rgt v k (0 + 1) 59 := rfl
  by_cases c : eggK (dIt 0 v) k = 1
  · rw [e, if_pos c] at h
    exact absurd nI_0 h
  · rw [e, if_neg c]
theorem G6 {v : VT} {i : Nat} (c : 1 < rgt v i 0 60) : rgt (dayV v) i 0 60 = rgt v i 0 60 - 1 := by
  have hne : ¬ rgt v i 0 60 = 0 := fun q => by rw [q] at c; exact absurd c (by decide)
  have e := rgt_1 v i hne
  rw [e] at c ⊢
  rcases rgt_lo v i 59 1 with q | ⟨j, h1, h2, h3⟩
  · rw [q] at c
    exact absurd c (by decide)
  · obtain ⟨j, rfl⟩ : ∃ z, j = z + 1 := ⟨j - 1, by omega⟩
    have a := rgt_sh v i 59 0 j (by omega) h3 (by omega)
    rw [rgt_mo (dayV v) i 59 0 j (by omega) a, h3]
    exact (nI_pred j).symm
theorem G7 {v : VT} {i : Nat} (c : rgt v i 0 60 = 1) : eggB (strg (vkw (dayV v) i) (vka (dayV v) i)) = 1 := by
  have hne : ¬ rgt v i 0 60 = 0 := fun q => by rw [q] at c; exact absurd c (by decide)
  rw [rgt_1 v i hne] at c
  have e : rgt v i 1 59 = if eggK (dIt 1 v) i = 1 then nI 1 else rgt v i 2 58 := rfl
  by_cases q : eggK (dIt 1 v) i = 1
  · exact q
  · rw [e, if_neg q] at c
    exfalso
    rcases rgt_lo v i 58 2 with z | ⟨j, h1, h2, h3⟩
    · rw [z] at c
      exact absurd c (by decide)
    · rw [h3] at c
      have := (nI_eq (a := j) (b := 1) (by omega) (by omega)).mp c
      omega
def barA (v : VT) (i : Nat) : Int32 := if vka v i = 0 then -1 else bst (vkw v i) (vka v i) 19
theorem bst_n (w a : Int32) : ∀ m : Nat, ∃ n, 1 ≤ n ∧ n ≤ m + 1 ∧ bst w a m = nI n
  | 0 => ⟨1, Nat.le_refl _, Nat.le_refl _, rfl⟩
  | m + 1 => by
    obtain ⟨n, h1, h2, h3⟩ := bst_n w a m
    simp only [bst]
    split
    · exact ⟨n, h1, by omega, h3⟩
    · exact ⟨m + 2, by omega, by omega, rfl⟩
theorem G8a {v : VT} {i : Nat} (c : 0 ≤ barA v i) : ¬ vka v i = 0 := fun q => by
  unfold barA at c
  rw [if_pos q] at c
  exact absurd c (by decide)
theorem G8b {v : VT} {i : Nat} (c : ¬ 0 ≤ barA v i) : vka v i = 0 := by
  by_cases q : vka v i = 0
  · exact q
  · exfalso
    apply c
    unfold barA
    rw [if_neg q]
    obtain ⟨n, h1, h2, h3⟩ := bst_n (vkw v i) (vka v i) 19
    rw [h3]
    exact nI_pos' (by omega)
end
def q5 (a b c d e : Nat → Int32) : Nat → Nat → Int32 := fun i j => if j = 0 then a i else if j = 1 then b i else if j = 2 then c i else if j = 3 then d i else if j = 4 then e i else 0
theorem q4_z : (fun _ _ => 0) = q4 (fun _ => 0) (fun _ => 0) (fun _ => 0) (fun _ => 0) := funext fun i => funext fun j => by unfold q4; simp
theorem q2_z : (fun _ _ => 0) = q2 (fun _ => 0) (fun _ => 0) := funext fun i => funext fun j => by unfold q2; simp
theorem q5_z : (fun _ _ => 0) = q5 (fun _ => 0) (fun _ => 0) (fun _ => 0) (fun _ => 0) (fun _ => 0) := funext fun i => funext fun j => by unfold q5; simp
theorem MR_c4 {cI : ClassId} {n : Nat} {r : Nat → Nat} {a b c d a' b' c' d' : Nat → Int32} : MR cI 4 n r (q4 (rowF n a a') (rowF n b b') (rowF n c c') (rowF n d d')) = MR cI 4 n r (q4 a b c d) := by
  unfold MR
  apply List.map_congr_left
  intro i hi
  have hi := List.mem_range.mp hi
  unfold q4
  rw [rowF_lt _ _ _ hi, rowF_lt _ _ _ hi, rowF_lt _ _ _ hi, rowF_lt _ _ _ hi]
theorem MR_c2 {cI : ClassId} {n : Nat} {r : Nat → Nat} {a b a' b' : Nat → Int32} : MR cI 2 n r (q2 (rowF n a a') (rowF n b b')) = MR cI 2 n r (q2 a b) := by
  unfold MR
  apply List.map_congr_left
  intro i hi
  have hi := List.mem_range.mp hi
  unfold q2
  rw [rowF_lt _ _ _ hi, rowF_lt _ _ _ hi]
theorem MR_c5 {cI : ClassId} {n : Nat} {r : Nat → Nat} {a b c d e a' b' c' d' e' : Nat → Int32} : MR cI 5 n r (q5 (rowF n a a') (rowF n b b') (rowF n c c') (rowF n d d') (rowF n e e')) = MR cI 5 n r (q5 a b c d e) := by
  unfold MR
  apply List.map_congr_left
  intro i hi
  have hi := List.mem_range.mp hi
  unfold q5
  rw [rowF_lt _ _ _ hi, rowF_lt _ _ _ hi, rowF_lt _ _ _ hi, rowF_lt _ _ _ hi, rowF_lt _ _ _ hi]
theorem q5_u0 (a b c d e : Nat → Int32) (i : Nat) (x : Int32) : upd2 (q5 a b c d e) i 0 x = q5 (upd a i x) b c d e := funext fun k => funext fun j => by
  unfold upd2; by_cases h : k = i
  · subst h; rw [if_pos rfl]; unfold upd q5; by_cases h0 : j = 0 <;> simp [h0]
  · rw [if_neg h]; unfold upd q5; by_cases h0 : j = 0 <;> simp [h0, h]
theorem q5_u1 (a b c d e : Nat → Int32) (i : Nat) (x : Int32) : upd2 (q5 a b c d e) i 1 x = q5 a (upd b i x) c d e := funext fun k => funext fun j => by
  unfold upd2; by_cases h : k = i
  · subst h; rw [if_pos rfl]; unfold upd q5; by_cases h0 : j = 1 <;> simp [h0]
  · rw [if_neg h]; unfold upd q5; by_cases h0 : j = 1 <;> simp [h0, h]
theorem q5_u2 (a b c d e : Nat → Int32) (i : Nat) (x : Int32) : upd2 (q5 a b c d e) i 2 x = q5 a b (upd c i x) d e := funext fun k => funext fun j => by
  unfold upd2; by_cases h : k = i
  · subst h; rw [if_pos rfl]; unfold upd q5; by_cases h0 : j = 2 <;> simp [h0]
  · rw [if_neg h]; unfold upd q5; by_cases h0 : j = 2 <;> simp [h0, h]
theorem q5_u3 (a b c d e : Nat → Int32) (i : Nat) (x : Int32) : upd2 (q5 a b c d e) i 3 x = q5 a b c (upd d i x) e := funext fun k => funext fun j => by
  unfold upd2; by_cases h : k = i
  · subst h; rw [if_pos rfl]; unfold upd q5; by_cases h0 : j = 3 <;> simp [h0]
  · rw [if_neg h]; unfold upd q5; by_cases h0 : j = 3 <;> simp [h0, h]
theorem q5_u4 (a b c d e : Nat → Int32) (i : Nat) (x : Int32) : upd2 (q5 a b c d e) i 4 x = q5 a b c d (upd e i x) := funext fun k => funext fun j => by
  unfold upd2; by_cases h : k = i
  · subst h; rw [if_pos rfl]; unfold upd q5; by_cases h0 : j = 4 <;> simp [h0]
  · rw [if_neg h]; unfold upd q5; by_cases h0 : j = 4 <;> simp [h0, h]
