/-! the law: two answers of mean are the same number, or no numbers both -/
theorem nan64_val {x : UInt64} (h : isNaN64 x = true) : Jvm.FP.Core.dcmp x x = none := by
  have h1 : x.toNat % 2 ^ 63 > 9218868437227405312 := by
    have h2 : (9218868437227405312 : UInt64) < x &&& 9223372036854775807 := by
      unfold isNaN64 at h
      exact of_decide_eq_true h
    have h3 := UInt64.lt_iff_toNat_lt.mp h2
    rw [UInt64.toNat_and] at h3
    have e1 : (9218868437227405312 : UInt64).toNat = 9218868437227405312 := by decide
    have e2 : (9223372036854775807 : UInt64).toNat = 2 ^ 63 - 1 := by decide
    rw [e1, e2, Nat.and_two_pow_sub_one_eq_mod] at h3
    exact h3
  exact (Jvm.FP.Core.dcmp_none x x).mpr (Or.inl ((Jvm.FP.Core.dIsNaN_iff x).mp ((Jvm.FP.Core.isNaN_bits x).mpr h1)))
theorem mean_cmp {p q x : UInt64} (hp : alike64 p x = true) (hq : alike64 q x = true) : Op.cmpValue (FP.dcmp p q) CmpOp.l = 0 ∨ (¬ Op.cmpValue (FP.dcmp p p) CmpOp.l = 0 ∧ ¬ Op.cmpValue (FP.dcmp q q) CmpOp.l = 0) := by
  have nn : ∀ y : UInt64, isNaN64 y = true → ¬ Op.cmpValue (FP.dcmp y y) CmpOp.l = 0 := fun y hy => by
    have e : FP.dcmp y y = none := nan64_val hy
    rw [e]
    decide
  by_cases e : p = q
  · subst e
    by_cases hv : Jvm.FP.Core.val64 p = .nan
    · have e1 : FP.dcmp p p = none := (Jvm.FP.Core.dcmp_none p p).mpr (Or.inl hv)
      refine Or.inr ⟨?_, ?_⟩ <;> (rw [e1]; decide)
    · have e1 : FP.dcmp p p = some .eq := Jvm.FP.Core.dcmp_self hv
      refine Or.inl ?_
      rw [e1]
      rfl
  · unfold alike64 at hp hq
    simp only [Bool.or_eq_true, Bool.and_eq_true, decide_eq_true_eq] at hp hq
    rcases hp with rfl | ⟨h1, h2⟩
    · rcases hq with rfl | ⟨h3, h4⟩
      · exact absurd rfl e
      · exact Or.inr ⟨nn _ h4, nn _ h3⟩
    · rcases hq with rfl | ⟨h3, h4⟩
      · exact Or.inr ⟨nn _ h1, nn _ h2⟩
      · exact Or.inr ⟨nn _ h1, nn _ h3⟩
