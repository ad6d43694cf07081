theorem kc_Tf_188 : Cond.constantLong "ToothField" 188 (Int64.ofInt (-9223372036854775808)) ∈ TB ∧ inL (-9223372036854775808) := ⟨tbm 598 (by decide +kernel) rfl, by decide⟩
theorem kc_Mo_81 : Cond.constantLong "ToothFieldModel" 81 (Int64.ofInt (-9223372036854775808)) ∈ TB ∧ inL (-9223372036854775808) := ⟨tbm 1016 (by decide +kernel) rfl, by decide⟩
theorem kc_Ja_265 : Cond.constant "java/lang/Integer" 265 (Int32.ofInt (1431655765)) ∈ TB ∧ inR (1431655765) := ⟨tbm 524 (by decide +kernel) rfl, by decide⟩
theorem kc_Ja_266 : Cond.constant "java/lang/Integer" 266 (Int32.ofInt (858993459)) ∈ TB ∧ inR (858993459) := ⟨tbm 525 (by decide +kernel) rfl, by decide⟩
theorem kc_Ja_267 : Cond.constant "java/lang/Integer" 267 (Int32.ofInt (252645135)) ∈ TB ∧ inR (252645135) := ⟨tbm 526 (by decide +kernel) rfl, by decide⟩
