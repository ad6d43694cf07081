/-! ===== the abstract machine is sound ===== -/
theorem pI_el {st : List V} {F : Int → List V → Prop} (h : pI st F) : ∃ a t, st = .inl a :: t ∧ F a t := by
  unfold pI at h; split at h
  · exact ⟨_, _, rfl, h⟩
  · exact h.elim
theorem pII_el {st : List V} {F : Int → Int → List V → Prop} (h : pII st F) : ∃ a b t, st = .inl b :: .inl a :: t ∧ F a b t := by
  unfold pII at h; split at h
  · exact ⟨_, _, _, rfl, h⟩
  · exact h.elim
theorem pL_el {st : List V} {F : Int → List V → Prop} (h : pL st F) : ∃ a t, st = .inr (.inl a) :: t ∧ F a t := by
  unfold pL at h; split at h
  · exact ⟨_, _, rfl, h⟩
  · exact h.elim
theorem pLL_el {st : List V} {F : Int → Int → List V → Prop} (h : pLL st F) : ∃ a b t, st = .inr (.inl b) :: .inr (.inl a) :: t ∧ F a b t := by
  unfold pLL at h; split at h
  · exact ⟨_, _, _, rfl, h⟩
  · exact h.elim
theorem pR_el {st : List V} {F : Nat → Nat → List V → Prop} (h : pR st F) : ∃ c i t, st = .inr (.inr (c, i)) :: t ∧ F c i t := by
  unfold pR at h; split at h
  · exact ⟨_, _, _, rfl, h⟩
  · exact h.elim
theorem pIR_el {st : List V} {F : Int → Nat → Nat → List V → Prop} (h : pIR st F) : ∃ z c i t, st = .inl z :: .inr (.inr (c, i)) :: t ∧ F z c i t := by
  unfold pIR at h; split at h
  · exact ⟨_, _, _, _, rfl, h⟩
  · exact h.elim
theorem pIIR_el {st : List V} {F : Int → Int → Nat → Nat → List V → Prop} (h : pIIR st F) : ∃ y z c i t, st = .inl y :: .inl z :: .inr (.inr (c, i)) :: t ∧ F y z c i t := by
  unfold pIIR at h; split at h
  · exact ⟨_, _, _, _, _, rfl, h⟩
  · exact h.elim
theorem pRR_el {st : List V} {F : Nat → Nat → Nat → Nat → List V → Prop} (h : pRR st F) : ∃ c' i' c i t, st = .inr (.inr (c', i')) :: .inr (.inr (c, i)) :: t ∧ F c' i' c i t := by
  unfold pRR at h; split at h
  · exact ⟨_, _, _, _, _, rfl, h⟩
  · exact h.elim
theorem gI_el {lo : List (Option V)} {k : Nat} {F : Int → Prop} (h : gI lo k F) : ∃ z, lo[k]? = some (some (.inl z)) ∧ F z := by
  unfold gI at h; split at h
  · rename_i hz; exact ⟨_, hz, h⟩
  · exact h.elim
theorem gL_el {lo : List (Option V)} {k : Nat} {F : Int → Prop} (h : gL lo k F) : ∃ z, lo[k]? = some (some (.inr (.inl z))) ∧ F z := by
  unfold gL at h; split at h
  · rename_i hz; exact ⟨_, hz, h⟩
  · exact h.elim
theorem gR_el {lo : List (Option V)} {k : Nat} {F : Nat → Nat → Prop} (h : gR lo k F) : ∃ c i, lo[k]? = some (some (.inr (.inr (c, i)))) ∧ F c i := by
  unfold gR at h; split at h
  · rename_i hz; exact ⟨_, _, hz, h⟩
  · exact h.elim
theorem bif_el {b : Bool} {P : Prop} (h : bif b then P else False) : b = true ∧ P := by
  cases b
  · exact h.elim
  · exact ⟨rfl, h⟩
theorem bif2_el {b : Bool} {P R : Prop} (h : bif b then P else R) : (b = true ∧ P) ∨ (b = false ∧ R) := by
  cases b
  · exact Or.inr ⟨rfl, h⟩
  · exact Or.inl ⟨rfl, h⟩
theorem blt_el {a b : Nat} (h : Nat.blt a b = true) : a < b := Nat.ble_eq.mp h
theorem beq_el {a b : Nat} (h : Nat.beq a b = true) : a = b := Nat.eq_of_beq_eq_true h
theorem fnd_mem {α : Type} : ∀ {l : List (Nat × α)} {k : Nat} {a : α}, fnd l k = some a → (k, a) ∈ l
  | [], _, _, h => by cases h
  | q :: t, k, a, h => by
    unfold fnd at h
    cases hq : Nat.beq q.1 k with
    | true =>
      rw [hq] at h
      cases h
      rw [← beq_el hq]
      exact List.mem_cons_self
    | false =>
      rw [hq] at h
      exact List.mem_cons_of_mem _ (fnd_mem h)
theorem opt_el {α : Type} {o : Option α} {F : α → Prop} (h : match o with | some a => F a | none => False) : ∃ a, o = some a ∧ F a := by
  cases o with
  | none => exact h.elim
  | some a => exact ⟨a, rfl, h⟩
section EX
variable {w : WD} {C : CX} {pc n : Nat} {lo : List (Option V)} {st : List V} {X : XS} {Q : Int → XS → Prop} {K : List (Option V) → List V → XS → Prop}
theorem ex_getfield (hC : CXok C) {k : Nat} (hd : decode C.1.2.1 pc = .ok (.getfield k, 3)) (hK : ∀ lo' st' X', K lo' st' X' → Go w C (pc + 3) lo' st' X' Q) (h : ex1 w C (.getfield k) 3 pc lo st X Q K) : Go w C pc lo st X Q := by
  unfold ex1 at h
  dsimp only at h
  split at h
  case h_2 => exact h.elim
  rename_i c f hf
  have hfo := hC.2.2.1 _ (fnd_mem hf)
  obtain ⟨c', i, t, rfl, h⟩ := pR_el h
  obtain ⟨hc, h⟩ := bif_el h
  have hc := beq_el hc
  subst hc
  have h8 : c' < 8 := by obtain ⟨_, _, _, h1, _⟩ := hfo; exact cl_lt h1
  split at h
  · rename_i off tc hft
    refine g_getf hfo hd (fun hX ht => ?_) (hK _ _ _ h)
    obtain ⟨i1, i2, i3⟩ := tok_obj ht h8
    refine ⟨by unfold fv; rw [hft]; rfl, ?_⟩
    exact fin_ok i2 (by rw [i3]; exact h8) (by rw [i3]; exact hft)
  · rename_i a tc hft
    refine g_getf hfo hd (fun hX ht => ?_) (hK _ _ _ h)
    obtain ⟨i1, i2, i3⟩ := tok_obj ht h8
    refine ⟨by unfold fv; rw [hft]; rfl, ?_⟩
    exact fin_ok4 i2 (by rw [i3]; exact h8) (by rw [i3]; exact hft)
  · rename_i j tc hft
    obtain ⟨hne, h⟩ := h
    refine g_getf hfo hd (fun hX ht => ?_) (hK _ _ _ h)
    obtain ⟨i1, i2, i3⟩ := tok_obj ht h8
    obtain ⟨-, m2, -⟩ := mut_ok i2 (by rw [i3]; exact h8) (by rw [i3]; exact hft)
    refine ⟨by unfold fv; rw [hft]; simp only [if_neg hne]; rfl, ?_⟩
    subst m2
    exact (hX.2 j).resolve_left hne
  · rename_i a b hft
    exact g_getf (v := .inl (X.1 i f)) hfo hd (fun hX ht => ⟨by unfold fv; rw [hft]; rfl, hX.1 i f⟩) (hK _ _ _ h)
  · rename_i a b hft
    exact g_getf (v := .inl (X.1 i f)) hfo hd (fun hX ht => ⟨by unfold fv; rw [hft]; rfl, hX.1 i f⟩) (hK _ _ _ h)
  · exact h.elim
theorem ex_putfield (hC : CXok C) {k : Nat} (hd : decode C.1.2.1 pc = .ok (.putfield k, 3)) (hK : ∀ lo' st' X', K lo' st' X' → Go w C (pc + 3) lo' st' X' Q) (h : ex1 w C (.putfield k) 3 pc lo st X Q K) : Go w C pc lo st X Q := by
  unfold ex1 at h
  dsimp only at h
  split at h
  case h_2 => exact h.elim
  rename_i c f hf
  have hfo := hC.2.2.1 _ (fnd_mem hf)
  have h8 : c < 8 := by obtain ⟨_, _, _, h1, _⟩ := hfo; exact cl_lt h1
  split at h
  · rename_i a b hft
    obtain ⟨z, c', i, t, hst, h1⟩ := pIR_el h
    subst hst
    obtain ⟨hc, h2⟩ := bif_el h1
    have hc := beq_el hc
    subst hc
    refine g_putf hfo hd (fun hX ht hz => ?_) (fun Cn T N hcf hfN => ?_) (hK _ _ _ h2)
    · obtain ⟨i1, i2, i3⟩ := tok_obj ht h8
      exact ⟨RX_up hX hz, ent_put w X i3 h8 (Or.inl (by rw [hft])), fun j _ _ hj => ent_row w _ _ (up_ne hj) rfl⟩
    · obtain ⟨t1, t2⟩ := (hcf.2.2.2.2 f hfN).1 (by rw [hft])
      exact ⟨t1, .int, t2, rfl, rfl⟩
  · rename_i a b hft
    obtain ⟨z, c', i, t, hst, h1⟩ := pIR_el h
    subst hst
    obtain ⟨hc, hz01, h2⟩ := bif_el h1
    have hc := beq_el hc
    subst hc
    refine g_putf hfo hd (fun hX ht hz => ?_) (fun Cn T N hcf hfN => ?_) (hK _ _ _ h2)
    · obtain ⟨i1, i2, i3⟩ := tok_obj ht h8
      exact ⟨RX_up hX hz, ent_put w X i3 h8 (Or.inr (by rw [hft])), fun j _ _ hj => ent_row w _ _ (up_ne hj) rfl⟩
    · obtain ⟨t1, t2⟩ := (hcf.2.2.2.2 f hfN).2.1 (by rw [hft])
      exact ⟨t1, .boolean, t2, (zo_narrow hz01).1, (zo_narrow hz01).2.1⟩
  · rename_i j tc hft
    obtain ⟨c2, i2, c', i, t, hst, h1⟩ := pRR_el h
    subst hst
    obtain ⟨hc, h2⟩ := bif_el h1
    rw [Bool.and_eq_true] at hc
    obtain ⟨hc, hc2⟩ := hc
    have hc := beq_el hc
    have hc2 := beq_el hc2
    subst hc
    subst hc2
    refine g_putf hfo hd (fun hX ht hv => ?_) (fun Cn T N hcf hfN => ?_) (hK _ _ _ h2)
    · obtain ⟨k1, k2, k3⟩ := tok_obj ht h8
      obtain ⟨-, m2, -⟩ := mut_ok k2 (by rw [k3]; exact h8) (by rw [k3]; exact hft)
      subst m2
      have hv : tok (rcl j) i2 := hv
      have hne : i2 ≠ 0 := by
        rcases hv with ⟨q, -⟩ | ⟨q, -⟩
        · unfold rcl at q; split at q <;> cases q
        · omega
      exact ⟨RX_upr hX hv, ent_putr w X k2 k3 h8 hft hne, fun q _ hq hj => ent_othr w X k2 k3 h8 hft hq hj⟩
    · obtain ⟨t1, nn, t2⟩ := (hcf.2.2.2.2 f hfN).2.2 (by rw [hft])
      exact ⟨t1, .object nn, t2, rfl, rfl⟩
  · exact h.elim
theorem ex_static (hC : CXok C) {k : Nat} (hd : decode C.1.2.1 pc = .ok (.invokestatic k, 3)) (hK : ∀ lo' st' X', K lo' st' X' → Go w C (pc + 3) lo' st' X' Q) (h : ex1 w C (.invokestatic k) 3 pc lo st X Q K) : Go w C pc lo st X Q := by
  unfold ex1 at h
  dsimp only at h
  split at h
  · rename_i hf
    have hs := hC.2.2.2.2.2.1 _ (fnd_mem hf)
    have hs : Cond.methodLink C.1.1.cls k arraycopyName ∈ TB ∧ Cond.native arraycopyName ∈ TB ∧ Cond.static arraycopyName ∈ TB ∧ Cond.initialized "java/lang/System" ∈ TB := by
      rcases hs with ⟨-, h⟩ | ⟨h, -⟩ | ⟨h, -⟩ | ⟨h, -⟩
      · exact h
      · cases h
      · cases h
      · cases h
    split at h
    · rename_i n dp c2 i2 sp c1 i1 t
      obtain ⟨hb, s1, s2, s3, s4, s5, h⟩ := h
      obtain ⟨hb, -⟩ := bif_el hb
      simp only [Bool.and_eq_true, Nat.ble_eq] at hb
      exact g_acopy hd hs hb.1.1.1 hb.1.1.2 hb.1.2 hb.2 s1 s2 s3 s4 s5 (hK _ _ _ h)
    · exact h.elim
  · rename_i hf
    have hs := hC.2.2.2.2.2.1 _ (fnd_mem hf)
    have hs : Cond.methodLink C.1.1.cls k Lib.Math.max.name ∈ TB ∧ Cond.static Lib.Math.max.name ∈ TB ∧ Cond.initialized "java/lang/Math" ∈ TB ∧ Cond.code Lib.Math.max.name Lib.Math.max.code 2 (some .int) ∈ TB := by
      rcases hs with ⟨h, -⟩ | ⟨-, h⟩ | ⟨h, -⟩ | ⟨h, -⟩
      · cases h
      · exact h
      · cases h
      · cases h
    obtain ⟨a, b, t, rfl, h⟩ := pII_el h
    obtain ⟨hb, h⟩ := bif_el h
    simp only [Bool.and_eq_true, Nat.ble_eq] at hb
    exact g_max hd hs hb.1 hb.2 (hK _ _ _ h)
  · rename_i hf
    have hs := hC.2.2.2.2.2.1 _ (fnd_mem hf)
    have hs : Cond.methodLink C.1.1.cls k Lib.Math.min.name ∈ TB ∧ Cond.static Lib.Math.min.name ∈ TB ∧ Cond.initialized "java/lang/Math" ∈ TB ∧ Cond.code Lib.Math.min.name Lib.Math.min.code 2 (some .int) ∈ TB := by
      rcases hs with ⟨h, -⟩ | ⟨h, -⟩ | ⟨-, h⟩ | ⟨h, -⟩
      · cases h
      · cases h
      · exact h
      · cases h
    obtain ⟨a, b, t, rfl, h⟩ := pII_el h
    obtain ⟨hb, h⟩ := bif_el h
    simp only [Bool.and_eq_true, Nat.ble_eq] at hb
    exact g_min hd hs hb.1 hb.2 (hK _ _ _ h)
  · rename_i hf
    have hs := hC.2.2.2.2.2.1 _ (fnd_mem hf)
    have hs : Cond.methodLink C.1.1.cls k Lib.Math.abs.name ∈ TB ∧ Cond.static Lib.Math.abs.name ∈ TB ∧ Cond.initialized "java/lang/Math" ∈ TB ∧ Cond.code Lib.Math.abs.name Lib.Math.abs.code 1 (some .int) ∈ TB := by
      rcases hs with ⟨h, -⟩ | ⟨h, -⟩ | ⟨h, -⟩ | ⟨-, h⟩
      · cases h
      · cases h
      · cases h
      · exact h
    obtain ⟨a, t, rfl, h⟩ := pI_el h
    obtain ⟨hb, h⟩ := bif_el h
    simp only [Bool.and_eq_true, Nat.ble_eq] at hb
    exact g_abs hd hs hb.1 hb.2 (hK _ _ _ h)
  · exact h.elim
  · split at h
    case h_2 => exact h.elim
    rename_i i hf
    obtain ⟨h100, h⟩ := bif_el h
    have h100 := beq_el h100
    exact g_call (hC.2.2.2.1 _ (fnd_mem hf)) (Or.inl ⟨h100, hd⟩) (by rw [if_pos h100]; exact h)
theorem ex_virtual (hC : CXok C) {k : Nat} (hd : decode C.1.2.1 pc = .ok (.invokevirtual k, 3)) (h : ex1 w C (.invokevirtual k) 3 pc lo st X Q K) : Go w C pc lo st X Q := by
  unfold ex1 at h
  dsimp only at h
  split at h
  case h_2 => exact h.elim
  rename_i i hf
  cases hb : Nat.beq i.2.2.2.2.2.2 100 with
  | true => rw [hb] at h; exact h.elim
  | false =>
    rw [hb] at h
    have h100 : i.2.2.2.2.2.2 ≠ 100 := fun q => by rw [q] at hb; cases hb
    exact g_call (hC.2.2.2.1 _ (fnd_mem hf)) (Or.inr ⟨h100, hd⟩) (by rw [if_neg h100]; exact h)
theorem ex_consts (hC : CXok C) {k : Nat} {z : Int} (hf : fnd C.2.2.2.2.1 k = some z) : (Cond.constant C.1.1.cls k (Int32.ofInt z) ∈ TB ∧ inR z) ∨ (Cond.constantLong C.1.1.cls k (Int64.ofInt z) ∈ TB ∧ inL z) := hC.2.2.2.2.1 _ (fnd_mem hf)
end EX
