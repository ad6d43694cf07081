/-! ===== one row an instruction ===== -/
theorem vk_cons {v : V} {st : List V} (h : vok v) (ht : ∀ u ∈ st, vok u) : ∀ u ∈ v :: st, vok u := fun u hu => (List.mem_cons.mp hu).elim (fun e => e ▸ h) (ht u)
theorem vk_tl {v : V} {st : List V} (h : ∀ u ∈ v :: st, vok u) : ∀ u ∈ st, vok u := fun u hu => h u (List.mem_cons_of_mem _ hu)
theorem vk_hd {v : V} {st : List V} (h : ∀ u ∈ v :: st, vok u) : vok v := h v List.mem_cons_self
theorem lol_mem (w : WD) : ∀ (lo : List (Option V)) (i k : Nat) (v : V), lo[k]? = some (some v) → (i + k, vc w v) ∈ lol w i lo
  | [], i, k, v, h => by simp at h
  | none :: t, i, 0, v, h => by simp at h
  | some u :: t, i, 0, v, h => by
    simp at h
    subst h
    exact List.mem_cons_self
  | none :: t, i, k + 1, v, h => by
    have := lol_mem w t (i + 1) k v (by simpa using h)
    rw [show i + (k + 1) = i + 1 + k by omega]
    exact this
  | some u :: t, i, k + 1, v, h => by
    have := lol_mem w t (i + 1) k v (by simpa using h)
    rw [show i + (k + 1) = i + 1 + k by omega]
    exact List.mem_cons_of_mem _ this
theorem lol_inv (w : WD) : ∀ (lo : List (Option V)) (i : Nat) (q : Nat × Value), q ∈ lol w i lo → ∃ (k : Nat) (v : V), q = (i + k, vc w v) ∧ lo[k]? = some (some v)
  | [], i, q, h => by cases h
  | none :: t, i, q, h => by
    obtain ⟨k, v, h1, h2⟩ := lol_inv w t (i + 1) q h
    exact ⟨k + 1, v, by rw [h1, show i + (k + 1) = i + 1 + k by omega], by simpa using h2⟩
  | some u :: t, i, q, h => by
    rcases List.mem_cons.mp h with h | h
    · exact ⟨0, u, h, rfl⟩
    · obtain ⟨k, v, h1, h2⟩ := lol_inv w t (i + 1) q h
      exact ⟨k + 1, v, by rw [h1, show i + (k + 1) = i + 1 + k by omega], by simpa using h2⟩
theorem lol_at {w : WD} {lo : List (Option V)} {ls : Array Slot} {n k : Nat} {v : V} (h : lv_has ls n (lol w 0 lo)) (hk : lo[k]? = some (some v)) : ls[k]? = some (.val (vc w v)) := by
  have := h.2.2 _ (lol_mem w lo 0 k v hk)
  rwa [Nat.zero_add] at this
theorem lo_ok {lo : List (Option V)} {k : Nat} {v : V} (h : ∀ v, some v ∈ lo → vok v) (hk : lo[k]? = some (some v)) : vok v := h v (List.mem_of_getElem? hk)
theorem clr_get {lo : List (Option V)} {i k : Nat} {v : V} (h : (clr lo i)[k]? = some (some v)) : lo[k]? = some (some v) ∧ ¬ (k + 1 = i ∧ cat v = 2) := by
  unfold clr at h
  match i, h with
  | 0, h => exact ⟨h, fun q => by omega⟩
  | i + 1, h =>
    dsimp only at h
    split at h
    · rename_i z hz
      rw [List.getElem?_set] at h
      split at h
      · split at h <;> cases h
      · rename_i hne
        exact ⟨h, fun q => hne (by omega)⟩
    · rename_i hz
      refine ⟨h, fun q => ?_⟩
      have : k = i := by omega
      subst this
      obtain ⟨-, q⟩ := q
      rcases v with v | v | v
      · cases q
      · exact hz v h
      · cases q
theorem sto1_get {lo : List (Option V)} {i k : Nat} {u v : V} (h : (sto1 lo i u)[k]? = some (some v)) : (k = i ∧ v = u) ∨ (k ≠ i ∧ lo[k]? = some (some v) ∧ ¬ (k + 1 = i ∧ cat v = 2)) := by
  unfold sto1 at h
  rw [List.getElem?_set] at h
  split at h
  · rename_i e
    split at h
    · exact Or.inl ⟨e.symm, by cases h; rfl⟩
    · cases h
  · rename_i e
    exact Or.inr ⟨fun q => e q.symm, clr_get h⟩
theorem sto2_get {lo : List (Option V)} {i k : Nat} {u v : V} (h : (sto2 lo i u)[k]? = some (some v)) : (k = i ∧ v = u) ∨ (k ≠ i ∧ k ≠ i + 1 ∧ lo[k]? = some (some v) ∧ ¬ (k + 1 = i ∧ cat v = 2)) := by
  unfold sto2 at h
  rw [List.getElem?_set] at h
  split at h
  · split at h <;> cases h
  · rename_i e
    rcases sto1_get (lo := lo) (i := i) (u := u) h with h | ⟨h1, h2, h3⟩
    · exact Or.inl h
    · exact Or.inr ⟨h1, fun q => e q.symm, h2, h3⟩
theorem cat_vc (w : WD) (v : V) : (vc w v).category = cat v := by rcases v with v | v | v <;> rfl
theorem lol_sto1 {w : WD} {lo : List (Option V)} {ls' : Array Slot} {n i : Nat} {u : V} (h : lv_has ls' n ((i, vc w u) :: (lol w 0 lo).filter (fun q => !(q.1 == i) && !(q.1 + 1 == i && q.2.category == 2)))) : lv_has ls' n (lol w 0 (sto1 lo i u)) := by
  refine ⟨h.1, h.2.1, fun q hq => h.2.2 q ?_⟩
  obtain ⟨k, v, h1, h2⟩ := lol_inv w _ 0 q hq
  rw [Nat.zero_add] at h1
  subst h1
  rcases sto1_get h2 with ⟨rfl, rfl⟩ | ⟨g1, g2, g3⟩
  · exact List.mem_cons_self
  · refine List.mem_cons_of_mem _ (List.mem_filter.mpr ⟨?_, ?_⟩)
    · have := lol_mem w lo 0 k v g2
      rwa [Nat.zero_add] at this
    · simp only [cat_vc, Bool.and_eq_true, Bool.not_eq_true', beq_eq_false_iff_ne, Bool.and_eq_false_iff, ne_eq]
      refine ⟨g1, ?_⟩
      by_cases e : k + 1 = i
      · exact Or.inr (fun q => g3 ⟨e, q⟩)
      · exact Or.inl e
theorem lol_sto2 {w : WD} {lo : List (Option V)} {ls' : Array Slot} {n i : Nat} {u : V} (h : lv_has ls' n ((i, vc w u) :: (lol w 0 lo).filter (fun q => !(q.1 == i) && (!(q.1 == i + 1) && !(q.1 + 1 == i && q.2.category == 2))))) : lv_has ls' n (lol w 0 (sto2 lo i u)) := by
  refine ⟨h.1, h.2.1, fun q hq => h.2.2 q ?_⟩
  obtain ⟨k, v, h1, h2⟩ := lol_inv w _ 0 q hq
  rw [Nat.zero_add] at h1
  subst h1
  rcases sto2_get h2 with ⟨rfl, rfl⟩ | ⟨g1, g0, g2, g3⟩
  · exact List.mem_cons_self
  · refine List.mem_cons_of_mem _ (List.mem_filter.mpr ⟨?_, ?_⟩)
    · have := lol_mem w lo 0 k v g2
      rwa [Nat.zero_add] at this
    · simp only [cat_vc, Bool.and_eq_true, Bool.not_eq_true', beq_eq_false_iff_ne, Bool.and_eq_false_iff, ne_eq]
      refine ⟨g1, g0, ?_⟩
      by_cases e : k + 1 = i
      · exact Or.inr (fun q => g3 ⟨e, q⟩)
      · exact Or.inl e
theorem vk_sto1 {lo : List (Option V)} {i : Nat} {u : V} (h : ∀ v, some v ∈ lo → vok v) (hu : vok u) : ∀ v, some v ∈ sto1 lo i u → vok v := by
  intro v hv
  obtain ⟨k, hk⟩ := List.getElem?_of_mem hv
  rcases sto1_get hk with ⟨-, rfl⟩ | ⟨-, g, -⟩
  · exact hu
  · exact lo_ok h g
theorem vk_sto2 {lo : List (Option V)} {i : Nat} {u : V} (h : ∀ v, some v ∈ lo → vok v) (hu : vok u) : ∀ v, some v ∈ sto2 lo i u → vok v := by
  intro v hv
  obtain ⟨k, hk⟩ := List.getElem?_of_mem hv
  rcases sto2_get hk with ⟨-, rfl⟩ | ⟨-, -, g, -⟩
  · exact hu
  · exact lo_ok h g

theorem oi_neL {b : Int} (h : inL b) (h1 : 0 < b) : ¬ Int64.ofInt b = 0 := by
  intro q
  have e : (Int64.ofInt b).toInt = (0 : Int64).toInt := by rw [q]
  rw [oi_tL h] at e
  change b = 0 at e
  omega
theorem cmp_in (a b : Int) : inR (if a < b then -1 else if a = b then 0 else 1) := by
  split
  · decide
  · split <;> decide
theorem tgt_ok {pc : Nat} {off : Int} (h : nonneg pc off = true) : (pc : Int) + off = (tgt pc off : Int) := by
  have := of_decide_eq_true h
  unfold tgt
  omega
theorem pow_inL : ∀ {k : Nat}, k < 31 → inL (2 ^ k) := fun {k} h => by
  have : ∀ k : Nat, k < 31 → inL ((2 : Int) ^ k) := by decide +kernel
  exact this k h

theorem g_iconst {w : WD} {C : CX} {pc : Nat} {lo : List (Option V)} {st : List V} {X : XS} {Q : Int → XS → Prop} {z : Int} (hd : decode C.1.2.1 pc = .ok (.iconst z, 1)) (hz : inR z) (k : Go w C (pc + 1) lo (.inl (z) :: st) X Q) : Go w C pc lo (st) X Q := by
  intro hst hlo hX p e s m args below meth c H locs ls hM hP hS hl
  obtain ⟨hx, hb, hml, hr, hlk, hown, hts, hK⟩ := id hM
  have k' := k (vk_cons (v := .inl (z)) (hz) hst) hlo hX p e s m args below meth c H locs ls hM hP hS hl
  show W p w.1 e _ s m args below meth c H locs 0 0 _ (F0 m pc ls (st.map (vc w)))
  refine lv_iconst (v := Int32.ofInt z) hx hb hd rfl ?_
  exact k'
theorem g_bipush {w : WD} {C : CX} {pc : Nat} {lo : List (Option V)} {st : List V} {X : XS} {Q : Int → XS → Prop} {z : Int} (hd : decode C.1.2.1 pc = .ok (.bipush z, 2)) (hz : -128 ≤ z ∧ z < 128) (k : Go w C (pc + 2) lo (.inl (z) :: st) X Q) : Go w C pc lo (st) X Q := by
  intro hst hlo hX p e s m args below meth c H locs ls hM hP hS hl
  obtain ⟨hx, hb, hml, hr, hlk, hown, hts, hK⟩ := id hM
  have k' := k (vk_cons (v := .inl (z)) (show inR z from ⟨by omega, by omega⟩) hst) hlo hX p e s m args below meth c H locs ls hM hP hS hl
  show W p w.1 e _ s m args below meth c H locs 0 0 _ (F0 m pc ls (st.map (vc w)))
  refine lv_bipush (v := Int32.ofInt z) hx hb hd (oi_eq (by rw [Int8.toInt_toInt32, Int8.toInt_ofInt_of_le hz.1 hz.2])) ?_
  exact k'
theorem g_sipush {w : WD} {C : CX} {pc : Nat} {lo : List (Option V)} {st : List V} {X : XS} {Q : Int → XS → Prop} {z : Int} (hd : decode C.1.2.1 pc = .ok (.sipush z, 3)) (hz : -32768 ≤ z ∧ z < 32768) (k : Go w C (pc + 3) lo (.inl (z) :: st) X Q) : Go w C pc lo (st) X Q := by
  intro hst hlo hX p e s m args below meth c H locs ls hM hP hS hl
  obtain ⟨hx, hb, hml, hr, hlk, hown, hts, hK⟩ := id hM
  have k' := k (vk_cons (v := .inl (z)) (show inR z from ⟨by omega, by omega⟩) hst) hlo hX p e s m args below meth c H locs ls hM hP hS hl
  show W p w.1 e _ s m args below meth c H locs 0 0 _ (F0 m pc ls (st.map (vc w)))
  refine lv_sipush (v := Int32.ofInt z) hx hb hd (oi_eq (by rw [Int16.toInt_toInt32, Int16.toInt_ofInt_of_le hz.1 hz.2])) ?_
  exact k'
theorem g_lconst {w : WD} {C : CX} {pc : Nat} {lo : List (Option V)} {st : List V} {X : XS} {Q : Int → XS → Prop} {z : Fin 2} (hd : decode C.1.2.1 pc = .ok (.lconst z, 1))  (k : Go w C (pc + 1) lo (.inr (.inl ((z.val : Int))) :: st) X Q) : Go w C pc lo (st) X Q := by
  intro hst hlo hX p e s m args below meth c H locs ls hM hP hS hl
  obtain ⟨hx, hb, hml, hr, hlk, hown, hts, hK⟩ := id hM
  have k' := k (vk_cons (v := .inr (.inl ((z.val : Int)))) (show inL (z.val : Int) from ⟨by omega, by omega⟩) hst) hlo hX p e s m args below meth c H locs ls hM hP hS hl
  show W p w.1 e _ s m args below meth c H locs 0 0 _ (F0 m pc ls (st.map (vc w)))
  refine lv_lconst (v := Int64.ofInt (z.val : Int)) hx hb hd (oi_natL z.val).symm ?_
  exact k'
theorem g_ldcw {w : WD} {C : CX} {pc : Nat} {lo : List (Option V)} {st : List V} {X : XS} {Q : Int → XS → Prop} {j : Nat} {z : Int} (hd : decode C.1.2.1 pc = .ok (.ldc_w j, 3)) (hz : inR z) (hc : Cond.constant C.1.1.cls j (Int32.ofInt z) ∈ TB) (k : Go w C (pc + 3) lo (.inl (z) :: st) X Q) : Go w C pc lo (st) X Q := by
  intro hst hlo hX p e s m args below meth c H locs ls hM hP hS hl
  obtain ⟨hx, hb, hml, hr, hlk, hown, hts, hK⟩ := id hM
  have k' := k (vk_cons (v := .inl (z)) (hz) hst) hlo hX p e s m args below meth c H locs ls hM hP hS hl
  show W p w.1 e _ s m args below meth c H locs 0 0 _ (F0 m pc ls (st.map (vc w)))
  refine lv_ldcw (v := Int32.ofInt z) hx hb hown (hts _ hc) hd ?_
  exact k'
theorem g_ldc2 {w : WD} {C : CX} {pc : Nat} {lo : List (Option V)} {st : List V} {X : XS} {Q : Int → XS → Prop} {j : Nat} {z : Int} (hd : decode C.1.2.1 pc = .ok (.ldc2_w j, 3)) (hz : inL z) (hc : Cond.constantLong C.1.1.cls j (Int64.ofInt z) ∈ TB) (k : Go w C (pc + 3) lo (.inr (.inl (z)) :: st) X Q) : Go w C pc lo (st) X Q := by
  intro hst hlo hX p e s m args below meth c H locs ls hM hP hS hl
  obtain ⟨hx, hb, hml, hr, hlk, hown, hts, hK⟩ := id hM
  have k' := k (vk_cons (v := .inr (.inl (z))) (hz) hst) hlo hX p e s m args below meth c H locs ls hM hP hS hl
  show W p w.1 e _ s m args below meth c H locs 0 0 _ (F0 m pc ls (st.map (vc w)))
  refine lv_ldc2 (v := Int64.ofInt z) hx hb hown (hts _ hc) hd ?_
  exact k'
theorem g_iload {w : WD} {C : CX} {pc : Nat} {lo : List (Option V)} {st : List V} {X : XS} {Q : Int → XS → Prop} {j : Nat} {z : Int} (hd : decode C.1.2.1 pc = .ok (.iload j, 2)) (hj : lo[j]? = some (some (.inl z))) (k : Go w C (pc + 2) lo (.inl (z) :: st) X Q) : Go w C pc lo (st) X Q := by
  intro hst hlo hX p e s m args below meth c H locs ls hM hP hS hl
  obtain ⟨hx, hb, hml, hr, hlk, hown, hts, hK⟩ := id hM
  have k' := k (vk_cons (v := .inl (z)) (lo_ok hlo hj) hst) hlo hX p e s m args below meth c H locs ls hM hP hS hl
  show W p w.1 e _ s m args below meth c H locs 0 0 _ (F0 m pc ls (st.map (vc w)))
  refine lv_iload hx hb hd (lol_at hl hj) ?_
  exact k'
theorem g_iload_n {w : WD} {C : CX} {pc : Nat} {lo : List (Option V)} {st : List V} {X : XS} {Q : Int → XS → Prop} {j : Fin 4} {z : Int} (hd : decode C.1.2.1 pc = .ok (.iload_n j, 1)) (hj : lo[(j : Nat)]? = some (some (.inl z))) (k : Go w C (pc + 1) lo (.inl (z) :: st) X Q) : Go w C pc lo (st) X Q := by
  intro hst hlo hX p e s m args below meth c H locs ls hM hP hS hl
  obtain ⟨hx, hb, hml, hr, hlk, hown, hts, hK⟩ := id hM
  have k' := k (vk_cons (v := .inl (z)) (lo_ok hlo hj) hst) hlo hX p e s m args below meth c H locs ls hM hP hS hl
  show W p w.1 e _ s m args below meth c H locs 0 0 _ (F0 m pc ls (st.map (vc w)))
  refine lv_iload_n hx hb hd rfl (lol_at hl hj) ?_
  exact k'
theorem g_lload {w : WD} {C : CX} {pc : Nat} {lo : List (Option V)} {st : List V} {X : XS} {Q : Int → XS → Prop} {j : Nat} {z : Int} (hd : decode C.1.2.1 pc = .ok (.lload j, 2)) (hj : lo[j]? = some (some (.inr (.inl z)))) (k : Go w C (pc + 2) lo (.inr (.inl (z)) :: st) X Q) : Go w C pc lo (st) X Q := by
  intro hst hlo hX p e s m args below meth c H locs ls hM hP hS hl
  obtain ⟨hx, hb, hml, hr, hlk, hown, hts, hK⟩ := id hM
  have k' := k (vk_cons (v := .inr (.inl (z))) (lo_ok hlo hj) hst) hlo hX p e s m args below meth c H locs ls hM hP hS hl
  show W p w.1 e _ s m args below meth c H locs 0 0 _ (F0 m pc ls (st.map (vc w)))
  refine lv_lload hx hb hd (lol_at hl hj) ?_
  exact k'
theorem g_lload_n {w : WD} {C : CX} {pc : Nat} {lo : List (Option V)} {st : List V} {X : XS} {Q : Int → XS → Prop} {j : Fin 4} {z : Int} (hd : decode C.1.2.1 pc = .ok (.lload_n j, 1)) (hj : lo[(j : Nat)]? = some (some (.inr (.inl z)))) (k : Go w C (pc + 1) lo (.inr (.inl (z)) :: st) X Q) : Go w C pc lo (st) X Q := by
  intro hst hlo hX p e s m args below meth c H locs ls hM hP hS hl
  obtain ⟨hx, hb, hml, hr, hlk, hown, hts, hK⟩ := id hM
  have k' := k (vk_cons (v := .inr (.inl (z))) (lo_ok hlo hj) hst) hlo hX p e s m args below meth c H locs ls hM hP hS hl
  show W p w.1 e _ s m args below meth c H locs 0 0 _ (F0 m pc ls (st.map (vc w)))
  refine lv_lload_n hx hb hd rfl (lol_at hl hj) ?_
  exact k'
theorem g_aload {w : WD} {C : CX} {pc : Nat} {lo : List (Option V)} {st : List V} {X : XS} {Q : Int → XS → Prop} {j : Nat} {r : Nat × Nat} (hd : decode C.1.2.1 pc = .ok (.aload j, 2)) (hj : lo[j]? = some (some (.inr (.inr r)))) (k : Go w C (pc + 2) lo (.inr (.inr (r)) :: st) X Q) : Go w C pc lo (st) X Q := by
  intro hst hlo hX p e s m args below meth c H locs ls hM hP hS hl
  obtain ⟨hx, hb, hml, hr, hlk, hown, hts, hK⟩ := id hM
  have k' := k (vk_cons (v := .inr (.inr (r))) (lo_ok hlo hj) hst) hlo hX p e s m args below meth c H locs ls hM hP hS hl
  show W p w.1 e _ s m args below meth c H locs 0 0 _ (F0 m pc ls (st.map (vc w)))
  refine lv_aload hx hb hd (lol_at hl hj) ?_
  exact k'
theorem g_aload_n {w : WD} {C : CX} {pc : Nat} {lo : List (Option V)} {st : List V} {X : XS} {Q : Int → XS → Prop} {j : Fin 4} {r : Nat × Nat} (hd : decode C.1.2.1 pc = .ok (.aload_n j, 1)) (hj : lo[(j : Nat)]? = some (some (.inr (.inr r)))) (k : Go w C (pc + 1) lo (.inr (.inr (r)) :: st) X Q) : Go w C pc lo (st) X Q := by
  intro hst hlo hX p e s m args below meth c H locs ls hM hP hS hl
  obtain ⟨hx, hb, hml, hr, hlk, hown, hts, hK⟩ := id hM
  have k' := k (vk_cons (v := .inr (.inr (r))) (lo_ok hlo hj) hst) hlo hX p e s m args below meth c H locs ls hM hP hS hl
  show W p w.1 e _ s m args below meth c H locs 0 0 _ (F0 m pc ls (st.map (vc w)))
  refine lv_aload_n hx hb hd rfl (lol_at hl hj) ?_
  exact k'
theorem g_istore {w : WD} {C : CX} {pc : Nat} {lo : List (Option V)} {st : List V} {X : XS} {Q : Int → XS → Prop} {j : Nat} {z : Int} (hd : decode C.1.2.1 pc = .ok (.istore j, 2)) (hj : (j : Nat) < C.1.2.2.1) (k : Go w C (pc + 2) (sto1 lo (j : Nat) (.inl z)) st X Q) : Go w C pc lo (.inl z :: st) X Q := by
  intro hst hlo hX p e s m args below meth c H locs ls hM hP hS hl
  obtain ⟨hx, hb, hml, hr, hlk, hown, hts, hK⟩ := id hM
  show W p w.1 e _ s m args below meth c H locs 0 0 _ (F0 m pc ls (.int (Int32.ofInt z) :: st.map (vc w)))
  refine lv_istore hx hb hd hl hj rfl (fun ls' hl' => ?_)
  exact k (vk_tl hst) (vk_sto1 hlo (vk_hd hst)) hX p e s m args below meth c H locs ls' hM hP hS (lol_sto1 (u := .inl z) hl')
theorem g_istore_n {w : WD} {C : CX} {pc : Nat} {lo : List (Option V)} {st : List V} {X : XS} {Q : Int → XS → Prop} {j : Fin 4} {z : Int} (hd : decode C.1.2.1 pc = .ok (.istore_n j, 1)) (hj : (j : Nat) < C.1.2.2.1) (k : Go w C (pc + 1) (sto1 lo (j : Nat) (.inl z)) st X Q) : Go w C pc lo (.inl z :: st) X Q := by
  intro hst hlo hX p e s m args below meth c H locs ls hM hP hS hl
  obtain ⟨hx, hb, hml, hr, hlk, hown, hts, hK⟩ := id hM
  show W p w.1 e _ s m args below meth c H locs 0 0 _ (F0 m pc ls (.int (Int32.ofInt z) :: st.map (vc w)))
  refine lv_istore_n hx hb hd rfl hl hj rfl (fun ls' hl' => ?_)
  exact k (vk_tl hst) (vk_sto1 hlo (vk_hd hst)) hX p e s m args below meth c H locs ls' hM hP hS (lol_sto1 (u := .inl z) hl')
theorem g_lstore {w : WD} {C : CX} {pc : Nat} {lo : List (Option V)} {st : List V} {X : XS} {Q : Int → XS → Prop} {j : Nat} {z : Int} (hd : decode C.1.2.1 pc = .ok (.lstore j, 2)) (hj : (j : Nat) + 1 < C.1.2.2.1) (k : Go w C (pc + 2) (sto2 lo (j : Nat) (.inr (.inl z))) st X Q) : Go w C pc lo (.inr (.inl z) :: st) X Q := by
  intro hst hlo hX p e s m args below meth c H locs ls hM hP hS hl
  obtain ⟨hx, hb, hml, hr, hlk, hown, hts, hK⟩ := id hM
  show W p w.1 e _ s m args below meth c H locs 0 0 _ (F0 m pc ls (.long (Int64.ofInt z) :: st.map (vc w)))
  refine lv_lstore hx hb hd hl hj rfl (fun ls' hl' => ?_)
  exact k (vk_tl hst) (vk_sto2 hlo (vk_hd hst)) hX p e s m args below meth c H locs ls' hM hP hS (lol_sto2 (u := .inr (.inl z)) hl')
theorem g_lstore_n {w : WD} {C : CX} {pc : Nat} {lo : List (Option V)} {st : List V} {X : XS} {Q : Int → XS → Prop} {j : Fin 4} {z : Int} (hd : decode C.1.2.1 pc = .ok (.lstore_n j, 1)) (hj : (j : Nat) + 1 < C.1.2.2.1) (k : Go w C (pc + 1) (sto2 lo (j : Nat) (.inr (.inl z))) st X Q) : Go w C pc lo (.inr (.inl z) :: st) X Q := by
  intro hst hlo hX p e s m args below meth c H locs ls hM hP hS hl
  obtain ⟨hx, hb, hml, hr, hlk, hown, hts, hK⟩ := id hM
  show W p w.1 e _ s m args below meth c H locs 0 0 _ (F0 m pc ls (.long (Int64.ofInt z) :: st.map (vc w)))
  refine lv_lstore_n hx hb hd rfl hl hj rfl (fun ls' hl' => ?_)
  exact k (vk_tl hst) (vk_sto2 hlo (vk_hd hst)) hX p e s m args below meth c H locs ls' hM hP hS (lol_sto2 (u := .inr (.inl z)) hl')
theorem g_astore {w : WD} {C : CX} {pc : Nat} {lo : List (Option V)} {st : List V} {X : XS} {Q : Int → XS → Prop} {j : Nat} {z : Nat × Nat} (hd : decode C.1.2.1 pc = .ok (.astore j, 2)) (hj : (j : Nat) < C.1.2.2.1) (k : Go w C (pc + 2) (sto1 lo (j : Nat) (.inr (.inr z))) st X Q) : Go w C pc lo (.inr (.inr z) :: st) X Q := by
  intro hst hlo hX p e s m args below meth c H locs ls hM hP hS hl
  obtain ⟨hx, hb, hml, hr, hlk, hown, hts, hK⟩ := id hM
  show W p w.1 e _ s m args below meth c H locs 0 0 _ (F0 m pc ls (.ref (wAd w z.2) :: st.map (vc w)))
  refine lv_astore hx hb hd hl hj rfl (fun ls' hl' => ?_)
  exact k (vk_tl hst) (vk_sto1 hlo (vk_hd hst)) hX p e s m args below meth c H locs ls' hM hP hS (lol_sto1 (u := .inr (.inr z)) hl')
theorem g_astore_n {w : WD} {C : CX} {pc : Nat} {lo : List (Option V)} {st : List V} {X : XS} {Q : Int → XS → Prop} {j : Fin 4} {z : Nat × Nat} (hd : decode C.1.2.1 pc = .ok (.astore_n j, 1)) (hj : (j : Nat) < C.1.2.2.1) (k : Go w C (pc + 1) (sto1 lo (j : Nat) (.inr (.inr z))) st X Q) : Go w C pc lo (.inr (.inr z) :: st) X Q := by
  intro hst hlo hX p e s m args below meth c H locs ls hM hP hS hl
  obtain ⟨hx, hb, hml, hr, hlk, hown, hts, hK⟩ := id hM
  show W p w.1 e _ s m args below meth c H locs 0 0 _ (F0 m pc ls (.ref (wAd w z.2) :: st.map (vc w)))
  refine lv_astore_n hx hb hd rfl hl hj rfl (fun ls' hl' => ?_)
  exact k (vk_tl hst) (vk_sto1 hlo (vk_hd hst)) hX p e s m args below meth c H locs ls' hM hP hS (lol_sto1 (u := .inr (.inr z)) hl')
theorem g_iinc {w : WD} {C : CX} {pc : Nat} {lo : List (Option V)} {st : List V} {X : XS} {Q : Int → XS → Prop} {j : Nat} {d z : Int} (hd : decode C.1.2.1 pc = .ok (.iinc j d, 3)) (hj : j < C.1.2.2.1) (hg : lo[j]? = some (some (.inl z))) (k : Go w C (pc + 3) (sto1 lo j (.inl (wr (z + d)))) st X Q) : Go w C pc lo st X Q := by
  intro hst hlo hX p e s m args below meth c H locs ls hM hP hS hl
  obtain ⟨hx, hb, hml, hr, hlk, hown, hts, hK⟩ := id hM
  obtain ⟨kk, hkk⟩ := List.getElem?_of_mem (lol_mem w lo 0 j (.inl z) hg)
  rw [Nat.zero_add] at hkk
  refine lv_iinc (v := Int32.ofInt (wr (z + d))) hx hb hd hl hkk (by rw [← oi_add]) hj rfl (fun ls' hl' => ?_)
  exact k hst (vk_sto1 hlo (wr_in _)) hX p e s m args below meth c H locs ls' hM hP hS (lol_sto1 (u := .inl (wr (z + d))) hl')
theorem g_iadd {w : WD} {C : CX} {pc : Nat} {lo : List (Option V)} {st : List V} {X : XS} {Q : Int → XS → Prop} {a b : Int} (hd : decode C.1.2.1 pc = .ok (.iadd, 1))  (k : Go w C (pc + 1) lo (.inl (wr (a + b)) :: st) X Q) : Go w C pc lo (.inl (b) :: .inl (a) :: st) X Q := by
  intro hst hlo hX p e s m args below meth c H locs ls hM hP hS hl
  obtain ⟨hx, hb, hml, hr, hlk, hown, hts, hK⟩ := id hM
  have f0 : inR (b) := vk_hd hst
  have f1 : inR (a) := vk_hd (vk_tl hst)
  have k' := k (vk_cons (v := .inl (wr (a + b))) (wr_in _) (vk_tl (vk_tl hst))) hlo hX p e s m args below meth c H locs ls hM hP hS hl
  show W p w.1 e _ s m args below meth c H locs 0 0 _ (F0 m pc ls (.int (Int32.ofInt (b)) :: .int (Int32.ofInt (a)) :: st.map (vc w)))
  refine lv_iadd hx hb hd ?_
  rw [oi_add]
  exact k'
theorem g_isub {w : WD} {C : CX} {pc : Nat} {lo : List (Option V)} {st : List V} {X : XS} {Q : Int → XS → Prop} {a b : Int} (hd : decode C.1.2.1 pc = .ok (.isub, 1))  (k : Go w C (pc + 1) lo (.inl (wr (a - b)) :: st) X Q) : Go w C pc lo (.inl (b) :: .inl (a) :: st) X Q := by
  intro hst hlo hX p e s m args below meth c H locs ls hM hP hS hl
  obtain ⟨hx, hb, hml, hr, hlk, hown, hts, hK⟩ := id hM
  have f0 : inR (b) := vk_hd hst
  have f1 : inR (a) := vk_hd (vk_tl hst)
  have k' := k (vk_cons (v := .inl (wr (a - b))) (wr_in _) (vk_tl (vk_tl hst))) hlo hX p e s m args below meth c H locs ls hM hP hS hl
  show W p w.1 e _ s m args below meth c H locs 0 0 _ (F0 m pc ls (.int (Int32.ofInt (b)) :: .int (Int32.ofInt (a)) :: st.map (vc w)))
  refine lv_isub hx hb hd ?_
  rw [oi_sub]
  exact k'
theorem g_imul {w : WD} {C : CX} {pc : Nat} {lo : List (Option V)} {st : List V} {X : XS} {Q : Int → XS → Prop} {a b : Int} (hd : decode C.1.2.1 pc = .ok (.imul, 1))  (k : Go w C (pc + 1) lo (.inl (wr (a * b)) :: st) X Q) : Go w C pc lo (.inl (b) :: .inl (a) :: st) X Q := by
  intro hst hlo hX p e s m args below meth c H locs ls hM hP hS hl
  obtain ⟨hx, hb, hml, hr, hlk, hown, hts, hK⟩ := id hM
  have f0 : inR (b) := vk_hd hst
  have f1 : inR (a) := vk_hd (vk_tl hst)
  have k' := k (vk_cons (v := .inl (wr (a * b))) (wr_in _) (vk_tl (vk_tl hst))) hlo hX p e s m args below meth c H locs ls hM hP hS hl
  show W p w.1 e _ s m args below meth c H locs 0 0 _ (F0 m pc ls (.int (Int32.ofInt (b)) :: .int (Int32.ofInt (a)) :: st.map (vc w)))
  refine lv_imul hx hb hd ?_
  rw [oi_mul]
  exact k'
theorem g_ineg {w : WD} {C : CX} {pc : Nat} {lo : List (Option V)} {st : List V} {X : XS} {Q : Int → XS → Prop} {a : Int} (hd : decode C.1.2.1 pc = .ok (.ineg, 1))  (k : Go w C (pc + 1) lo (.inl (wr (-a)) :: st) X Q) : Go w C pc lo (.inl (a) :: st) X Q := by
  intro hst hlo hX p e s m args below meth c H locs ls hM hP hS hl
  obtain ⟨hx, hb, hml, hr, hlk, hown, hts, hK⟩ := id hM
  have f0 : inR (a) := vk_hd hst
  have k' := k (vk_cons (v := .inl (wr (-a))) (wr_in _) (vk_tl hst)) hlo hX p e s m args below meth c H locs ls hM hP hS hl
  show W p w.1 e _ s m args below meth c H locs 0 0 _ (F0 m pc ls (.int (Int32.ofInt (a)) :: st.map (vc w)))
  refine lv_ineg hx hb hd ?_
  rw [oi_neg]
  exact k'
theorem g_iand {w : WD} {C : CX} {pc : Nat} {lo : List (Option V)} {st : List V} {X : XS} {Q : Int → XS → Prop} {a b : Int} (hd : decode C.1.2.1 pc = .ok (.iand, 1))  (k : Go w C (pc + 1) lo (.inl (ia a b) :: st) X Q) : Go w C pc lo (.inl (b) :: .inl (a) :: st) X Q := by
  intro hst hlo hX p e s m args below meth c H locs ls hM hP hS hl
  obtain ⟨hx, hb, hml, hr, hlk, hown, hts, hK⟩ := id hM
  have f0 : inR (b) := vk_hd hst
  have f1 : inR (a) := vk_hd (vk_tl hst)
  have k' := k (vk_cons (v := .inl (ia a b)) (ia_in _ _) (vk_tl (vk_tl hst))) hlo hX p e s m args below meth c H locs ls hM hP hS hl
  show W p w.1 e _ s m args below meth c H locs 0 0 _ (F0 m pc ls (.int (Int32.ofInt (b)) :: .int (Int32.ofInt (a)) :: st.map (vc w)))
  refine lv_iand hx hb hd ?_
  rw [oi_ia]
  exact k'
theorem g_ior {w : WD} {C : CX} {pc : Nat} {lo : List (Option V)} {st : List V} {X : XS} {Q : Int → XS → Prop} {a b : Int} (hd : decode C.1.2.1 pc = .ok (.ior, 1))  (k : Go w C (pc + 1) lo (.inl (io a b) :: st) X Q) : Go w C pc lo (.inl (b) :: .inl (a) :: st) X Q := by
  intro hst hlo hX p e s m args below meth c H locs ls hM hP hS hl
  obtain ⟨hx, hb, hml, hr, hlk, hown, hts, hK⟩ := id hM
  have f0 : inR (b) := vk_hd hst
  have f1 : inR (a) := vk_hd (vk_tl hst)
  have k' := k (vk_cons (v := .inl (io a b)) (io_in _ _) (vk_tl (vk_tl hst))) hlo hX p e s m args below meth c H locs ls hM hP hS hl
  show W p w.1 e _ s m args below meth c H locs 0 0 _ (F0 m pc ls (.int (Int32.ofInt (b)) :: .int (Int32.ofInt (a)) :: st.map (vc w)))
  refine lv_ior hx hb hd ?_
  rw [oi_io]
  exact k'
theorem g_ixor {w : WD} {C : CX} {pc : Nat} {lo : List (Option V)} {st : List V} {X : XS} {Q : Int → XS → Prop} {a b : Int} (hd : decode C.1.2.1 pc = .ok (.ixor, 1))  (k : Go w C (pc + 1) lo (.inl (ix a b) :: st) X Q) : Go w C pc lo (.inl (b) :: .inl (a) :: st) X Q := by
  intro hst hlo hX p e s m args below meth c H locs ls hM hP hS hl
  obtain ⟨hx, hb, hml, hr, hlk, hown, hts, hK⟩ := id hM
  have f0 : inR (b) := vk_hd hst
  have f1 : inR (a) := vk_hd (vk_tl hst)
  have k' := k (vk_cons (v := .inl (ix a b)) (ix_in _ _) (vk_tl (vk_tl hst))) hlo hX p e s m args below meth c H locs ls hM hP hS hl
  show W p w.1 e _ s m args below meth c H locs 0 0 _ (F0 m pc ls (.int (Int32.ofInt (b)) :: .int (Int32.ofInt (a)) :: st.map (vc w)))
  refine lv_ixor hx hb hd ?_
  rw [oi_ix]
  exact k'
theorem g_iushr {w : WD} {C : CX} {pc : Nat} {lo : List (Option V)} {st : List V} {X : XS} {Q : Int → XS → Prop} {a b : Int} (hd : decode C.1.2.1 pc = .ok (.iushr, 1))  (k : Go w C (pc + 1) lo (.inl (iu a b) :: st) X Q) : Go w C pc lo (.inl (b) :: .inl (a) :: st) X Q := by
  intro hst hlo hX p e s m args below meth c H locs ls hM hP hS hl
  obtain ⟨hx, hb, hml, hr, hlk, hown, hts, hK⟩ := id hM
  have f0 : inR (b) := vk_hd hst
  have f1 : inR (a) := vk_hd (vk_tl hst)
  have k' := k (vk_cons (v := .inl (iu a b)) (iu_in _ _) (vk_tl (vk_tl hst))) hlo hX p e s m args below meth c H locs ls hM hP hS hl
  show W p w.1 e _ s m args below meth c H locs 0 0 _ (F0 m pc ls (.int (Int32.ofInt (b)) :: .int (Int32.ofInt (a)) :: st.map (vc w)))
  refine lv_iushr (v := Int32.ofInt (iu a b)) hx hb hd (oi_iu a b) ?_
  exact k'
theorem g_idiv {w : WD} {C : CX} {pc : Nat} {lo : List (Option V)} {st : List V} {X : XS} {Q : Int → XS → Prop} {a b : Int} (hd : decode C.1.2.1 pc = .ok (.idiv, 1)) (h0 : 0 ≤ a) (h1 : 0 < b) (k : Go w C (pc + 1) lo (.inl (a / b) :: st) X Q) : Go w C pc lo (.inl (b) :: .inl (a) :: st) X Q := by
  intro hst hlo hX p e s m args below meth c H locs ls hM hP hS hl
  obtain ⟨hx, hb, hml, hr, hlk, hown, hts, hK⟩ := id hM
  have f0 : inR (b) := vk_hd hst
  have f1 : inR (a) := vk_hd (vk_tl hst)
  have k' := k (vk_cons (v := .inl (a / b)) (show inR (a / b) from ⟨by have := Int.ediv_nonneg h0 (Int.le_of_lt h1); omega, by have := Int.ediv_le_self b h0; omega⟩) (vk_tl (vk_tl hst))) hlo hX p e s m args below meth c H locs ls hM hP hS hl
  show W p w.1 e _ s m args below meth c H locs 0 0 _ (F0 m pc ls (.int (Int32.ofInt (b)) :: .int (Int32.ofInt (a)) :: st.map (vc w)))
  refine lv_idiv hx hb hd (fun q => absurd ((oi_e f0 oi_0).mp q) (by omega)) ?_
  rw [(oi_div f1 f0 h0 h1).1]
  exact k'
theorem g_irem {w : WD} {C : CX} {pc : Nat} {lo : List (Option V)} {st : List V} {X : XS} {Q : Int → XS → Prop} {a b : Int} (hd : decode C.1.2.1 pc = .ok (.irem, 1)) (h0 : 0 ≤ a) (h1 : 0 < b) (k : Go w C (pc + 1) lo (.inl (a % b) :: st) X Q) : Go w C pc lo (.inl (b) :: .inl (a) :: st) X Q := by
  intro hst hlo hX p e s m args below meth c H locs ls hM hP hS hl
  obtain ⟨hx, hb, hml, hr, hlk, hown, hts, hK⟩ := id hM
  have f0 : inR (b) := vk_hd hst
  have f1 : inR (a) := vk_hd (vk_tl hst)
  have k' := k (vk_cons (v := .inl (a % b)) (show inR (a % b) from ⟨by have := Int.emod_nonneg a (Int.ne_of_gt h1); omega, by have := Int.emod_lt_of_pos a h1; omega⟩) (vk_tl (vk_tl hst))) hlo hX p e s m args below meth c H locs ls hM hP hS hl
  show W p w.1 e _ s m args below meth c H locs 0 0 _ (F0 m pc ls (.int (Int32.ofInt (b)) :: .int (Int32.ofInt (a)) :: st.map (vc w)))
  refine lv_irem hx hb hd (fun q => absurd ((oi_e f0 oi_0).mp q) (by omega)) ?_
  rw [(oi_div f1 f0 h0 h1).2]
  exact k'
theorem g_ldiv {w : WD} {C : CX} {pc : Nat} {lo : List (Option V)} {st : List V} {X : XS} {Q : Int → XS → Prop} {a b : Int} (hd : decode C.1.2.1 pc = .ok (.ldiv, 1)) (h0 : 0 ≤ a) (h1 : 0 < b) (k : Go w C (pc + 1) lo (.inr (.inl (a / b)) :: st) X Q) : Go w C pc lo (.inr (.inl (b)) :: .inr (.inl (a)) :: st) X Q := by
  intro hst hlo hX p e s m args below meth c H locs ls hM hP hS hl
  obtain ⟨hx, hb, hml, hr, hlk, hown, hts, hK⟩ := id hM
  have f0 : inL (b) := vk_hd hst
  have f1 : inL (a) := vk_hd (vk_tl hst)
  have k' := k (vk_cons (v := .inr (.inl (a / b))) (show inL (a / b) from ⟨by have := Int.ediv_nonneg h0 (Int.le_of_lt h1); omega, by have := Int.ediv_le_self b h0; omega⟩) (vk_tl (vk_tl hst))) hlo hX p e s m args below meth c H locs ls hM hP hS hl
  show W p w.1 e _ s m args below meth c H locs 0 0 _ (F0 m pc ls (.long (Int64.ofInt (b)) :: .long (Int64.ofInt (a)) :: st.map (vc w)))
  refine lv_ldiv hx hb hd (oi_neL f0 h1) ?_
  rw [(oi_divL f1 f0 h0 h1).1]
  exact k'
theorem g_lrem {w : WD} {C : CX} {pc : Nat} {lo : List (Option V)} {st : List V} {X : XS} {Q : Int → XS → Prop} {a b : Int} (hd : decode C.1.2.1 pc = .ok (.lrem, 1)) (h0 : 0 ≤ a) (h1 : 0 < b) (k : Go w C (pc + 1) lo (.inr (.inl (a % b)) :: st) X Q) : Go w C pc lo (.inr (.inl (b)) :: .inr (.inl (a)) :: st) X Q := by
  intro hst hlo hX p e s m args below meth c H locs ls hM hP hS hl
  obtain ⟨hx, hb, hml, hr, hlk, hown, hts, hK⟩ := id hM
  have f0 : inL (b) := vk_hd hst
  have f1 : inL (a) := vk_hd (vk_tl hst)
  have k' := k (vk_cons (v := .inr (.inl (a % b))) (show inL (a % b) from ⟨by have := Int.emod_nonneg a (Int.ne_of_gt h1); omega, by have := Int.emod_lt_of_pos a h1; omega⟩) (vk_tl (vk_tl hst))) hlo hX p e s m args below meth c H locs ls hM hP hS hl
  show W p w.1 e _ s m args below meth c H locs 0 0 _ (F0 m pc ls (.long (Int64.ofInt (b)) :: .long (Int64.ofInt (a)) :: st.map (vc w)))
  refine lv_lrem hx hb hd (oi_neL f0 h1) ?_
  rw [(oi_divL f1 f0 h0 h1).2]
  exact k'
theorem g_ishl {w : WD} {C : CX} {pc : Nat} {lo : List (Option V)} {st : List V} {X : XS} {Q : Int → XS → Prop} {a b : Int} (hd : decode C.1.2.1 pc = .ok (.ishl, 1)) (h0 : 0 ≤ b) (h1 : b < 32) (k : Go w C (pc + 1) lo (.inl (wr (a * 2 ^ b.toNat)) :: st) X Q) : Go w C pc lo (.inl (b) :: .inl (a) :: st) X Q := by
  intro hst hlo hX p e s m args below meth c H locs ls hM hP hS hl
  obtain ⟨hx, hb, hml, hr, hlk, hown, hts, hK⟩ := id hM
  have f0 : inR (b) := vk_hd hst
  have f1 : inR (a) := vk_hd (vk_tl hst)
  have k' := k (vk_cons (v := .inl (wr (a * 2 ^ b.toNat))) (wr_in _) (vk_tl (vk_tl hst))) hlo hX p e s m args below meth c H locs ls hM hP hS hl
  show W p w.1 e _ s m args below meth c H locs 0 0 _ (F0 m pc ls (.int (Int32.ofInt (b)) :: .int (Int32.ofInt (a)) :: st.map (vc w)))
  refine lv_ishl hx hb hd ?_
  rw [oi_shl h0 h1]
  exact k'
theorem g_ishr {w : WD} {C : CX} {pc : Nat} {lo : List (Option V)} {st : List V} {X : XS} {Q : Int → XS → Prop} {a b : Int} (hd : decode C.1.2.1 pc = .ok (.ishr, 1)) (h0 : 0 ≤ b) (h1 : b < 32) (k : Go w C (pc + 1) lo (.inl (a / 2 ^ b.toNat) :: st) X Q) : Go w C pc lo (.inl (b) :: .inl (a) :: st) X Q := by
  intro hst hlo hX p e s m args below meth c H locs ls hM hP hS hl
  obtain ⟨hx, hb, hml, hr, hlk, hown, hts, hK⟩ := id hM
  have f0 : inR (b) := vk_hd hst
  have f1 : inR (a) := vk_hd (vk_tl hst)
  have k' := k (vk_cons (v := .inl (a / 2 ^ b.toNat)) ((oi_shr f1 h0 h1).2) (vk_tl (vk_tl hst))) hlo hX p e s m args below meth c H locs ls hM hP hS hl
  show W p w.1 e _ s m args below meth c H locs 0 0 _ (F0 m pc ls (.int (Int32.ofInt (b)) :: .int (Int32.ofInt (a)) :: st.map (vc w)))
  refine lv_ishr hx hb hd ?_
  rw [(oi_shr f1 h0 h1).1]
  exact k'
theorem g_i2l {w : WD} {C : CX} {pc : Nat} {lo : List (Option V)} {st : List V} {X : XS} {Q : Int → XS → Prop} {a : Int} (hd : decode C.1.2.1 pc = .ok (.i2l, 1))  (k : Go w C (pc + 1) lo (.inr (.inl (a)) :: st) X Q) : Go w C pc lo (.inl (a) :: st) X Q := by
  intro hst hlo hX p e s m args below meth c H locs ls hM hP hS hl
  obtain ⟨hx, hb, hml, hr, hlk, hown, hts, hK⟩ := id hM
  have f0 : inR (a) := vk_hd hst
  have k' := k (vk_cons (v := .inr (.inl (a))) (show inL a from ⟨by omega, by omega⟩) (vk_tl hst)) hlo hX p e s m args below meth c H locs ls hM hP hS hl
  show W p w.1 e _ s m args below meth c H locs 0 0 _ (F0 m pc ls (.int (Int32.ofInt (a)) :: st.map (vc w)))
  refine lv_i2l hx hb hd (oi_i2l f0) ?_
  exact k'
theorem g_i2b {w : WD} {C : CX} {pc : Nat} {lo : List (Option V)} {st : List V} {X : XS} {Q : Int → XS → Prop} {a : Int} (hd : decode C.1.2.1 pc = .ok (.i2b, 1))  (k : Go w C (pc + 1) lo (.inl (nb a) :: st) X Q) : Go w C pc lo (.inl (a) :: st) X Q := by
  intro hst hlo hX p e s m args below meth c H locs ls hM hP hS hl
  obtain ⟨hx, hb, hml, hr, hlk, hown, hts, hK⟩ := id hM
  have f0 : inR (a) := vk_hd hst
  have k' := k (vk_cons (v := .inl (nb a)) (nb_in a) (vk_tl hst)) hlo hX p e s m args below meth c H locs ls hM hP hS hl
  show W p w.1 e _ s m args below meth c H locs 0 0 _ (F0 m pc ls (.int (Int32.ofInt (a)) :: st.map (vc w)))
  refine lv_i2b hx hb hd (oi_i2b a) ?_
  exact k'
theorem g_i2s {w : WD} {C : CX} {pc : Nat} {lo : List (Option V)} {st : List V} {X : XS} {Q : Int → XS → Prop} {a : Int} (hd : decode C.1.2.1 pc = .ok (.i2s, 1))  (k : Go w C (pc + 1) lo (.inl (ns a) :: st) X Q) : Go w C pc lo (.inl (a) :: st) X Q := by
  intro hst hlo hX p e s m args below meth c H locs ls hM hP hS hl
  obtain ⟨hx, hb, hml, hr, hlk, hown, hts, hK⟩ := id hM
  have f0 : inR (a) := vk_hd hst
  have k' := k (vk_cons (v := .inl (ns a)) (ns_in a) (vk_tl hst)) hlo hX p e s m args below meth c H locs ls hM hP hS hl
  show W p w.1 e _ s m args below meth c H locs 0 0 _ (F0 m pc ls (.int (Int32.ofInt (a)) :: st.map (vc w)))
  refine lv_i2s hx hb hd (oi_i2s a) ?_
  exact k'
theorem g_lcmp {w : WD} {C : CX} {pc : Nat} {lo : List (Option V)} {st : List V} {X : XS} {Q : Int → XS → Prop} {a b : Int} (hd : decode C.1.2.1 pc = .ok (.lcmp, 1))  (k : Go w C (pc + 1) lo (.inl (if a < b then -1 else if a = b then 0 else 1) :: st) X Q) : Go w C pc lo (.inr (.inl (b)) :: .inr (.inl (a)) :: st) X Q := by
  intro hst hlo hX p e s m args below meth c H locs ls hM hP hS hl
  obtain ⟨hx, hb, hml, hr, hlk, hown, hts, hK⟩ := id hM
  have f0 : inL (b) := vk_hd hst
  have f1 : inL (a) := vk_hd (vk_tl hst)
  have k' := k (vk_cons (v := .inl (if a < b then -1 else if a = b then 0 else 1)) (cmp_in a b) (vk_tl (vk_tl hst))) hlo hX p e s m args below meth c H locs ls hM hP hS hl
  show W p w.1 e _ s m args below meth c H locs 0 0 _ (F0 m pc ls (.long (Int64.ofInt (b)) :: .long (Int64.ofInt (a)) :: st.map (vc w)))
  refine W.lcmp hx hb hd ?_
  rw [oi_cmp f1 f0]
  exact k'
theorem g_lshl {w : WD} {C : CX} {pc : Nat} {lo : List (Option V)} {st : List V} {X : XS} {Q : Int → XS → Prop} {b : Int} (hd : decode C.1.2.1 pc = .ok (.lshl, 1)) (h0 : 0 ≤ b) (h1 : b < 31) (k : Go w C (pc + 1) lo (.inr (.inl (2 ^ b.toNat)) :: st) X Q) : Go w C pc lo (.inl (b) :: .inr (.inl (1)) :: st) X Q := by
  intro hst hlo hX p e s m args below meth c H locs ls hM hP hS hl
  obtain ⟨hx, hb, hml, hr, hlk, hown, hts, hK⟩ := id hM
  have f0 : inR (b) := vk_hd hst
  have f1 : inL (1) := vk_hd (vk_tl hst)
  have k' := k (vk_cons (v := .inr (.inl (2 ^ b.toNat))) (show inL (2 ^ b.toNat) from pow_inL (by omega)) (vk_tl (vk_tl hst))) hlo hX p e s m args below meth c H locs ls hM hP hS hl
  show W p w.1 e _ s m args below meth c H locs 0 0 _ (F0 m pc ls (.int (Int32.ofInt (b)) :: .long (Int64.ofInt (1)) :: st.map (vc w)))
  refine lv_lshl hx hb hd (oi_lshl h0 h1) ?_
  exact k'
theorem g_dup {w : WD} {C : CX} {pc : Nat} {lo : List (Option V)} {st : List V} {X : XS} {Q : Int → XS → Prop} {v : V} (hd : decode C.1.2.1 pc = .ok (.dup, 1)) (hv : cat v = 1) (k : Go w C (pc + 1) lo (v :: v :: st) X Q) : Go w C pc lo (v :: st) X Q := by
  intro hst hlo hX p e s m args below meth c H locs ls hM hP hS hl
  obtain ⟨hx, hb, hml, hr, hlk, hown, hts, hK⟩ := id hM
  have f0 : vok (v) := vk_hd hst
  have k' := k (vk_cons (v := v) (f0) (vk_cons (v := v) (f0) (vk_tl hst))) hlo hX p e s m args below meth c H locs ls hM hP hS hl
  show W p w.1 e _ s m args below meth c H locs 0 0 _ (F0 m pc ls (vc w (v) :: st.map (vc w)))
  refine lv_dup hx hb hd (by rw [cat_vc]; exact hv) ?_
  exact k'
theorem g_dup2 {w : WD} {C : CX} {pc : Nat} {lo : List (Option V)} {st : List V} {X : XS} {Q : Int → XS → Prop} {v u : V} (hd : decode C.1.2.1 pc = .ok (.dup2, 1)) (hv : cat v = 1) (hu : cat u = 1) (k : Go w C (pc + 1) lo (v :: u :: v :: u :: st) X Q) : Go w C pc lo (v :: u :: st) X Q := by
  intro hst hlo hX p e s m args below meth c H locs ls hM hP hS hl
  obtain ⟨hx, hb, hml, hr, hlk, hown, hts, hK⟩ := id hM
  have f0 : vok (v) := vk_hd hst
  have f1 : vok (u) := vk_hd (vk_tl hst)
  have k' := k (vk_cons (v := v) (f0) (vk_cons (v := u) (f1) (vk_cons (v := v) (f0) (vk_cons (v := u) (f1) (vk_tl (vk_tl hst)))))) hlo hX p e s m args below meth c H locs ls hM hP hS hl
  show W p w.1 e _ s m args below meth c H locs 0 0 _ (F0 m pc ls (vc w (v) :: vc w (u) :: st.map (vc w)))
  refine lv_dup2_11 hx hb hd (by rw [cat_vc]; exact hv) (by rw [cat_vc]; exact hu) ?_
  exact k'
theorem g_pop {w : WD} {C : CX} {pc : Nat} {lo : List (Option V)} {st : List V} {X : XS} {Q : Int → XS → Prop} {v : V} (hd : decode C.1.2.1 pc = .ok (.pop, 1)) (hv : cat v = 1) (k : Go w C (pc + 1) lo (st) X Q) : Go w C pc lo (v :: st) X Q := by
  intro hst hlo hX p e s m args below meth c H locs ls hM hP hS hl
  obtain ⟨hx, hb, hml, hr, hlk, hown, hts, hK⟩ := id hM
  have f0 : vok (v) := vk_hd hst
  have k' := k (vk_tl hst) hlo hX p e s m args below meth c H locs ls hM hP hS hl
  show W p w.1 e _ s m args below meth c H locs 0 0 _ (F0 m pc ls (vc w (v) :: st.map (vc w)))
  refine lv_pop hx hb hd (by rw [cat_vc]; exact hv) ?_
  exact k'
theorem g_if_eq {w : WD} {C : CX} {pc : Nat} {lo : List (Option V)} {st : List V} {X : XS} {Q : Int → XS → Prop} {a : Int} {off : Int} (hd : decode C.1.2.1 pc = .ok (.ifCond .eq off, 3)) (hp : nonneg pc off = true) (k : (a = 0 → Go w C (tgt pc off) lo st X Q) ∧ (a ≠ 0 → Go w C (pc + 3) lo st X Q)) : Go w C pc lo (.inl (a) :: st) X Q := by
  intro hst hlo hX p e s m args below meth c H locs ls hM hP hS hl
  obtain ⟨hx, hb, hml, hr, hlk, hown, hts, hK⟩ := id hM
  have f0 : inR a := vk_hd hst
  show W p w.1 e _ s m args below meth c H locs 0 0 _ (F0 m pc ls (.int (Int32.ofInt (a)) :: st.map (vc w)))
  refine lv_if_eq hx hb hd (tgt_ok hp) (fun q => ?_) (fun q => ?_)
  · exact k.1 ((oi_e f0 oi_0).mp q) (vk_tl hst) hlo hX p e s m args below meth c H locs ls hM hP hS hl
  · exact k.2 (fun z => q ((oi_e f0 oi_0).mpr z)) (vk_tl hst) hlo hX p e s m args below meth c H locs ls hM hP hS hl
theorem g_if_ne {w : WD} {C : CX} {pc : Nat} {lo : List (Option V)} {st : List V} {X : XS} {Q : Int → XS → Prop} {a : Int} {off : Int} (hd : decode C.1.2.1 pc = .ok (.ifCond .ne off, 3)) (hp : nonneg pc off = true) (k : (a ≠ 0 → Go w C (tgt pc off) lo st X Q) ∧ (a = 0 → Go w C (pc + 3) lo st X Q)) : Go w C pc lo (.inl (a) :: st) X Q := by
  intro hst hlo hX p e s m args below meth c H locs ls hM hP hS hl
  obtain ⟨hx, hb, hml, hr, hlk, hown, hts, hK⟩ := id hM
  have f0 : inR a := vk_hd hst
  show W p w.1 e _ s m args below meth c H locs 0 0 _ (F0 m pc ls (.int (Int32.ofInt (a)) :: st.map (vc w)))
  refine lv_if_ne hx hb hd (tgt_ok hp) (fun q => ?_) (fun q => ?_)
  · exact k.1 (fun z => q ((oi_e f0 oi_0).mpr z)) (vk_tl hst) hlo hX p e s m args below meth c H locs ls hM hP hS hl
  · exact k.2 ((oi_e f0 oi_0).mp q) (vk_tl hst) hlo hX p e s m args below meth c H locs ls hM hP hS hl
theorem g_if_lt {w : WD} {C : CX} {pc : Nat} {lo : List (Option V)} {st : List V} {X : XS} {Q : Int → XS → Prop} {a : Int} {off : Int} (hd : decode C.1.2.1 pc = .ok (.ifCond .lt off, 3)) (hp : nonneg pc off = true) (k : (a < 0 → Go w C (tgt pc off) lo st X Q) ∧ (0 ≤ a → Go w C (pc + 3) lo st X Q)) : Go w C pc lo (.inl (a) :: st) X Q := by
  intro hst hlo hX p e s m args below meth c H locs ls hM hP hS hl
  obtain ⟨hx, hb, hml, hr, hlk, hown, hts, hK⟩ := id hM
  have f0 : inR a := vk_hd hst
  show W p w.1 e _ s m args below meth c H locs 0 0 _ (F0 m pc ls (.int (Int32.ofInt (a)) :: st.map (vc w)))
  refine lv_if_lt hx hb hd (tgt_ok hp) (fun q => ?_) (fun q => ?_)
  · exact k.1 ((oi_lt f0 oi_0).mp q) (vk_tl hst) hlo hX p e s m args below meth c H locs ls hM hP hS hl
  · exact k.2 (Int.not_lt.mp (fun z => q ((oi_lt f0 oi_0).mpr z))) (vk_tl hst) hlo hX p e s m args below meth c H locs ls hM hP hS hl
theorem g_if_ge {w : WD} {C : CX} {pc : Nat} {lo : List (Option V)} {st : List V} {X : XS} {Q : Int → XS → Prop} {a : Int} {off : Int} (hd : decode C.1.2.1 pc = .ok (.ifCond .ge off, 3)) (hp : nonneg pc off = true) (k : (0 ≤ a → Go w C (tgt pc off) lo st X Q) ∧ (a < 0 → Go w C (pc + 3) lo st X Q)) : Go w C pc lo (.inl (a) :: st) X Q := by
  intro hst hlo hX p e s m args below meth c H locs ls hM hP hS hl
  obtain ⟨hx, hb, hml, hr, hlk, hown, hts, hK⟩ := id hM
  have f0 : inR a := vk_hd hst
  show W p w.1 e _ s m args below meth c H locs 0 0 _ (F0 m pc ls (.int (Int32.ofInt (a)) :: st.map (vc w)))
  refine lv_if_ge hx hb hd (tgt_ok hp) (fun q => ?_) (fun q => ?_)
  · exact k.1 ((oi_le oi_0 f0).mp q) (vk_tl hst) hlo hX p e s m args below meth c H locs ls hM hP hS hl
  · exact k.2 (Int.not_le.mp (fun z => q ((oi_le oi_0 f0).mpr z))) (vk_tl hst) hlo hX p e s m args below meth c H locs ls hM hP hS hl
theorem g_if_gt {w : WD} {C : CX} {pc : Nat} {lo : List (Option V)} {st : List V} {X : XS} {Q : Int → XS → Prop} {a : Int} {off : Int} (hd : decode C.1.2.1 pc = .ok (.ifCond .gt off, 3)) (hp : nonneg pc off = true) (k : (0 < a → Go w C (tgt pc off) lo st X Q) ∧ (a ≤ 0 → Go w C (pc + 3) lo st X Q)) : Go w C pc lo (.inl (a) :: st) X Q := by
  intro hst hlo hX p e s m args below meth c H locs ls hM hP hS hl
  obtain ⟨hx, hb, hml, hr, hlk, hown, hts, hK⟩ := id hM
  have f0 : inR a := vk_hd hst
  show W p w.1 e _ s m args below meth c H locs 0 0 _ (F0 m pc ls (.int (Int32.ofInt (a)) :: st.map (vc w)))
  refine lv_if_gt hx hb hd (tgt_ok hp) (fun q => ?_) (fun q => ?_)
  · exact k.1 ((oi_lt oi_0 f0).mp q) (vk_tl hst) hlo hX p e s m args below meth c H locs ls hM hP hS hl
  · exact k.2 (Int.not_lt.mp (fun z => q ((oi_lt oi_0 f0).mpr z))) (vk_tl hst) hlo hX p e s m args below meth c H locs ls hM hP hS hl
theorem g_if_le {w : WD} {C : CX} {pc : Nat} {lo : List (Option V)} {st : List V} {X : XS} {Q : Int → XS → Prop} {a : Int} {off : Int} (hd : decode C.1.2.1 pc = .ok (.ifCond .le off, 3)) (hp : nonneg pc off = true) (k : (a ≤ 0 → Go w C (tgt pc off) lo st X Q) ∧ (0 < a → Go w C (pc + 3) lo st X Q)) : Go w C pc lo (.inl (a) :: st) X Q := by
  intro hst hlo hX p e s m args below meth c H locs ls hM hP hS hl
  obtain ⟨hx, hb, hml, hr, hlk, hown, hts, hK⟩ := id hM
  have f0 : inR a := vk_hd hst
  show W p w.1 e _ s m args below meth c H locs 0 0 _ (F0 m pc ls (.int (Int32.ofInt (a)) :: st.map (vc w)))
  refine lv_if_le hx hb hd (tgt_ok hp) (fun q => ?_) (fun q => ?_)
  · exact k.1 ((oi_le f0 oi_0).mp q) (vk_tl hst) hlo hX p e s m args below meth c H locs ls hM hP hS hl
  · exact k.2 (Int.not_le.mp (fun z => q ((oi_le f0 oi_0).mpr z))) (vk_tl hst) hlo hX p e s m args below meth c H locs ls hM hP hS hl
theorem g_icmp_eq {w : WD} {C : CX} {pc : Nat} {lo : List (Option V)} {st : List V} {X : XS} {Q : Int → XS → Prop} {a b : Int} {off : Int} (hd : decode C.1.2.1 pc = .ok (.if_icmp .eq off, 3)) (hp : nonneg pc off = true) (k : (a = b → Go w C (tgt pc off) lo st X Q) ∧ (a ≠ b → Go w C (pc + 3) lo st X Q)) : Go w C pc lo (.inl (b) :: .inl (a) :: st) X Q := by
  intro hst hlo hX p e s m args below meth c H locs ls hM hP hS hl
  obtain ⟨hx, hb, hml, hr, hlk, hown, hts, hK⟩ := id hM
  have f0 : inR b := vk_hd hst
  have f1 : inR a := vk_hd (vk_tl hst)
  show W p w.1 e _ s m args below meth c H locs 0 0 _ (F0 m pc ls (.int (Int32.ofInt (b)) :: .int (Int32.ofInt (a)) :: st.map (vc w)))
  refine lv_icmp_eq hx hb hd (tgt_ok hp) (fun q => ?_) (fun q => ?_)
  · exact k.1 ((oi_e f1 f0).mp q) (vk_tl (vk_tl hst)) hlo hX p e s m args below meth c H locs ls hM hP hS hl
  · exact k.2 (fun z => q ((oi_e f1 f0).mpr z)) (vk_tl (vk_tl hst)) hlo hX p e s m args below meth c H locs ls hM hP hS hl
theorem g_icmp_ne {w : WD} {C : CX} {pc : Nat} {lo : List (Option V)} {st : List V} {X : XS} {Q : Int → XS → Prop} {a b : Int} {off : Int} (hd : decode C.1.2.1 pc = .ok (.if_icmp .ne off, 3)) (hp : nonneg pc off = true) (k : (a ≠ b → Go w C (tgt pc off) lo st X Q) ∧ (a = b → Go w C (pc + 3) lo st X Q)) : Go w C pc lo (.inl (b) :: .inl (a) :: st) X Q := by
  intro hst hlo hX p e s m args below meth c H locs ls hM hP hS hl
  obtain ⟨hx, hb, hml, hr, hlk, hown, hts, hK⟩ := id hM
  have f0 : inR b := vk_hd hst
  have f1 : inR a := vk_hd (vk_tl hst)
  show W p w.1 e _ s m args below meth c H locs 0 0 _ (F0 m pc ls (.int (Int32.ofInt (b)) :: .int (Int32.ofInt (a)) :: st.map (vc w)))
  refine lv_icmp_ne hx hb hd (tgt_ok hp) (fun q => ?_) (fun q => ?_)
  · exact k.1 (fun z => q ((oi_e f1 f0).mpr z)) (vk_tl (vk_tl hst)) hlo hX p e s m args below meth c H locs ls hM hP hS hl
  · exact k.2 ((oi_e f1 f0).mp q) (vk_tl (vk_tl hst)) hlo hX p e s m args below meth c H locs ls hM hP hS hl
theorem g_icmp_lt {w : WD} {C : CX} {pc : Nat} {lo : List (Option V)} {st : List V} {X : XS} {Q : Int → XS → Prop} {a b : Int} {off : Int} (hd : decode C.1.2.1 pc = .ok (.if_icmp .lt off, 3)) (hp : nonneg pc off = true) (k : (a < b → Go w C (tgt pc off) lo st X Q) ∧ (b ≤ a → Go w C (pc + 3) lo st X Q)) : Go w C pc lo (.inl (b) :: .inl (a) :: st) X Q := by
  intro hst hlo hX p e s m args below meth c H locs ls hM hP hS hl
  obtain ⟨hx, hb, hml, hr, hlk, hown, hts, hK⟩ := id hM
  have f0 : inR b := vk_hd hst
  have f1 : inR a := vk_hd (vk_tl hst)
  show W p w.1 e _ s m args below meth c H locs 0 0 _ (F0 m pc ls (.int (Int32.ofInt (b)) :: .int (Int32.ofInt (a)) :: st.map (vc w)))
  refine lv_icmp_lt hx hb hd (tgt_ok hp) (fun q => ?_) (fun q => ?_)
  · exact k.1 ((oi_lt f1 f0).mp q) (vk_tl (vk_tl hst)) hlo hX p e s m args below meth c H locs ls hM hP hS hl
  · exact k.2 (Int.not_lt.mp (fun z => q ((oi_lt f1 f0).mpr z))) (vk_tl (vk_tl hst)) hlo hX p e s m args below meth c H locs ls hM hP hS hl
theorem g_icmp_ge {w : WD} {C : CX} {pc : Nat} {lo : List (Option V)} {st : List V} {X : XS} {Q : Int → XS → Prop} {a b : Int} {off : Int} (hd : decode C.1.2.1 pc = .ok (.if_icmp .ge off, 3)) (hp : nonneg pc off = true) (k : (b ≤ a → Go w C (tgt pc off) lo st X Q) ∧ (a < b → Go w C (pc + 3) lo st X Q)) : Go w C pc lo (.inl (b) :: .inl (a) :: st) X Q := by
  intro hst hlo hX p e s m args below meth c H locs ls hM hP hS hl
  obtain ⟨hx, hb, hml, hr, hlk, hown, hts, hK⟩ := id hM
  have f0 : inR b := vk_hd hst
  have f1 : inR a := vk_hd (vk_tl hst)
  show W p w.1 e _ s m args below meth c H locs 0 0 _ (F0 m pc ls (.int (Int32.ofInt (b)) :: .int (Int32.ofInt (a)) :: st.map (vc w)))
  refine lv_icmp_ge hx hb hd (tgt_ok hp) (fun q => ?_) (fun q => ?_)
  · exact k.1 ((oi_le f0 f1).mp q) (vk_tl (vk_tl hst)) hlo hX p e s m args below meth c H locs ls hM hP hS hl
  · exact k.2 (Int.not_le.mp (fun z => q ((oi_le f0 f1).mpr z))) (vk_tl (vk_tl hst)) hlo hX p e s m args below meth c H locs ls hM hP hS hl
theorem g_icmp_gt {w : WD} {C : CX} {pc : Nat} {lo : List (Option V)} {st : List V} {X : XS} {Q : Int → XS → Prop} {a b : Int} {off : Int} (hd : decode C.1.2.1 pc = .ok (.if_icmp .gt off, 3)) (hp : nonneg pc off = true) (k : (b < a → Go w C (tgt pc off) lo st X Q) ∧ (a ≤ b → Go w C (pc + 3) lo st X Q)) : Go w C pc lo (.inl (b) :: .inl (a) :: st) X Q := by
  intro hst hlo hX p e s m args below meth c H locs ls hM hP hS hl
  obtain ⟨hx, hb, hml, hr, hlk, hown, hts, hK⟩ := id hM
  have f0 : inR b := vk_hd hst
  have f1 : inR a := vk_hd (vk_tl hst)
  show W p w.1 e _ s m args below meth c H locs 0 0 _ (F0 m pc ls (.int (Int32.ofInt (b)) :: .int (Int32.ofInt (a)) :: st.map (vc w)))
  refine lv_icmp_gt hx hb hd (tgt_ok hp) (fun q => ?_) (fun q => ?_)
  · exact k.1 ((oi_lt f0 f1).mp q) (vk_tl (vk_tl hst)) hlo hX p e s m args below meth c H locs ls hM hP hS hl
  · exact k.2 (Int.not_lt.mp (fun z => q ((oi_lt f0 f1).mpr z))) (vk_tl (vk_tl hst)) hlo hX p e s m args below meth c H locs ls hM hP hS hl
theorem g_icmp_le {w : WD} {C : CX} {pc : Nat} {lo : List (Option V)} {st : List V} {X : XS} {Q : Int → XS → Prop} {a b : Int} {off : Int} (hd : decode C.1.2.1 pc = .ok (.if_icmp .le off, 3)) (hp : nonneg pc off = true) (k : (a ≤ b → Go w C (tgt pc off) lo st X Q) ∧ (b < a → Go w C (pc + 3) lo st X Q)) : Go w C pc lo (.inl (b) :: .inl (a) :: st) X Q := by
  intro hst hlo hX p e s m args below meth c H locs ls hM hP hS hl
  obtain ⟨hx, hb, hml, hr, hlk, hown, hts, hK⟩ := id hM
  have f0 : inR b := vk_hd hst
  have f1 : inR a := vk_hd (vk_tl hst)
  show W p w.1 e _ s m args below meth c H locs 0 0 _ (F0 m pc ls (.int (Int32.ofInt (b)) :: .int (Int32.ofInt (a)) :: st.map (vc w)))
  refine lv_icmp_le hx hb hd (tgt_ok hp) (fun q => ?_) (fun q => ?_)
  · exact k.1 ((oi_le f1 f0).mp q) (vk_tl (vk_tl hst)) hlo hX p e s m args below meth c H locs ls hM hP hS hl
  · exact k.2 (Int.not_le.mp (fun z => q ((oi_le f1 f0).mpr z))) (vk_tl (vk_tl hst)) hlo hX p e s m args below meth c H locs ls hM hP hS hl
theorem g_goto {w : WD} {C : CX} {pc : Nat} {lo : List (Option V)} {st : List V} {X : XS} {Q : Int → XS → Prop} {off : Int} (hd : decode C.1.2.1 pc = .ok (.goto off, 3)) (hp : nonneg pc off = true) (k : Go w C (tgt pc off) lo st X Q) : Go w C pc lo st X Q := by
  intro hst hlo hX p e s m args below meth c H locs ls hM hP hS hl
  obtain ⟨hx, hb, hml, hr, hlk, hown, hts, hK⟩ := id hM
  exact lv_goto hx hb hd (tgt_ok hp) (k hst hlo hX p e s m args below meth c H locs ls hM hP hS hl)
theorem g_ifnonnull {w : WD} {C : CX} {pc : Nat} {lo : List (Option V)} {st : List V} {X : XS} {Q : Int → XS → Prop} {r : Nat × Nat} {off : Int} (hd : decode C.1.2.1 pc = .ok (.ifnonnull off, 3)) (hp : nonneg pc off = true) (k : Go w C (tgt pc off) lo st X Q) : Go w C pc lo (.inr (.inr r) :: st) X Q := by
  intro hst hlo hX p e s m args below meth c H locs ls hM hP hS hl
  obtain ⟨hx, hb, hml, hr, hlk, hown, hts, hK⟩ := id hM
  show W p w.1 e _ s m args below meth c H locs 0 0 _ (F0 m pc ls (.ref (wAd w r.2) :: st.map (vc w)))
  exact lv_ifnonnull hx hb hd (tgt_ok hp) (k (vk_tl hst) hlo hX p e s m args below meth c H locs ls hM hP hS hl)
theorem swT_get {G : Nat → Prop} {pc : Nat} {x : Int} : ∀ {offs : List Int} {lo : Int} {j : Nat} {o : Int}, swT G pc x lo offs → offs[j]? = some o → x = lo + (j : Int) → G (tgt pc o)
  | [], _, _, _, _, h, _ => by simp at h
  | a :: t, lo, 0, o, hs, h, hx => by
    simp at h
    subst h
    exact hs.1 (by simpa using hx)
  | a :: t, lo, j + 1, o, hs, h, hx => swT_get hs.2 (by simpa using h) (by rw [hx]; push_cast; omega)
theorem swL_get {G : Nat → Prop} {pc : Nat} {x d : Int} : ∀ {ps : List (Int × Int)}, swL G pc x d ps → G (tgt pc (Op.lookupswitch.offset ps d x)) ∧ (nonneg pc d = true → ps.all (fun q => nonneg pc q.2) = true → nonneg pc (Op.lookupswitch.offset ps d x) = true)
  | [], h => ⟨h, fun h1 _ => h1⟩
  | q :: t, h => by
    obtain ⟨a, o⟩ := q
    rw [Op.lookupswitch.offset_cons]
    by_cases e : a = x
    · rw [if_pos e]
      exact ⟨h.1 e.symm, fun _ h2 => by
        rw [List.all_cons, Bool.and_eq_true] at h2
        exact h2.1⟩
    · rw [if_neg e]
      obtain ⟨g1, g2⟩ := swL_get (h.2 (fun z => e z.symm))
      exact ⟨g1, fun h1 h2 => g2 h1 (by
        rw [List.all_cons, Bool.and_eq_true] at h2
        exact h2.2)⟩
theorem g_table {w : WD} {C : CX} {pc : Nat} {lo : List (Option V)} {st : List V} {X : XS} {Q : Int → XS → Prop} {x d lw hi : Int} {offs : Array Int} {n : Nat} (hd : decode C.1.2.1 pc = .ok (.tableswitch d lw hi offs, n)) (hp : (nonneg pc d && offs.toList.all (nonneg pc) && decide (hi = lw + (offs.toList.length : Int) - 1)) = true) (k : swT (fun q => Go w C q lo st X Q) pc x lw offs.toList ∧ ((x < lw ∨ hi < x) → Go w C (tgt pc d) lo st X Q)) : Go w C pc lo (.inl x :: st) X Q := by
  intro hst hlo hX p e s m args below meth c H locs ls hM hP hS hl
  obtain ⟨hx, hb, hml, hr, hlk, hown, hts, hK⟩ := id hM
  have f0 : inR x := vk_hd hst
  simp only [Bool.and_eq_true, decide_eq_true_eq] at hp
  obtain ⟨⟨hp1, hp2⟩, hp3⟩ := hp
  show W p w.1 e _ s m args below meth c H locs 0 0 _ (F0 m pc ls (.int (Int32.ofInt x) :: st.map (vc w)))
  by_cases hin : x < lw ∨ hi < x
  · exact lv_tableOut hx hb hd (by rw [oi_t f0]; exact hin) (tgt_ok hp1) (k.2 hin (vk_tl hst) hlo hX p e s m args below meth c H locs ls hM hP hS hl)
  · have hj : (x - lw).toNat < offs.toList.length := by omega
    have ho : offs.toList[(x - lw).toNat]? = some offs.toList[(x - lw).toNat] := List.getElem?_eq_getElem hj
    have hpo := List.all_eq_true.mp hp2 _ (List.mem_of_getElem? ho)
    refine lv_tableIn hx hb hd (by rw [oi_t f0]; omega) (by rw [oi_t f0]; omega) (off := offs.toList[(x - lw).toNat]) (by rw [oi_t f0, ← Array.getElem?_toList]; exact ho) (tgt_ok hpo) ?_
    exact swT_get k.1 ho (by omega) (vk_tl hst) hlo hX p e s m args below meth c H locs ls hM hP hS hl
theorem g_lookup {w : WD} {C : CX} {pc : Nat} {lo : List (Option V)} {st : List V} {X : XS} {Q : Int → XS → Prop} {x d : Int} {ps : Array (Int × Int)} {n : Nat} (hd : decode C.1.2.1 pc = .ok (.lookupswitch d ps, n)) (hp : (nonneg pc d && ps.toList.all (fun q => nonneg pc q.2) && (ps.toList.zip (ps.toList.drop 1)).all (fun (a, next) => a.1 < next.1)) = true) (k : swL (fun q => Go w C q lo st X Q) pc x d ps.toList) : Go w C pc lo (.inl x :: st) X Q := by
  intro hst hlo hX p e s m args below meth c H locs ls hM hP hS hl
  obtain ⟨hx, hb, hml, hr, hlk, hown, hts, hK⟩ := id hM
  have f0 : inR x := vk_hd hst
  simp only [Bool.and_eq_true] at hp
  obtain ⟨⟨hp1, hp2⟩, hp3⟩ := hp
  obtain ⟨g1, g2⟩ := swL_get k
  show W p w.1 e _ s m args below meth c H locs 0 0 _ (F0 m pc ls (.int (Int32.ofInt x) :: st.map (vc w)))
  exact lv_lookup hx hb hd hp3 (off := Op.lookupswitch.offset ps.toList d x) (by rw [oi_t f0]) (tgt_ok (g2 hp1 hp2)) (g1 (vk_tl hst) hlo hX p e s m args below meth c H locs ls hM hP hS hl)
