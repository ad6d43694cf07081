/-! ===== put ===== -/
theorem PAIR.flt1 {w : WD} {c m : MI} {as : List V} {X : XS} {r t : Int} (hJ : J X) (hc : MS w c (.inr (.inr (6, 1)) :: as) X (fun z Y => SW 1 11 X Y t ∧ z = r)) (hm : ∀ Y, RM X Y → MS w m (.inr (.inr (7, 43)) :: as) Y (fun z Z => SW 43 0 Y Z t ∧ z = r)) : ∃ Q1 : Int → XS → Prop, MS w c (.inr (.inr (6, 1)) :: as) X Q1 ∧ ∀ z Y, Q1 z Y → ∃ Q2 : Int → XS → Prop, MS w m (.inr (.inr (7, 43)) :: as) Y Q2 ∧ ∀ z' Z, Q2 z' Z → z' = z ∧ J Z := by
  refine ⟨_, hc, fun z Y hq => ?_⟩
  obtain ⟨h1, h2⟩ := hq
  refine ⟨_, hm Y h1.rm, fun z' Z hq' => ?_⟩
  obtain ⟨h3, h4⟩ := hq'
  exact ⟨h4.trans h2.symm, hJ.tf (tf_fa hJ h1 h3)⟩
def nw (l v : Int) : Int := if l = 0 then nb v else if l = 1 then ns v else v
theorem c_write (w : WD) {X : XS} {k i : Nat} (hk : k < 4) (hi : (i : Int) < X.1 (3 + 2 * k) 3) (h6 : X.1 (3 + 2 * k) 3 ≤ 60) (v : Int) : MS w M_Sh_write [.inr (.inr (3, 3 + 2 * k)), .inl (i : Int), .inl v] X (fun _ Y => Y = (up X.1 (3 + 2 * k + 1) i (nw (X.1 (3 + 2 * k) 2) v), X.2)) := by
  have hl := len_sh hk
  refine mk_Sh_write rfl ?_
  refine sx_Sh_write ?_
  refine ⟨trivial, _, c_isBelow w X (i : Int) (X.1 (3 + 2 * k) 3), fun z Y hq => ?_⟩
  obtain ⟨rfl, rfl⟩ := hq
  refine sx_Sh_write ?_
  refine ⟨fun _ => ?_, fun q => absurd (show 0 ≤ (i : Int) ∧ (i : Int) < Y.1 (3 + 2 * k) 3 by omega) (nif q)⟩
  unfold nw
  refine sx_Sh_write ?_
  refine ⟨fun q => ?_, fun q => ?_⟩
  · have q : Y.1 (3 + 2 * k) 2 ≠ 0 := q
    rw [if_neg q]
    refine sx_Sh_write ?_
    refine ⟨fun q2 => ?_, fun q2 => ?_⟩
    · have q2 : Y.1 (3 + 2 * k) 2 ≠ 1 := q2
      rw [if_neg q2]
      refine sx_Sh_write ?_
      exact ⟨(by omega), by show _ < ((ln 160 (3 + 2 * k + 1) : Nat) : Int); rw [hl]; omega, rfl⟩
    · have q2 : Y.1 (3 + 2 * k) 2 = 1 := q2
      rw [if_pos q2]
      refine ⟨(by omega), by show _ < ((ln 160 (3 + 2 * k + 1) : Nat) : Int); rw [hl]; omega, ?_⟩
      refine sx_Sh_write ?_
      rfl
  · have q : Y.1 (3 + 2 * k) 2 = 0 := q
    rw [if_pos q]
    refine ⟨(by omega), by show _ < ((ln 160 (3 + 2 * k + 1) : Nat) : Int); rw [hl]; omega, ?_⟩
    refine sx_Sh_write ?_
    rfl
