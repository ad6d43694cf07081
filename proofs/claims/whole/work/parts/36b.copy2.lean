theorem c_copy1 (w : WD) {X : XS} {k o i j n : Nat} (hk : k < 4) (ho : o < 4) (l1 : X.1 (3 + 2 * k) 1 = 1) (l2 : X.1 (3 + 2 * o) 1 = 1) (la : X.1 (3 + 2 * k) 2 = X.1 (3 + 2 * o) 2) (hi : (i : Int) + (n : Int) ≤ X.1 (3 + 2 * k) 3) (hj : (j : Int) + (n : Int) ≤ X.1 (3 + 2 * o) 3) (s1 : X.1 (3 + 2 * k) 3 ≤ 60) (s2 : X.1 (3 + 2 * o) 3 ≤ 60) : MS w M_Tf_copy [.inr (.inr (6, 1)), .inl (k : Int), .inl (i : Int), .inl (o : Int), .inl (j : Int), .inl (n : Int)] X (fun z Y => Y = (cpy (up X.1 1 11 0) (3 + 2 * k + 1) i (3 + 2 * o + 1) j n, X.2) ∧ z = (n : Int)) := by
  have ck : up X.1 1 11 0 (3 + 2 * k) = X.1 (3 + 2 * k) := up_ne (by omega)
  have co : up X.1 1 11 0 (3 + 2 * o) = X.1 (3 + 2 * o) := up_ne (by omega)
  have n1 := len_sh hk
  have n2 := len_sh ho
  have A := c_holds w (up X.1 1 11 0, X.2) (k := k) (i : Int) (n : Int) (by rw [show (up X.1 1 11 0, X.2).1 (3 + 2 * k) = X.1 (3 + 2 * k) from ck]; omega)
  have B := c_holds w (up X.1 1 11 0, X.2) (k := o) (j : Int) (n : Int) (by rw [show (up X.1 1 11 0, X.2).1 (3 + 2 * o) = X.1 (3 + 2 * o) from co]; omega)
  rw [show (up X.1 1 11 0, X.2).1 (3 + 2 * k) = X.1 (3 + 2 * k) from ck] at A
  rw [show (up X.1 1 11 0, X.2).1 (3 + 2 * o) = X.1 (3 + 2 * o) from co] at B
  have b1 : (i : Int) + (n : Int) ≤ ((ln 160 (3 + 2 * k + 1) : Nat) : Int) := by rw [n1]; omega
  have b2 : (j : Int) + (n : Int) ≤ ((ln 160 (3 + 2 * o + 1) : Nat) : Int) := by rw [n2]; omega
  refine mk_Tf_copy rfl ?_
  refine sx_Tf_copy ?_
  refine ⟨trivial, _, c_isBelow w _ (k : Int) 4, fun z Y hq => ?_⟩
  obtain ⟨rfl, rfl⟩ := hq
  refine sx_Tf_copy ?_
  refine ⟨fun q => absurd (show 0 ≤ (k : Int) ∧ (k : Int) < 4 by omega) (nif q), fun _ => ?_⟩
  refine ⟨trivial, _, c_isBelow w _ (o : Int) 4, fun z Y hq => ?_⟩
  obtain ⟨rfl, rfl⟩ := hq
  refine sx_Tf_copy ?_
  refine ⟨fun _ => ?_, fun q => absurd (show 0 ≤ (o : Int) ∧ (o : Int) < 4 by omega) (nif q)⟩
  refine sx_Tf_copy ?_
  refine ⟨(by omega), (by omega), (by omega), (by omega), fun q => ?_, fun _ => ?_⟩
  · have q : up X.1 1 11 0 (3 + 2 * k) 1 = 0 := q
    rw [ck] at q
    omega
  refine ⟨fun _ => ?_, fun q => ?_⟩
  case refine_2 =>
    have q : up X.1 1 11 0 (3 + 2 * o) 1 = 0 := q
    rw [co] at q
    omega
  refine sx_Tf_copy ?_
  refine ⟨fun _ => ?_, fun q => ?_⟩
  case refine_2 =>
    have q : up X.1 1 11 0 (3 + 2 * k) 2 ≠ up X.1 1 11 0 (3 + 2 * o) 2 := q
    rw [ck, co] at q
    exact absurd la q
  refine sx_Tf_copy ?_
  refine ⟨trivial, _, A, fun z Z hq => ?_⟩
  obtain ⟨rfl, rfl⟩ := hq
  refine sx_Tf_copy ?_
  refine ⟨fun q => absurd (show (0 ≤ (i : Int) ∧ (i : Int) ≤ X.1 (3 + 2 * k) 3) ∧ 0 ≤ (n : Int) ∧ (n : Int) ≤ X.1 (3 + 2 * k) 3 - (i : Int) by omega) (nif q), fun _ => ?_⟩
  refine ⟨trivial, _, B, fun z Z hq => ?_⟩
  obtain ⟨rfl, rfl⟩ := hq
  refine sx_Tf_copy ?_
  refine ⟨fun _ => ?_, fun q => absurd (show (0 ≤ (j : Int) ∧ (j : Int) ≤ X.1 (3 + 2 * o) 3) ∧ 0 ≤ (n : Int) ∧ (n : Int) ≤ X.1 (3 + 2 * o) 3 - (j : Int) by omega) (nif q)⟩
  refine sx_Tf_copy ?_
  exact ⟨trivial, (by omega), (by omega), (by omega), b1, b2, trivial, rfl, rfl⟩
/-- nothing laid, other lanes, cells that aren't there -/
def cpf (X : XS) (k o : Nat) (i j n : Int) : Int := if X.1 44 k = -9 ∨ X.1 44 o = -9 then 1 else if X.1 44 k ≠ X.1 44 o then 2 else 3
theorem c_copyF (w : WD) {X : XS} (h : J X) {k o : Nat} (hk : k < 4) (ho : o < 4) {i j n : Int} (hN : ¬ X.1 44 k = -9 → X.1 44 k = X.1 44 o → ¬ (((0 ≤ i ∧ i ≤ X.1 45 k) ∧ 0 ≤ n ∧ n ≤ X.1 45 k - i) ∧ (0 ≤ j ∧ j ≤ X.1 45 o) ∧ 0 ≤ n ∧ n ≤ X.1 45 o - j)) : MS w M_Tf_copy [.inr (.inr (6, 1)), .inl (k : Int), .inl i, .inl (o : Int), .inl j, .inl n] X (fun z Y => SW 1 11 X Y (cpf X k o i j n) ∧ z = -10 - cpf X k o i j n) := by
  have hS := h.1 k hk
  have hT := h.1 o ho
  have S0 := SW.one 1 11 X 0
  have ck : up X.1 1 11 0 (3 + 2 * k) = X.1 (3 + 2 * k) := up_ne (by omega)
  have co : up X.1 1 11 0 (3 + 2 * o) = X.1 (3 + 2 * o) := up_ne (by omega)
  refine mk_Tf_copy rfl ?_
  refine sx_Tf_copy ?_
  refine ⟨trivial, _, c_isBelow w _ (k : Int) 4, fun z Y hq => ?_⟩
  obtain ⟨rfl, rfl⟩ := hq
  refine sx_Tf_copy ?_
  refine ⟨fun q => absurd (show 0 ≤ (k : Int) ∧ (k : Int) < 4 by omega) (nif q), fun _ => ?_⟩
  refine ⟨trivial, _, c_isBelow w _ (o : Int) 4, fun z Y hq => ?_⟩
  obtain ⟨rfl, rfl⟩ := hq
  refine sx_Tf_copy ?_
  refine ⟨fun _ => ?_, fun q => absurd (show 0 ≤ (o : Int) ∧ (o : Int) < 4 by omega) (nif q)⟩
  have T55 : X.1 44 k = -9 ∨ X.1 44 o = -9 → Go w K_Tf_copy 55 [some (.inr (.inr (6, 1))), some (.inl (k : Int)), some (.inl i), some (.inl (o : Int)), some (.inl j), some (.inl n), some (.inr (.inr (3, 3 + 2 * k))), some (.inr (.inr (3, 3 + 2 * o)))] [] (up X.1 1 11 0, X.2) (fun z Y => SW 1 11 X Y (cpf X k o i j n) ∧ z = -10 - cpf X k o i j n) := by
    intro hz
    have e : cpf X k o i j n = 1 := by unfold cpf; rw [if_pos hz]
    rw [e]
    refine sx_Tf_copy ?_
    refine ⟨trivial, _, c_faulted w _ 1, fun z Y hq => ?_⟩
    obtain ⟨rfl, rfl⟩ := hq
    refine sx_Tf_copy ?_
    exact ⟨trivial, S0.tr (SW.one 1 11 _ 1), by decide⟩
  refine sx_Tf_copy ?_
  refine ⟨(by omega), (by omega), (by omega), (by omega), fun q => ?_, fun q1 => ⟨fun q2 => ?_, fun q2 => ?_⟩⟩
  · have q : up X.1 1 11 0 (3 + 2 * k) 1 = 0 := q
    rw [ck] at q
    exact T55 (by omega)
  case refine_3 =>
    have q2 : up X.1 1 11 0 (3 + 2 * o) 1 = 0 := q2
    rw [co] at q2
    have hz : X.1 44 k = -9 ∨ X.1 44 o = -9 := by omega
    have e : cpf X k o i j n = 1 := by unfold cpf; rw [if_pos hz]
    rw [e]
    refine ⟨trivial, _, c_faulted w _ 1, fun z Y hq => ?_⟩
    obtain ⟨rfl, rfl⟩ := hq
    refine sx_Tf_copy ?_
    exact ⟨trivial, S0.tr (SW.one 1 11 _ 1), by decide⟩
  have q1 : up X.1 1 11 0 (3 + 2 * k) 1 ≠ 0 := q1
  have q2 : up X.1 1 11 0 (3 + 2 * o) 1 ≠ 0 := q2
  rw [ck] at q1
  rw [co] at q2
  obtain ⟨a1, a2, a3, a4, a5, a6, a7, -⟩ := hS.resolve_left (fun z => q1 z.1)
  obtain ⟨b1, b2, b3, b4, b5, b6, b7, -⟩ := hT.resolve_left (fun z => q2 z.1)
  have nz : ¬ (X.1 44 k = -9 ∨ X.1 44 o = -9) := by omega
  have A := c_holds w (up X.1 1 11 0, X.2) (k := k) i n (by rw [show (up X.1 1 11 0, X.2).1 (3 + 2 * k) = X.1 (3 + 2 * k) from ck]; omega)
  have B := c_holds w (up X.1 1 11 0, X.2) (k := o) j n (by rw [show (up X.1 1 11 0, X.2).1 (3 + 2 * o) = X.1 (3 + 2 * o) from co]; omega)
  rw [show (up X.1 1 11 0, X.2).1 (3 + 2 * k) = X.1 (3 + 2 * k) from ck, a5] at A
  rw [show (up X.1 1 11 0, X.2).1 (3 + 2 * o) = X.1 (3 + 2 * o) from co, b5] at B
  refine sx_Tf_copy ?_
  refine ⟨fun q => ?_, fun q => ?_⟩
  case refine_2 =>
    have q : up X.1 1 11 0 (3 + 2 * k) 2 ≠ up X.1 1 11 0 (3 + 2 * o) 2 := q
    rw [ck, co, a4, b4] at q
    have e : cpf X k o i j n = 2 := by unfold cpf; rw [if_neg nz, if_pos q]
    rw [e]
    refine ⟨trivial, _, c_faulted w _ 2, fun z Y hq => ?_⟩
    obtain ⟨rfl, rfl⟩ := hq
    refine sx_Tf_copy ?_
    exact ⟨trivial, S0.tr (SW.one 1 11 _ 2), by decide⟩
  have q : up X.1 1 11 0 (3 + 2 * k) 2 = up X.1 1 11 0 (3 + 2 * o) 2 := q
  rw [ck, co, a4, b4] at q
  have e : cpf X k o i j n = 3 := by unfold cpf; rw [if_neg nz, if_neg (fun z => z q)]
  have N := hN (fun z => nz (Or.inl z)) q
  rw [e]
  refine sx_Tf_copy ?_
  refine ⟨trivial, _, A, fun z Z hq => ?_⟩
  obtain ⟨rfl, rfl⟩ := hq
  refine sx_Tf_copy ?_
  refine ⟨fun _ => ?_, fun p1 => ?_⟩
  · refine sx_Tf_copy ?_
    refine ⟨trivial, _, c_faulted w _ 3, fun z Y hq => ?_⟩
    obtain ⟨rfl, rfl⟩ := hq
    refine sx_Tf_copy ?_
    exact ⟨trivial, S0.tr (SW.one 1 11 _ 3), by decide⟩
  refine ⟨trivial, _, B, fun z Z hq => ?_⟩
  obtain ⟨rfl, rfl⟩ := hq
  refine sx_Tf_copy ?_
  refine ⟨fun p2 => absurd ⟨pif p1, pif p2⟩ N, fun _ => ?_⟩
  refine ⟨trivial, _, c_faulted w _ 3, fun z Y hq => ?_⟩
  obtain ⟨rfl, rfl⟩ := hq
  refine sx_Tf_copy ?_
  exact ⟨trivial, S0.tr (SW.one 1 11 _ 3), by decide⟩
theorem mo_copyF (w : WD) {X Y : XS} (h : J X) (g : RM X Y) {k o : Nat} (hk : k < 4) (ho : o < 4) {i j n : Int} (hN : ¬ X.1 44 k = -9 → X.1 44 k = X.1 44 o → ¬ (((0 ≤ i ∧ i ≤ X.1 45 k) ∧ 0 ≤ n ∧ n ≤ X.1 45 k - i) ∧ (0 ≤ j ∧ j ≤ X.1 45 o) ∧ 0 ≤ n ∧ n ≤ X.1 45 o - j)) : MS w M_Mo_copy [.inr (.inr (7, 43)), .inl (k : Int), .inl i, .inl (o : Int), .inl j, .inl n] Y (fun z Z => SW 43 0 Y Z (cpf X k o i j n) ∧ z = -10 - cpf X k o i j n) := by
  have hS := h.1 k hk
  have hT := h.1 o ho
  have S0 := SW.one 43 0 Y 0
  have r44 : ∀ s, up Y.1 43 0 0 44 s = X.1 44 s := fun s => by rw [up_ne (by omega), g 44 (by omega)]
  have r45 : ∀ s, up Y.1 43 0 0 45 s = X.1 45 s := fun s => by rw [up_ne (by omega), g 45 (by omega)]
  refine mk_Mo_copy rfl ?_
  refine sx_Mo_copy ?_
  refine ⟨trivial, _, mo_isSheet w _ (k : Int), fun z Z hq => ?_⟩
  obtain ⟨rfl, rfl⟩ := hq
  refine sx_Mo_copy ?_
  refine ⟨fun q => absurd (show 0 ≤ (k : Int) ∧ (k : Int) ≤ 3 by omega) (nif q), fun _ => ?_⟩
  refine ⟨trivial, _, mo_isSheet w _ (o : Int), fun z Z hq => ?_⟩
  obtain ⟨rfl, rfl⟩ := hq
  refine sx_Mo_copy ?_
  refine ⟨fun _ => ?_, fun q => absurd (show 0 ≤ (o : Int) ∧ (o : Int) ≤ 3 by omega) (nif q)⟩
  have T43 : X.1 44 k = -9 ∨ X.1 44 o = -9 → Go w K_Mo_copy 43 [some (.inr (.inr (7, 43))), some (.inl (k : Int)), some (.inl i), some (.inl (o : Int)), some (.inl j), some (.inl n), none, none, none, none] [] (up Y.1 43 0 0, Y.2) (fun z Z => SW 43 0 Y Z (cpf X k o i j n) ∧ z = -10 - cpf X k o i j n) := by
    intro hz
    have e : cpf X k o i j n = 1 := by unfold cpf; rw [if_pos hz]
    rw [e]
    refine sx_Mo_copy ?_
    refine ⟨trivial, _, mo_fails w _ 1, fun z Y hq => ?_⟩
    obtain ⟨rfl, rfl⟩ := hq
    refine sx_Mo_copy ?_
    exact ⟨trivial, S0.tr (SW.one 43 0 _ 1), by decide⟩
  refine sx_Mo_copy ?_
  refine ⟨(by omega), (by show _ < ((4 : Nat) : Int); omega), fun q => T43 (Or.inl ((r44 k).symm.trans q)), fun q1 => ?_⟩
  refine ⟨(by omega), (by show _ < ((4 : Nat) : Int); omega), fun q2 => ?_, fun q => ?_⟩
  case refine_2 =>
    have hz : X.1 44 k = -9 ∨ X.1 44 o = -9 := Or.inr ((r44 o).symm.trans q)
    have e : cpf X k o i j n = 1 := by unfold cpf; rw [if_pos hz]
    rw [e]
    refine ⟨trivial, _, mo_fails w _ 1, fun z Y hq => ?_⟩
    obtain ⟨rfl, rfl⟩ := hq
    refine sx_Mo_copy ?_
    exact ⟨trivial, S0.tr (SW.one 43 0 _ 1), by decide⟩
  have q1 : up Y.1 43 0 0 44 k ≠ -9 := q1
  have q2 : up Y.1 43 0 0 44 o ≠ -9 := q2
  rw [r44] at q1 q2
  obtain ⟨a1, a2, a3, a4, a5, a6, a7, -⟩ := hS.resolve_left (fun z => q1 z.2)
  obtain ⟨b1, b2, b3, b4, b5, b6, b7, -⟩ := hT.resolve_left (fun z => q2 z.2)
  have nz : ¬ (X.1 44 k = -9 ∨ X.1 44 o = -9) := by omega
  refine sx_Mo_copy ?_
  refine ⟨(by omega), (by show _ < ((4 : Nat) : Int); omega), (by omega), (by show _ < ((4 : Nat) : Int); omega), fun q => ?_, fun q => ?_⟩
  case refine_2 =>
    have q : up Y.1 43 0 0 44 k ≠ up Y.1 43 0 0 44 o := q
    rw [r44, r44] at q
    have e : cpf X k o i j n = 2 := by unfold cpf; rw [if_neg nz, if_pos q]
    rw [e]
    refine ⟨trivial, _, mo_fails w _ 2, fun z Y hq => ?_⟩
    obtain ⟨rfl, rfl⟩ := hq
    refine sx_Mo_copy ?_
    exact ⟨trivial, S0.tr (SW.one 43 0 _ 2), by decide⟩
  have q : up Y.1 43 0 0 44 k = up Y.1 43 0 0 44 o := q
  rw [r44, r44] at q
  have e : cpf X k o i j n = 3 := by unfold cpf; rw [if_neg nz, if_neg (fun z => z q)]
  have N := hN (fun z => nz (Or.inl z)) q
  rw [e]
  have T144 : ∀ l6 : Option V, Go w K_Mo_copy 144 [some (.inr (.inr (7, 43))), some (.inl (k : Int)), some (.inl i), some (.inl (o : Int)), some (.inl j), some (.inl n), l6, none, none, none] [] (up Y.1 43 0 0, Y.2) (fun z Z => SW 43 0 Y Z 3 ∧ z = -10 - 3) := by
    intro l6
    refine sx_Mo_copy ?_
    refine ⟨trivial, _, mo_fails w _ 3, fun z Y hq => ?_⟩
    obtain ⟨rfl, rfl⟩ := hq
    refine sx_Mo_copy ?_
    exact ⟨trivial, S0.tr (SW.one 43 0 _ 3), by decide⟩
  have T109 : Go w K_Mo_copy 109 [some (.inr (.inr (7, 43))), some (.inl (k : Int)), some (.inl i), some (.inl (o : Int)), some (.inl j), some (.inl n), none, none, none, none] [] (up Y.1 43 0 0, Y.2) (fun z Z => SW 43 0 Y Z 3 ∧ z = -10 - 3) := by
    refine sx_Mo_copy ?_
    exact ⟨fun _ => T144 _, fun q => absurd rfl q⟩
  refine sx_Mo_copy ?_
  refine ⟨fun _ => T109, fun p1 => ⟨fun _ => T109, fun p2 => ⟨fun _ => T109, fun p3 => ?_⟩⟩⟩
  refine ⟨(by omega), (by show _ < ((4 : Nat) : Int); omega), fun _ => T109, fun p4 => ?_⟩
  refine ⟨(by omega), (by show _ < ((4 : Nat) : Int); omega), fun _ => T109, fun p5 => ?_⟩
  have p1 : 0 ≤ i := p1
  have p2 : 0 ≤ j := p2
  have p3 : 0 ≤ n := p3
  have p4 : i ≤ up Y.1 43 0 0 45 k := p4
  have p5 : j ≤ up Y.1 43 0 0 45 o := p5
  rw [r45] at p4 p5
  refine sx_Mo_copy ?_
  refine ⟨fun _ => T144 _, fun _ => ?_⟩
  refine ⟨(by omega), (by show _ < ((4 : Nat) : Int); omega), fun _ => T144 _, fun p6 => ?_⟩
  have p6 : n ≤ wr (up Y.1 43 0 0 45 k - i) := p6
  rw [r45, wr_id (by omega) (by omega)] at p6
  refine ⟨(by omega), (by show _ < ((4 : Nat) : Int); omega), fun p7 => ?_, fun _ => ?_⟩
  · have p7 : n ≤ wr (up Y.1 43 0 0 45 o - j) := p7
    rw [r45, wr_id (by omega) (by omega)] at p7
    exact absurd ⟨⟨⟨p1, p4⟩, p3, p6⟩, ⟨p2, p5⟩, p3, p7⟩ N
  refine ⟨trivial, _, mo_fails w _ 3, fun z Y hq => ?_⟩
  obtain ⟨rfl, rfl⟩ := hq
  refine sx_Mo_copy ?_
  exact ⟨trivial, S0.tr (SW.one 43 0 _ 3), by decide⟩
