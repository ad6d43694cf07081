/-! ===== questions that run the fight ===== -/
def RN (X : XS) (k : Nat) : FS := run (DM X) (X.1 43 13) (SS X) (-9) k
theorem RM.rn {X Y : XS} (h : RM X Y) (k : Nat) : RN Y k = RN X k := by unfold RN; rw [h.dm, h.ss, h 43 (by omega)]
theorem fFell_rng {u a f : Nat → Int} {k m : Nat} (h : f m = -9 ∨ (0 ≤ f m ∧ f m < (k : Int))) : fFell u a f (k : Int) m = -9 ∨ (0 ≤ fFell u a f (k : Int) m ∧ fFell u a f (k : Int) m < ((k + 1 : Nat) : Int)) := by
  by_cases hd : dies u a m
  · have e : fFell u a f (k : Int) m = (k : Int) := if_pos hd
    rw [e]; right; omega
  · have e : fFell u a f (k : Int) m = f m := if_neg hd
    rw [e]; omega
theorem run_fell (D : FD) (law : Int) (S : List (Int × Int)) (ab : Int) : ∀ k m, (run D law S ab k).2.2.2 m = -9 ∨ (0 ≤ (run D law S ab k).2.2.2 m ∧ (run D law S ab k).2.2.2 m < (k : Int))
  | 0, m => Or.inl rfl
  | k + 1, m => fFell_rng (run_fell D law S ab k m)
theorem ms_imp {w : WD} {i : MI} {as : List V} {X : XS} {Q Q' : Int → XS → Prop} (h : MS w i as X Q) (hq : ∀ z Y, Q z Y → Q' z Y) : MS w i as X Q' := by
  intro a b p e h1 h2 h3 s m args below f g P K
  obtain ⟨n, o, c1, c2, c3, c4, L, c5⟩ := h a b p e h1 h2 h3 s m args below f g P K
  refine ⟨n, o, c1, c2, c3, ?_, L, c5⟩
  obtain ⟨⟨z, Y, d1, d2, d3⟩, d4⟩ := c4
  exact ⟨⟨z, Y, d1, hq z Y d2, d3⟩, d4⟩
theorem c_go (w : WD) {X : XS} (h : J X) {last : Nat} (hl : last < 30) : MS w M_Fi_run [.inr (.inr (0, 12)), .inr (.inr (1, X.2 0)), .inr (.inr (4, 17)), .inl (X.1 1 9), .inl (last : Int), .inl (-9)] X (fun z Y => CS X Y ∧ FC (DM X) (RN X (last + 1)) Y ∧ z = ((bsN (RN X (last + 1)).1 (nM X) : Nat) : Int)) := by
  have A := c_run w (ab := -9) (law := X.1 43 13) h.hb h.law h.sc hl
  rw [h.2.2.2.1.1]
  exact ms_imp A (fun z Y hq => ⟨hq.1.cs, hq.2.1, hq.2.2⟩)
theorem c_leftNow (w : WD) {X : XS} (h : J X) : MS w M_Tf_leftNow [.inr (.inr (6, 1))] X (fun z Y => CS X Y ∧ FC (DM X) (RN X 30) Y ∧ z = ((bsN (RN X 30).1 (nM X) : Nat) : Int)) := by
  refine mk_Tf_leftNow rfl ?_
  refine sx_Tf_leftNow ?_
  refine ⟨h.b0, trivial, _, c_go w h (last := 29) (by decide), fun z Y hq => ?_⟩
  refine sx_Tf_leftNow ?_
  exact ⟨trivial, hq⟩
theorem mo_go (w : WD) {X : XS} (h : J X) {last : Nat} (hl : last < 30) : MS w M_Mo_goTo [.inr (.inr (7, 43)), .inl (last : Int)] X (fun _ Y => MF X Y ∧ FM (DM X) (RN X (last + 1)) Y) := mo_goTo w h.hm h.smo rfl h.2.2.2.2.2.2.2.1 hl
theorem mo_leftNow (w : WD) {D : FD} {X : XS} {S : List (Int × Int)} {law ab : Int} (hD : HM D X) (hS : SMo D X S) (hl : X.1 43 13 = law) (ha : X.1 43 23 = ab) : MS w M_Mo_leftNow [.inr (.inr (7, 43))] X (fun z Y => MF X Y ∧ FM D (run D law S ab 30) Y ∧ z = ((bsN (run D law S ab 30).1 (dn D) : Nat) : Int)) := by
  refine mk_Mo_leftNow rfl ?_
  refine sx_Mo_leftNow ?_
  refine ⟨trivial, _, mo_goTo w hD hS hl ha (last := 29) (by decide), fun _ Y hq => ?_⟩
  obtain ⟨g1, g2⟩ := hq
  refine sx_Mo_leftNow ?_
  refine ⟨trivial, _, mo_standing w (hD.mf g1) (fun m hm => (g2 m hm).1) (run_wf D law S ab 30).1, fun z Y1 hq => ?_⟩
  obtain ⟨rfl, rfl⟩ := hq
  refine sx_Mo_leftNow ?_
  exact ⟨trivial, g1, g2, rfl⟩
theorem mo_left (w : WD) {X : XS} (h : J X) : MS w M_Mo_leftNow [.inr (.inr (7, 43))] X (fun z Y => MF X Y ∧ FM (DM X) (RN X 30) Y ∧ z = ((bsN (RN X 30).1 (nM X) : Nat) : Int)) := mo_leftNow w h.hm h.smo rfl h.2.2.2.2.2.2.2.1
def a_stands (a : Int) (X : XS) : Int := if 0 ≤ a ∧ a < 30 then (if X.1 43 5 * X.1 43 6 = 0 then -3 else ((bsN (RN X (a.toNat + 1)).1 (nM X) : Nat) : Int)) else -2
theorem p_stands (w : WD) (a : Int) : PAIR w M_Tf_stands M_Mo_stands [.inl a] := by
  refine PAIR.ask (a_stands a) (fun X Y h => by unfold a_stands nM; rw [h.rn, h 43 (by omega)]) (fun X h => ?_) (fun X h => ?_)
  · have hal := h.all
    refine mk_Tf_stands rfl ?_
    refine sx_Tf_stands ?_
    refine ⟨trivial, _, c_isBelow w X a 30, fun z Y hq => ?_⟩
    obtain ⟨rfl, rfl⟩ := hq
    unfold a_stands
    refine sx_Tf_stands ?_
    refine ⟨fun q => ?_, fun q => ⟨trivial, CS.rf Y, by rw [if_neg (nif q)]⟩⟩
    have ha := pif q
    rw [if_pos ha]
    refine sx_Tf_stands ?_
    refine ⟨fun q2 => ?_, fun q2 => ?_⟩
    · have q2 : Y.1 1 8 ≠ 0 := q2
      rw [if_neg (by omega)]
      have A := c_go w h (last := a.toNat) (by omega)
      rw [Int.toNat_of_nonneg ha.1] at A
      refine sx_Tf_stands ?_
      refine ⟨h.b0, trivial, _, A, fun z Y1 hq => ?_⟩
      refine sx_Tf_stands ?_
      exact ⟨trivial, hq.1, hq.2.2⟩
    · have q2 : Y.1 1 8 = 0 := q2
      rw [if_pos (by omega)]
      exact ⟨trivial, CS.rf Y, rfl⟩
  · refine mk_Mo_stands rfl ?_
    refine sx_Mo_stands ?_
    refine ⟨trivial, _, mo_isMinute w X a, fun z Y hq => ?_⟩
    obtain ⟨rfl, rfl⟩ := hq
    unfold a_stands
    refine sx_Mo_stands ?_
    refine ⟨fun q => ?_, fun q => ⟨trivial, ME.rf Y, by rw [if_neg (fun z => nif q (by omega))]⟩⟩
    have ha := pif q
    rw [if_pos (by omega)]
    refine sx_Mo_stands ?_
    refine ⟨trivial, _, mo_all w h, fun z Y1 hq => ?_⟩
    obtain ⟨rfl, rfl⟩ := hq
    refine sx_Mo_stands ?_
    refine ⟨fun q2 => ?_, fun q2 => ⟨trivial, ME.rf Y1, by rw [if_pos q2]⟩⟩
    rw [if_neg q2]
    have A := mo_go w h (last := a.toNat) (by omega)
    rw [Int.toNat_of_nonneg ha.1] at A
    refine sx_Mo_stands ?_
    refine ⟨trivial, _, A, fun z Y2 hq => ?_⟩
    obtain ⟨g1, g2⟩ := hq
    refine sx_Mo_stands ?_
    refine ⟨trivial, _, mo_standing w (h.hm.mf g1) (fun m hm => (g2 m hm).1) (run_wf _ _ _ _ _).1, fun z Y3 hq => ?_⟩
    obtain ⟨rfl, rfl⟩ := hq
    refine sx_Mo_stands ?_
    exact ⟨trivial, g1.me, rfl⟩
def a_left (X : XS) : Int := if X.1 43 5 * X.1 43 6 = 0 then -3 else ((bsN (RN X 30).1 (nM X) : Nat) : Int)
theorem p_left (w : WD) : PAIR w M_Tf_left M_Mo_left [] := by
  refine PAIR.ask a_left (fun X Y h => by unfold a_left nM; rw [h.rn, h 43 (by omega)]) (fun X h => ?_) (fun X h => ?_)
  · have hal := h.all
    unfold a_left
    refine mk_Tf_left rfl ?_
    refine sx_Tf_left ?_
    refine ⟨fun q2 => ?_, fun q2 => ?_⟩
    · have q2 : X.1 1 8 ≠ 0 := q2
      rw [if_neg (by omega)]
      refine sx_Tf_left ?_
      refine ⟨trivial, _, c_leftNow w h, fun z Y1 hq => ?_⟩
      refine sx_Tf_left ?_
      exact ⟨trivial, hq.1, hq.2.2⟩
    · have q2 : X.1 1 8 = 0 := q2
      rw [if_pos (by omega)]
      exact ⟨trivial, CS.rf X, rfl⟩
  · unfold a_left
    refine mk_Mo_left rfl ?_
    refine sx_Mo_left ?_
    refine ⟨trivial, _, mo_all w h, fun z Y1 hq => ?_⟩
    obtain ⟨rfl, rfl⟩ := hq
    refine sx_Mo_left ?_
    refine ⟨fun q2 => ?_, fun q2 => ?_⟩
    · rw [if_neg q2]
      refine sx_Mo_left ?_
      refine ⟨trivial, _, mo_left w h, fun z Y2 hq => ?_⟩
      refine sx_Mo_left ?_
      exact ⟨trivial, hq.1.me, hq.2.2⟩
    · refine sx_Mo_left ?_
      exact ⟨trivial, ME.rf Y1, by rw [if_pos q2]⟩
def a_foe (a b : Int) (X : XS) : Int := if 0 ≤ a ∧ a < X.1 43 7 then (if 0 ≤ b ∧ b < 30 then (RN X (b.toNat + 1)).2.1 a.toNat else -2) else -1
def a_arm (a b : Int) (X : XS) : Int := if 0 ≤ a ∧ a < X.1 43 7 then (if 0 ≤ b ∧ b < 30 then (RN X (b.toNat + 1)).2.2.1 a.toNat else -2) else -1
theorem p_foe (w : WD) (a b : Int) : PAIR w M_Tf_foe M_Mo_foe [.inl a, .inl b] := by
  refine PAIR.ask (a_foe a b) (fun X Y h => by unfold a_foe; rw [h.rn, h 43 (by omega)]) (fun X h => ?_) (fun X h => ?_)
  · have hn := h.n
    have A := c_wmm w h a b
    unfold a_foe
    refine mk_Tf_foe rfl ?_
    refine sx_Tf_foe ?_
    refine ⟨trivial, _, A, fun z Y hq => ?_⟩
    obtain ⟨rfl, rfl⟩ := hq
    refine sx_Tf_foe ?_
    by_cases h1 : 0 ≤ a ∧ a < Y.1 43 7
    · rw [if_pos h1, if_pos h1]
      by_cases h2 : 0 ≤ b ∧ b < 30
      · rw [if_pos h2, if_pos h2]
        refine ⟨fun q => ?_, fun q => absurd rfl q⟩
        have B := c_go w h (last := b.toNat) (by omega)
        rw [Int.toNat_of_nonneg h2.1] at B
        refine sx_Tf_foe ?_
        refine ⟨h.b0, trivial, _, B, fun z Y1 hq => ?_⟩
        obtain ⟨g1, g2, g3⟩ := hq
        refine sx_Tf_foe ?_
        refine ⟨h1.1, by show _ < ((9 : Nat) : Int); omega, trivial, g1, ?_⟩
        exact (g2.2 a.toNat (by show _ < nM Y; omega)).1
      · rw [if_neg h2, if_neg h2]
        exact ⟨fun q => absurd q (by decide), fun q => ⟨trivial, CS.rf Y, rfl⟩⟩
    · rw [if_neg h1, if_neg h1]
      exact ⟨fun q => absurd q (by decide), fun q => ⟨trivial, CS.rf Y, rfl⟩⟩
  · have hn := h.n
    unfold a_foe
    refine mk_Mo_foe rfl ?_
    refine sx_Mo_foe ?_
    refine ⟨trivial, _, mo_isMan w X a, fun z Y hq => ?_⟩
    obtain ⟨rfl, rfl⟩ := hq
    refine sx_Mo_foe ?_
    refine ⟨fun q => ?_, fun q => ⟨trivial, ME.rf Y, by rw [if_neg (nif q)]⟩⟩
    have h1 := pif q
    rw [if_pos h1]
    refine sx_Mo_foe ?_
    refine ⟨trivial, _, mo_isMinute w Y b, fun z Y1 hq => ?_⟩
    obtain ⟨rfl, rfl⟩ := hq
    refine sx_Mo_foe ?_
    refine ⟨fun q => ?_, fun q => ⟨trivial, ME.rf Y1, by rw [if_neg (fun z => nif q (by omega))]⟩⟩
    have h2 := pif q
    rw [if_pos (by omega)]
    have B := mo_go w h (last := b.toNat) (by omega)
    rw [Int.toNat_of_nonneg h2.1] at B
    refine sx_Mo_foe ?_
    refine ⟨trivial, _, B, fun z Y2 hq => ?_⟩
    obtain ⟨g1, g2⟩ := hq
    refine sx_Mo_foe ?_
    exact ⟨h1.1, by show _ < ((9 : Nat) : Int); omega, trivial, g1.me, (g2 a.toNat (by show _ < nM Y1; omega)).2.1⟩
theorem p_armour (w : WD) (a b : Int) : PAIR w M_Tf_armour M_Mo_armour [.inl a, .inl b] := by
  refine PAIR.ask (a_arm a b) (fun X Y h => by unfold a_arm; rw [h.rn, h 43 (by omega)]) (fun X h => ?_) (fun X h => ?_)
  · have hn := h.n
    have A := c_wmm w h a b
    unfold a_arm
    refine mk_Tf_armour rfl ?_
    refine sx_Tf_armour ?_
    refine ⟨trivial, _, A, fun z Y hq => ?_⟩
    obtain ⟨rfl, rfl⟩ := hq
    refine sx_Tf_armour ?_
    by_cases h1 : 0 ≤ a ∧ a < Y.1 43 7
    · rw [if_pos h1, if_pos h1]
      by_cases h2 : 0 ≤ b ∧ b < 30
      · rw [if_pos h2, if_pos h2]
        refine ⟨fun q => ?_, fun q => absurd rfl q⟩
        have B := c_go w h (last := b.toNat) (by omega)
        rw [Int.toNat_of_nonneg h2.1] at B
        refine sx_Tf_armour ?_
        refine ⟨h.b0, trivial, _, B, fun z Y1 hq => ?_⟩
        obtain ⟨g1, g2, g3⟩ := hq
        refine sx_Tf_armour ?_
        refine ⟨h1.1, by show _ < ((9 : Nat) : Int); omega, trivial, g1, ?_⟩
        exact (g2.2 a.toNat (by show _ < nM Y; omega)).2.1
      · rw [if_neg h2, if_neg h2]
        exact ⟨fun q => absurd q (by decide), fun q => ⟨trivial, CS.rf Y, rfl⟩⟩
    · rw [if_neg h1, if_neg h1]
      exact ⟨fun q => absurd q (by decide), fun q => ⟨trivial, CS.rf Y, rfl⟩⟩
  · have hn := h.n
    unfold a_arm
    refine mk_Mo_armour rfl ?_
    refine sx_Mo_armour ?_
    refine ⟨trivial, _, mo_isMan w X a, fun z Y hq => ?_⟩
    obtain ⟨rfl, rfl⟩ := hq
    refine sx_Mo_armour ?_
    refine ⟨fun q => ?_, fun q => ⟨trivial, ME.rf Y, by rw [if_neg (nif q)]⟩⟩
    have h1 := pif q
    rw [if_pos h1]
    refine sx_Mo_armour ?_
    refine ⟨trivial, _, mo_isMinute w Y b, fun z Y1 hq => ?_⟩
    obtain ⟨rfl, rfl⟩ := hq
    refine sx_Mo_armour ?_
    refine ⟨fun q => ?_, fun q => ⟨trivial, ME.rf Y1, by rw [if_neg (fun z => nif q (by omega))]⟩⟩
    have h2 := pif q
    rw [if_pos (by omega)]
    have B := mo_go w h (last := b.toNat) (by omega)
    rw [Int.toNat_of_nonneg h2.1] at B
    refine sx_Mo_armour ?_
    refine ⟨trivial, _, B, fun z Y2 hq => ?_⟩
    obtain ⟨g1, g2⟩ := hq
    refine sx_Mo_armour ?_
    exact ⟨h1.1, by show _ < ((9 : Nat) : Int); omega, trivial, g1.me, (g2 a.toNat (by show _ < nM Y1; omega)).2.2.1⟩
def a_falls (a : Int) (X : XS) : Int := if 0 ≤ a ∧ a < X.1 43 7 then (RN X 30).2.2.2 a.toNat else -1
theorem p_falls (w : WD) (a : Int) : PAIR w M_Tf_falls M_Mo_falls [.inl a] := by
  refine PAIR.ask (a_falls a) (fun X Y h => by unfold a_falls; rw [h.rn, h 43 (by omega)]) (fun X h => ?_) (fun X h => ?_)
  · have hn := h.n
    have A := c_has w X (X.2 0) a
    rw [h.2.2.1.2.1] at A
    unfold a_falls
    refine mk_Tf_falls rfl ?_
    refine sx_Tf_falls ?_
    refine ⟨h.b0, trivial, _, A, fun z Y hq => ?_⟩
    obtain ⟨rfl, rfl⟩ := hq
    refine sx_Tf_falls ?_
    refine ⟨fun q => ?_, fun q => ⟨trivial, CS.rf Y, by rw [if_neg (nif q)]⟩⟩
    have h1 := pif q
    rw [if_pos h1]
    refine sx_Tf_falls ?_
    refine ⟨trivial, _, c_leftNow w h, fun z Y1 hq => ?_⟩
    obtain ⟨g1, g2, g3⟩ := hq
    have hf := (g2.2 a.toNat (by show _ < nM Y; omega)).2.2
    have hr := run_fell (DM Y) (Y.1 43 13) (SS Y) (-9) 30 a.toNat
    have hr : (RN Y 30).2.2.2 a.toNat = -9 ∨ (0 ≤ (RN Y 30).2.2.2 a.toNat ∧ (RN Y 30).2.2.2 a.toNat < ((30 : Nat) : Int)) := hr
    unfold fl at hf
    refine sx_Tf_falls ?_
    refine ⟨h1.1, by show _ < ((9 : Nat) : Int); omega, fun q2 => ?_, fun q2 => ?_⟩
    · refine sx_Tf_falls ?_
      refine ⟨h1.1, by show _ < ((9 : Nat) : Int); omega, trivial, g1, ?_⟩
      rw [hf] at q2 ⊢
      split
      · rename_i e
        rw [if_pos e] at q2
        exact absurd rfl q2
      · rfl
    · refine sx_Tf_falls ?_
      refine ⟨trivial, g1, ?_⟩
      rw [hf] at q2
      split at q2
      · rename_i e
        exact e.symm
      · omega
  · have hn := h.n
    unfold a_falls
    refine mk_Mo_falls rfl ?_
    refine sx_Mo_falls ?_
    refine ⟨trivial, _, mo_isMan w X a, fun z Y hq => ?_⟩
    obtain ⟨rfl, rfl⟩ := hq
    refine sx_Mo_falls ?_
    refine ⟨fun q => ?_, fun q => ⟨trivial, ME.rf Y, by rw [if_neg (nif q)]⟩⟩
    have h1 := pif q
    rw [if_pos h1]
    refine sx_Mo_falls ?_
    refine ⟨trivial, _, mo_go w h (last := 29) (by decide), fun z Y2 hq => ?_⟩
    obtain ⟨g1, g2⟩ := hq
    refine sx_Mo_falls ?_
    exact ⟨h1.1, by show _ < ((9 : Nat) : Int); omega, trivial, g1.me, (g2 a.toNat (by show _ < nM Y; omega)).2.2.2⟩
