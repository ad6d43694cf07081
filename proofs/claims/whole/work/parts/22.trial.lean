/-! ===== trial stones ===== -/
theorem stl_app (on at_ : Nat → Int) (n : Nat) : stl on at_ 0 (n + 1) = stl on at_ 0 n ++ [(on n, at_ n)] := by rw [stl_s, if_neg (by simp)]
theorem stl_mem {on at_ : Nat → Int} : ∀ {n k : Nat}, k < n → (on k, at_ k) ∈ stl on at_ 0 n
  | 0, k, h => absurd h (Nat.not_lt_zero k)
  | n + 1, k, h => by
    rw [stl_app]
    by_cases e : k = n
    · subst e; exact List.mem_append_right _ List.mem_cons_self
    · exact List.mem_append_left _ (stl_mem (by omega))
theorem stl_all {on at_ : Nat → Int} {P : Int × Int → Prop} : ∀ {n : Nat}, (∀ k, k < n → P (on k, at_ k)) → ∀ q ∈ stl on at_ 0 n, P q
  | 0, _, q, hq => by cases hq
  | n + 1, h, q, hq => by
    rw [stl_app] at hq
    rcases List.mem_append.mp hq with hq | hq
    · exact stl_all (fun k hk => h k (by omega)) q hq
    · rw [List.mem_singleton.mp hq]; exact h n (by omega)
/-- the list that the trial's rows hold -/
def TL (S : List (Int × Int)) (X : XS) (n : Nat) : Prop := n ≤ 30 ∧ X.1 20 2 = (n : Int) ∧ S = stl (X.1 21) (X.1 22) 0 n
theorem TL.sc {D : FD} {S : List (Int × Int)} {X : XS} {n : Nat} (h : TL S X n) (hS : ∀ q ∈ S, 0 ≤ q.1 ∧ q.1 < (dn D : Int)) : SC D 20 X S := by
  obtain ⟨h1, h2, h3⟩ := h
  refine ⟨Or.inr rfl, n, h1, h1, h1, h2, fun k hk => ?_, h3⟩
  have := hS (X.1 21 k, X.1 22 k) (by rw [h3]; exact stl_mem hk)
  exact this
theorem CS.up {X Y : XS} {i k : Nat} {z : Int} (h : CS X Y) (hi : (11 ≤ i ∧ i ≤ 16) ∨ (20 ≤ i ∧ i ≤ 22)) : CS X (up Y.1 i k z, Y.2) := ⟨fun j hj => (up_ne (by omega)).trans (h.1 j hj), h.2.1, h.2.2⟩
theorem c_tadd (w : WD) {S : List (Int × Int)} {X : XS} {n : Nat} (h : TL S X n) (hn : n < 30) (a b : Int) : MS w M_St_add [.inr (.inr (4, 20)), .inl a, .inl b] X (fun z Y => CS X Y ∧ TL (S ++ [(a, b)]) Y (n + 1)) := by
  obtain ⟨h1, h2, h3⟩ := h
  refine ms_imp (c_add w X (t := 20) a b (n := n) h2 hn hn (by omega)) (fun z Y hq => ?_)
  obtain ⟨rfl, -⟩ := hq
  refine ⟨CS.up (CS.up (CS.up (CS.rf X) (by omega)) (by omega)) (by omega), by omega, by simp [up_g], ?_⟩
  rw [stl_app, h3]
  congr 1
  · refine stl_congr (fun k hk => ?_)
    have : k ≠ n := by omega
    simp [up_g, this]
  · simp [up_g]
theorem c_take (w : WD) {X : XS} (h : J X) : MS w M_St_take [.inr (.inr (4, 20)), .inr (.inr (4, 17))] X (fun _ Y => CS X Y ∧ TL (SS X) Y (nS X)) := by
  obtain ⟨t1, t2, t3⟩ := h.2.2.2.2.1
  have hns : X.1 43 19 = (nS X : Int) := by unfold nS; omega
  refine mk_St_take rfl ?_
  refine tx_St_take 5 ?_
  have L : ∀ j, j ≤ nS X → ∀ (c : Int) (Y : XS), c = (j : Int) → CS X Y → TL (stl (X.1 53) (X.1 54) 0 j) Y j → Go w K_St_take 7 [some (.inr (.inr (4, 20))), some (.inr (.inr (4, 17))), some (.inl c)] [] Y (fun _ Y => CS X Y ∧ TL (SS X) Y (nS X)) := by
    refine lp ?_
    intro j hj ih c Y hc hC hT
    subst hc
    have r17 := hC.1 17 (by omega)
    have r18 := hC.1 18 (by omega)
    have r19 := hC.1 19 (by omega)
    have hcn : Y.1 17 2 = (nS X : Int) := by rw [r17, t2]; exact hns
    refine sx_St_take ?_
    refine ⟨fun q => ?_, fun q => ?_⟩
    · have e : j = nS X := by omega
      subst e
      refine sx_St_take ?_
      exact ⟨hC, hT⟩
    · have hjn : j < nS X := by omega
      obtain ⟨e1, e2, -⟩ := t3 j hjn
      have A := c_tadd w hT (show j < 30 by omega) (Y.1 18 j) (Y.1 19 j)
      refine ⟨(by omega), by show _ < ((6 : Nat) : Int); omega, (by omega), by show _ < ((6 : Nat) : Int); omega, trivial, _, A, fun z Y1 hq => ?_⟩
      obtain ⟨g1, g2⟩ := hq
      refine sx_St_take ?_
      refine ih hjn _ _ (w1 rfl (by omega)) (hC.tr g1) ?_
      rw [stl_app, ← e1, ← e2, ← r18, ← r19]
      exact g2
  refine L 0 (Nat.zero_le _) 0 _ rfl (CS.up (CS.rf X) (by omega)) ⟨by decide, by simp [up_g], rfl⟩
/-- the fight with these stones -/
def RT (X : XS) (S : List (Int × Int)) : FS := run (DM X) (X.1 43 13) S (-9) 30
theorem RM.rt {X Y : XS} (h : RM X Y) (S : List (Int × Int)) : RT Y S = RT X S := by unfold RT; rw [h.dm, h 43 (by omega)]
theorem J.sin {X : XS} (h : J X) : ∀ q ∈ SS X, 0 ≤ q.1 ∧ q.1 < (dn (DM X) : Int) := by
  have hn := h.n
  obtain ⟨t1, t2, t3⟩ := h.2.2.2.2.1
  unfold SS
  refine stl_all (fun k hk => ?_)
  obtain ⟨-, -, a, -⟩ := t3 k hk
  exact ⟨a.1, by show _ < (nM X : Int); rw [← hn.1]; exact a.2⟩
theorem c_trial (w : WD) {X Y : XS} {S : List (Int × Int)} {n : Nat} (h : J X) (hC : CS X Y) (hT : TL S Y n) (hS : ∀ q ∈ S, 0 ≤ q.1 ∧ q.1 < (dn (DM X) : Int)) : MS w M_Fi_run [.inr (.inr (0, 12)), .inr (.inr (1, Y.2 0)), .inr (.inr (4, 20)), .inl (Y.1 1 9), .inl 29, .inl (-9)] Y (fun z Z => CS X Z ∧ FC (DM X) (RT X S) Z ∧ z = ((bsN (RT X S).1 (nM X) : Nat) : Int)) := by
  have h' := h.cs hC
  have e := hC.rm.dm
  have A := c_run w (ab := -9) (law := Y.1 43 13) h'.hb h'.law (hT.sc (by rw [e]; exact hS)) (last := 29) (by decide)
  rw [e] at A
  rw [h'.2.2.2.1.1]
  have e2 : Y.1 43 13 = X.1 43 13 := by rw [hC.1 43 (by omega)]
  refine ms_imp A (fun z Z hq => ⟨hC.tr hq.1.cs, ?_, ?_⟩)
  · have := hq.2.1
    rw [e2] at this
    exact this
  · have := hq.2.2
    rw [e2] at this
    exact this
theorem c_lws (w : WD) {X : XS} (h : J X) (a b : Int) (ha : 0 ≤ a ∧ a < X.1 43 7) : MS w M_Tf_leftWithStone [.inr (.inr (6, 1)), .inl a, .inl b] X (fun z Z => CS X Z ∧ FC (DM X) (RT X (SS X ++ [(a, b)])) Z ∧ z = ((bsN (RT X (SS X ++ [(a, b)])).1 (nM X) : Nat) : Int)) := by
  have hn := h.n
  obtain ⟨t1, -, -⟩ := h.2.2.2.2.1
  refine mk_Tf_leftWithStone rfl ?_
  refine sx_Tf_leftWithStone ?_
  refine ⟨trivial, _, c_take w h, fun _ Y hq => ?_⟩
  obtain ⟨g1, g2⟩ := hq
  refine sx_Tf_leftWithStone ?_
  refine ⟨trivial, _, c_tadd w g2 (show nS X < 30 by unfold nS; omega) a b, fun _ Y1 hq => ?_⟩
  obtain ⟨g3, g4⟩ := hq
  have A := c_trial w h (g1.tr g3) g4 (fun q hq => by
    rcases List.mem_append.mp hq with hq | hq
    · exact h.sin q hq
    · rw [List.mem_singleton.mp hq]; exact ⟨ha.1, by show a < (nM X : Int); omega⟩)
  refine sx_Tf_leftWithStone ?_
  refine ⟨(h.cs (g1.tr g3)).b0, trivial, _, A, fun z Y2 hq => ?_⟩
  refine sx_Tf_leftWithStone ?_
  exact ⟨trivial, hq⟩
/-! the reference's -/
def SML (D : FD) (X : XS) (S : List (Int × Int)) (n : Nat) : Prop := n ≤ 31 ∧ X.1 43 19 = (n : Int) ∧ X.1 43 22 = 0 ∧ (∀ k, k < n → 0 ≤ X.1 53 k ∧ X.1 53 k < (dn D : Int)) ∧ S = stl (X.1 53) (X.1 54) 0 n
theorem SML.smo {D : FD} {X : XS} {S : List (Int × Int)} {n : Nat} (h : SML D X S n) : SMo D X S := ⟨n, 0, h.1, by decide, h.2.1, h.2.2.1, h.2.2.2.1, h.2.2.2.2⟩
def MEn (n : Nat) (X Y : XS) : Prop := (∀ i, i < 43 ∨ (43 < i ∧ i < 52) ∨ (59 < i ∧ i < 63) → Y.1 i = X.1 i) ∧ Y.2 = X.2 ∧ (∀ k, k < 8 ∨ k = 13 ∨ k = 22 ∨ k = 23 ∨ k = 29 → Y.1 43 k = X.1 43 k) ∧ ∀ k, k < n → Y.1 53 k = X.1 53 k ∧ Y.1 54 k = X.1 54 k
theorem MEn.rf (n : Nat) (X : XS) : MEn n X X := ⟨fun _ _ => rfl, rfl, fun _ _ => rfl, fun _ _ => ⟨rfl, rfl⟩⟩
theorem MEn.tr {n k : Nat} {X Y Z : XS} (h : MEn n X Y) (g : MEn k Y Z) (hk : n ≤ k) : MEn n X Z := ⟨fun i hi => (g.1 i hi).trans (h.1 i hi), g.2.1.trans h.2.1, fun k hk => (g.2.2.1 k hk).trans (h.2.2.1 k hk), fun j hj => ⟨(g.2.2.2 j (by omega)).1.trans (h.2.2.2 j hj).1, (g.2.2.2 j (by omega)).2.trans (h.2.2.2 j hj).2⟩⟩
theorem MF.men {X Y : XS} (h : MF X Y) (n : Nat) : MEn n X Y := ⟨fun i hi => h.2 i (by omega), h.1, fun k _ => by rw [h.2 43 (by omega)], fun k _ => by rw [h.2 53 (by omega), h.2 54 (by omega)]; exact ⟨rfl, rfl⟩⟩
theorem MEn.me {X Y : XS} (h : MEn (nS X) X Y) (hs : Y.1 43 19 = X.1 43 19) : ME X Y := ⟨h.1, h.2.1, fun k hk => by
  by_cases e : k = 19
  · subst e; exact hs
  · exact h.2.2.1 k (by omega), h.2.2.2⟩
theorem HM.men {D : FD} {n : Nat} {X Y : XS} (h : HM D X) (g : MEn n X Y) : HM D Y := by
  obtain ⟨h1, h2, h3, h4, h5⟩ := h
  unfold HM
  rw [g.2.2.1 6 (by omega), g.2.2.1 7 (by omega), g.1 47 (by omega), g.1 48 (by omega), g.1 49 (by omega), g.1 50 (by omega), g.1 51 (by omega)]
  exact ⟨h1, h2, h3, h4, h5⟩
theorem SML.men {D : FD} {n : Nat} {X Y : XS} {S : List (Int × Int)} (h : SML D X S n) (g : MEn n X Y) (hs : Y.1 43 19 = (n : Int)) : SML D Y S n := by
  obtain ⟨h1, h2, h3, h4, h5⟩ := h
  refine ⟨h1, hs, by rw [g.2.2.1 22 (by omega)]; exact h3, fun k hk => by rw [(g.2.2.2 k hk).1]; exact h4 k hk, ?_⟩
  rw [h5]
  exact stl_congr (fun k hk => ⟨(g.2.2.2 k hk).1.symm, (g.2.2.2 k hk).2.symm⟩)
theorem mo_layS (w : WD) {D : FD} {X : XS} {S : List (Int × Int)} {n : Nat} (h : SML D X S n) (hn : n < 31) {a b : Int} (ha : 0 ≤ a ∧ a < (dn D : Int)) : MS w M_Mo_lay [.inr (.inr (7, 43)), .inl a, .inl b] X (fun _ Y => MEn n X Y ∧ SML D Y (S ++ [(a, b)]) (n + 1)) := by
  obtain ⟨h1, h2, h3, h4, h5⟩ := h
  refine ms_imp (mo_lay w X a b h2 (by omega)) (fun z Y hq => ?_)
  subst hq
  refine ⟨⟨fun i hi => ?_, rfl, fun k hk => ?_, fun k hk => ?_⟩, by omega, by simp [up_g], by simp [up_g, h3], fun k hk => ?_, ?_⟩
  · show up (up (up X.1 53 n a) 54 n b) 43 19 ((n + 1 : Nat) : Int) i = X.1 i
    rw [up_ne (by omega), up_ne (by omega), up_ne (by omega)]
  · have : k ≠ 19 := by omega
    simp [up_g, this]
  · have : k ≠ n := by omega
    simp [up_g, this]
  · by_cases e : k = n
    · subst e; simp [up_g]; exact ha
    · simp [up_g, e]; exact h4 k (by omega)
  · rw [stl_app, h5]
    congr 1
    · refine stl_congr (fun k hk => ?_)
      have : k ≠ n := by omega
      simp [up_g, this]
    · simp [up_g]
theorem mo_leftWith (w : WD) {D : FD} {X : XS} {S : List (Int × Int)} {n : Nat} {law ab : Int} (hD : HM D X) (h : SML D X S n) (hn : n < 31) (hl : X.1 43 13 = law) (hab : X.1 43 23 = ab) {a b : Int} (ha : 0 ≤ a ∧ a < (dn D : Int)) : MS w M_Mo_leftWith [.inr (.inr (7, 43)), .inl a, .inl b] X (fun z Y => MEn n X Y ∧ Y.1 43 19 = (n : Int) ∧ z = ((bsN (run D law (S ++ [(a, b)]) ab 30).1 (dn D) : Nat) : Int)) := by
  refine mk_Mo_leftWith rfl ?_
  refine sx_Mo_leftWith ?_
  refine ⟨trivial, _, mo_layS w h hn ha, fun _ Y hq => ?_⟩
  obtain ⟨g1, g2⟩ := hq
  refine sx_Mo_leftWith ?_
  refine ⟨trivial, _, mo_leftNow w (hD.men g1) g2.smo (law := law) (ab := ab) (by rw [g1.2.2.1 13 (by omega)]; exact hl) (by rw [g1.2.2.1 23 (by omega)]; exact hab), fun z Y1 hq => ?_⟩
  obtain ⟨g3, g4, g5⟩ := hq
  have hc : Y1.1 43 19 = ((n + 1 : Nat) : Int) := by rw [g3.2 43 (by omega)]; exact g2.2.1
  refine sx_Mo_leftWith ?_
  have e : wr (Y1.1 43 19 - 1) = (n : Int) := by rw [hc, wr_id (by omega) (by omega)]; omega
  refine ⟨trivial, ?_, ?_, g5⟩
  · rw [e]
    refine (g1.tr (g3.men n) (Nat.le_refl n)).tr (k := n) ⟨fun i hi => ?_, rfl, fun k hk => ?_, fun k hk => ?_⟩ (Nat.le_refl n)
    · show up Y1.1 43 19 (n : Int) i = Y1.1 i
      exact up_ne (by omega)
    · have : k ≠ 19 := by omega
      simp [up_g, this]
    · simp [up_g]
  · rw [e]
    simp [up_g]
theorem J.sml {X : XS} (h : J X) : SML (DM X) X (SS X) (nS X) := by
  have hn := h.n
  obtain ⟨t1, -, t3⟩ := h.2.2.2.2.1
  refine ⟨by unfold nS; omega, by unfold nS; omega, h.2.2.2.2.2.2.1, fun k hk => ?_, rfl⟩
  obtain ⟨-, -, a, -⟩ := t3 k hk
  exact ⟨a.1, by show _ < (nM X : Int); rw [← hn.1]; exact a.2⟩
