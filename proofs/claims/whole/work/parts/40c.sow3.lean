/-- the rows with one man more -/
def hs5 (n j : Nat) (d : Int) (Z : XS) : Nat → Nat → Int := up (up (up (up (up Z.1 47 n 0) 48 n d) 49 n 5) 50 n 5) 51 n (j : Int)
theorem hs5_ne {n j : Nat} {d : Int} {Z : XS} {r : Nat} (h : r < 47 ∨ 51 < r) : hs5 n j d Z r = Z.1 r := by
  unfold hs5
  rw [up_ne (by omega), up_ne (by omega), up_ne (by omega), up_ne (by omega), up_ne (by omega)]
theorem u1_row {f g : Nat → Int} {n : Nat} {z : Int} (h : ∀ m, m ≠ n → f m = g m) : u1 f n z = u1 g n z := by
  funext q
  by_cases e : q = n
  · subst e; rw [u1_s, u1_s]
  · rw [u1_n e, u1_n e]; exact h q e
theorem hs5_r {X Z : XS} (g : SMJ X Z) {j : Nat} {d : Int} : hs5 (nM X) j d Z 47 = u1 (X.1 47) (nM X) 0 ∧ hs5 (nM X) j d Z 48 = u1 (X.1 48) (nM X) d ∧ hs5 (nM X) j d Z 49 = u1 (X.1 49) (nM X) 5 ∧ hs5 (nM X) j d Z 50 = u1 (X.1 50) (nM X) 5 ∧ hs5 (nM X) j d Z 51 = u1 (X.1 51) (nM X) (j : Int) := by
  unfold hs5
  refine ⟨?_, ?_, ?_, ?_, ?_⟩
  · rw [up_ne (by omega), up_ne (by omega), up_ne (by omega), up_ne (by omega), up_row]
    exact u1_row (fun m hm => (g.2.2 m hm).1)
  · rw [up_ne (by omega), up_ne (by omega), up_ne (by omega), up_row, up_ne (by omega)]
    exact u1_row (fun m hm => (g.2.2 m hm).2.1)
  · rw [up_ne (by omega), up_ne (by omega), up_row, up_ne (by omega), up_ne (by omega)]
    exact u1_row (fun m hm => (g.2.2 m hm).2.2.1)
  · rw [up_ne (by omega), up_row, up_ne (by omega), up_ne (by omega), up_ne (by omega)]
    exact u1_row (fun m hm => (g.2.2 m hm).2.2.2.1)
  · rw [up_row, up_ne (by omega), up_ne (by omega), up_ne (by omega), up_ne (by omega)]
    exact u1_row (fun m hm => (g.2.2 m hm).2.2.2.2)
abbrev hsX (X Z : XS) (j : Nat) (d : Int) : XS := (up (hs5 (nM X) j d Z) 43 7 ((nM X + 1 : Nat) : Int), Z.2)
theorem hsX_ne {X Z : XS} {j : Nat} {d : Int} {r : Nat} (h : r ≠ 43) : (hsX X Z j d).1 r = hs5 (nM X) j d Z r := up_ne h
theorem hsX_43 {X Z : XS} (g : SMJ X Z) {j : Nat} {d : Int} {q : Nat} (h : q ≠ 7) : (hsX X Z j d).1 43 q = X.1 43 q := by
  show up (hs5 (nM X) j d Z) 43 7 _ 43 q = _
  rw [up_row, u1_n h, hs5_ne (by omega), g.1 43 (by omega)]
theorem hs_hm {X Z : XS} (h : J X) (g : SMJ X Z) {j : Nat} (hj : (j : Int) < X.1 43 5 * X.1 43 6) {d : Int} : HM (DS X d j) (hsX X Z j d) := by
  have hn := h.n
  have hal := h.all
  obtain ⟨q1, q2, q3, q4, q5, q6, q7⟩ := h.2.2.1
  obtain ⟨-, s2, s3, s4, -⟩ := q3.resolve_left (fun z => by rw [z.2.1] at hj; omega)
  have r := hs5_r g (j := j) (d := d)
  have c6 : (hsX X Z j d).1 43 6 = X.1 43 6 := hsX_43 g (by decide)
  have c51 : (hsX X Z j d).1 51 = u1 (X.1 51) (nM X) (j : Int) := (hsX_ne (by decide)).trans r.2.2.2.2
  refine ⟨?_, ds_dr h j, fun m hm => ?_, fun m hm => ?_, fun m o hm ho => ?_⟩
  · show up (hs5 (nM X) j d Z) 43 7 _ 43 7 = _
    rw [up_row, u1_s]; rfl
  · rw [hsX_ne (by decide), hsX_ne (by decide), hsX_ne (by decide), hsX_ne (by decide), r.1, r.2.1, r.2.2.1, r.2.2.2.1]
    exact ⟨rfl, rfl, rfl, rfl⟩
  · have hm : m < nM X + 1 := hm
    rw [c6, c51]
    refine ⟨by omega, ?_⟩
    by_cases e : m = nM X
    · rw [e, u1_s]; omega
    · rw [u1_n e]
      have b := (q4 m (by omega)).2.2.2.2
      omega
  · rw [c6, c51]; rfl
theorem hs_smo {X Z : XS} (h : J X) (g : SMJ X Z) {j : Nat} {d : Int} : SMo (DS X d j) (hsX X Z j d) (SS X) := by
  obtain ⟨ns, mask, b1, b2, b3, b4, b5, b6⟩ := h.smo
  have r53 : (hsX X Z j d).1 53 = X.1 53 := by rw [hsX_ne (by decide), hs5_ne (by omega), g.1 53 (by omega)]
  have r54 : (hsX X Z j d).1 54 = X.1 54 := by rw [hsX_ne (by decide), hs5_ne (by omega), g.1 54 (by omega)]
  refine ⟨ns, mask, b1, b2, (hsX_43 g (by decide)).trans b3, (hsX_43 g (by decide)).trans b4, fun k hk => ?_, by rw [r53, r54]; exact b6⟩
  rw [r53]
  refine ⟨(b5 k hk).1, ?_⟩
  have := (b5 k hk).2
  show _ < ((nM X + 1 : Nat) : Int)
  have e : (dn (DM X) : Int) = (nM X : Int) := rfl
  omega
theorem hs_back {X Z Z1 : XS} (h : J X) (g : SMJ X Z) {j : Nat} {d : Int} (m1 : MF (hsX X Z j d) Z1) : SMJ X (up Z1.1 43 7 (nM X : Int), Z1.2) := by
  have hn := h.n
  have r := hs5_r g (j := j) (d := d)
  refine ⟨fun i hi => ?_, m1.1.trans g.2.1, fun m hm => ?_⟩
  · show up Z1.1 43 7 (nM X : Int) i = X.1 i
    by_cases e : i = 43
    · subst e
      rw [up_row, m1.2 43 (by omega)]
      funext q
      by_cases e : q = 7
      · subst e; rw [u1_s]; exact hn.1.symm
      · rw [u1_n e]; exact hsX_43 g e
    · rw [up_ne e, m1.2 i (by omega), hsX_ne e, hs5_ne (by omega)]; exact g.1 i hi
  · show up Z1.1 43 7 (nM X : Int) 47 m = _ ∧ up Z1.1 43 7 (nM X : Int) 48 m = _ ∧ up Z1.1 43 7 (nM X : Int) 49 m = _ ∧ up Z1.1 43 7 (nM X : Int) 50 m = _ ∧ up Z1.1 43 7 (nM X : Int) 51 m = _
    rw [up_ne (by omega), up_ne (by omega), up_ne (by omega), up_ne (by omega), up_ne (by omega), m1.2 47 (by omega), m1.2 48 (by omega), m1.2 49 (by omega), m1.2 50 (by omega), m1.2 51 (by omega), hsX_ne (by decide), hsX_ne (by decide), hsX_ne (by decide), hsX_ne (by decide), hsX_ne (by decide), r.1, r.2.1, r.2.2.1, r.2.2.2.1, r.2.2.2.2, u1_n hm, u1_n hm, u1_n hm, u1_n hm, u1_n hm]
    exact ⟨rfl, rfl, rfl, rfl, rfl⟩
theorem mo_allS (w : WD) {X Z : XS} (h : J X) (g : SMJ X Z) : MS w M_Mo_all [.inr (.inr (7, 43))] Z (fun z Y => Y = Z ∧ z = X.1 43 5 * X.1 43 6) := by
  have := mo_all w (h.smj g)
  rw [g.1 43 (by omega)] at this
  exact this
theorem mo_sow1 (w : WD) {X : XS} (h : J X) (d : Int) : MS w M_Mo_sow [.inr (.inr (7, 43)), .inl d] X (fun z Y => SMJ X Y ∧ z = a_sow d X) := by
  have hn := h.n
  have hal := h.all
  unfold a_sow
  refine mk_Mo_sow rfl ?_
  refine sx_Mo_sow ?_
  refine ⟨trivial, _, mo_within w X d 0 1, fun z Y hq => ?_⟩
  obtain ⟨rfl, rfl⟩ := hq
  refine sx_Mo_sow ?_
  refine ⟨fun q => ?_, fun q => ⟨trivial, SMJ.rf Y, by rw [if_neg (fun z => nif q (by omega))]⟩⟩
  have h1 := pif q
  rw [if_pos (show 0 ≤ d ∧ d < 2 by omega)]
  refine sx_Mo_sow ?_
  refine ⟨trivial, _, mo_all w h, fun z Y2 hq => ?_⟩
  obtain ⟨rfl, rfl⟩ := hq
  refine sx_Mo_sow ?_
  refine ⟨fun q => ?_, fun q => ⟨trivial, SMJ.rf Y2, by rw [if_pos q]⟩⟩
  rw [if_neg q]
  refine tx_Mo_sow 9 ?_
  have L : ∀ j, j ≤ (Y2.1 43 5 * Y2.1 43 6).toNat → ∀ (c s : Int) (Z : XS) (y : Option V), c = (j : Int) → ((swb Y2 d j).1 ≠ -9 → s = (swb Y2 d j).2) → SMJ Y2 Z → Go w K_Mo_sow 36 [some (.inr (.inr (7, 43))), some (.inl d), some (.inl (Y2.1 43 7)), some (.inl (swb Y2 d j).1), some (.inl s), some (.inl c), y] [] Z (fun z Z => SMJ Y2 Z ∧ z = (swb Y2 d (Y2.1 43 5 * Y2.1 43 6).toNat).1) := by
    refine lp ?_
    intro j hj ih c s Z y hc hs hC
    subst hc
    have hi := swb_i Y2 d j
    have hJ := h.smj hC
    have r43 := hC.1 43 (by omega)
    have en : nM Z = nM Y2 := by unfold nM; rw [r43]
    have hfe : fn1 (fun m => decide (Z.1 51 m = (j : Int))) 0 (nM Z) = fn1 (fun m => decide (Y2.1 51 m = (j : Int))) 0 (nM Y2) := by
      rw [en]
      exact fn1_congr (fun x _ hx => by rw [(hC.2.2 x (by omega)).2.2.2.2])
    refine sx_Mo_sow ?_
    refine ⟨trivial, _, mo_allS w h hC, fun z Z0 hq => ?_⟩
    obtain ⟨rfl, rfl⟩ := hq
    refine sx_Mo_sow ?_
    refine ⟨fun q => ?_, fun q => ?_⟩
    · have q : Y2.1 43 5 * Y2.1 43 6 ≤ (j : Int) := q
      have e : j = (Y2.1 43 5 * Y2.1 43 6).toNat := by omega
      refine sx_Mo_sow ?_
      exact ⟨trivial, hC, by rw [e]⟩
    · have q : (j : Int) < Y2.1 43 5 * Y2.1 43 6 := q
      have hjn : j < (Y2.1 43 5 * Y2.1 43 6).toNat := by omega
      have M := mo_manIn w (X := Z0) (hJ.n).1 (by omega) (j : Int)
      rw [hfe] at M
      refine ⟨trivial, _, M, fun z Z1 hq => ?_⟩
      obtain ⟨rfl, rfl⟩ := hq
      have NX : ∀ (p : Int × Int) (s : Int) (Z1 : XS) (y : Option V), SMJ Y2 Z1 → p = swb Y2 d (j + 1) → (p.1 ≠ -9 → s = p.2) → Go w K_Mo_sow 147 [some (.inr (.inr (7, 43))), some (.inl d), some (.inl (Y2.1 43 7)), some (.inl p.1), some (.inl s), some (.inl (j : Int)), y] [] Z1 (fun z Z => SMJ Y2 Z ∧ z = (swb Y2 d (Y2.1 43 5 * Y2.1 43 6).toNat).1) := by
        intro p s Z1 y g hp hs
        subst hp
        refine sx_Mo_sow ?_
        exact ih hjn _ _ _ _ (w1 rfl (by omega)) hs g
      refine tx_Mo_sow 2 ?_
      refine ⟨fun q3 => ?_, fun q3 => ?_⟩
      · exact NX (swb Y2 d j) s Z1 y hC (by rw [swb_s, if_neg (fun z => q3 z.1)]) hs
      · have q3 : fre Y2 j := q3
        refine tx_Mo_sow 31 ?_
        refine ⟨(by omega), (by show _ < ((9 : Nat) : Int); omega), (by omega), (by show _ < ((9 : Nat) : Int); omega), (by omega), (by show _ < ((9 : Nat) : Int); omega), (by omega), (by show _ < ((9 : Nat) : Int); omega), (by omega), (by show _ < ((9 : Nat) : Int); omega), ?_⟩
        show Go w K_Mo_sow 102 [some (.inr (.inr (7, 43))), some (.inl d), some (.inl (Y2.1 43 7)), some (.inl (swb Y2 d j).1), some (.inl s), some (.inl (j : Int)), y] [] (up (hs5 (nM Y2) j d Z1) 43 7 (wr (hs5 (nM Y2) j d Z1 43 7 + 1)), Z1.2) _
        have e7 : True → wr (hs5 (nM Y2) j d Z1 43 7 + 1) = ((nM Y2 + 1 : Nat) : Int) := fun _ => by rw [hs5_ne (by omega), r43, hn.1, wr_id (by omega) (by omega)]; omega
        rw [e7 trivial]
        clear e7
        have A := mo_leftNow w (hs_hm h hC q (d := d)) (hs_smo h hC) (law := Y2.1 43 13) (ab := -9) (hsX_43 hC (by decide)) ((hsX_43 hC (by decide)).trans h.2.2.2.2.2.2.2.1)
        refine sx_Mo_sow ?_
        refine ⟨trivial, _, A, fun z Z2 hq => ?_⟩
        obtain ⟨g1, -, rfl⟩ := hq
        have hbk := hs_back h hC g1
        have z7 : Z2.1 43 7 = ((nM Y2 + 1 : Nat) : Int) := (congrFun (g1.2 43 (by omega)) 7).trans (hs_hm h hC q (d := d)).1
        have hv := svn_le hn.2 d j
        refine tx_Mo_sow 6 ?_
        refine ⟨(by omega), (by omega), ?_⟩
        show Go w K_Mo_sow 112 [some (.inr (.inr (7, 43))), some (.inl d), some (.inl (Y2.1 43 7)), some (.inl (swb Y2 d j).1), some (.inl s), some (.inl (j : Int)), y] [.inl (ia ((bsN (run (DS Y2 d j) (Y2.1 43 13) (SS Y2) (-9) 30).1 (nM Y2 + 1) : Nat) : Int) (ix (wr (1 * 2 ^ nM Y2)) (-1)))] Z2 _
        rw [sh1 (k := nM Y2) (by omega), bx1 (k := nM Y2) (bs512 (by omega)) (by omega), bs_top2 hn.2]
        refine sx_Mo_sow ?_
        refine ⟨trivial, _, mo_size w Z2 (bs512 (by omega)), fun z Z3 hq => ?_⟩
        obtain ⟨rfl, rfl⟩ := hq
        refine tx_Mo_sow 7 ?_
        show Go w K_Mo_sow 127 [some (.inr (.inr (7, 43))), some (.inl d), some (.inl (Y2.1 43 7)), some (.inl (swb Y2 d j).1), some (.inl s), some (.inl (j : Int)), some (.inl (svn Y2 d j : Int))] [] (up Z3.1 43 7 (wr (Z3.1 43 7 - 1)), Z3.2) _
        have e8 : True → wr (Z3.1 43 7 - 1) = (nM Y2 : Int) := fun _ => by rw [z7, wr_id (by omega) (by omega)]; omega
        rw [e8 trivial]
        clear e8
        have T140 : (svn Y2 d j : Int) < (swb Y2 d j).2 → Go w K_Mo_sow 140 [some (.inr (.inr (7, 43))), some (.inl d), some (.inl (Y2.1 43 7)), some (.inl (swb Y2 d j).1), some (.inl s), some (.inl (j : Int)), some (.inl (svn Y2 d j : Int))] [] (up Z3.1 43 7 (nM Y2 : Int), Z3.2) (fun z Z => SMJ Y2 Z ∧ z = (swb Y2 d (Y2.1 43 5 * Y2.1 43 6).toNat).1) := by
          intro hl
          refine tx_Mo_sow 4 ?_
          exact NX ((j : Int), (svn Y2 d j : Int)) _ _ _ hbk (by rw [swb_s, if_pos ⟨q3, hl⟩]) (fun _ => rfl)
        refine tx_Mo_sow 6 ?_
        refine ⟨fun q4 => ?_, fun q4 => ⟨fun q5 => ?_, fun q5 => ?_⟩⟩
        · have q4 : (swb Y2 d j).1 = -9 := q4
          exact T140 (by omega)
        · have q4 : (swb Y2 d j).1 ≠ -9 := q4
          have e := hs q4
          subst e
          exact NX (swb Y2 d j) _ _ _ hbk (by rw [swb_s, if_neg (fun z => absurd z.2 (Int.not_lt.mpr q5))]) (fun _ => rfl)
        · have q4 : (swb Y2 d j).1 ≠ -9 := q4
          have e := hs q4
          subst e
          exact T140 q5
  exact L 0 (Nat.zero_le _) 0 0 Y2 none rfl (fun q => absurd rfl q) (SMJ.rf Y2)
theorem p_sow (w : WD) (d : Int) : PAIR w M_Tf_sow M_Mo_sow [.inl d] := by
  refine PAIR.askJ (a_sow d) (fun X Y h => ?_) (fun X h => ?_) (fun X h => ?_)
  · unfold a_sow
    rw [rm_swb h, h 43 (by omega)]
  · exact ms_imp (c_sow1 w h d) (fun z Y hq => ⟨⟨h.swj hq.1, hq.1.rm h.b2⟩, hq.2⟩)
  · exact ms_imp (mo_sow1 w h d) (fun z Y hq => ⟨h.smj hq.1, hq.2⟩)
