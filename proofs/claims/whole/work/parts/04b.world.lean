/-! ===== the world as a list of cells ===== -/
theorem wsX_get (w : WD) (X : XS) {i : Nat} (h1 : 1 ≤ i) (h2 : i ≤ NN) : (wsX w X)[i - 1]? = some (wAd w i, ent w X i) := by
  unfold wsX
  rw [List.getElem?_map, List.getElem?_range (by omega)]
  simp only [Option.map_some]
  rw [show i - 1 + 1 = i by omega]
theorem wsX_len (w : WD) (X : XS) : (wsX w X).length = NN := by unfold wsX; simp
theorem wsX_set (w : WD) (X X' : XS) {i : Nat} {e : va_E} (h1 : 1 ≤ i) (h2 : i ≤ NN) (he : ent w X' i = e) (ho : ∀ j, 1 ≤ j → j ≤ NN → j ≠ i → ent w X' j = ent w X j) : (wsX w X).set (i - 1) (wAd w i, e) = wsX w X' := by
  apply List.ext_getElem?
  intro q
  by_cases hq : q < NN
  · have g1 := wsX_get w X (i := q + 1) (by omega) (by omega)
    have g2 := wsX_get w X' (i := q + 1) (by omega) (by omega)
    rw [Nat.add_sub_cancel] at g1 g2
    rw [g2, List.getElem?_set]
    by_cases hqi : i - 1 = q
    · rw [if_pos hqi, if_pos (by rw [wsX_len]; omega)]
      have : i = q + 1 := by omega
      subst this
      rw [he]
    · rw [if_neg hqi, g1, ho (q + 1) (by omega) (by omega) (by omega)]
  · rw [List.getElem?_eq_none (by rw [List.length_set, wsX_len]; omega), List.getElem?_eq_none (by rw [wsX_len]; omega)]
theorem wsX_D {w : WD} (X : XS) (h : ∀ i j, 1 ≤ i → i ≤ NN → 1 ≤ j → j ≤ NN → wAd w i = wAd w j → i = j) : va_D (wA w) (wsX w X) := by
  have at' : ∀ (k : Nat) (q : Nat × va_E), (wsX w X)[k]? = some q → k < NN ∧ q.1 = wAd w (k + 1) := by
    intro k q hk
    have hl : k < NN := by
      have := (List.getElem?_eq_some_iff.mp hk).1
      rwa [wsX_len] at this
    have g := wsX_get w X (i := k + 1) (by omega) (by omega)
    rw [Nat.add_sub_cancel, hk] at g
    exact ⟨hl, by rw [Option.some.inj g]⟩
  refine ⟨fun i j p q hi hj e => ?_, fun k q hk => ?_⟩
  · obtain ⟨a1, a2⟩ := at' i p hi
    obtain ⟨b1, b2⟩ := at' j q hj
    have := h (i + 1) (j + 1) (by omega) (by omega) (by omega) (by omega) (by rw [← a2, ← b2]; exact e)
    omega
  · obtain ⟨a1, a2⟩ := at' k q hk
    exact ⟨k + 1, by omega, by omega, a2.symm⟩
/-! checks of the tables -/
def ownr (j : Nat) : Nat × Nat := if j = 0 then (1, 6) else if j = 1 then (1, 7) else if j = 2 then (11, 0) else (12, 4)
def tokb (c i : Nat) : Bool := Nat.ble 1 i && Nat.ble i NN && (bif Nat.ble 100 c then Nat.beq (cls i) 8 && Nat.beq (len i) (c - 100) else Nat.beq (cls i) c)
def chk1 (i k : Nat) : Bool := match ft (cls i) k with
  | (2, off, tc) => tokb tc (i + off)
  | (4, a, tc) => tokb tc a
  | (3, j, tc) => decide ((i, k) = ownr j) && Nat.beq tc (rcl j) && Nat.ble j 3
  | _ => true
theorem chk_ok : ∀ i, i ≤ NN → ∀ k, k < 35 → chk1 i k = true := by decide +kernel
theorem ftl_len : ∀ c, c < 8 → (FTL c).length ≤ 35 := by decide +kernel
theorem ftl_N : ∀ c, c < 8 → (vwCl[c]?).map (fun q => q.2.2) = some (FTL c).length := by decide +kernel
theorem tokb_ok {c i : Nat} (h : tokb c i = true) : tok c i := by
  unfold tokb at h
  simp only [Bool.and_eq_true, Nat.ble_eq] at h
  refine Or.inr ⟨h.1.1, h.1.2, ?_⟩
  have h3 := h.2
  by_cases hc : 100 ≤ c
  · rw [show Nat.ble 100 c = true from Nat.ble_eq.mpr hc] at h3
    simp only [cond_true, Bool.and_eq_true, Nat.beq_eq] at h3
    exact Or.inl ⟨hc, h3.1, h3.2⟩
  · rw [show Nat.ble 100 c = false from by rw [Bool.eq_false_iff]; exact fun q => hc (Nat.ble_eq.mp q)] at h3
    simp only [cond_false, Nat.beq_eq] at h3
    exact Or.inr ⟨by omega, h3⟩
theorem ft_out {c k : Nat} (h : ¬ k < (FTL c).length) : ft c k = (9, 0, 0) := by
  unfold ft
  rw [List.getD_eq_getElem?_getD, List.getElem?_eq_none (by omega)]; rfl
theorem ft_lt {c k : Nat} {q : Nat × Nat × Nat} (h : ft c k = q) (hq : q ≠ (9, 0, 0)) : k < (FTL c).length := by
  by_cases hk : k < (FTL c).length
  · exact hk
  · exact absurd (h.symm.trans (ft_out hk)) hq
theorem fin_ok {i k off tc : Nat} (hi : i ≤ NN) (hc : cls i < 8) (h : ft (cls i) k = (2, off, tc)) : tok tc (i + off) := by
  have hk := ft_lt h (by intro q; cases q)
  have := chk_ok i hi k (Nat.lt_of_lt_of_le hk (ftl_len _ hc))
  unfold chk1 at this
  rw [h] at this
  exact tokb_ok this
theorem fin_ok4 {i k a tc : Nat} (hi : i ≤ NN) (hc : cls i < 8) (h : ft (cls i) k = (4, a, tc)) : tok tc a := by
  have hk := ft_lt h (by intro q; cases q)
  have := chk_ok i hi k (Nat.lt_of_lt_of_le hk (ftl_len _ hc))
  unfold chk1 at this
  rw [h] at this
  exact tokb_ok this
theorem mut_ok {i k j tc : Nat} (hi : i ≤ NN) (hc : cls i < 8) (h : ft (cls i) k = (3, j, tc)) : (i, k) = ownr j ∧ tc = rcl j ∧ j ≤ 3 := by
  have hk := ft_lt h (by intro q; cases q)
  have := chk_ok i hi k (Nat.lt_of_lt_of_le hk (ftl_len _ hc))
  unfold chk1 at this
  rw [h] at this
  simp only [Bool.and_eq_true, decide_eq_true_eq, Nat.beq_eq, Nat.ble_eq] at this
  exact ⟨this.1.1, this.1.2, this.2⟩
theorem tok_obj {c i : Nat} (h : tok c i) (hc : c < 8) : 1 ≤ i ∧ i ≤ NN ∧ cls i = c := by
  rcases h with ⟨h, -⟩ | ⟨h1, h2, ⟨h3, -⟩ | ⟨-, h3⟩⟩
  · omega
  · omega
  · exact ⟨h1, h2, h3⟩
theorem tok_arr {c i : Nat} (h : tok c i) (hc : isA c = true) : 1 ≤ i ∧ i ≤ NN ∧ cls i = 8 ∧ len i = ln c i := by
  unfold isA at hc
  rcases h with ⟨h, -⟩ | ⟨h1, h2, ⟨h3, h4, h5⟩ | ⟨h3, h4⟩⟩
  · subst h; cases hc
  · refine ⟨h1, h2, h4, ?_⟩
    unfold ln
    rw [show Nat.ble 100 c = true from Nat.ble_eq.mpr h3]
    exact h5
  · have hb : Nat.ble 100 c = false := by rw [Bool.eq_false_iff]; exact fun q => absurd (Nat.ble_eq.mp q) (by omega)
    rw [hb] at hc
    have h8 : c = 8 := Nat.eq_of_beq_eq_true hc
    subst h8
    refine ⟨h1, h2, h4, ?_⟩
    unfold ln
    rw [hb]; rfl
theorem ent_obj (w : WD) (X : XS) {i c : Nat} (h : cls i = c) (hc : c < 8) : ent w X i = .inr (c, (List.range (FTL c).length).map (fv w X i c)) := by
  subst h
  unfold ent
  rw [if_pos hc]
theorem ent_int (w : WD) (X : XS) {i : Nat} (h : cls i = 8) : ent w X i = .inl (w.2.2.2.1, len i, .inl (fun j => Int32.ofInt (X.1 i j))) := by
  unfold ent
  rw [h, if_neg (by decide), if_pos rfl]
theorem ent_bool (w : WD) (X : XS) {i : Nat} (h : cls i = 9) : ent w X i = .inl (w.2.2.2.2.1, len i, .inl (fun j => Int32.ofInt (X.1 i j))) := by
  unfold ent
  rw [h, if_neg (by decide), if_neg (by decide), if_pos rfl]
theorem ent_sh (w : WD) (X : XS) : ent w X 2 = .inl (w.2.2.2.2.2, 4, .inr (.inr (.inr (.inr (fun j => some (wAd w (shid j))))))) := rfl
theorem flds_get (w : WD) (X : XS) {i c k : Nat} (h : k < (FTL c).length) : ((List.range (FTL c).length).map (fv w X i c))[k]? = some (fv w X i c k) := by
  rw [List.getElem?_map, List.getElem?_range h]; rfl
theorem ent_row (w : WD) (X X' : XS) {i : Nat} (h : X'.1 i = X.1 i) (h2 : X'.2 = X.2) : ent w X' i = ent w X i := by
  have e : fv w X' i (cls i) = fv w X i (cls i) := by
    funext k
    unfold fv
    rw [h2, h]
  unfold ent
  rw [e, h]
theorem up_ne {h : Nat → Nat → Int} {i k j : Nat} {z : Int} (hj : j ≠ i) : up h i k z j = h j := by unfold up; rw [if_neg hj]
theorem up_at (h : Nat → Nat → Int) (i k : Nat) (z : Int) : up h i k z i = fun q => if q = k then z else h i q := by unfold up; rw [if_pos rfl]
/-- a number is put into a field -/
theorem ent_put (w : WD) (X : XS) {i c k : Nat} {z : Int} (h : cls i = c) (hc : c < 8) (hk : (ft c k).1 = 0 ∨ (ft c k).1 = 1) : ent w (up X.1 i k z, X.2) i = .inr (c, ((List.range (FTL c).length).map (fv w X i c)).set k (.int (Int32.ofInt z))) := by
  rw [ent_obj w _ h hc]
  congr 2
  apply List.ext_getElem?
  intro q
  rw [List.getElem?_set]
  by_cases hq : q < (FTL c).length
  · rw [flds_get w _ hq]
    by_cases hqk : k = q
    · subst hqk
      rw [if_pos rfl, if_pos (by simpa using hq)]
      unfold fv
      rcases hft : ft c k with ⟨a, b, d⟩
      rw [hft] at hk
      have ha : a = 0 ∨ a = 1 := hk
      rcases ha with rfl | rfl <;> simp [up]
    · rw [if_neg hqk, flds_get w _ hq]
      unfold fv
      have : (up X.1 i k z i q) = X.1 i q := by rw [up_at]; simp [Ne.symm hqk]
      simp only [this]
  · have hn : ∀ Y, ((List.range (FTL c).length).map (fv w Y i c))[q]? = none := fun Y => List.getElem?_eq_none (by simpa using Nat.not_lt.mp hq)
    rw [hn, hn]
    split
    · rw [if_neg (by rename_i e; subst e; simpa using hq)]
    · rfl
/-- a reference is put into a field -/
theorem ent_putr (w : WD) (X : XS) {i c k j tc i2 : Nat} (hi : i ≤ NN) (h : cls i = c) (hc : c < 8) (hk : ft c k = (3, j, tc)) (h2 : i2 ≠ 0) : ent w (X.1, upr X.2 j i2) i = .inr (c, ((List.range (FTL c).length).map (fv w X i c)).set k (.ref (wAd w i2))) := by
  rw [ent_obj w _ h hc]
  congr 2
  apply List.ext_getElem?
  intro q
  rw [List.getElem?_set]
  by_cases hq : q < (FTL c).length
  · rw [flds_get w _ hq]
    by_cases hqk : k = q
    · subst hqk
      rw [if_pos rfl, if_pos (by simpa using hq)]
      unfold fv
      rw [hk]
      simp [upr, h2]
    · rw [if_neg hqk, flds_get w _ hq]
      unfold fv
      rcases hft : ft c q with ⟨a, b, d⟩
      by_cases ha : a = 3
      · subst ha
        have m1 := (mut_ok hi (by rw [h]; exact hc) (by rw [h]; exact hk)).1
        have m2 := (mut_ok hi (by rw [h]; exact hc) (by rw [h]; exact hft)).1
        have hbj : b ≠ j := fun e => by
          subst e
          have := m1.trans m2.symm
          exact hqk (Prod.mk.inj this).2
        simp [upr, hbj]
      · by_cases ha2 : a = 2
        · subst ha2; rfl
        · split <;> simp_all
  · have hn : ∀ Y, ((List.range (FTL c).length).map (fv w Y i c))[q]? = none := fun Y => List.getElem?_eq_none (by simpa using Nat.not_lt.mp hq)
    rw [hn, hn]
    split
    · rw [if_neg (by rename_i e; subst e; simpa using hq)]
    · rfl
theorem ent_othr (w : WD) (X : XS) {i c k j tc i2 : Nat} (hi : i ≤ NN) (h : cls i = c) (hc : c < 8) (hk : ft c k = (3, j, tc)) {i' : Nat} (hi' : i' ≤ NN) (hne : i' ≠ i) : ent w (X.1, upr X.2 j i2) i' = ent w X i' := by
  unfold ent
  by_cases hc' : cls i' < 8
  · rw [if_pos hc', if_pos hc']
    have e : fv w (X.1, upr X.2 j i2) i' (cls i') = fv w X i' (cls i') := by
      funext q
      unfold fv
      rcases hft : ft (cls i') q with ⟨a, b, d⟩
      by_cases ha : a = 3
      · subst ha
        have m1 := (mut_ok hi (by rw [h]; exact hc) (by rw [h]; exact hk)).1
        have m2 := (mut_ok hi' hc' hft).1
        have hbj : b ≠ j := fun e => by
          subst e
          exact hne (Prod.mk.inj (m2.trans m1.symm)).1
        simp [upr, hbj]
      · by_cases ha2 : a = 2
        · subst ha2; rfl
        · split <;> simp_all
    rw [e]
  · rw [if_neg hc', if_neg hc']
theorem RX_up {X : XS} {i k : Nat} {z : Int} (h : RX X) (hz : inR z) : RX (up X.1 i k z, X.2) := by
  refine ⟨fun a b => ?_, h.2⟩
  show inR (up X.1 i k z a b)
  unfold up
  split
  · rename_i e
    subst e
    show inR (if b = k then z else X.1 a b)
    split
    · exact hz
    · exact h.1 a b
  · exact h.1 a b
theorem RX_upr {X : XS} {j i2 : Nat} (h : RX X) (hz : tok (rcl j) i2) : RX (X.1, upr X.2 j i2) := by
  refine ⟨h.1, fun q => ?_⟩
  show upr X.2 j i2 q = 0 ∨ tok (rcl q) (upr X.2 j i2 q)
  unfold upr
  split
  · rename_i e
    subst e
    exact Or.inr hz
  · exact h.2 q
