/-! ===== what was seen ===== -/
abbrev so1 (rm rt rs f : Nat → Int) (k : Nat) : Prop := (if f (rm k).toNat = -9 ∨ rt k < f (rm k).toNat then (1 : Int) else 0) = rs k
def soR (n : Nat) (rm rt rs f : Nat → Int) : Bool := decide (∀ k, k < n → so1 rm rt rs f k)
def so (X : XS) (f : Nat → Int) : Bool := soR (nR X) (X.1 60) (X.1 61) (X.1 62) f
theorem so_t {n : Nat} {rm rt rs f : Nat → Int} (h : ∀ k, k < n → so1 rm rt rs f k) : bi (soR n rm rt rs f) = 1 := by unfold bi soR; rw [if_pos (decide_eq_true h)]
theorem so_f {n k : Nat} {rm rt rs f : Nat → Int} (hk : k < n) (h : ¬ so1 rm rt rs f k) : bi (soR n rm rt rs f) = 0 := by
  unfold bi soR
  rw [if_neg]
  intro q
  exact h (of_decide_eq_true q k hk)
theorem fl_gt {z t : Int} (ht : t < 30) : t < fl z ↔ (z = -9 ∨ t < z) := by
  unfold fl
  split
  · rename_i h; exact ⟨fun _ => Or.inl h, fun _ => ht⟩
  · rename_i h; exact ⟨fun q => Or.inr q, fun q => q.resolve_left h⟩
theorem so_congr {n : Nat} {rm rt rs f g : Nat → Int} (h : ∀ k, k < n → f (rm k).toNat = g (rm k).toNat) : soR n rm rt rs f = soR n rm rt rs g := by
  unfold soR
  congr 1
  apply propext
  refine ⟨fun q k hk => ?_, fun q k hk => ?_⟩
  · have := q k hk
    unfold so1 at this ⊢
    rw [← h k hk]
    exact this
  · have := q k hk
    unfold so1 at this ⊢
    rw [h k hk]
    exact this
theorem c_areSo (w : WD) {X Y : XS} (h : J X) (hr : ∀ i, 23 ≤ i → i ≤ 26 → Y.1 i = X.1 i) {f : Nat → Int} (hf : ∀ m, m < nM X → Y.1 15 m = fl (f m)) : MS w M_Re_areSo [.inr (.inr (2, 23)), .inr (.inr (0, 12))] Y (fun z Z => Z = Y ∧ z = bi (so X f)) := by
  have hn := h.n
  obtain ⟨d1, d2, d3⟩ := h.2.2.2.2.2.1
  have hnr : X.1 43 29 = (nR X : Int) := by unfold nR; omega
  have hc : Y.1 23 3 = (nR X : Int) := by rw [hr 23 (by omega) (by omega), d2]; exact hnr
  refine mk_Re_areSo rfl ?_
  refine tx_Re_areSo 2 ?_
  have L : ∀ j, j ≤ nR X → ∀ (c : Int), c = (j : Int) → (∀ k, k < j → so1 (X.1 60) (X.1 61) (X.1 62) f k) → Go w K_Re_areSo 2 [some (.inr (.inr (2, 23))), some (.inr (.inr (0, 12))), some (.inl c)] [] Y (fun z Z => Z = Y ∧ z = bi (so X f)) := by
    refine lp ?_
    intro j hj ih c hcj hs
    subst hcj
    refine sx_Re_areSo ?_
    refine ⟨fun q => ?_, fun q => ?_⟩
    · have e : j = nR X := by omega
      subst e
      refine sx_Re_areSo ?_
      exact ⟨Or.inr rfl, rfl, (so_t hs).symm⟩
    · have hjn : j < nR X := by omega
      obtain ⟨e1, e2, e3, h1, h2, h3⟩ := d3 j hjn
      have f1 : Y.1 24 j = X.1 60 j := by rw [hr 24 (by omega) (by omega)]; exact e1
      have f2 : Y.1 25 j = X.1 61 j := by rw [hr 25 (by omega) (by omega)]; exact e2
      have f3 : Y.1 26 j = X.1 62 j := by rw [hr 26 (by omega) (by omega)]; exact e3
      have hfl := hf (X.1 60 j).toNat (by show _ < nM X; omega)
      have NX : ∀ t : Int, t = (if f (X.1 60 j).toNat = -9 ∨ X.1 61 j < f (X.1 60 j).toNat then (1 : Int) else 0) → Go w K_Re_areSo 35 [some (.inr (.inr (2, 23))), some (.inr (.inr (0, 12))), some (.inl (j : Int))] [.inl t] Y (fun z Z => Z = Y ∧ z = bi (so X f)) := by
        intro t ht
        refine sx_Re_areSo ?_
        refine ⟨(by omega), by show _ < ((8 : Nat) : Int); omega, fun q2 => ?_, fun q2 => ?_⟩
        · have q2 : t = Y.1 26 j := q2
          refine sx_Re_areSo ?_
          refine ih hjn _ (w1 rfl (by omega)) (fun k hk => ?_)
          by_cases e : k = j
          · subst e
            unfold so1
            rw [← ht, q2, f3]
          · exact hs k (by omega)
        · have q2 : t ≠ Y.1 26 j := q2
          refine ⟨Or.inl rfl, rfl, (so_f hjn (fun q => q2 ?_)).symm⟩
          rw [ht, f3]
          exact q
      have hx : Y.1 15 (Y.1 24 j).toNat = fl (f (X.1 60 j).toNat) := by rw [f1]; exact hfl
      refine ⟨(by omega), by show _ < ((8 : Nat) : Int); omega, by show 0 ≤ Y.1 24 j; omega, by show Y.1 24 j < ((9 : Nat) : Int); omega, (by omega), by show _ < ((8 : Nat) : Int); omega, fun q2 => ?_, fun q2 => ?_⟩
      · have q2 : Y.1 15 (Y.1 24 j).toNat ≤ Y.1 25 j := q2
        rw [hx, f2] at q2
        refine tx_Re_areSo 1 ?_
        exact NX 0 (by rw [if_neg (fun z => absurd ((fl_gt (by omega)).mpr z) (by omega))])
      · have q2 : Y.1 25 j < Y.1 15 (Y.1 24 j).toNat := q2
        rw [hx, f2] at q2
        exact NX 1 (by rw [if_pos ((fl_gt (by omega)).mp q2)])
  exact L 0 (Nat.zero_le _) 0 rfl (fun k hk => absurd hk (Nat.not_lt_zero k))
theorem mo_areSo (w : WD) {D : FD} {X Y : XS} {S : List (Int × Int)} {law ab : Int} (h : J X) (hr : Y.1 43 29 = X.1 43 29 ∧ Y.1 60 = X.1 60 ∧ Y.1 61 = X.1 61 ∧ Y.1 62 = X.1 62) (hd : dn D = nM X) (hD : HM D Y) (hS : SMo D Y S) (hl : Y.1 43 13 = law) (ha : Y.1 43 23 = ab) : MS w M_Mo_areSo [.inr (.inr (7, 43))] Y (fun z Z => MF Y Z ∧ z = bi (so X (run D law S ab 30).2.2.2)) := by
  have hn := h.n
  obtain ⟨r0, r1, r2, r3⟩ := hr
  obtain ⟨d1, d2, d3⟩ := h.2.2.2.2.2.1
  have hnr : X.1 43 29 = (nR X : Int) := by unfold nR; omega
  refine mk_Mo_areSo rfl ?_
  refine sx_Mo_areSo ?_
  refine ⟨trivial, _, mo_goTo w hD hS hl ha (last := 29) (by decide), fun _ Z hq => ?_⟩
  obtain ⟨g1, g2⟩ := hq
  have hc : Z.1 43 29 = (nR X : Int) := by rw [g1.2 43 (by omega), r0]; exact hnr
  refine tx_Mo_areSo 2 ?_
  have L : ∀ j, j ≤ nR X → ∀ (c : Int) (y2 y3 : Option V), c = (j : Int) → (∀ k, k < j → so1 (X.1 60) (X.1 61) (X.1 62) (run D law S ab 30).2.2.2 k) → Go w K_Mo_areSo 8 [some (.inr (.inr (7, 43))), some (.inl c), y2, y3] [] Z (fun z Z => MF Y Z ∧ z = bi (so X (run D law S ab 30).2.2.2)) := by
    refine lp ?_
    intro j hj ih c y2 y3 hcj hs
    subst hcj
    refine sx_Mo_areSo ?_
    refine ⟨fun q => ?_, fun q => ?_⟩
    · have e : j = nR X := by omega
      subst e
      refine sx_Mo_areSo ?_
      exact ⟨Or.inr rfl, g1, (so_t hs).symm⟩
    · have hjn : j < nR X := by omega
      obtain ⟨-, -, -, h1, h2, h3⟩ := d3 j hjn
      have f1 : Z.1 60 j = X.1 60 j := by rw [g1.2 60 (by omega), r1]
      have f2 : Z.1 61 j = X.1 61 j := by rw [g1.2 61 (by omega), r2]
      have f3 : Z.1 62 j = X.1 62 j := by rw [g1.2 62 (by omega), r3]
      have hx : Z.1 58 (Z.1 60 j).toNat = (run D law S ab 30).2.2.2 (X.1 60 j).toNat := by
        rw [f1]
        exact (g2 (X.1 60 j).toNat (by rw [hd]; show _ < nM X; omega)).2.2.2
      have NX : ∀ t : Int, t = (if (run D law S ab 30).2.2.2 (X.1 60 j).toNat = -9 ∨ X.1 61 j < (run D law S ab 30).2.2.2 (X.1 60 j).toNat then (1 : Int) else 0) → Go w K_Mo_areSo 54 [some (.inr (.inr (7, 43))), some (.inl (j : Int)), some (.inl (Z.1 60 j)), y3] [.inl t] Z (fun z Z => MF Y Z ∧ z = bi (so X (run D law S ab 30).2.2.2)) := by
        intro t ht
        refine sx_Mo_areSo ?_
        refine ⟨(by omega), by show _ < ((8 : Nat) : Int); omega, fun q2 => ?_, fun q2 => ?_⟩
        · have q2 : t = Z.1 62 j := q2
          refine sx_Mo_areSo ?_
          refine ih hjn _ _ _ (w1 rfl (by omega)) (fun k hk => ?_)
          by_cases e : k = j
          · subst e
            unfold so1
            rw [← ht, q2, f3]
          · exact hs k (by omega)
        · have q2 : t ≠ Z.1 62 j := q2
          refine ⟨Or.inl rfl, g1, (so_f hjn (fun q => q2 ?_)).symm⟩
          rw [ht, f3]
          exact q
      refine ⟨(by omega), by show _ < ((8 : Nat) : Int); omega, by show 0 ≤ Z.1 60 j; omega, by show Z.1 60 j < ((9 : Nat) : Int); omega, fun q2 => ?_, fun q2 => ?_⟩
      · have q2 : Z.1 58 (Z.1 60 j).toNat = -9 := q2
        rw [hx] at q2
        refine tx_Mo_areSo 2 ?_
        exact NX 1 (by rw [if_pos (Or.inl q2)])
      · have q2 : Z.1 58 (Z.1 60 j).toNat ≠ -9 := q2
        rw [hx] at q2
        refine ⟨by show 0 ≤ Z.1 60 j; omega, by show Z.1 60 j < ((9 : Nat) : Int); omega, (by omega), by show _ < ((8 : Nat) : Int); omega, fun q3 => ?_, fun q3 => ?_⟩
        · have q3 : Z.1 58 (Z.1 60 j).toNat ≤ Z.1 61 j := q3
          rw [hx, f2] at q3
          refine tx_Mo_areSo 1 ?_
          exact NX 0 (by rw [if_neg (fun z => by rcases z with z | z <;> omega)])
        · have q3 : Z.1 61 j < Z.1 58 (Z.1 60 j).toNat := q3
          rw [hx, f2] at q3
          exact NX 1 (by rw [if_pos (Or.inr q3)])
  exact L 0 (Nat.zero_le _) 0 _ _ rfl (fun k hk => absurd hk (Nat.not_lt_zero k))
