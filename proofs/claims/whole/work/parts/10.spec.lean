/-! ===== the fight as mathematics ===== -/
/-- how many, kind, dragon, strength, shield, far -/
abbrev FD : Type := Nat × (Nat → Int) × (Nat → Int) × (Nat → Int) × (Nat → Int) × (Nat → Nat → Int)
abbrev dn (D : FD) : Nat := D.1
abbrev dk (D : FD) : Nat → Int := D.2.1
abbrev dd (D : FD) : Nat → Int := D.2.2.1
abbrev ds (D : FD) : Nat → Int := D.2.2.2.1
abbrev da (D : FD) : Nat → Int := D.2.2.2.2.1
abbrev df (D : FD) : Nat → Nat → Int := D.2.2.2.2.2
/-- up (0, 1), foe, armour, fell -/
abbrev FS : Type := (Nat → Int) × (Nat → Int) × (Nat → Int) × (Nat → Int)
def u1 (f : Nat → Int) (k : Nat) (z : Int) : Nat → Int := fun q => if q = k then z else f q
theorem u1_s (f : Nat → Int) (k : Nat) (z : Int) : u1 f k z k = z := by unfold u1; rw [if_pos rfl]
theorem u1_n {f : Nat → Int} {k q : Nat} {z : Int} (h : q ≠ k) : u1 f k z q = f q := by unfold u1; rw [if_neg h]
def rch (k : Int) : Int := if k = 2 then 3 else 1
def blw (k s : Int) : Int := if k = 0 then s else if k = 2 then max 1 (s / 2) + 1 else max 1 (s / 2)
abbrev may (D : FD) (u : Nat → Int) (m x : Nat) (b : Bool) : Prop := x ≠ m ∧ u x = 1 ∧ df D m x ≤ rch (dk D m) ∧ (b = false ∨ dd D x ≠ dd D m)
/-- the nearest of the first k -/
def nrs (D : FD) (u : Nat → Int) (m : Nat) (b : Bool) : Nat → Int
  | 0 => -9
  | k + 1 => if may D u m k b ∧ (nrs D u m b k = -9 ∨ df D m k < df D m (nrs D u m b k).toNat) then (k : Int) else nrs D u m b k
theorem nrs_rng (D : FD) (u : Nat → Int) (m : Nat) (b : Bool) : ∀ k, nrs D u m b k = -9 ∨ (0 ≤ nrs D u m b k ∧ nrs D u m b k < (k : Int))
  | 0 => Or.inl rfl
  | k + 1 => by
    have := nrs_rng D u m b k
    unfold nrs
    split
    · right; omega
    · omega
theorem nrs_rch (D : FD) (u : Nat → Int) (m : Nat) (b : Bool) : ∀ k, nrs D u m b k ≠ -9 → df D m (nrs D u m b k).toNat ≤ rch (dk D m)
  | 0 => fun h => absurd rfl h
  | k + 1 => by
    have ih := nrs_rch D u m b k
    unfold nrs
    split
    · rename_i h
      intro _
      exact h.1.2.2.1
    · exact ih
def wkf (D : FD) (law : Int) (u : Nat → Int) (m : Nat) : Int := if nrs D u m (decide (law ≠ 0)) (dn D) = -9 ∧ law = 2 then nrs D u m false (dn D) else nrs D u m (decide (law ≠ 0)) (dn D)
theorem wkf_rng (D : FD) (law : Int) (u : Nat → Int) (m : Nat) : wkf D law u m = -9 ∨ (0 ≤ wkf D law u m ∧ wkf D law u m < (dn D : Int)) := by
  unfold wkf
  split
  · exact nrs_rng D u m _ _
  · exact nrs_rng D u m _ _
def wake (D : FD) (law : Int) (u foe : Nat → Int) (m : Nat) : Nat → Int := if u m = 1 ∧ foe m = -9 then u1 foe m (wkf D law u m) else foe
/-- the stones of a minute -/
def wkL (D : FD) (law : Int) (u : Nat → Int) (mn : Int) : List (Int × Int) → (Nat → Int) → (Nat → Int)
  | [], foe => foe
  | q :: t, foe => wkL D law u mn t (if q.2 = mn then wake D law u foe q.1.toNat else foe)
theorem wkL_app (D : FD) (law : Int) (u : Nat → Int) (mn : Int) : ∀ (a b : List (Int × Int)) (foe : Nat → Int), wkL D law u mn (a ++ b) foe = wkL D law u mn b (wkL D law u mn a foe)
  | [], _, _ => rfl
  | q :: t, b, foe => wkL_app D law u mn t b _
/-- the blows of the first k -/
def stkA (D : FD) (foe a : Nat → Int) : Nat → (Nat → Int)
  | 0 => a
  | k + 1 => if foe k = -9 then stkA D foe a k else u1 (stkA D foe a k) (foe k).toNat (wr (stkA D foe a k (foe k).toNat - blw (dk D k) (ds D k)))
/-- the least from j on, of k -/
def fn1 (p : Nat → Bool) (j : Nat) : Nat → Int
  | 0 => -9
  | k + 1 => if p j = true then (j : Int) else fn1 p (j + 1) k
theorem fn1_rng (p : Nat → Bool) : ∀ k j, fn1 p j k = -9 ∨ (0 ≤ fn1 p j k ∧ fn1 p j k < ((j + k : Nat) : Int))
  | 0, _ => Or.inl rfl
  | k + 1, j => by
    have := fn1_rng p k (j + 1)
    unfold fn1
    split
    · right; omega
    · rw [show j + 1 + k = j + (k + 1) by omega] at this; exact this
abbrev dies (u a : Nat → Int) (m : Nat) : Prop := u m = 1 ∧ a m ≤ 0
def fUp (u a : Nat → Int) : Nat → Int := fun m => if dies u a m then 0 else u m
def fFoe (u a foe : Nat → Int) : Nat → Int := fun m => if dies u a m then -9 else foe m
def fFell (u a fell : Nat → Int) (mn : Int) : Nat → Int := fun m => if dies u a m then mn else fell m
def fFoe2 (u foe : Nat → Int) : Nat → Int := fun m => if foe m ≠ -9 ∧ u (foe m).toNat ≠ 1 then -9 else foe m
def trn (D : FD) (u foe0 : Nat → Int) (m : Nat) : Int := fn1 (fun x => decide (foe0 x = (m : Int) ∧ u x = 1 ∧ df D m x ≤ rch (dk D m))) 0 (dn D)
def fTrn (D : FD) (u foe0 foe : Nat → Int) : Nat → Int := fun m => if u m = 1 ∧ foe m = -9 then trn D u foe0 m else foe m
/-- a minute, behind its stones -/
def mst2 (D : FD) (mn : Int) (F : FS) : FS :=
  (fUp F.1 (stkA D F.2.1 F.2.2.1 (dn D)), fTrn D (fUp F.1 (stkA D F.2.1 F.2.2.1 (dn D))) F.2.1 (fFoe2 (fUp F.1 (stkA D F.2.1 F.2.2.1 (dn D))) (fFoe F.1 (stkA D F.2.1 F.2.2.1 (dn D)) F.2.1)), stkA D F.2.1 F.2.2.1 (dn D), fFell F.1 (stkA D F.2.1 F.2.2.1 (dn D)) F.2.2.2 mn)
def mst1 (D : FD) (law : Int) (S : List (Int × Int)) (mn : Int) (F : FS) : FS := (F.1, wkL D law F.1 mn S F.2.1, F.2.2.1, F.2.2.2)
def bgn (D : FD) (ab : Int) : FS := (fun m => if (m : Int) = ab then 0 else 1, fun _ => -9, da D, fun _ => -9)
/-- the fight behind k minutes -/
def run (D : FD) (law : Int) (S : List (Int × Int)) (ab : Int) : Nat → FS
  | 0 => bgn D ab
  | k + 1 => mst2 D (k : Int) (mst1 D law S (k : Int) (run D law S ab k))
/-! sets -/
def bsN (u : Nat → Int) : Nat → Nat
  | 0 => 0
  | n + 1 => if u n = 1 then bsN u n ||| 2 ^ n else bsN u n
theorem bsN_lt (u : Nat → Int) : ∀ n, bsN u n < 2 ^ n
  | 0 => Nat.zero_lt_one
  | n + 1 => by
    have ih := bsN_lt u n
    have h2 : bsN u n < 2 ^ (n + 1) := Nat.lt_of_lt_of_le ih (Nat.pow_le_pow_right (by decide) (by omega))
    unfold bsN
    split
    · exact Nat.or_lt_two_pow h2 (Nat.pow_lt_pow_right (by decide) (by omega))
    · exact h2
theorem bsN_bit (u : Nat → Int) : ∀ n k, (bsN u n).testBit k = decide (k < n ∧ u k = 1)
  | 0, k => by simp [bsN]
  | n + 1, k => by
    have ih := bsN_bit u n k
    unfold bsN
    split
    · rename_i h
      rw [Nat.testBit_or, ih, Nat.testBit_two_pow]
      by_cases e : n = k
      · subst e; simp [h]
      · rw [decide_eq_false e, Bool.or_false, decide_eq_decide]
        omega
    · rename_i h
      rw [ih]
      by_cases e : n = k
      · subst e; simp [h]
      · rw [decide_eq_decide]
        omega
theorem bsN_eq {u v : Nat → Int} {n : Nat} (h : ∀ m, m < n → (u m = 1 ↔ v m = 1)) : bsN u n = bsN v n := by
  apply Nat.eq_of_testBit_eq
  intro k
  rw [bsN_bit, bsN_bit]
  by_cases e : k < n
  · simp [e, h k e]
  · simp [e]
/-- a loop downwards -/
theorem lp {P : Nat → Prop} {n : Nat} (h : ∀ j, j ≤ n → (j < n → P (j + 1)) → P j) : ∀ j, j ≤ n → P j := by
  intro j hj
  have : ∀ k j, n - j = k → j ≤ n → P j := by
    intro k
    induction k with
    | zero => intro j h1 h2; exact h j h2 (fun h3 => by omega)
    | succ k ih => intro j h1 h2; exact h j h2 (fun h3 => ih (j + 1) (by omega) (by omega))
  exact this (n - j) j rfl hj
theorem zo_if (c : Prop) (inst : Decidable c) : (if c then (1 : Int) else 0) = 0 ∨ (if c then (1 : Int) else 0) = 1 := by
  split
  · exact Or.inr rfl
  · exact Or.inl rfl
theorem w1 {c : Int} {j : Nat} (h : c = (j : Int)) (hj : j < 1000000) : wr (c + 1) = ((j + 1 : Nat) : Int) := by subst h; rw [wr_id (by omega) (by omega)]; omega
