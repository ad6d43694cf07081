/-! ===== bits of small sets; what every minute keeps ===== -/
theorem bt1' : ∀ S : Nat, S < 512 → ∀ k, k < 9 → ia ((S : Int) / 2 ^ k) 1 = if S.testBit k then 1 else 0 := by decide +kernel
theorem bt1 {S k : Nat} (h : S < 512) (hk : k < 9) : ia ((S : Int) / 2 ^ k) 1 = if S.testBit k then 1 else 0 := bt1' S h k hk
theorem bt2' : ∀ S : Nat, S < 64 → ∀ k, k < 31 → ia ((S : Int) / 2 ^ k) 1 = if S.testBit k then 1 else 0 := by decide +kernel
theorem bt2 {S k : Nat} (h : S < 64) (hk : k < 31) : ia ((S : Int) / 2 ^ k) 1 = if S.testBit k then 1 else 0 := bt2' S h k hk
theorem bo1' : ∀ S : Nat, S < 512 → ∀ k, k < 9 → io (S : Int) (2 ^ k) = ((S ||| 2 ^ k : Nat) : Int) := by decide +kernel
theorem bo1 {S k : Nat} (h : S < 512) (hk : k < 9) : io (S : Int) (2 ^ k) = ((S ||| 2 ^ k : Nat) : Int) := bo1' S h k hk
theorem bo0' : ∀ S : Nat, S < 512 → io (S : Int) 0 = (S : Int) := by decide +kernel
theorem bo0 {S : Nat} (h : S < 512) : io (S : Int) 0 = (S : Int) := bo0' S h
theorem bx1' : ∀ S : Nat, S < 512 → ∀ k, k < 9 → ia (S : Int) (ix (2 ^ k) (-1)) = ((S &&& (511 - 2 ^ k) : Nat) : Int) := by decide +kernel
theorem bx1 {S k : Nat} (h : S < 512) (hk : k < 9) : ia (S : Int) (ix (2 ^ k) (-1)) = ((S &&& (511 - 2 ^ k) : Nat) : Int) := bx1' S h k hk
theorem bx2' : ∀ k : Nat, k < 9 → ∀ j : Nat, j < 9 → (511 - 2 ^ k : Nat).testBit j = decide (j ≠ k) := by decide +kernel
theorem sh1' : ∀ k : Nat, k < 31 → wr (1 * 2 ^ k) = 2 ^ k := by decide +kernel
theorem sh1 {k : Nat} (h : k < 31) : wr (1 * 2 ^ k) = 2 ^ k := sh1' k h
theorem bs512 {u : Nat → Int} {n : Nat} (h : n ≤ 9) : bsN u n < 512 := Nat.lt_of_lt_of_le (bsN_lt u n) (Nat.le_trans (Nat.pow_le_pow_right (by decide) h) (by decide))
/-- a set without k -/
theorem bs_clr {u : Nat → Int} {n k : Nat} (h : n ≤ 9) (hk : k < n) : bsN u n &&& (511 - 2 ^ k) = bsN (u1 u k 0) n := by
  apply Nat.eq_of_testBit_eq
  intro j
  rw [Nat.testBit_and, bsN_bit, bsN_bit]
  by_cases hj : j < n
  · rw [bx2' k (by omega) j (by omega)]
    by_cases e : j = k
    · subst e; simp [u1]
    · simp [u1, e]
  · simp [hj]
def U01 (D : FD) (u : Nat → Int) : Prop := ∀ m, m < dn D → u m = 0 ∨ u m = 1
def FR (D : FD) (f : Nat → Int) : Prop := ∀ m, m < dn D → f m = -9 ∨ (0 ≤ f m ∧ f m < (dn D : Int))
def WF (D : FD) (F : FS) : Prop := U01 D F.1 ∧ FR D F.2.1
theorem wake_fr {D : FD} {law : Int} {u foe : Nat → Int} {m : Nat} (h : FR D foe) : FR D (wake D law u foe m) := by
  intro q hq
  unfold wake
  split
  · unfold u1
    split
    · exact wkf_rng D law u m
    · exact h q hq
  · exact h q hq
theorem wkL_fr {D : FD} {law : Int} {u : Nat → Int} {mn : Int} : ∀ (S : List (Int × Int)) (foe : Nat → Int), FR D foe → FR D (wkL D law u mn S foe)
  | [], _, h => h
  | q :: t, foe, h => by
    unfold wkL
    refine wkL_fr t _ ?_
    split
    · exact wake_fr h
    · exact h
theorem fUp_u {D : FD} {u a : Nat → Int} (h : U01 D u) : U01 D (fUp u a) := by
  intro m hm
  unfold fUp
  split
  · exact Or.inl rfl
  · exact h m hm
theorem trn_rng (D : FD) (u foe0 : Nat → Int) (m : Nat) : trn D u foe0 m = -9 ∨ (0 ≤ trn D u foe0 m ∧ trn D u foe0 m < (dn D : Int)) := by
  have := fn1_rng (fun x => decide (foe0 x = (m : Int) ∧ u x = 1 ∧ df D m x ≤ rch (dk D m))) (dn D) 0
  rw [Nat.zero_add] at this
  exact this
theorem fFoe_fr {D : FD} {u a foe : Nat → Int} (h : FR D foe) : FR D (fFoe u a foe) := by
  intro m hm
  unfold fFoe
  split
  · exact Or.inl rfl
  · exact h m hm
theorem fFoe2_fr {D : FD} {u foe : Nat → Int} (h : FR D foe) : FR D (fFoe2 u foe) := by
  intro m hm
  unfold fFoe2
  split
  · exact Or.inl rfl
  · exact h m hm
theorem fTrn_fr {D : FD} {u foe0 foe : Nat → Int} (h : FR D foe) : FR D (fTrn D u foe0 foe) := by
  intro m hm
  unfold fTrn
  split
  · exact trn_rng D u foe0 m
  · exact h m hm
theorem mst1_wf {D : FD} {law : Int} {S : List (Int × Int)} {mn : Int} {F : FS} (h : WF D F) : WF D (mst1 D law S mn F) := ⟨h.1, wkL_fr S _ h.2⟩
theorem mst2_wf {D : FD} {mn : Int} {F : FS} (h : WF D F) : WF D (mst2 D mn F) := ⟨fUp_u h.1, fTrn_fr (fFoe2_fr (fFoe_fr h.2))⟩
theorem bgn_wf (D : FD) (ab : Int) : WF D (bgn D ab) := by
  refine ⟨fun m _ => ?_, fun _ _ => Or.inl rfl⟩
  by_cases e : (m : Int) = ab
  · exact Or.inl (if_pos e)
  · exact Or.inr (if_neg e)
theorem run_wf (D : FD) (law : Int) (S : List (Int × Int)) (ab : Int) : ∀ k, WF D (run D law S ab k)
  | 0 => bgn_wf D ab
  | k + 1 => mst2_wf (mst1_wf (run_wf D law S ab k))
def bi (b : Bool) : Int := if b = true then 1 else 0
/-- how many are in a set -/
def pcf : Nat → Nat → Nat
  | 0, _ => 0
  | k + 1, x => x % 2 + pcf k (x / 2)
def pc (x : Nat) : Nat := pcf 10 x
theorem pc_le : ∀ x, x < 512 → pc x ≤ 9 := by decide +kernel
theorem bsN_s (u : Nat → Int) (n : Nat) : bsN u (n + 1) = if u n = 1 then bsN u n ||| 2 ^ n else bsN u n := rfl
theorem stkA_s (D : FD) (foe a : Nat → Int) (k : Nat) : stkA D foe a (k + 1) = if foe k = -9 then stkA D foe a k else u1 (stkA D foe a k) (foe k).toNat (wr (stkA D foe a k (foe k).toNat - blw (dk D k) (ds D k))) := rfl
theorem nrs_s (D : FD) (u : Nat → Int) (m : Nat) (b : Bool) (k : Nat) : nrs D u m b (k + 1) = if may D u m k b ∧ (nrs D u m b k = -9 ∨ df D m k < df D m (nrs D u m b k).toNat) then (k : Int) else nrs D u m b k := rfl
theorem sh2' : ∀ k : Nat, k < 31 → wr (2 ^ k) = 2 ^ k := by decide +kernel
theorem sh2 {k : Nat} (h : k < 31) : wr (2 ^ k) = 2 ^ k := sh2' k h
