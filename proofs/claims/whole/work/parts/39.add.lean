/-! ===== one man more in a host ===== -/
theorem ab1 {x y : Int} (hx : 0 ≤ x ∧ x < 20) (hy : 0 ≤ y ∧ y < 20) : (if 0 ≤ wr (x - y) then wr (x - y) else wr (0 - wr (x - y))) = if x < y then y - x else x - y := by
  rw [wr_id (z := x - y) (by omega) (by omega)]
  by_cases h : x < y
  · rw [if_neg (show ¬ 0 ≤ x - y by omega), if_pos h, wr_id (by omega) (by omega)]; omega
  · rw [if_pos (show 0 ≤ x - y by omega), if_neg h]
theorem ab2 {x y u v : Int} (hx : 0 ≤ x ∧ x < 20) (hy : 0 ≤ y ∧ y < 20) (hu : 0 ≤ u ∧ u < 20) (hv : 0 ≤ v ∧ v < 20) : wr ((if 0 ≤ wr (x - y) then wr (x - y) else wr (0 - wr (x - y))) + (if 0 ≤ wr (u - v) then wr (u - v) else wr (0 - wr (u - v)))) = (if x < y then y - x else x - y) + if u < v then v - u else u - v := by
  rw [ab1 hx hy, ab1 hu hv]
  have a : 0 ≤ (if x < y then y - x else x - y) ∧ (if x < y then y - x else x - y) < 20 := by
    by_cases h : x < y
    · rw [if_pos h]; omega
    · rw [if_neg h]; omega
  have b : 0 ≤ (if u < v then v - u else u - v) ∧ (if u < v then v - u else u - v) < 20 := by
    by_cases h : u < v
    · rw [if_pos h]; omega
    · rw [if_neg h]; omega
  exact wr_id (by omega) (by omega)
theorem ad_sym (x y : Int) : (if x < y then y - x else x - y) = if y < x then x - y else y - x := by
  by_cases h : x < y
  · rw [if_pos h, if_neg (by omega)]
  · by_cases g : y < x
    · rw [if_neg h, if_pos g]
    · rw [if_neg h, if_neg g]; omega
theorem fr_sym (w c d : Int) : fr w c d = fr w d c := by
  unfold fr
  rw [ad_sym (c / w), ad_sym (c % w)]
theorem c_steps (w : WD) {X : XS} {b : Nat} {c d : Int} (hw : 0 < X.1 b 7) (hc : 0 ≤ c ∧ c < 20) (hd : 0 ≤ d ∧ d < 20) : MS w M_Ho_stepsBetween [.inr (.inr (1, b)), .inl c, .inl d] X (fun z Y => Y = X ∧ z = fr (X.1 b 7) c d) := by
  have d1 := dv hc.1 hc.2 hw
  have d2 := dv hd.1 hd.2 hw
  have E := ab2 d1.1 d2.1 d1.2 d2.2
  refine mk_Ho_stepsBetween rfl ?_
  refine sx_Ho_stepsBetween ?_
  refine ⟨fun _ => ?_, fun q => absurd (show X.1 b 7 ≤ 0 from q) (by omega)⟩
  refine sx_Ho_stepsBetween ?_
  exact ⟨hc.1, hw, hd.1, hw, hc.1, hw, hd.1, hw, trivial, rfl, E⟩
theorem ix9 {j n : Nat} {x y : Int} (hx : x = (j : Int)) (hy : y = (n : Int)) (hj : j ≤ 8) (hn : n ≤ 8) : wr (wr (x * 9) + y) = ((j * 9 + n : Nat) : Int) := by
  subst hx
  subst hy
  rw [wr_id (z := (j : Int) * 9) (by omega) (by omega), wr_id (by omega) (by omega)]; omega
theorem ix9b {j n : Nat} {x y : Int} (hx : x = (j : Int)) (hy : y = (n : Int)) (hj : j ≤ 8) (hn : n ≤ 8) : 0 ≤ wr (wr (x * 9) + y) ∧ wr (wr (x * 9) + y) < ((81 : Nat) : Int) := by
  rw [ix9 hx hy hj hn]; omega
def AD (b n c : Nat) (k d s a : Int) (X Y : XS) : Prop := (∀ r, r < b ∨ b + 7 < r → Y.1 r = X.1 r) ∧ Y.2 = X.2 ∧ (∀ q, q ≠ 9 → Y.1 b q = X.1 b q) ∧ Y.1 b 9 = ((n + 1 : Nat) : Int) ∧ Y.1 (b + 1) = u1 (X.1 (b + 1)) n k ∧ Y.1 (b + 2) = u1 (X.1 (b + 2)) n d ∧ Y.1 (b + 3) = u1 (X.1 (b + 3)) n s ∧ Y.1 (b + 4) = u1 (X.1 (b + 4)) n a ∧ Y.1 (b + 5) = u1 (X.1 (b + 5)) n (c : Int) ∧ Y.1 (b + 7) = u1 (X.1 (b + 7)) c (n : Int) ∧ ∀ m o, m ≤ n → o ≤ n → Y.1 (b + 6) (m * 9 + o) = if m = n ∨ o = n then fr (X.1 b 7) (u1 (X.1 (b + 5)) n (c : Int) m) (u1 (X.1 (b + 5)) n (c : Int) o) else X.1 (b + 6) (m * 9 + o)
/-- behind the six stores -/
def h6 (b n c : Nat) (k d s a : Int) (X : XS) : Nat → Nat → Int := up (up (up (up (up (up X.1 (b + 1) n k) (b + 2) n d) (b + 3) n s) (b + 4) n a) (b + 5) n (c : Int)) (b + 7) c (n : Int)
theorem h6_ne {b n c : Nat} {k d s a : Int} {X : XS} {r : Nat} (h : r ≤ b ∨ b + 7 < r ∨ r = b + 6) : h6 b n c k d s a X r = X.1 r := by
  unfold h6
  rw [up_ne (by omega), up_ne (by omega), up_ne (by omega), up_ne (by omega), up_ne (by omega), up_ne (by omega)]
theorem h6_1 {b n c : Nat} {k d s a : Int} {X : XS} : h6 b n c k d s a X (b + 1) = u1 (X.1 (b + 1)) n k := by
  unfold h6
  rw [up_ne (by omega), up_ne (by omega), up_ne (by omega), up_ne (by omega), up_ne (by omega), up_row]
theorem h6_2 {b n c : Nat} {k d s a : Int} {X : XS} : h6 b n c k d s a X (b + 2) = u1 (X.1 (b + 2)) n d := by
  unfold h6
  rw [up_ne (by omega), up_ne (by omega), up_ne (by omega), up_ne (by omega), up_row, up_ne (by omega)]
theorem h6_3 {b n c : Nat} {k d s a : Int} {X : XS} : h6 b n c k d s a X (b + 3) = u1 (X.1 (b + 3)) n s := by
  unfold h6
  rw [up_ne (by omega), up_ne (by omega), up_ne (by omega), up_row, up_ne (by omega), up_ne (by omega)]
theorem h6_4 {b n c : Nat} {k d s a : Int} {X : XS} : h6 b n c k d s a X (b + 4) = u1 (X.1 (b + 4)) n a := by
  unfold h6
  rw [up_ne (by omega), up_ne (by omega), up_row, up_ne (by omega), up_ne (by omega), up_ne (by omega)]
theorem h6_5 {b n c : Nat} {k d s a : Int} {X : XS} : h6 b n c k d s a X (b + 5) = u1 (X.1 (b + 5)) n (c : Int) := by
  unfold h6
  rw [up_ne (by omega), up_row, up_ne (by omega), up_ne (by omega), up_ne (by omega), up_ne (by omega)]
theorem h6_7 {b n c : Nat} {k d s a : Int} {X : XS} : h6 b n c k d s a X (b + 7) = u1 (X.1 (b + 7)) c (n : Int) := by
  unfold h6
  rw [up_row, up_ne (by omega), up_ne (by omega), up_ne (by omega), up_ne (by omega), up_ne (by omega)]
def ADI (b n c : Nat) (k d s a : Int) (j : Nat) (X Z : XS) : Prop := (∀ r, r ≠ b + 6 → Z.1 r = h6 b n c k d s a X r) ∧ Z.2 = X.2 ∧ ∀ m o, m ≤ n → o ≤ n → Z.1 (b + 6) (m * 9 + o) = if (m = n ∧ o < j) ∨ (o = n ∧ m < j) then fr (X.1 b 7) (u1 (X.1 (b + 5)) n (c : Int) m) (u1 (X.1 (b + 5)) n (c : Int) o) else X.1 (b + 6) (m * 9 + o)
theorem ADI.step {b n c : Nat} {k d s a : Int} {j : Nat} {X Z : XS} (h : ADI b n c k d s a j X Z) (hj : j ≤ n) (hn : n ≤ 8) {v : Int} (hv : v = fr (X.1 b 7) (u1 (X.1 (b + 5)) n (c : Int) j) (c : Int)) : ADI b n c k d s a (j + 1) X (up (up Z.1 (b + 6) (j * 9 + n) v) (b + 6) (n * 9 + j) v, Z.2) := by
  obtain ⟨h1, h2, h3⟩ := h
  refine ⟨fun r hr => ?_, h2, fun m o hm ho => ?_⟩
  · show up (up Z.1 (b + 6) (j * 9 + n) v) (b + 6) (n * 9 + j) v r = _
    rw [up_ne hr, up_ne hr]; exact h1 r hr
  · show up (up Z.1 (b + 6) (j * 9 + n) v) (b + 6) (n * 9 + j) v (b + 6) (m * 9 + o) = _
    rw [up_row, up_row]
    by_cases e1 : m = n ∧ o = j
    · obtain ⟨rfl, rfl⟩ := e1
      rw [u1_s, if_pos (Or.inl ⟨rfl, by omega⟩), u1_s, fr_sym]
      exact hv
    · rw [u1_n (show m * 9 + o ≠ n * 9 + j by omega)]
      by_cases e2 : m = j ∧ o = n
      · obtain ⟨rfl, rfl⟩ := e2
        rw [u1_s, if_pos (Or.inr ⟨rfl, by omega⟩), u1_s]
        exact hv
      · rw [u1_n (show m * 9 + o ≠ j * 9 + n by omega), h3 m o hm ho]
        exact ifc (by omega)
theorem c_hadd (w : WD) {X : XS} {b n c : Nat} (hb : b = 27 ∨ b = 35) (hn : X.1 b 9 = (n : Int)) (hn8 : n ≤ 8) (hc : (c : Int) < X.1 b 8) (hc20 : X.1 b 8 ≤ 20) (hw : 2 ≤ X.1 b 7 ∧ X.1 b 7 ≤ 5) (hp : ∀ m, m < n → 0 ≤ X.1 (b + 5) m ∧ X.1 (b + 5) m < 20) (k d s a : Int) : MS w M_Ho_add [.inr (.inr (1, b)), .inl (c : Int), .inl k, .inl d, .inl s, .inl a] X (fun _ Y => AD b n c k d s a X Y) := by
  have A := c_isBelow w X (c : Int) (X.1 b 8)
  have C : ∀ q, h6 b n c k d s a X b q = X.1 b q := fun q => by rw [h6_ne (by omega)]
  refine mk_Ho_add rfl ?_
  refine sx_Ho_add ?_
  refine ⟨fun q => absurd (show (9 : Int) ≤ X.1 b 9 from q) (by omega), fun _ => ?_⟩
  refine ⟨trivial, _, A, fun z Y hq => ?_⟩
  obtain ⟨rfl, rfl⟩ := hq
  refine sx_Ho_add ?_
  refine ⟨fun _ => ?_, fun q => absurd (show 0 ≤ (c : Int) ∧ (c : Int) < Y.1 b 8 by omega) (nif q)⟩
  have T21 : ∀ Z : XS, Z.1 b 9 = (n : Int) → Go w K_Ho_add 31 [some (.inr (.inr (1, b))), some (.inl (c : Int)), some (.inl k), some (.inl d), some (.inl s), some (.inl a), none, none] [] (up Z.1 (b + 1) n k, Z.2) (fun _ Z => AD b n c k d s a Y Z) → Go w K_Ho_add 21 [some (.inr (.inr (1, b))), some (.inl (c : Int)), some (.inl k), some (.inl d), some (.inl s), some (.inl a), none, none] [] Z (fun _ Z => AD b n c k d s a Y Z) := by
    intro Z hz hg
    refine tx_Ho_add 6 ?_
    refine ⟨by rw [hz]; omega, by rw [hz]; show _ < ((9 : Nat) : Int); omega, ?_⟩
    rw [hz, Int.toNat_natCast]
    exact hg
  have T31 : ∀ Z : XS, Z.1 b 9 = (n : Int) → Go w K_Ho_add 41 [some (.inr (.inr (1, b))), some (.inl (c : Int)), some (.inl k), some (.inl d), some (.inl s), some (.inl a), none, none] [] (up Z.1 (b + 2) n d, Z.2) (fun _ Z => AD b n c k d s a Y Z) → Go w K_Ho_add 31 [some (.inr (.inr (1, b))), some (.inl (c : Int)), some (.inl k), some (.inl d), some (.inl s), some (.inl a), none, none] [] Z (fun _ Z => AD b n c k d s a Y Z) := by
    intro Z hz hg
    refine tx_Ho_add 6 ?_
    refine ⟨by rw [hz]; omega, by rw [hz]; show _ < ((9 : Nat) : Int); omega, ?_⟩
    rw [hz, Int.toNat_natCast]
    exact hg
  have T41 : ∀ Z : XS, Z.1 b 9 = (n : Int) → Go w K_Ho_add 52 [some (.inr (.inr (1, b))), some (.inl (c : Int)), some (.inl k), some (.inl d), some (.inl s), some (.inl a), none, none] [] (up Z.1 (b + 3) n s, Z.2) (fun _ Z => AD b n c k d s a Y Z) → Go w K_Ho_add 41 [some (.inr (.inr (1, b))), some (.inl (c : Int)), some (.inl k), some (.inl d), some (.inl s), some (.inl a), none, none] [] Z (fun _ Z => AD b n c k d s a Y Z) := by
    intro Z hz hg
    refine tx_Ho_add 6 ?_
    refine ⟨by rw [hz]; omega, by rw [hz]; show _ < ((9 : Nat) : Int); omega, ?_⟩
    rw [hz, Int.toNat_natCast]
    exact hg
  have T52 : ∀ Z : XS, Z.1 b 9 = (n : Int) → Go w K_Ho_add 63 [some (.inr (.inr (1, b))), some (.inl (c : Int)), some (.inl k), some (.inl d), some (.inl s), some (.inl a), none, none] [] (up Z.1 (b + 4) n a, Z.2) (fun _ Z => AD b n c k d s a Y Z) → Go w K_Ho_add 52 [some (.inr (.inr (1, b))), some (.inl (c : Int)), some (.inl k), some (.inl d), some (.inl s), some (.inl a), none, none] [] Z (fun _ Z => AD b n c k d s a Y Z) := by
    intro Z hz hg
    refine tx_Ho_add 6 ?_
    refine ⟨by rw [hz]; omega, by rw [hz]; show _ < ((9 : Nat) : Int); omega, ?_⟩
    rw [hz, Int.toNat_natCast]
    exact hg
  have T63 : ∀ Z : XS, Z.1 b 9 = (n : Int) → Go w K_Ho_add 73 [some (.inr (.inr (1, b))), some (.inl (c : Int)), some (.inl k), some (.inl d), some (.inl s), some (.inl a), none, none] [] (up Z.1 (b + 5) n (c : Int), Z.2) (fun _ Z => AD b n c k d s a Y Z) → Go w K_Ho_add 63 [some (.inr (.inr (1, b))), some (.inl (c : Int)), some (.inl k), some (.inl d), some (.inl s), some (.inl a), none, none] [] Z (fun _ Z => AD b n c k d s a Y Z) := by
    intro Z hz hg
    refine tx_Ho_add 6 ?_
    refine ⟨by rw [hz]; omega, by rw [hz]; show _ < ((9 : Nat) : Int); omega, ?_⟩
    rw [hz, Int.toNat_natCast]
    exact hg
  have T73 : ∀ Z : XS, Z.1 b 9 = (n : Int) → Go w K_Ho_add 86 [some (.inr (.inr (1, b))), some (.inl (c : Int)), some (.inl k), some (.inl d), some (.inl s), some (.inl a), some (.inl 0), none] [] (up Z.1 (b + 7) c (n : Int), Z.2) (fun _ Z => AD b n c k d s a Y Z) → Go w K_Ho_add 73 [some (.inr (.inr (1, b))), some (.inl (c : Int)), some (.inl k), some (.inl d), some (.inl s), some (.inl a), none, none] [] Z (fun _ Z => AD b n c k d s a Y Z) := by
    intro Z hz hg
    refine tx_Ho_add 8 ?_
    refine ⟨(by omega), (by show _ < ((20 : Nat) : Int); omega), ?_⟩
    rw [hz]
    exact hg
  have N : ∀ (f : Nat → Nat → Int) (i q : Nat) (z : Int), b < i → f b 9 = (n : Int) → up f i q z b 9 = (n : Int) := fun f i q z hi hf => by rw [up_ne (by omega)]; exact hf
  refine T21 _ hn (T31 _ (N _ _ _ _ (by omega) hn) (T41 _ (N _ _ _ _ (by omega) (N _ _ _ _ (by omega) hn)) (T52 _ (N _ _ _ _ (by omega) (N _ _ _ _ (by omega) (N _ _ _ _ (by omega) hn))) (T63 _ (N _ _ _ _ (by omega) (N _ _ _ _ (by omega) (N _ _ _ _ (by omega) (N _ _ _ _ (by omega) hn)))) (T73 _ (N _ _ _ _ (by omega) (N _ _ _ _ (by omega) (N _ _ _ _ (by omega) (N _ _ _ _ (by omega) (N _ _ _ _ (by omega) hn))))) ?_)))))
  have L : ∀ j, j ≤ n + 1 → ∀ (e : Int) (l7 : Option V) (Z : XS), e = (j : Int) → ADI b n c k d s a j Y Z → Go w K_Ho_add 86 [some (.inr (.inr (1, b))), some (.inl (c : Int)), some (.inl k), some (.inl d), some (.inl s), some (.inl a), some (.inl e), l7] [] Z (fun _ Z => AD b n c k d s a Y Z) := by
    refine lp ?_
    intro j hj ih e l7 Z he hI
    subst he
    have z9 : Z.1 b 9 = (n : Int) := by rw [hI.1 b (by omega), C]; exact hn
    have z7 : Z.1 b 7 = Y.1 b 7 := by rw [hI.1 b (by omega), C]
    have z5 : Z.1 (b + 5) = u1 (Y.1 (b + 5)) n (c : Int) := by rw [hI.1 (b + 5) (by omega), h6_5]
    refine sx_Ho_add ?_
    refine ⟨fun q => ?_, fun q => ?_⟩
    · have q : Z.1 b 9 < (j : Int) := q
      have ej : j = n + 1 := by omega
      subst ej
      refine sx_Ho_add ?_
      obtain ⟨i1, i2, i3⟩ := hI
      have w9 : wr (Z.1 b 9 + 1) = ((n + 1 : Nat) : Int) := by rw [z9, wr_id (by omega) (by omega)]; omega
      show AD b n c k d s a Y (up Z.1 b 9 (wr (Z.1 b 9 + 1)), Z.2)
      rw [w9]
      clear w9
      have R : ∀ r, r ≠ b → r ≠ b + 6 → up Z.1 b 9 ((n + 1 : Nat) : Int) r = h6 b n c k d s a Y r := fun r p1 p2 => by rw [up_ne p1]; exact i1 r p2
      refine ⟨fun r hr => (R r (by omega) (by omega)).trans (h6_ne (by omega)), i2, fun q hq => ?_, ?_, (R _ (by omega) (by omega)).trans h6_1, (R _ (by omega) (by omega)).trans h6_2, (R _ (by omega) (by omega)).trans h6_3, (R _ (by omega) (by omega)).trans h6_4, (R _ (by omega) (by omega)).trans h6_5, (R _ (by omega) (by omega)).trans h6_7, fun m o hm ho => ?_⟩
      · show up Z.1 b 9 ((n + 1 : Nat) : Int) b q = _
        rw [up_row, u1_n hq, i1 b (by omega)]; exact C q
      · show up Z.1 b 9 ((n + 1 : Nat) : Int) b 9 = _
        rw [up_row, u1_s]
      · show up Z.1 b 9 ((n + 1 : Nat) : Int) (b + 6) (m * 9 + o) = _
        rw [up_ne (by omega), i3 m o hm ho]
        exact ifc (by omega)
    · have q : (j : Int) ≤ Z.1 b 9 := q
      have hjn : j ≤ n := by omega
      have pj : 0 ≤ u1 (Y.1 (b + 5)) n (c : Int) j ∧ u1 (Y.1 (b + 5)) n (c : Int) j < 20 := by
        by_cases e : j = n
        · subst e; rw [u1_s]; omega
        · rw [u1_n e]; exact hp j (by omega)
      have A := c_steps w (X := Z) (b := b) (c := u1 (Y.1 (b + 5)) n (c : Int) j) (d := (c : Int)) (by rw [z7]; omega) pj (by omega)
      rw [z7, ← z5] at A
      refine ⟨(by omega), (by show _ < ((9 : Nat) : Int); omega), trivial, _, A, fun v Z1 hq => ?_⟩
      obtain ⟨rfl, hv⟩ := hq
      rw [z5] at hv
      have S := hI.step hjn hn8 hv
      have c2 : ∀ (q : Nat), up Z1.1 (b + 6) q v b 9 = (n : Int) := fun q => by rw [up_ne (by omega)]; exact z9
      refine sx_Ho_add ?_
      refine ⟨(ix9b rfl z9 (by omega) (by omega)).1, (ix9b rfl z9 (by omega) (by omega)).2, (ix9b (c2 _) rfl (by omega) (by omega)).1, (ix9b (c2 _) rfl (by omega) (by omega)).2, ?_⟩
      rw [ix9 rfl z9 (by omega) (by omega), ix9 (c2 _) rfl (by omega) (by omega), Int.toNat_natCast, Int.toNat_natCast]
      exact ih (by omega) _ _ _ (w1 rfl (by omega)) S
  refine L 0 (Nat.zero_le _) 0 none _ rfl ⟨fun r hr => rfl, rfl, fun m o hm ho => ?_⟩
  show h6 b n c k d s a Y (b + 6) (m * 9 + o) = _
  rw [h6_ne (by omega), if_neg (by omega)]
