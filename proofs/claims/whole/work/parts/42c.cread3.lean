theorem md1 {r v j : Nat} (h : j < v) : (r * v + j) % v = j := by
  rw [Nat.add_comm, Nat.add_mul_mod_self_right, Nat.mod_eq_of_lt h]
theorem s59_id {f : Nat → Int} {n w c : Nat} {s : RS} (h : c % w ≠ 0) : s59 f n w c s = s := by
  unfold s59
  by_cases h1 : s.1 ≠ 0
  · rw [if_pos h1]
  · rw [if_neg h1, if_neg h]
theorem c_line (w : WD) {k i n : Nat} {f : Nat → Int} {X : XS} (h : RC k i n f X) (hn : 3 ≤ n) {b v N r : Nat} (hb : b = 27 ∨ b = 35) (hv : 2 ≤ v ∧ v ≤ 5) (hN : N ≤ 20) (hr : r * v + v ≤ N) (h0 : (rd f n v (r * v)).1 = 0) (hp : X.1 11 1 = ((i + (rd f n v (r * v)).2.1 : Nat) : Int)) (hH : HC b v N (rd f n v (r * v)).2.2.1 (rd f n v (r * v)).2.2.2 X) : MS w M_Tr_readLine [.inr (.inr (5, 11)), .inr (.inr (1, b)), .inl ((r * v : Nat) : Int), .inl (v : Int)] X (fun z Y => CFh b X Y ∧ Y.1 11 1 = ((i + (rd f n v (r * v + v)).2.1 : Nat) : Int) ∧ (((rd f n v (r * v + v)).1 = 0 ∧ z = 1 ∧ HC b v N (rd f n v (r * v + v)).2.2.1 (rd f n v (r * v + v)).2.2.2 Y) ∨ ((rd f n v (r * v + v)).1 ≠ 0 ∧ z = 0))) := by
  have m0 : (r * v) % v = 0 := Nat.mul_mod_left r v
  have ri := rd_ri (f := f) (w := v) hn (r * v)
  refine mk_Tr_readLine rfl ?_
  refine sx_Tr_readLine ?_
  refine ⟨trivial, _, c_tk w h hp 59 59, fun z Y hq => ?_⟩
  rcases hq with ⟨t, S, rfl⟩ | ⟨t, rfl, rfl⟩
  case inr =>
    have e1 : rd f n v (r * v + 1) = (1, (rd f n v (r * v)).2) := by
      rw [rd_s]
      unfold s59
      rw [if_neg (fun z => z h0), if_pos m0, if_neg t]
      exact bdy_bad (by show (1 : Int) ≠ 0; decide)
    have e2 : rd f n v (r * v + v) = (1, (rd f n v (r * v)).2) := by
      rw [show r * v + v = r * v + 1 + (v - 1) by omega, rd_bad (by rw [e1]; show (1 : Int) ≠ 0; decide), e1]
    rw [e2]
    refine sx_Tr_readLine ?_
    exact ⟨fun q => absurd (show (0 : Int) ≤ -9 from q) (by decide), fun _ => ⟨Or.inl rfl, CFh.rf b Y, hp, Or.inr ⟨by show (1 : Int) ≠ 0; decide, rfl⟩⟩⟩
  refine sx_Tr_readLine ?_
  refine ⟨fun _ => ?_, fun q => absurd (show f (rd f n v (r * v)).2.1 < 0 from q) (by omega)⟩
  refine tx_Tr_readLine 2 ?_
  have L : ∀ j, j ≤ v → ∀ (c : Int) (Z : XS) (s : RS), c = (j : Int) → CFh b X Z → s.1 = 0 → RI n (r * v + j) s → (j < v → bdy f n (r * v + j) s = rd f n v (r * v + j + 1)) → (j = v → s = rd f n v (r * v + v)) → Z.1 11 1 = ((i + s.2.1 : Nat) : Int) → HC b v N s.2.2.1 s.2.2.2 Z → Go w K_Tr_readLine 16 [some (.inr (.inr (5, 11))), some (.inr (.inr (1, b))), some (.inl ((r * v : Nat) : Int)), some (.inl (v : Int)), some (.inl c)] [] Z (fun z Y => CFh b X Y ∧ Y.1 11 1 = ((i + (rd f n v (r * v + v)).2.1 : Nat) : Int) ∧ (((rd f n v (r * v + v)).1 = 0 ∧ z = 1 ∧ HC b v N (rd f n v (r * v + v)).2.2.1 (rd f n v (r * v + v)).2.2.2 Y) ∨ ((rd f n v (r * v + v)).1 ≠ 0 ∧ z = 0))) := by
    refine lp ?_
    intro j hj ih c Z s hc hC hs0 hI hB hE hz hH
    subst hc
    refine sx_Tr_readLine ?_
    refine ⟨fun q => ?_, fun q => ?_⟩
    · have q : (v : Int) ≤ (j : Int) := q
      have e := hE (by omega)
      subst e
      refine sx_Tr_readLine ?_
      exact ⟨Or.inr rfl, hC, hz, Or.inl ⟨hs0, rfl, hH⟩⟩
    · have q : (j : Int) < (v : Int) := q
      have hjn : j < v := by omega
      have hB := hB hjn
      have hR := h.cf hb hC
      have NX : ∀ (Z1 : XS) (s' : RS), CFh b X Z1 → s' = rd f n v (r * v + j + 1) → s'.1 = 0 → Z1.1 11 1 = ((i + s'.2.1 : Nat) : Int) → HC b v N s'.2.2.1 s'.2.2.2 Z1 → Go w K_Tr_readLine 47 [some (.inr (.inr (5, 11))), some (.inr (.inr (1, b))), some (.inl ((r * v : Nat) : Int)), some (.inl (v : Int)), some (.inl (j : Int))] [] Z1 (fun z Y => CFh b X Y ∧ Y.1 11 1 = ((i + (rd f n v (r * v + v)).2.1 : Nat) : Int) ∧ (((rd f n v (r * v + v)).1 = 0 ∧ z = 1 ∧ HC b v N (rd f n v (r * v + v)).2.2.1 (rd f n v (r * v + v)).2.2.2 Y) ∨ ((rd f n v (r * v + v)).1 ≠ 0 ∧ z = 0))) := by
        intro Z1 s' g1 g2 g3 g4 g5
        refine sx_Tr_readLine ?_
        refine ih hjn _ Z1 s' (w1 rfl (by omega)) g1 g3 (by rw [g2]; exact rd_ri hn _) (fun hl => ?_) (fun hl => ?_) g4 g5
        · rw [g2, show r * v + (j + 1) = r * v + j + 1 by omega, rd_s f n v (r * v + j + 1), s59_id (by rw [show r * v + j + 1 = r * v + (j + 1) by omega, md1 hl]; omega)]
        · rw [g2, ← hl, Nat.add_assoc]
      refine ⟨trivial, _, c_tk w hR hz 46 46, fun z Z1 hq => ?_⟩
      rcases hq with ⟨t, S, rfl⟩ | ⟨t, rfl, rfl⟩
      · refine sx_Tr_readLine ?_
        refine ⟨fun _ => ?_, fun q => absurd (show f s.2.1 < 0 from q) (by omega)⟩
        refine NX Z1 (0, s.2.1 + 1, s.2.2) (hC.tr S.cf) ?_ rfl S.2.2.2 (hH.sw hb S)
        rw [← hB]
        unfold bdy
        rw [if_neg (fun z => z hs0), if_pos t]
      · have ew : True → wr (((r * v : Nat) : Int) + (j : Int)) = ((r * v + j : Nat) : Int) := fun _ => by rw [wr_id (by omega) (by omega)]; omega
        have A := c_rdMan w hR hz hb hH hI.2.2.1 (c := r * v + j) (fun q hq => (hI.2.2.2 q hq).2.2.2.2) (by omega) hN hv
        rw [← ew trivial] at A
        clear ew
        refine sx_Tr_readLine ?_
        refine ⟨fun q => absurd (show (0 : Int) ≤ -9 from q) (by decide), fun _ => ?_⟩
        refine ⟨trivial, _, A, fun z Z2 hq => ?_⟩
        clear A
        obtain ⟨g1, g2, g3⟩ := hq
        rcases g3 with ⟨g3, rfl, g4⟩ | ⟨g3, rfl⟩
        · refine sx_Tr_readLine ?_
          refine ⟨fun _ => ?_, fun q => absurd q (by decide)⟩
          refine NX Z2 (0, s.2.1 + 4, s.2.2.1 + 1, uM f s.2.1 s.2.2.1 (r * v + j) s.2.2.2) (hC.tr g1) ?_ rfl (by rw [g3] at g2; exact g2) g4
          rw [← hB]
          unfold bdy
          rw [if_neg (fun z => z hs0), if_neg t, if_pos g3]
        · have e1 : rd f n v (r * v + j + 1) = (1, s.2.1 + mln f n s.2.1 s.2.2.1, s.2.2) := by
            rw [← hB]
            unfold bdy
            rw [if_neg (fun z => z hs0), if_neg t, if_neg g3]
          have e2 : rd f n v (r * v + v) = (1, s.2.1 + mln f n s.2.1 s.2.2.1, s.2.2) := by
            rw [show r * v + v = r * v + j + 1 + (v - (j + 1)) by omega, rd_bad (by rw [e1]; show (1 : Int) ≠ 0; decide), e1]
          rw [e2]
          refine sx_Tr_readLine ?_
          exact ⟨fun q => absurd rfl q, fun _ => ⟨Or.inl rfl, hC.tr g1, g2, Or.inr ⟨by show (1 : Int) ≠ 0; decide, rfl⟩⟩⟩
  have e0 : s59 f n v (r * v) (rd f n v (r * v)) = (0, (rd f n v (r * v)).2.1 + 1, (rd f n v (r * v)).2.2) := by
    unfold s59
    rw [if_neg (fun z => z h0), if_pos m0, if_pos t]
  have ri0 := s59_ri (f := f) (w := v) ri
  rw [e0] at ri0
  refine L 0 (Nat.zero_le _) 0 Y (0, (rd f n v (r * v)).2.1 + 1, (rd f n v (r * v)).2.2) rfl S.cf rfl ri0 (fun _ => ?_) (fun z => absurd z (by omega)) S.2.2.2 (hH.sw hb S)
  rw [Nat.add_zero, rd_s, e0]
theorem c_clear (w : WD) {X : XS} {b h v : Nat} (hb : b = 27 ∨ b = 35) (hN : h * v ≤ 20) : MS w M_Ho_clear [.inr (.inr (1, b)), .inl (h : Int), .inl (v : Int)] X (fun _ Y => CFh b X Y ∧ Y.1 11 = X.1 11 ∧ HC b v (h * v) 0 (fun _ _ => 0) Y) := by
  have ez : True → max 0 (min (wr ((h : Int) * (v : Int))) 20) = ((h * v : Nat) : Int) := fun _ => by
    have e : (h : Int) * (v : Int) = ((h * v : Nat) : Int) := (Int.natCast_mul h v).symm
    rw [e, wr_id (by omega) (by omega)]
    omega
  refine mk_Ho_clear rfl ?_
  refine tx_Ho_clear 17 ?_
  show Go w K_Ho_clear 28 [some (.inr (.inr (1, b))), some (.inl (h : Int)), some (.inl (v : Int)), some (.inl 0)] [] (up (up (up X.1 b 7 (v : Int)) b 8 (max 0 (min (wr ((h : Int) * (v : Int))) 20))) b 9 0, X.2) _
  rw [ez trivial]
  clear ez
  have L : ∀ j, j ≤ h * v → ∀ (c : Int) (Z : XS), c = (j : Int) → CFh b X Z → Z.1 11 = X.1 11 → Z.1 b 7 = (v : Int) → Z.1 b 8 = ((h * v : Nat) : Int) → Z.1 b 9 = 0 → (∀ q, q < j → Z.1 (b + 7) q = -9) → Go w K_Ho_clear 28 [some (.inr (.inr (1, b))), some (.inl (h : Int)), some (.inl (v : Int)), some (.inl c)] [] Z (fun _ Y => CFh b X Y ∧ Y.1 11 = X.1 11 ∧ HC b v (h * v) 0 (fun _ _ => 0) Y) := by
    refine lp ?_
    intro j hj ih c Z hc hC h11 z7 z8 z9 hq
    subst hc
    refine sx_Ho_clear ?_
    refine ⟨fun q => ?_, fun q => ?_⟩
    · have q : Z.1 b 8 ≤ (j : Int) := q
      refine sx_Ho_clear ?_
      exact ⟨hC, h11, z7, z8, z9, fun j hj => absurd hj (Nat.not_lt_zero j), fun q o hq _ => absurd hq (Nat.not_lt_zero q), fun c hc => hq c (by omega)⟩
    · have q : (j : Int) < Z.1 b 8 := q
      have hjn : j < h * v := by omega
      refine ⟨(by omega), (by show _ < ((20 : Nat) : Int); omega), ?_⟩
      have R : ∀ r, r ≠ b + 7 → up Z.1 (b + 7) j (-9) r = Z.1 r := fun r hr => up_ne hr
      refine ih hjn _ (up Z.1 (b + 7) j (-9), Z.2) (w1 rfl (by omega)) ⟨fun r p1 p2 => (R r (by omega)).trans (hC.1 r p1 p2), hC.2.1, ?_⟩ ((R 11 (by omega)).trans h11) ?_ ?_ ?_ (fun q hq' => ?_)
      · show up Z.1 (b + 7) j (-9) 11 2 = _
        rw [R 11 (by omega)]; exact hC.2.2
      · show up Z.1 (b + 7) j (-9) b 7 = _
        rw [R b (by omega)]; exact z7
      · show up Z.1 (b + 7) j (-9) b 8 = _
        rw [R b (by omega)]; exact z8
      · show up Z.1 (b + 7) j (-9) b 9 = _
        rw [R b (by omega)]; exact z9
      · show up Z.1 (b + 7) j (-9) (b + 7) q = _
        rw [up_row]
        by_cases e : q = j
        · subst e; rw [u1_s]
        · rw [u1_n e]; exact hq q (by omega)
  have R : ∀ r, r ≠ b → up (up (up X.1 b 7 (v : Int)) b 8 ((h * v : Nat) : Int)) b 9 0 r = X.1 r := fun r hr => by rw [up_ne hr, up_ne hr, up_ne hr]
  refine L 0 (Nat.zero_le _) 0 _ rfl ⟨fun r p1 p2 => R r (by omega), rfl, ?_⟩ (R 11 (by omega)) ?_ ?_ ?_ (fun q hq => absurd hq (Nat.not_lt_zero q))
  · show up (up (up X.1 b 7 (v : Int)) b 8 ((h * v : Nat) : Int)) b 9 0 11 2 = _
    rw [R 11 (by omega)]
  · show up (up (up X.1 b 7 (v : Int)) b 8 ((h * v : Nat) : Int)) b 9 0 b 7 = _
    rw [up_row, u1_n (by omega), up_row, u1_n (by omega), up_row, u1_s]
  · show up (up (up X.1 b 7 (v : Int)) b 8 ((h * v : Nat) : Int)) b 9 0 b 8 = _
    rw [up_row, u1_n (by omega), up_row, u1_s]
  · show up (up (up X.1 b 7 (v : Int)) b 8 ((h * v : Nat) : Int)) b 9 0 b 9 = _
    rw [up_row, u1_s]
