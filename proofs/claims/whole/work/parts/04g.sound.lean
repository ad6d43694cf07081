/-! ===== one step, a block, a method ===== -/
theorem inR_small {z : Int} (h1 : -128 ≤ z) (h2 : z < 128) : inR z := ⟨by omega, by omega⟩
theorem ex1_ok {w : WD} {C : CX} {pc n : Nat} {lo : List (Option V)} {st : List V} {X : XS} {Q : Int → XS → Prop} {K : List (Option V) → List V → XS → Prop} {i : Instr} (hC : CXok C) (hd : decode C.1.2.1 pc = .ok (i, n)) (hi : insOk pc i n = true) (hK : ∀ lo' st' X', K lo' st' X' → Go w C (pc + n) lo' st' X' Q) (h : ex1 w C i n pc lo st X Q K) : Go w C pc lo st X Q := by
  cases i
  case iconst z =>
    simp only [insOk, Bool.and_eq_true, decide_eq_true_eq] at hi
    obtain ⟨hn, h1, h2⟩ := hi
    have hn : n = 1 := beq_el hn
    subst hn
    exact g_iconst hd (inR_small h1 h2) (hK _ _ _ h)
  case bipush z =>
    simp only [insOk, Bool.and_eq_true, decide_eq_true_eq] at hi
    obtain ⟨hn, h1, h2⟩ := hi
    have hn : n = 2 := beq_el hn
    subst hn
    exact g_bipush hd ⟨h1, h2⟩ (hK _ _ _ h)
  case sipush z =>
    simp only [insOk, Bool.and_eq_true, decide_eq_true_eq] at hi
    obtain ⟨hn, h1, h2⟩ := hi
    have hn : n = 3 := beq_el hn
    subst hn
    exact g_sipush hd ⟨h1, h2⟩ (hK _ _ _ h)
  case lconst z =>
    have hn : n = 1 := beq_el hi
    subst hn
    exact g_lconst hd (hK _ _ _ h)
  case ldc_w k =>
    have hn : n = 3 := beq_el hi
    subst hn
    unfold ex1 at h
    dsimp only at h
    split at h
    · rename_i z hf
      obtain ⟨q1, q2⟩ := h
      exact g_ldcw hd q1.2 q1.1 (hK _ _ _ q2)
    · exact h.elim
  case ldc2_w k =>
    have hn : n = 3 := beq_el hi
    subst hn
    unfold ex1 at h
    dsimp only at h
    split at h
    · rename_i z hf
      obtain ⟨q1, q2⟩ := h
      exact g_ldc2 hd q1.2 q1.1 (hK _ _ _ q2)
    · exact h.elim
  case iload k =>
    have hn : n = 2 := beq_el hi
    subst hn
    obtain ⟨z, hz, h⟩ := gI_el h
    exact g_iload hd hz (hK _ _ _ h)
  case iload_n k =>
    have hn : n = 1 := beq_el hi
    subst hn
    obtain ⟨z, hz, h⟩ := gI_el h
    exact g_iload_n hd hz (hK _ _ _ h)
  case lload k =>
    have hn : n = 2 := beq_el hi
    subst hn
    obtain ⟨z, hz, h⟩ := gL_el h
    exact g_lload hd hz (hK _ _ _ h)
  case lload_n k =>
    have hn : n = 1 := beq_el hi
    subst hn
    obtain ⟨z, hz, h⟩ := gL_el h
    exact g_lload_n hd hz (hK _ _ _ h)
  case aload k =>
    have hn : n = 2 := beq_el hi
    subst hn
    obtain ⟨c, i, hz, h⟩ := gR_el h
    exact g_aload hd hz (hK _ _ _ h)
  case aload_n k =>
    have hn : n = 1 := beq_el hi
    subst hn
    obtain ⟨c, i, hz, h⟩ := gR_el h
    exact g_aload_n hd hz (hK _ _ _ h)
  case istore k =>
    have hn : n = 2 := beq_el hi
    subst hn
    obtain ⟨z, t, hst, h1⟩ := pI_el h
    subst hst
    obtain ⟨hb, h2⟩ := bif_el h1
    exact g_istore hd (blt_el hb) (hK _ _ _ h2)
  case istore_n k =>
    have hn : n = 1 := beq_el hi
    subst hn
    obtain ⟨z, t, hst, h1⟩ := pI_el h
    subst hst
    obtain ⟨hb, h2⟩ := bif_el h1
    exact g_istore_n hd (blt_el hb) (hK _ _ _ h2)
  case lstore k =>
    have hn : n = 2 := beq_el hi
    subst hn
    obtain ⟨z, t, hst, h1⟩ := pL_el h
    subst hst
    obtain ⟨hb, h2⟩ := bif_el h1
    exact g_lstore hd (blt_el hb) (hK _ _ _ h2)
  case lstore_n k =>
    have hn : n = 1 := beq_el hi
    subst hn
    obtain ⟨z, t, hst, h1⟩ := pL_el h
    subst hst
    obtain ⟨hb, h2⟩ := bif_el h1
    exact g_lstore_n hd (blt_el hb) (hK _ _ _ h2)
  case astore k =>
    have hn : n = 2 := beq_el hi
    subst hn
    obtain ⟨c, i, t, hst, h1⟩ := pR_el h
    subst hst
    obtain ⟨hb, h2⟩ := bif_el h1
    exact g_astore hd (blt_el hb) (hK _ _ _ h2)
  case astore_n k =>
    have hn : n = 1 := beq_el hi
    subst hn
    obtain ⟨c, i, t, hst, h1⟩ := pR_el h
    subst hst
    obtain ⟨hb, h2⟩ := bif_el h1
    exact g_astore_n hd (blt_el hb) (hK _ _ _ h2)
  case iinc k d =>
    have hn : n = 3 := beq_el hi
    subst hn
    obtain ⟨z, hz, h1⟩ := gI_el h
    obtain ⟨hb, h2⟩ := bif_el h1
    exact g_iinc hd (blt_el hb) hz (hK _ _ _ h2)
  case iadd =>
    have hn : n = 1 := beq_el hi
    subst hn
    obtain ⟨a, b, t, hst, h1⟩ := pII_el h
    subst hst
    exact g_iadd hd (hK _ _ _ h1)
  case isub =>
    have hn : n = 1 := beq_el hi
    subst hn
    obtain ⟨a, b, t, hst, h1⟩ := pII_el h
    subst hst
    exact g_isub hd (hK _ _ _ h1)
  case imul =>
    have hn : n = 1 := beq_el hi
    subst hn
    obtain ⟨a, b, t, hst, h1⟩ := pII_el h
    subst hst
    exact g_imul hd (hK _ _ _ h1)
  case iand =>
    have hn : n = 1 := beq_el hi
    subst hn
    obtain ⟨a, b, t, hst, h1⟩ := pII_el h
    subst hst
    exact g_iand hd (hK _ _ _ h1)
  case ior =>
    have hn : n = 1 := beq_el hi
    subst hn
    obtain ⟨a, b, t, hst, h1⟩ := pII_el h
    subst hst
    exact g_ior hd (hK _ _ _ h1)
  case ixor =>
    have hn : n = 1 := beq_el hi
    subst hn
    obtain ⟨a, b, t, hst, h1⟩ := pII_el h
    subst hst
    exact g_ixor hd (hK _ _ _ h1)
  case iushr =>
    have hn : n = 1 := beq_el hi
    subst hn
    obtain ⟨a, b, t, hst, h1⟩ := pII_el h
    subst hst
    exact g_iushr hd (hK _ _ _ h1)
  case idiv =>
    have hn : n = 1 := beq_el hi
    subst hn
    obtain ⟨a, b, t, hst, q1, q2, h1⟩ := pII_el h
    subst hst
    exact g_idiv hd q1 q2 (hK _ _ _ h1)
  case irem =>
    have hn : n = 1 := beq_el hi
    subst hn
    obtain ⟨a, b, t, hst, q1, q2, h1⟩ := pII_el h
    subst hst
    exact g_irem hd q1 q2 (hK _ _ _ h1)
  case ishl =>
    have hn : n = 1 := beq_el hi
    subst hn
    obtain ⟨a, b, t, hst, q1, q2, h1⟩ := pII_el h
    subst hst
    exact g_ishl hd q1 q2 (hK _ _ _ h1)
  case ishr =>
    have hn : n = 1 := beq_el hi
    subst hn
    obtain ⟨a, b, t, hst, q1, q2, h1⟩ := pII_el h
    subst hst
    exact g_ishr hd q1 q2 (hK _ _ _ h1)
  case ineg =>
    have hn : n = 1 := beq_el hi
    subst hn
    obtain ⟨a, t, hst, h1⟩ := pI_el h
    subst hst
    exact g_ineg hd (hK _ _ _ h1)
  case i2l =>
    have hn : n = 1 := beq_el hi
    subst hn
    obtain ⟨a, t, hst, h1⟩ := pI_el h
    subst hst
    exact g_i2l hd (hK _ _ _ h1)
  case i2b =>
    have hn : n = 1 := beq_el hi
    subst hn
    obtain ⟨a, t, hst, h1⟩ := pI_el h
    subst hst
    exact g_i2b hd (hK _ _ _ h1)
  case i2s =>
    have hn : n = 1 := beq_el hi
    subst hn
    obtain ⟨a, t, hst, h1⟩ := pI_el h
    subst hst
    exact g_i2s hd (hK _ _ _ h1)
  case lcmp =>
    have hn : n = 1 := beq_el hi
    subst hn
    obtain ⟨a, b, t, hst, h1⟩ := pLL_el h
    subst hst
    exact g_lcmp hd (hK _ _ _ h1)
  case ldiv =>
    have hn : n = 1 := beq_el hi
    subst hn
    obtain ⟨a, b, t, hst, q1, q2, h1⟩ := pLL_el h
    subst hst
    exact g_ldiv hd q1 q2 (hK _ _ _ h1)
  case lrem =>
    have hn : n = 1 := beq_el hi
    subst hn
    obtain ⟨a, b, t, hst, q1, q2, h1⟩ := pLL_el h
    subst hst
    exact g_lrem hd q1 q2 (hK _ _ _ h1)
  case lshl =>
    have hn : n = 1 := beq_el hi
    subst hn
    unfold ex1 at h
    dsimp only at h
    split at h
    · obtain ⟨q1, q2, rfl, h1⟩ := h
      exact g_lshl hd q1 q2 (hK _ _ _ h1)
    · exact h.elim
  case dup =>
    have hn : n = 1 := beq_el hi
    subst hn
    unfold ex1 at h
    dsimp only at h
    split at h
    · obtain ⟨hb, h1⟩ := bif_el h
      exact g_dup hd (beq_el hb) (hK _ _ _ h1)
    · exact h.elim
  case pop =>
    have hn : n = 1 := beq_el hi
    subst hn
    unfold ex1 at h
    dsimp only at h
    split at h
    · obtain ⟨hb, h1⟩ := bif_el h
      exact g_pop hd (beq_el hb) (hK _ _ _ h1)
    · exact h.elim
  case dup2 =>
    have hn : n = 1 := beq_el hi
    subst hn
    unfold ex1 at h
    dsimp only at h
    split at h
    · obtain ⟨hb, h1⟩ := bif_el h
      rw [Bool.and_eq_true] at hb
      exact g_dup2 hd (beq_el hb.1) (beq_el hb.2) (hK _ _ _ h1)
    · exact h.elim
  case getfield k =>
    have hn : n = 3 := beq_el hi
    subst hn
    exact ex_getfield hC hd hK h
  case putfield k =>
    have hn : n = 3 := beq_el hi
    subst hn
    exact ex_putfield hC hd hK h
  case invokevirtual k =>
    have hn : n = 3 := beq_el hi
    subst hn
    exact ex_virtual hC hd h
  case invokestatic k =>
    have hn : n = 3 := beq_el hi
    subst hn
    exact ex_static hC hd hK h
  case iaload =>
    have hn : n = 1 := beq_el hi
    subst hn
    obtain ⟨z, c, i, t, hst, h1⟩ := pIR_el h
    subst hst
    rcases bif2_el h1 with ⟨hb, q1, q2, h2⟩ | ⟨-, h1⟩
    · exact g_iaload hd hb q1 q2 (hK _ _ _ h2)
    · obtain ⟨hb, q1, q2, h2⟩ := bif_el h1
      have hb := beq_el hb
      subst hb
      exact g_letters hd q1 q2 (hK _ _ _ h2)
  case baload =>
    have hn : n = 1 := beq_el hi
    subst hn
    obtain ⟨z, c, i, t, hst, h1⟩ := pIR_el h
    subst hst
    obtain ⟨hb, q1, q2, h2⟩ := bif_el h1
    have hb := beq_el hb
    subst hb
    exact g_baload hd q1 q2 (hK _ _ _ h2)
  case iastore =>
    have hn : n = 1 := beq_el hi
    subst hn
    obtain ⟨y, z, c, i, t, hst, h1⟩ := pIIR_el h
    subst hst
    obtain ⟨hb, q1, q2, h2⟩ := bif_el h1
    exact g_iastore hd hb q1 q2 (hK _ _ _ h2)
  case bastore =>
    have hn : n = 1 := beq_el hi
    subst hn
    obtain ⟨y, z, c, i, t, hst, h1⟩ := pIIR_el h
    subst hst
    obtain ⟨hb, q1, q2, q3, h2⟩ := bif_el h1
    have hb := beq_el hb
    subst hb
    exact g_bastore hd q1 q2 q3 (hK _ _ _ h2)
  case aaload =>
    have hn : n = 1 := beq_el hi
    subst hn
    obtain ⟨z, c, i, t, hst, h1⟩ := pIR_el h
    subst hst
    obtain ⟨hb, q1, q2, h2⟩ := bif_el h1
    rw [Bool.and_eq_true] at hb
    have hb1 := beq_el hb.1
    have hb2 := beq_el hb.2
    subst hb1
    subst hb2
    exact g_aaload hd q1 q2 (hK _ _ _ h2)
  case arraylength =>
    have hn : n = 1 := beq_el hi
    subst hn
    obtain ⟨c, i, t, hst, h1⟩ := pR_el h
    subst hst
    obtain ⟨hb, h2⟩ := bif_el h1
    exact g_alen hd hb (hK _ _ _ h2)
  case getstatic k =>
    have hn : n = 3 := beq_el hi
    subst hn
    obtain ⟨hb, h2⟩ := bif_el h
    obtain ⟨host, hh⟩ := hC.2.2.2.2.2.2 k (List.contains_iff_mem.mp hb)
    exact g_getstatic hd hh (hK _ _ _ h2)
  case goto o =>
    simp only [insOk, Bool.and_eq_true] at hi
    obtain ⟨hn, hp⟩ := hi
    have hn : n = 3 := beq_el hn
    subst hn
    exact g_goto hd hp h
  case ifnonnull o =>
    simp only [insOk, Bool.and_eq_true] at hi
    obtain ⟨hn, hp⟩ := hi
    have hn : n = 3 := beq_el hn
    subst hn
    obtain ⟨c, i, t, hst, h1⟩ := pR_el h
    subst hst
    exact g_ifnonnull hd hp h1
  case ifCond c o =>
    simp only [insOk, Bool.and_eq_true] at hi
    obtain ⟨hn, hp⟩ := hi
    have hn : n = 3 := beq_el hn
    subst hn
    cases c
    case eq =>
      obtain ⟨a, t, hst, h1, h2⟩ := pI_el h
      subst hst
      exact g_if_eq hd hp ⟨h1, fun q => hK _ _ _ (h2 q)⟩
    case ne =>
      obtain ⟨a, t, hst, h1, h2⟩ := pI_el h
      subst hst
      exact g_if_ne hd hp ⟨h1, fun q => hK _ _ _ (h2 q)⟩
    case lt =>
      obtain ⟨a, t, hst, h1, h2⟩ := pI_el h
      subst hst
      exact g_if_lt hd hp ⟨h1, fun q => hK _ _ _ (h2 q)⟩
    case ge =>
      obtain ⟨a, t, hst, h1, h2⟩ := pI_el h
      subst hst
      exact g_if_ge hd hp ⟨h1, fun q => hK _ _ _ (h2 q)⟩
    case gt =>
      obtain ⟨a, t, hst, h1, h2⟩ := pI_el h
      subst hst
      exact g_if_gt hd hp ⟨h1, fun q => hK _ _ _ (h2 q)⟩
    case le =>
      obtain ⟨a, t, hst, h1, h2⟩ := pI_el h
      subst hst
      exact g_if_le hd hp ⟨h1, fun q => hK _ _ _ (h2 q)⟩
  case if_icmp c o =>
    simp only [insOk, Bool.and_eq_true] at hi
    obtain ⟨hn, hp⟩ := hi
    have hn : n = 3 := beq_el hn
    subst hn
    cases c
    case eq =>
      obtain ⟨a, b, t, hst, h1, h2⟩ := pII_el h
      subst hst
      exact g_icmp_eq hd hp ⟨h1, fun q => hK _ _ _ (h2 q)⟩
    case ne =>
      obtain ⟨a, b, t, hst, h1, h2⟩ := pII_el h
      subst hst
      exact g_icmp_ne hd hp ⟨h1, fun q => hK _ _ _ (h2 q)⟩
    case lt =>
      obtain ⟨a, b, t, hst, h1, h2⟩ := pII_el h
      subst hst
      exact g_icmp_lt hd hp ⟨h1, fun q => hK _ _ _ (h2 q)⟩
    case ge =>
      obtain ⟨a, b, t, hst, h1, h2⟩ := pII_el h
      subst hst
      exact g_icmp_ge hd hp ⟨h1, fun q => hK _ _ _ (h2 q)⟩
    case gt =>
      obtain ⟨a, b, t, hst, h1, h2⟩ := pII_el h
      subst hst
      exact g_icmp_gt hd hp ⟨h1, fun q => hK _ _ _ (h2 q)⟩
    case le =>
      obtain ⟨a, b, t, hst, h1, h2⟩ := pII_el h
      subst hst
      exact g_icmp_le hd hp ⟨h1, fun q => hK _ _ _ (h2 q)⟩
  case tableswitch d l h0 offs =>
    obtain ⟨x, t, hst, h1⟩ := pI_el h
    subst hst
    exact g_table hd hi h1
  case lookupswitch d ps =>
    obtain ⟨x, t, hst, h1⟩ := pI_el h
    subst hst
    exact g_lookup hd hi h1
  case ireturn =>
    have hn : n = 1 := beq_el hi
    subst hn
    unfold ex1 at h
    dsimp only at h
    split at h
    · exact g_ireturn hd h.1 h.2
    · exact h.elim
  case lreturn =>
    have hn : n = 1 := beq_el hi
    subst hn
    unfold ex1 at h
    dsimp only at h
    split at h
    · split at h
      · rename_i hrt
        exact g_lreturn hd hrt h
      · exact h.elim
    · exact h.elim
  case return_ =>
    have hn : n = 1 := beq_el hi
    subst hn
    unfold ex1 at h
    dsimp only at h
    split at h
    · split at h
      · rename_i hrt
        exact g_return hd hrt h
      · exact h.elim
    · exact h.elim
  all_goals exact h.elim
theorem dec_hd {cc : ByteArray} {pc : Nat} {q : Instr × Nat} {t : List (Instr × Nat)} (h : dec cc pc (q :: t) = true) : decode cc pc = .ok q ∧ insOk pc q.1 q.2 = true ∧ dec cc (pc + q.2) t = true := by
  unfold dec at h
  simp only [Bool.and_eq_true] at h
  refine ⟨?_, h.1.2, h.2⟩
  have h1 := h.1.1
  split at h1
  · rename_i x hx
    rw [hx, of_decide_eq_true h1]
  · cases h1
theorem ex_ok {w : WD} {C : CX} (hC : CXok C) {Q : Int → XS → Prop} : ∀ (is : List (Instr × Nat)) (pc : Nat) (lo : List (Option V)) (st : List V) (X : XS), dec C.1.2.1 pc is = true → ex w C is pc lo st X Q → Go w C pc lo st X Q
  | [], _, _, _, _, _, h => h
  | (i, n) :: t, pc, lo, st, X, hd, h => by
    obtain ⟨h1, h2, h3⟩ := dec_hd hd
    exact ex1_ok hC h1 h2 (fun lo' st' X' hk => ex_ok hC t (pc + n) lo' st' X' h3 hk) h
theorem suf_dec {cc : ByteArray} : ∀ (is : List (Instr × Nat)) (pc p0 : Nat), dec cc p0 is = true → dec cc (p0 + pc) (suf pc is) = true
  | [], _, _, _ => rfl
  | q :: t, pc, p0, h => by
    unfold suf
    cases h0 : Nat.beq pc 0 with
    | true =>
      have h0 := beq_el h0
      subst h0
      exact h
    | false =>
      cases h1 : Nat.ble q.2 pc with
      | true =>
        have h1 := Nat.ble_eq.mp h1
        have := suf_dec t (pc - q.2) (p0 + q.2) (dec_hd h).2.2
        rw [show p0 + q.2 + (pc - q.2) = p0 + pc by omega] at this
        exact this
      | false => rfl
/-- THE STEP: from a place of the code to the end of its block -/
theorem st_ {w : WD} {C : CX} {pc : Nat} {lo : List (Option V)} {st : List V} {X : XS} {Q : Int → XS → Prop} (hC : CXok C) (h : ex w C (suf pc C.2.1) pc lo st X Q) : Go w C pc lo st X Q := by
  refine ex_ok hC _ pc lo st X ?_ h
  have := suf_dec C.2.1 pc 0 hC.1
  rwa [Nat.zero_add] at this
def elo : List V → List (Option V)
  | [] => []
  | v :: t => match v with | .inr (.inl _) => some v :: none :: elo t | _ => some v :: elo t
def eln (n : Nat) (as : List V) : List (Option V) := elo as ++ List.replicate (n - (elo as).length) none
theorem lol_rep (w : WD) : ∀ (k i : Nat), lol w i (List.replicate k none) = []
  | 0, _ => rfl
  | k + 1, i => by rw [List.replicate_succ]; exact lol_rep w k (i + 1)
theorem lol_elo (w : WD) (k : Nat) : ∀ (as : List V) (i : Nat), lol w i (elo as ++ List.replicate k none) = lv_args i (as.map (vc w))
  | [], i => lol_rep w k i
  | .inl z :: t, i => by
    show (i, vc w (.inl z)) :: lol w (i + 1) (elo t ++ List.replicate k none) = _
    rw [lol_elo w k t (i + 1)]; rfl
  | .inr (.inl z) :: t, i => by
    show (i, vc w (.inr (.inl z))) :: lol w (i + 2) (elo t ++ List.replicate k none) = _
    rw [lol_elo w k t (i + 2)]; rfl
  | .inr (.inr r) :: t, i => by
    show (i, vc w (.inr (.inr r))) :: lol w (i + 1) (elo t ++ List.replicate k none) = _
    rw [lol_elo w k t (i + 1)]; rfl
theorem elo_len (w : WD) : ∀ (as : List V), (lg_sl (as.map (vc w))).length = (elo as).length
  | [] => rfl
  | .inl z :: t => by
    have := elo_len w t
    unfold lg_sl at this ⊢
    simp only [List.map_cons, List.flatMap_cons, List.length_append, this]
    simp [elo, vc, Value.category]; omega
  | .inr (.inl z) :: t => by
    have := elo_len w t
    unfold lg_sl at this ⊢
    simp only [List.map_cons, List.flatMap_cons, List.length_append, this]
    simp [elo, vc, Value.category]; omega
  | .inr (.inr r) :: t => by
    have := elo_len w t
    unfold lg_sl at this ⊢
    simp only [List.map_cons, List.flatMap_cons, List.length_append, this]
    simp [elo, vc, Value.category]; omega
theorem elo_mem : ∀ {as : List V} {v : V}, some v ∈ elo as → v ∈ as
  | [], _, h => by cases h
  | .inl z :: t, v, h => by
    rcases List.mem_cons.mp h with h | h
    · cases h; exact List.mem_cons_self
    · exact List.mem_cons_of_mem _ (elo_mem h)
  | .inr (.inl z) :: t, v, h => by
    rcases List.mem_cons.mp h with h | h
    · cases h; exact List.mem_cons_self
    · rcases List.mem_cons.mp h with h | h
      · cases h
      · exact List.mem_cons_of_mem _ (elo_mem h)
  | .inr (.inr r) :: t, v, h => by
    rcases List.mem_cons.mp h with h | h
    · cases h; exact List.mem_cons_self
    · exact List.mem_cons_of_mem _ (elo_mem h)
/-- A METHOD: what its walk gives -/
theorem ms_ {w : WD} {C : CX} {as : List V} {X : XS} {Q : Int → XS → Prop} (hC : CXok C) (hn : Nat.ble (elo as).length C.1.2.2.1 = true) (h : Go w C 0 (eln C.1.2.2.1 as) [] X Q) : MS w C.1 as X Q := by
  intro has hX
  refine Met.ofW (cc := C.1.2.1) (maxL := C.1.2.2.1) (ret := C.1.2.2.2.1) hC.2.1.2.2.1.2.1 rfl ?_
  intro p e s m args below meth c s₁ B hml hv
  obtain ⟨rfl, hK, hP⟩ := hv
  have hts := atoms_spec (ws := Cond.code C.1.1 C.1.2.1 C.1.2.2.1 C.1.2.2.2.1 :: TB) B.pre
  have hn := Nat.ble_eq.mp hn
  have hl := lv_entry (as.map (vc w)) (n := C.1.2.2.1) (by rw [elo_len]; exact hn)
  rw [lg_entry_eq]
  generalize (lg_sl (as.map (vc w)) ++ List.replicate (C.1.2.2.1 - (lg_sl (as.map (vc w))).length) Slot.unset).toArray = ls at hl ⊢
  refine h (fun v hv => by cases hv) (fun v hv => ?_) hX p e s m _ below meth c s.heap [] ls ⟨B.exec, B.bytes, hml, B.returns, B.notSynchronized, findClass_of_methodNamed B.named, fun x hx => hts x (List.mem_cons_of_mem _ hx), hK⟩ hP va_S.rf (by unfold eln; rw [lol_elo]; exact hl)
  unfold eln at hv
  rcases List.mem_append.mp hv with hv | hv
  · exact has v (elo_mem hv)
  · cases (List.mem_replicate.mp hv).2
/-- what is known of the numbers -/
theorem go_rx {w : WD} {C : CX} {pc : Nat} {lo : List (Option V)} {st : List V} {X : XS} {Q : Int → XS → Prop} (h : RX X → Go w C pc lo st X Q) : Go w C pc lo st X Q := fun a b c => h c a b c
theorem go_vok {w : WD} {C : CX} {pc : Nat} {lo : List (Option V)} {st : List V} {X : XS} {Q : Int → XS → Prop} (h : (∀ v ∈ st, vok v) → (∀ v, some v ∈ lo → vok v) → Go w C pc lo st X Q) : Go w C pc lo st X Q := fun a b c => h a b a b c
theorem ms_rx {w : WD} {i : MI} {as : List V} {X : XS} {Q : Int → XS → Prop} (h : (∀ v ∈ as, vok v) → RX X → MS w i as X Q) : MS w i as X Q := fun a b => h a b a b
/-- fewer locals -/
def lsub : List (Option V) → List (Option V) → Prop
  | [], _ => True
  | none :: t, [] => lsub t []
  | none :: t, _ :: t' => lsub t t'
  | some _ :: _, [] => False
  | some v :: t, u :: t' => u = some v ∧ lsub t t'
theorem lsub_get : ∀ {a b : List (Option V)} {k : Nat} {v : V}, lsub a b → a[k]? = some (some v) → b[k]? = some (some v)
  | [], _, _, _, _, h => by simp at h
  | none :: t, [], 0, v, _, h => by simp at h
  | none :: t, [], k + 1, v, hs, h => by
    have := lsub_get (a := t) (b := []) (k := k) hs (by simpa using h)
    simp at this
  | none :: t, u :: t', 0, v, _, h => by simp at h
  | none :: t, u :: t', k + 1, v, hs, h => by
    have := lsub_get (a := t) (b := t') (k := k) hs (by simpa using h)
    simpa using this
  | some x :: t, u :: t', 0, v, hs, h => by
    simp at h
    subst h
    simp [hs.1]
  | some x :: t, u :: t', k + 1, v, hs, h => by
    have := lsub_get (a := t) (b := t') (k := k) hs.2 (by simpa using h)
    simpa using this
theorem go_sub {w : WD} {C : CX} {pc : Nat} {lo lo' : List (Option V)} {st : List V} {X : XS} {Q : Int → XS → Prop} (hs : lsub lo' lo) (h : Go w C pc lo' st X Q) : Go w C pc lo st X Q := by
  intro hst hlo hX p e s m args below meth c H locs ls hM hP hS hl
  refine h hst (fun v hv => ?_) hX p e s m args below meth c H locs ls hM hP hS ⟨hl.1, hl.2.1, fun q hq => ?_⟩
  · obtain ⟨k, hk⟩ := List.getElem?_of_mem hv
    exact lo_ok hlo (lsub_get hs hk)
  · obtain ⟨k, v, h1, h2⟩ := lol_inv w _ 0 q hq
    subst h1
    exact hl.2.2 _ (lol_mem w lo 0 k v (lsub_get hs h2))

