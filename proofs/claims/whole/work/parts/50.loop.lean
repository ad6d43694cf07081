/-! ===== the law's loop ===== -/
theorem l_loop {w : WD} {p : Program} {e : Env} {s : State} {m : MethodId} {below : List Frame} {meth : Method} {c : Code} {b L : Nat} {xs : Nat → Int32} (hA : LA w p s m meth c b L xs) : ∀ (n i : Nat) (X : XS), L ≤ i + n → i ≤ L → J X → LGo w p e s m below meth c b i 18 [] X := by
  intro n
  induction n with
  | zero =>
    intro i X h1 h2 hJ
    obtain ⟨⟨hx, hb, hr, hml, hown, hts, hX, hbl, hlocks, hgv⟩, hK, hL⟩ := hA
    have hbA : ¬ fwAd s b := Nat.not_le.mpr hbl
    intro hst hR H locs ls hP hS hl
    refine lv_iload_n hx hb dl_18 rfl (lv_at hl 0 rfl) ?_
    refine lv_aload_n hx hb dl_19 rfl (lv_at hl 3 rfl) ?_
    refine va_slen hx hb hX hbl hbA hS dl_20 ?_
    refine lv_bipush (v := 6) hx hb dl_21 (by decide) ?_
    refine lv_isub hx hb dl_23 ?_
    refine lv_icmp_gt (tgt := 1301) hx hb dl_24 (by decide) (fun q => ?_) (fun q => ?_)
    · refine lv_iconst (v := 1) hx hb dl_1301 (by decide) ?_
      refine va_forget (fun q hq => hS.2.2 q hq) ?_
      exact lw_ret hx hb hr hlocks dl_1302
    · exfalso
      apply q
      have e1 : Int32.ofNat L - 6 = Int32.ofInt ((L : Int) - 6) := by
        rw [show Int32.ofNat L = Int32.ofInt (L : Int) from (oi_nat L).symm, show (6 : Int32) = Int32.ofInt 6 from rfl, oi_sub, wr_id (by omega) (by omega)]
      rw [e1, show nI i = Int32.ofInt (i : Int) from (oi_nat i).symm]
      exact (oi_lt (by unfold inR; omega) (by unfold inR; omega)).mpr (by omega)
  | succ n ih =>
    intro i X h1 h2 hJ
    obtain ⟨⟨hx, hb, hr, hml, hown, hts, hX, hbl, hlocks, hgv⟩, hK, hL⟩ := id hA
    have hbA : ¬ fwAd s b := Nat.not_le.mpr hbl
    intro hst hR H locs ls hP hS hl
    refine lv_iload_n hx hb dl_18 rfl (lv_at hl 0 rfl) ?_
    refine lv_aload_n hx hb dl_19 rfl (lv_at hl 3 rfl) ?_
    refine va_slen hx hb hX hbl hbA hS dl_20 ?_
    refine lv_bipush (v := 6) hx hb dl_21 (by decide) ?_
    refine lv_isub hx hb dl_23 ?_
    have e1 : Int32.ofNat L - 6 = Int32.ofInt ((L : Int) - 6) := by
      rw [show Int32.ofNat L = Int32.ofInt (L : Int) from (oi_nat L).symm, show (6 : Int32) = Int32.ofInt 6 from rfl, oi_sub, wr_id (by omega) (by omega)]
    refine lv_icmp_gt (tgt := 1301) hx hb dl_24 (by decide) (fun q => ?_) (fun q => ?_)
    · refine lv_iconst (v := 1) hx hb dl_1301 (by decide) ?_
      refine va_forget (fun q hq => hS.2.2 q hq) ?_
      exact lw_ret hx hb hr hlocks dl_1302
    · have hi : i + 6 ≤ L := by
        rw [e1, show nI i = Int32.ofInt (i : Int) from (oi_nat i).symm, oi_lt (by unfold inR; omega) (by unfold inR; omega)] at q
        omega
      have NX : ∀ Z : XS, J Z → LGo w p e s m below meth c b i 1295 [] Z := by
        intro Z hZ hst hR H locs ls hP hS hl
        refine lv_iinc (v := nI (i + 6)) (lv' := [(3, .int (nI (i + 6))), (2, .ref (wAd w 43)), (1, .ref (wAd w 1)), (0, .ref b)]) hx hb dl_1295 hl (k := 0) rfl (by rw [show Int32.ofInt 6 = nI 6 from oi_nat 6, nI_add]) (by decide) rfl (fun ls hl => ?_)
        refine lv_goto (tgt := 18) hx hb dl_1298 (by decide) ?_
        exact ih (i + 6) Z (by omega) hi hZ hst hR H locs ls hP hS hl
      refine lv_aload_n hx hb dl_27 rfl (lv_at hl 3 rfl) ?_
      refine lv_iload_n hx hb dl_28 rfl (lv_at hl 0 rfl) ?_
      refine va_sld hx hb hX hbl hbA hS (vp_in_nI (show i < L by omega) (by omega)) dl_29 ?_
      refine lv_bipush (v := 63) hx hb dl_30 (by decide) ?_
      refine lv_iand hx hb dl_32 ?_
      exact l_switch hA hi hJ NX hR hP hS hl
/-! ===== the world behind the two constructors ===== -/
def X0 : XS := (fun i k => if i = 44 ∧ k < 4 then -9 else if i = 43 ∧ k = 23 then -9 else 0, fun j => if j = 0 then 27 else if j = 1 then 35 else 0)
theorem X0_z {i k : Nat} (h : ¬ (i = 44 ∧ k < 4)) (g : ¬ (i = 43 ∧ k = 23)) : X0.1 i k = 0 := by
  show (if i = 44 ∧ k < 4 then (-9 : Int) else if i = 43 ∧ k = 23 then -9 else 0) = 0
  rw [if_neg h, if_neg g]
theorem X0_44 {k : Nat} (h : k < 4) : X0.1 44 k = -9 := by
  show (if 44 = 44 ∧ k < 4 then (-9 : Int) else if 44 = 43 ∧ k = 23 then -9 else 0) = -9
  rw [if_pos ⟨rfl, h⟩]
theorem X0_R : RX X0 := by
  refine ⟨fun i k => ?_, fun j => ?_⟩
  · by_cases h : i = 44 ∧ k < 4
    · rw [h.1, X0_44 h.2]; decide
    · by_cases g : i = 43 ∧ k = 23
      · rw [g.1, g.2]; decide
      · rw [X0_z h g]; decide
  · by_cases h : j = 0
    · subst h; exact Or.inr (Or.inr ⟨by decide, by decide, Or.inr ⟨by decide, by decide⟩⟩)
    · by_cases g : j = 1
      · subst g; exact Or.inr (Or.inr ⟨by decide, by decide, Or.inr ⟨by decide, by decide⟩⟩)
      · left
        show (if j = 0 then 27 else if j = 1 then 35 else 0) = 0
        rw [if_neg h, if_neg g]
theorem X0_J : J X0 := by
  refine ⟨fun k hk => Or.inl ⟨X0_z (by omega) (by omega), X0_44 hk⟩, Or.inl ⟨rfl, rfl⟩, ?_, ⟨rfl, Or.inl rfl⟩, ⟨by decide, rfl, fun k hk => absurd hk (by decide +revert)⟩, ⟨by decide, rfl, fun k hk => absurd hk (by decide +revert)⟩, ⟨rfl, rfl, rfl, rfl⟩⟩
  refine ⟨by decide, rfl, Or.inl ⟨rfl, rfl, rfl, rfl, rfl⟩, fun m hm => ?_, fun m hm => ?_, fun m o hm _ => ?_, fun c hc => ?_⟩
  · exact absurd hm (Nat.not_lt_zero m)
  · exact absurd hm (Nat.not_lt_zero m)
  · exact absurd hm (Nat.not_lt_zero m)
  · have : (c : Int) < 0 := hc
    omega
theorem arrV_cg {cA : ClassId} {n : Nat} {f g : Nat → Value} (h : ∀ j, j < n → f j = g j) : arrV cA n f = arrV cA n g := by
  unfold arrV
  have e : (fun j : Fin n => f j.val) = fun j : Fin n => g j.val := funext fun j => h j.val j.isLt
  rw [e]
theorem va_rep {D : va_G} {cl : List vw_C} {ws : va_W} {H : Heap} (h : va_P D cl ws H) {k a : Nat} {x x' : ClassId × vp_A} (hk : ws[k]? = some (a, .inl x)) (e : vp_cell x.1 x.2 = vp_cell x'.1 x'.2) : va_P D cl (ws.set k (a, .inl x')) H := by
  intro j q hq
  by_cases hj : k = j
  · subst hj
    have hlt := (List.getElem?_eq_some_iff.mp hk).1
    rw [List.getElem?_set_self hlt] at hq
    cases hq
    show H[a]? = some (vp_cell x'.1 x'.2)
    rw [← e]
    exact h k _ hk
  · rw [List.getElem?_set_ne hj] at hq
    exact h j q hq
theorem srt_eq {cI : ClassId} : vp_cell cI (4, .inl (upd (upd (upd (upd (fun _ => 0) 0 (-9)) 1 (-9)) 2 (-9)) 3 (-9))) = vp_cell cI (4, .inl (fun j => Int32.ofInt (X0.1 44 j))) := by
  rw [vp_cell_i, vp_cell_i]
  refine arrV_cg (fun j hj => ?_)
  rcases (show j = 0 ∨ j = 1 ∨ j = 2 ∨ j = 3 by omega) with rfl | rfl | rfl | rfl <;> rfl
theorem shs_eq {cS : ClassId} {q : Nat → Nat} : vp_cell cS (4, .inr (.inr (.inr (.inr (va_up (va_up (va_up (va_up (fun _ => none) 0 (some (q 3))) 1 (some (q 5))) 2 (some (q 7))) 3 (some (q 9))))))) = vp_cell cS (4, .inr (.inr (.inr (.inr (fun j => some (q (shid j))))))) := by
  rw [vp_cell_q, vp_cell_q]
  refine arrV_cg (fun j hj => ?_)
  rcases (show j = 0 ∨ j = 1 ∨ j = 2 ∨ j = 3 by omega) with rfl | rfl | rfl | rfl <;> rfl
