/-! ===== fields, arrays, calls, ends ===== -/
theorem cl_lt {c : Nat} {q : vw_C} (h : vwCl[c]? = some q) : c < 8 := (List.getElem?_eq_some_iff.mp h).1
/-- what the class tables say of a class by its code -/
def CF (c : Nat) (C : String) (T : u_T) (N : Nat) : Prop := (∀ w ∈ u_ws C T N, w ∈ TB) ∧ (∀ a, a < N → ∀ b, b < N → a ≠ b → (T a).2.1 ≠ (T b).2.1) ∧ (∃ ty0 : Nat → FieldType, ∀ k, k < N → parseFieldDescriptor (T k).2.2.1 = some (ty0 k)) ∧ N = (FTL c).length ∧
  (∀ k, k < N → ((ft c k).1 = 0 → (T k).2.2.2 = false ∧ parseFieldDescriptor (T k).2.2.1 = some .int) ∧ ((ft c k).1 = 1 → (T k).2.2.2 = false ∧ parseFieldDescriptor (T k).2.2.1 = some .boolean) ∧ ((ft c k).1 = 3 → (T k).2.2.2 = false ∧ ∃ n, parseFieldDescriptor (T k).2.2.1 = some (.object n)))
def isObj (f : Option FieldType) : Bool := match f with | some (.object _) => true | _ => false
theorem isObj_ok {f : Option FieldType} (h : isObj f = true) : ∃ n, f = some (.object n) := by
  unfold isObj at h
  split at h
  · exact ⟨_, rfl⟩
  · cases h
def fchk (c : Nat) (T : u_T) (k : Nat) : Bool := match (ft c k).1 with
  | 0 => decide ((T k).2.2.2 = false) && decide (parseFieldDescriptor (T k).2.2.1 = some .int)
  | 1 => decide ((T k).2.2.2 = false) && decide (parseFieldDescriptor (T k).2.2.1 = some .boolean)
  | 3 => decide ((T k).2.2.2 = false) && isObj (parseFieldDescriptor (T k).2.2.1)
  | _ => true
theorem fchk_ok {c : Nat} {T : u_T} {k : Nat} (h : fchk c T k = true) : ((ft c k).1 = 0 → (T k).2.2.2 = false ∧ parseFieldDescriptor (T k).2.2.1 = some .int) ∧ ((ft c k).1 = 1 → (T k).2.2.2 = false ∧ parseFieldDescriptor (T k).2.2.1 = some .boolean) ∧ ((ft c k).1 = 3 → (T k).2.2.2 = false ∧ ∃ n, parseFieldDescriptor (T k).2.2.1 = some (.object n)) := by
  unfold fchk at h
  refine ⟨fun e => ?_, fun e => ?_, fun e => ?_⟩
  · rw [e] at h
    simpa using h
  · rw [e] at h
    simpa using h
  · rw [e] at h
    simp only [Bool.and_eq_true, decide_eq_true_eq] at h
    exact ⟨h.1, isObj_ok h.2⟩
theorem cf0 : CF 0 RX0 TX0 7 := ⟨hin0, nmX0, ⟨tyX0, tyX0_ok⟩, rfl, fun k hk => fchk_ok (by have : ∀ k, k < 7 → fchk 0 TX0 k = true := by decide +kernel
                                                                                           exact this k hk)⟩
theorem cf1 : CF 1 RX1 TX1 10 := ⟨hin1, nmX1, ⟨tyX1, tyX1_ok⟩, rfl, fun k hk => fchk_ok (by have : ∀ k, k < 10 → fchk 1 TX1 k = true := by decide +kernel
                                                                                            exact this k hk)⟩
theorem cf2 : CF 2 RX2 TX2 4 := ⟨hin2, nmX2, ⟨tyX2, tyX2_ok⟩, rfl, fun k hk => fchk_ok (by have : ∀ k, k < 4 → fchk 2 TX2 k = true := by decide +kernel
                                                                                           exact this k hk)⟩
theorem cf3 : CF 3 RX3 TX3 4 := ⟨hin3, nmX3, ⟨tyX3, tyX3_ok⟩, rfl, fun k hk => fchk_ok (by have : ∀ k, k < 4 → fchk 3 TX3 k = true := by decide +kernel
                                                                                           exact this k hk)⟩
theorem cf4 : CF 4 RX4 TX4 3 := ⟨hin4, nmX4, ⟨tyX4, tyX4_ok⟩, rfl, fun k hk => fchk_ok (by have : ∀ k, k < 3 → fchk 4 TX4 k = true := by decide +kernel
                                                                                           exact this k hk)⟩
theorem cf5 : CF 5 RX5 TX5 3 := ⟨hin5, nmX5, ⟨tyX5, tyX5_ok⟩, rfl, fun k hk => fchk_ok (by have : ∀ k, k < 3 → fchk 5 TX5 k = true := by decide +kernel
                                                                                           exact this k hk)⟩
theorem cf6 : CF 6 RX6 TX6 12 := ⟨hin6, nmX6, ⟨tyX6, tyX6_ok⟩, rfl, fun k hk => fchk_ok (by have : ∀ k, k < 12 → fchk 6 TX6 k = true := by decide +kernel
                                                                                            exact this k hk)⟩
theorem cf7 : CF 7 RX7 TX7 35 := ⟨hin7, nmX7, ⟨tyX7, tyX7_ok⟩, rfl, fun k hk => fchk_ok (by have : ∀ k, k < 35 → fchk 7 TX7 k = true := by decide +kernel
                                                                                            exact this k hk)⟩
theorem cf_ok {c : Nat} {C : String} {T : u_T} {N : Nat} (h : vwCl[c]? = some (C, T, N)) : CF c C T N := by
  have hl := cl_lt h
  match c, hl, h with
  | 0, _, h => cases h; exact cf0
  | 1, _, h => cases h; exact cf1
  | 2, _, h => cases h; exact cf2
  | 3, _, h => cases h; exact cf3
  | 4, _, h => cases h; exact cf4
  | 5, _, h => cases h; exact cf5
  | 6, _, h => cases h; exact cf6
  | 7, _, h => cases h; exact cf7
theorem kk_nw {w : WD} {s : State} {H : Heap} (h : KK w s H) {x : Cond} (hx : x ∈ NWl) (ho : x.onTables = true) (args : Array Value) : x.before args s = true := va_Nw.use ho (h.2.1 x hx)
theorem wsX_obj {w : WD} {X : XS} {c i : Nat} (ht : tok c i) (hc : c < 8) : (wsX w X)[i - 1]? = some (wAd w i, .inr (c, (List.range (FTL c).length).map (fv w X i c))) := by
  obtain ⟨h1, h2, h3⟩ := tok_obj ht hc
  rw [wsX_get w X h1 h2, ent_obj w X h3 hc]
theorem g_getf {w : WD} {C : CX} {pc : Nat} {lo : List (Option V)} {st : List V} {X : XS} {Q : Int → XS → Prop} {k c f i : Nat} {v : V} (hf : FldOk C.1.1.cls (k, c, f)) (hd : decode C.1.2.1 pc = .ok (.getfield k, 3)) (hv : RX X → tok c i → fv w X i c f = vc w v ∧ vok v) (kk : Go w C (pc + 3) lo (v :: st) X Q) : Go w C pc lo (.inr (.inr (c, i)) :: st) X Q := by
  intro hst hlo hX p e s m args below meth cd H locs ls hM hP hS hl
  obtain ⟨hx, hb, hml, hr, hlk, hown, hts, hK⟩ := id hM
  obtain ⟨Cn, T, N, h1, h2, h3⟩ := hf
  have ht : tok c i := vk_hd hst
  have hc : c < 8 := cl_lt h1
  obtain ⟨c1, c2, c3, c4, c5⟩ := cf_ok h1
  obtain ⟨v1, v2⟩ := hv hX ht
  have he := wsX_obj (w := w) (X := X) ht hc
  have hfl := flds_get w X (i := i) (c := c) (k := f) (by rw [← c4]; exact h2)
  rw [v1] at hfl
  have k' := kk (vk_cons v2 (vk_tl hst)) hlo hX p e s m args below meth cd H locs ls hM hP hS hl
  show W p w.1 e _ s m args below meth cd H locs 0 0 _ (F0 m pc ls (.ref (wAd w i) :: st.map (vc w)))
  rcases h3 with h3 | ⟨host, h3⟩
  · exact va_get hx hb hts c1 hown hK.1 hP (i - 1) he h1 f h2 (hts _ h3) (fun _ h9 => h9) hfl hd k'
  · exact va_getN hx hb hts c1 hown hK.1 hP (i - 1) he h1 f h2 (kk_nw hK h3 rfl args) (fun _ h9 => h9) hfl hd k'
theorem g_putf {w : WD} {C : CX} {pc : Nat} {lo : List (Option V)} {st : List V} {X X' : XS} {Q : Int → XS → Prop} {k c f i : Nat} {v : V} (hf : FldOk C.1.1.cls (k, c, f)) (hd : decode C.1.2.1 pc = .ok (.putfield k, 3))
    (hv : RX X → tok c i → vok v → RX X' ∧ ent w X' i = .inr (c, ((List.range (FTL c).length).map (fv w X i c)).set f (vc w v)) ∧ ∀ j, 1 ≤ j → j ≤ NN → j ≠ i → ent w X' j = ent w X j)
    (ht : ∀ (Cn : String) (T : u_T) (N : Nat), CF c Cn T N → f < N → (T f).2.2.2 = false ∧ ∃ ty, parseFieldDescriptor (T f).2.2.1 = some ty ∧ narrow ty (vc w v) = vc w v ∧ fits ty (vc w v) = true)
    (kk : Go w C (pc + 3) lo st X' Q) : Go w C pc lo (v :: .inr (.inr (c, i)) :: st) X Q := by
  intro hst hlo hX p e s m args below meth cd H locs ls hM hP hS hl
  obtain ⟨hx, hb, hml, hr, hlk, hown, hts, hK⟩ := id hM
  obtain ⟨Cn, T, N, h1, h2, h3⟩ := hf
  have hti : tok c i := vk_hd (vk_tl hst)
  have hc : c < 8 := cl_lt h1
  have hcf := cf_ok h1
  obtain ⟨c1, c2, ⟨ty0, c3⟩, c4, c5⟩ := id hcf
  obtain ⟨v1, v2, v3⟩ := hv hX hti (vk_hd hst)
  obtain ⟨t1, ty, t2, t3, t4⟩ := ht Cn T N hcf h2
  obtain ⟨i1, i2, i3⟩ := tok_obj hti hc
  have he := wsX_obj (w := w) (X := X) hti hc
  have hset := wsX_set w X X' i1 i2 v2 v3
  have hlen : f < ((List.range (FTL c).length).map (fv w X i c)).length := by rw [List.length_map, List.length_range, ← c4]; exact h2
  show W p w.1 e _ s m args below meth cd H locs 0 0 _ (F0 m pc ls (vc w v :: .ref (wAd w i) :: st.map (vc w)))
  rcases h3 with h3 | ⟨host, h3⟩
  · refine va_put hx hb hts c1 ty0 c3 c2 hown hK.1 hP (wsX_D X hK.2.2.2.2) hS (i - 1) he h1 f h2 (hts _ h3) (fun _ h9 => h9) t1 t2 t3 t4 hlen hd (fun H1 locs1 hP1 _ hS1 => ?_)
    rw [hset] at hP1
    exact kk (vk_tl (vk_tl hst)) hlo v1 p e s m args below meth cd H1 locs1 ls hM hP1 hS1 hl
  · refine va_putN hx hb hts c1 ty0 c3 c2 hown hK.1 hP (wsX_D X hK.2.2.2.2) hS (i - 1) he h1 f h2 (kk_nw hK h3 rfl args) (fun _ h9 => h9) t1 t2 t3 t4 hlen hd (fun H1 locs1 hP1 _ hS1 => ?_)
    rw [hset] at hP1
    exact kk (vk_tl (vk_tl hst)) hlo v1 p e s m args below meth cd H1 locs1 ls hM hP1 hS1 hl
theorem zo_narrow {z : Int} (h : z = 0 ∨ z = 1) : narrow .boolean (.int (Int32.ofInt z)) = .int (Int32.ofInt z) ∧ fits .boolean (.int (Int32.ofInt z)) = true ∧ vp_nar .boolean (Int32.ofInt z) = Int32.ofInt z := by
  rcases h with rfl | rfl
  · exact ⟨rfl, rfl, rfl⟩
  · exact ⟨rfl, rfl, rfl⟩
theorem upd_ofInt (f : Nat → Int) (k : Nat) (y : Int) : upd (fun j => Int32.ofInt (f j)) k (Int32.ofInt y) = fun j => Int32.ofInt (if j = k then y else f j) := by
  funext j
  unfold upd
  split <;> rfl
theorem ent_upi (w : WD) (X : XS) {i k : Nat} {y : Int} (h : cls i = 8) : ent w (up X.1 i k y, X.2) i = .inl (w.2.2.2.1, len i, .inl (fun j => Int32.ofInt (if j = k then y else X.1 i j))) := by
  rw [ent_int w _ h]
  simp only [up_at]
theorem ent_upb (w : WD) (X : XS) {i k : Nat} {y : Int} (h : cls i = 9) : ent w (up X.1 i k y, X.2) i = .inl (w.2.2.2.2.1, len i, .inl (fun j => Int32.ofInt (if j = k then y else X.1 i j))) := by
  rw [ent_bool w _ h]
  simp only [up_at]
theorem let_in (z : Int) : inR (if z = 0 then 109 else if z = 1 then 108 else 97) := by
  split
  · decide
  · split <;> decide
theorem abs_in {a : Int} (h : inR a) : inR (if 0 ≤ a then a else wr (0 - a)) := by
  split
  · exact h
  · exact wr_in _
theorem g_iaload {w : WD} {C : CX} {pc : Nat} {lo : List (Option V)} {st : List V} {X : XS} {Q : Int → XS → Prop} {z : Int} {c i : Nat} (hd : decode C.1.2.1 pc = .ok (.iaload, 1)) (ha : isA c = true) (h0 : 0 ≤ z) (h1 : z < (ln c i : Int)) (kk : Go w C (pc + 1) lo (.inl (X.1 i z.toNat) :: st) X Q) : Go w C pc lo (.inl z :: .inr (.inr (c, i)) :: st) X Q := by
  intro hst hlo hX p e s m args below meth cd H locs ls hM hP hS hl
  obtain ⟨hx, hb, hml, hr, hlk, hown, hts, hK⟩ := id hM
  have fz : inR z := vk_hd hst
  obtain ⟨i1, i2, i3, i4⟩ := tok_arr (show tok c i from vk_hd (vk_tl hst)) ha
  have k' := kk (vk_cons (v := .inl (X.1 i z.toNat)) (hX.1 i z.toNat) (vk_tl (vk_tl hst))) hlo hX p e s m args below meth cd H locs ls hM hP hS hl
  have he := wsX_get w X i1 i2
  rw [ent_int w X i3] at he
  show W p w.1 e _ s m args below meth cd H locs 0 0 _ (F0 m pc ls (.int (Int32.ofInt z) :: .ref (wAd w i) :: st.map (vc w)))
  refine va_iald hx hb hK.1 hP (i - 1) 0 he rfl (oi_vin fz h0 (by rw [i4]; exact h1)) hd ?_
  try dsimp only
  rw [oi_cn fz h0]
  exact k'
theorem g_baload {w : WD} {C : CX} {pc : Nat} {lo : List (Option V)} {st : List V} {X : XS} {Q : Int → XS → Prop} {z : Int} {i : Nat} (hd : decode C.1.2.1 pc = .ok (.baload, 1)) (h0 : 0 ≤ z) (h1 : z < (len i : Int)) (kk : Go w C (pc + 1) lo (.inl (X.1 i z.toNat) :: st) X Q) : Go w C pc lo (.inl z :: .inr (.inr (9, i)) :: st) X Q := by
  intro hst hlo hX p e s m args below meth cd H locs ls hM hP hS hl
  obtain ⟨hx, hb, hml, hr, hlk, hown, hts, hK⟩ := id hM
  have fz : inR z := vk_hd hst
  have ht : tok 9 i := vk_hd (vk_tl hst)
  obtain ⟨i1, i2, i3⟩ : 1 ≤ i ∧ i ≤ NN ∧ cls i = 9 := by
    rcases ht with ⟨h, -⟩ | ⟨a, b, ⟨h, -⟩ | ⟨-, h⟩⟩
    · cases h
    · exact absurd h (by decide)
    · exact ⟨a, b, h⟩
  have k' := kk (vk_cons (v := .inl (X.1 i z.toNat)) (hX.1 i z.toNat) (vk_tl (vk_tl hst))) hlo hX p e s m args below meth cd H locs ls hM hP hS hl
  have he := wsX_get w X i1 i2
  rw [ent_bool w X i3] at he
  show W p w.1 e _ s m args below meth cd H locs 0 0 _ (F0 m pc ls (.int (Int32.ofInt z) :: .ref (wAd w i) :: st.map (vc w)))
  refine va_zald hx hb hK.1 hP (i - 1) 1 he rfl (oi_vin fz h0 h1) hd ?_
  try dsimp only
  rw [oi_cn fz h0]
  exact k'
theorem g_iastore {w : WD} {C : CX} {pc : Nat} {lo : List (Option V)} {st : List V} {X : XS} {Q : Int → XS → Prop} {y z : Int} {c i : Nat} (hd : decode C.1.2.1 pc = .ok (.iastore, 1)) (ha : isA c = true) (h0 : 0 ≤ z) (h1 : z < (ln c i : Int)) (kk : Go w C (pc + 1) lo st (up X.1 i z.toNat y, X.2) Q) : Go w C pc lo (.inl y :: .inl z :: .inr (.inr (c, i)) :: st) X Q := by
  intro hst hlo hX p e s m args below meth cd H locs ls hM hP hS hl
  obtain ⟨hx, hb, hml, hr, hlk, hown, hts, hK⟩ := id hM
  have fy : inR y := vk_hd hst
  have fz : inR z := vk_hd (vk_tl hst)
  obtain ⟨i1, i2, i3, i4⟩ := tok_arr (show tok c i from vk_hd (vk_tl (vk_tl hst))) ha
  have he := wsX_get w X i1 i2
  rw [ent_int w X i3] at he
  show W p w.1 e _ s m args below meth cd H locs 0 0 _ (F0 m pc ls (.int (Int32.ofInt y) :: .int (Int32.ofInt z) :: .ref (wAd w i) :: st.map (vc w)))
  refine va_iast hx hb hK.1 hP (wsX_D X hK.2.2.2.2) hS (i - 1) 0 he rfl (oi_vin fz h0 (by rw [i4]; exact h1)) hd (fun H1 locs1 hP1 _ hS1 => ?_)
  rw [oi_cn fz h0, upd_ofInt, wsX_set w X (up X.1 i z.toNat y, X.2) i1 i2 (ent_upi w X i3) (fun j _ _ hj => ent_row w _ _ (up_ne hj) rfl)] at hP1
  exact kk (vk_tl (vk_tl (vk_tl hst))) hlo (RX_up hX fy) p e s m args below meth cd H1 locs1 ls hM hP1 hS1 hl
theorem g_bastore {w : WD} {C : CX} {pc : Nat} {lo : List (Option V)} {st : List V} {X : XS} {Q : Int → XS → Prop} {y z : Int} {i : Nat} (hd : decode C.1.2.1 pc = .ok (.bastore, 1)) (h0 : 0 ≤ z) (h1 : z < (len i : Int)) (hy : y = 0 ∨ y = 1) (kk : Go w C (pc + 1) lo st (up X.1 i z.toNat y, X.2) Q) : Go w C pc lo (.inl y :: .inl z :: .inr (.inr (9, i)) :: st) X Q := by
  intro hst hlo hX p e s m args below meth cd H locs ls hM hP hS hl
  obtain ⟨hx, hb, hml, hr, hlk, hown, hts, hK⟩ := id hM
  have fy : inR y := vk_hd hst
  have fz : inR z := vk_hd (vk_tl hst)
  have ht : tok 9 i := vk_hd (vk_tl (vk_tl hst))
  obtain ⟨i1, i2, i3⟩ : 1 ≤ i ∧ i ≤ NN ∧ cls i = 9 := by
    rcases ht with ⟨h, -⟩ | ⟨a, b, ⟨h, -⟩ | ⟨-, h⟩⟩
    · cases h
    · exact absurd h (by decide)
    · exact ⟨a, b, h⟩
  have he := wsX_get w X i1 i2
  rw [ent_bool w X i3] at he
  show W p w.1 e _ s m args below meth cd H locs 0 0 _ (F0 m pc ls (.int (Int32.ofInt y) :: .int (Int32.ofInt z) :: .ref (wAd w i) :: st.map (vc w)))
  refine va_zast hx hb hK.1 hP (wsX_D X hK.2.2.2.2) hS (i - 1) 1 he rfl (oi_vin fz h0 h1) hd (fun H1 locs1 hP1 _ hS1 => ?_)
  rw [oi_cn fz h0, (zo_narrow hy).2.2, upd_ofInt, wsX_set w X (up X.1 i z.toNat y, X.2) i1 i2 (ent_upb w X i3) (fun j _ _ hj => ent_row w _ _ (up_ne hj) rfl)] at hP1
  exact kk (vk_tl (vk_tl (vk_tl hst))) hlo (RX_up hX fy) p e s m args below meth cd H1 locs1 ls hM hP1 hS1 hl
theorem g_aaload {w : WD} {C : CX} {pc : Nat} {lo : List (Option V)} {st : List V} {X : XS} {Q : Int → XS → Prop} {z : Int} (hd : decode C.1.2.1 pc = .ok (.aaload, 1)) (h0 : 0 ≤ z) (h1 : z < 4) (kk : Go w C (pc + 1) lo (.inr (.inr (3, 3 + 2 * z.toNat)) :: st) X Q) : Go w C pc lo (.inl z :: .inr (.inr (10, 2)) :: st) X Q := by
  intro hst hlo hX p e s m args below meth cd H locs ls hM hP hS hl
  obtain ⟨hx, hb, hml, hr, hlk, hown, hts, hK⟩ := id hM
  have fz : inR z := vk_hd hst
  have hv : tok 3 (3 + 2 * z.toNat) := by
    have : ∀ n, n < 4 → tokb 3 (3 + 2 * n) = true := by decide +kernel
    exact tokb_ok (this z.toNat (by omega))
  have k' := kk (vk_cons (v := .inr (.inr (3, 3 + 2 * z.toNat))) hv (vk_tl (vk_tl hst))) hlo hX p e s m args below meth cd H locs ls hM hP hS hl
  have he := wsX_get w X (i := 2) (by decide) (by decide)
  rw [ent_sh w X] at he
  show W p w.1 e _ s m args below meth cd H locs 0 0 _ (F0 m pc ls (.int (Int32.ofInt z) :: .ref (wAd w 2) :: st.map (vc w)))
  refine va_aldq hx hb hK.1 hP 1 2 he rfl (oi_vin fz h0 (by omega)) hd ?_
  try dsimp only
  rw [oi_cn fz h0]
  exact k'
theorem g_alen {w : WD} {C : CX} {pc : Nat} {lo : List (Option V)} {st : List V} {X : XS} {Q : Int → XS → Prop} {c i : Nat} (hd : decode C.1.2.1 pc = .ok (.arraylength, 1)) (ha : isA c = true) (kk : Go w C (pc + 1) lo (.inl (ln c i : Int) :: st) X Q) : Go w C pc lo (.inr (.inr (c, i)) :: st) X Q := by
  intro hst hlo hX p e s m args below meth cd H locs ls hM hP hS hl
  obtain ⟨hx, hb, hml, hr, hlk, hown, hts, hK⟩ := id hM
  obtain ⟨i1, i2, i3, i4⟩ := tok_arr (show tok c i from vk_hd hst) ha
  have hlen : ∀ i, i ≤ NN → len i < 1000 := by decide +kernel
  have := hlen i i2
  have k' := kk (vk_cons (v := .inl (ln c i : Int)) (show inR _ from ⟨by omega, by omega⟩) (vk_tl hst)) hlo hX p e s m args below meth cd H locs ls hM hP hS hl
  have he := wsX_get w X i1 i2
  rw [ent_int w X i3] at he
  show W p w.1 e _ s m args below meth cd H locs 0 0 _ (F0 m pc ls (.ref (wAd w i) :: st.map (vc w)))
  exact va_alen hx hb hK.1 hP (i - 1) 0 he rfl (v := Int32.ofInt (ln c i : Int)) (by rw [← i4]; exact (oi_nat (len i)).symm) hd k'
theorem g_getstatic {w : WD} {C : CX} {pc : Nat} {lo : List (Option V)} {st : List V} {X : XS} {Q : Int → XS → Prop} {k : Nat} {host : String} (hd : decode C.1.2.1 pc = .ok (.getstatic k, 3)) (hn : Cond.fieldLinkNest C.1.1.cls k "ToothField" "LETTERS" "[I" host ∈ NWl) (kk : Go w C (pc + 3) lo (.inr (.inr (70, 0)) :: st) X Q) : Go w C pc lo st X Q := by
  intro hst hlo hX p e s m args below meth cd H locs ls hM hP hS hl
  obtain ⟨hx, hb, hml, hr, hlk, hown, hts, hK⟩ := id hM
  have k' := kk (vk_cons (v := .inr (.inr (70, 0))) (Or.inl ⟨rfl, rfl⟩) hst) hlo hX p e s m args below meth cd H locs ls hM hP hS hl
  exact va_getsN hx hb hK.2.2.1 hS hown (kk_nw hK hn rfl args) (fun _ h => h) hd k'
theorem g_letters {w : WD} {C : CX} {pc : Nat} {lo : List (Option V)} {st : List V} {X : XS} {Q : Int → XS → Prop} {z : Int} {i : Nat} (hd : decode C.1.2.1 pc = .ok (.iaload, 1)) (h0 : 0 ≤ z) (h1 : z < 3) (kk : Go w C (pc + 1) lo (.inl (if z = 0 then 109 else if z = 1 then 108 else 97) :: st) X Q) : Go w C pc lo (.inl z :: .inr (.inr (70, i)) :: st) X Q := by
  intro hst hlo hX p e s m args below meth cd H locs ls hM hP hS hl
  obtain ⟨hx, hb, hml, hr, hlk, hown, hts, hK⟩ := id hM
  have fz : inR z := vk_hd hst
  have ht : tok 70 i := vk_hd (vk_tl hst)
  have hi : i = 0 := by
    rcases ht with ⟨-, h⟩ | ⟨a, b, ⟨h, -⟩ | ⟨-, h⟩⟩
    · exact h
    · exact absurd h (by decide)
    · have : ∀ i, i ≤ NN → cls i ≠ 70 := by decide +kernel
      exact absurd h (this i b)
  subst hi
  have k' := kk (vk_cons (v := .inl (if z = 0 then 109 else if z = 1 then 108 else 97)) (let_in z) (vk_tl (vk_tl hst))) hlo hX p e s m args below meth cd H locs ls hM hP hS hl
  show W p w.1 e _ s m args below meth cd H locs 0 0 _ (F0 m pc ls (.int (Int32.ofInt z) :: .ref (wAd w 0) :: st.map (vc w)))
  refine va_ti hx hb hK.2.2.2.1 hS (oi_vin fz h0 h1) (v := .int (Int32.ofInt (if z = 0 then 109 else if z = 1 then 108 else 97))) ?_ hd k'
  rw [oi_cn fz h0]
  unfold LTv
  rcases (show z = 0 ∨ z = 1 ∨ z = 2 by omega) with rfl | rfl | rfl <;> rfl
theorem cats_sum (w : WD) (st : List V) : ((st.map (vc w)).map fun v => v.category).sum = cats st := by
  induction st with
  | nil => rfl
  | cons v t ih => rw [List.map_cons, List.map_cons, List.sum_cons, ih, cat_vc]; rfl
theorem g_max {w : WD} {C : CX} {pc : Nat} {lo : List (Option V)} {st : List V} {X : XS} {Q : Int → XS → Prop} {a b : Int} {k : Nat} (hd : decode C.1.2.1 pc = .ok (.invokestatic k, 3)) (hn : Cond.methodLink C.1.1.cls k Lib.Math.max.name ∈ TB ∧ Cond.static Lib.Math.max.name ∈ TB ∧ Cond.initialized "java/lang/Math" ∈ TB ∧ Cond.code Lib.Math.max.name Lib.Math.max.code 2 (some .int) ∈ TB) (h1 : cats st ≤ 8) (h2 : 1 ≤ C.1.2.2.2.2.1) (kk : Go w C (pc + 3) lo (.inl (max a b) :: st) X Q) : Go w C pc lo (.inl b :: .inl a :: st) X Q := by
  intro hst hlo hX p e s m args below meth cd H locs ls hM hP hS hl
  obtain ⟨hx, hb, hml, hr, hlk, hown, hts, hK⟩ := id hM
  have fb : inR b := vk_hd hst
  have fa : inR a := vk_hd (vk_tl hst)
  have k' := kk (vk_cons (v := .inl (max a b)) (show inR _ from ⟨by omega, by omega⟩) (vk_tl (vk_tl hst))) hlo hX p e s m args below meth cd H locs ls hM hP hS hl
  show W p w.1 e _ s m args below meth cd H locs 0 0 _ (F0 m pc ls (.int (Int32.ofInt b) :: .int (Int32.ofInt a) :: st.map (vc w)))
  refine va_mmax hx hb (by rw [hml]; exact hl.1.symm) hown (hts _ hn.1) (hts _ hn.2.1) (hts _ hn.2.2.1) (hts _ hn.2.2.2) h2 (by rw [cats_sum]; show _ ≤ 40 * _; omega) (Nat.le_refl _) (Nat.le_refl _) hd ?_
  rw [show (if Int32.ofInt a < Int32.ofInt b then Int32.ofInt b else Int32.ofInt a) = Int32.ofInt (max a b) by
    by_cases q : a < b
    · rw [if_pos ((oi_lt fa fb).mpr q), show max a b = b by omega]
    · rw [if_neg (fun z => q ((oi_lt fa fb).mp z)), show max a b = a by omega]]
  exact k'
theorem g_min {w : WD} {C : CX} {pc : Nat} {lo : List (Option V)} {st : List V} {X : XS} {Q : Int → XS → Prop} {a b : Int} {k : Nat} (hd : decode C.1.2.1 pc = .ok (.invokestatic k, 3)) (hn : Cond.methodLink C.1.1.cls k Lib.Math.min.name ∈ TB ∧ Cond.static Lib.Math.min.name ∈ TB ∧ Cond.initialized "java/lang/Math" ∈ TB ∧ Cond.code Lib.Math.min.name Lib.Math.min.code 2 (some .int) ∈ TB) (h1 : cats st ≤ 8) (h2 : 1 ≤ C.1.2.2.2.2.1) (kk : Go w C (pc + 3) lo (.inl (min a b) :: st) X Q) : Go w C pc lo (.inl b :: .inl a :: st) X Q := by
  intro hst hlo hX p e s m args below meth cd H locs ls hM hP hS hl
  obtain ⟨hx, hb, hml, hr, hlk, hown, hts, hK⟩ := id hM
  have fb : inR b := vk_hd hst
  have fa : inR a := vk_hd (vk_tl hst)
  have k' := kk (vk_cons (v := .inl (min a b)) (show inR _ from ⟨by omega, by omega⟩) (vk_tl (vk_tl hst))) hlo hX p e s m args below meth cd H locs ls hM hP hS hl
  show W p w.1 e _ s m args below meth cd H locs 0 0 _ (F0 m pc ls (.int (Int32.ofInt b) :: .int (Int32.ofInt a) :: st.map (vc w)))
  refine va_mmin hx hb (by rw [hml]; exact hl.1.symm) hown (hts _ hn.1) (hts _ hn.2.1) (hts _ hn.2.2.1) (hts _ hn.2.2.2) h2 (by rw [cats_sum]; show _ ≤ 40 * _; omega) (Nat.le_refl _) (Nat.le_refl _) hd ?_
  rw [show (if Int32.ofInt b < Int32.ofInt a then Int32.ofInt b else Int32.ofInt a) = Int32.ofInt (min a b) by
    by_cases q : b < a
    · rw [if_pos ((oi_lt fb fa).mpr q), show min a b = b by omega]
    · rw [if_neg (fun z => q ((oi_lt fb fa).mp z)), show min a b = a by omega]]
  exact k'
theorem g_abs {w : WD} {C : CX} {pc : Nat} {lo : List (Option V)} {st : List V} {X : XS} {Q : Int → XS → Prop} {a : Int} {k : Nat} (hd : decode C.1.2.1 pc = .ok (.invokestatic k, 3)) (hn : Cond.methodLink C.1.1.cls k Lib.Math.abs.name ∈ TB ∧ Cond.static Lib.Math.abs.name ∈ TB ∧ Cond.initialized "java/lang/Math" ∈ TB ∧ Cond.code Lib.Math.abs.name Lib.Math.abs.code 1 (some .int) ∈ TB) (h1 : cats st ≤ 8) (h2 : 1 ≤ C.1.2.2.2.2.1) (kk : Go w C (pc + 3) lo (.inl (if 0 ≤ a then a else wr (0 - a)) :: st) X Q) : Go w C pc lo (.inl a :: st) X Q := by
  intro hst hlo hX p e s m args below meth cd H locs ls hM hP hS hl
  obtain ⟨hx, hb, hml, hr, hlk, hown, hts, hK⟩ := id hM
  have fa : inR a := vk_hd hst
  have k' := kk (vk_cons (v := .inl (if 0 ≤ a then a else wr (0 - a))) (abs_in fa) (vk_tl hst)) hlo hX p e s m args below meth cd H locs ls hM hP hS hl
  show W p w.1 e _ s m args below meth cd H locs 0 0 _ (F0 m pc ls (.int (Int32.ofInt a) :: st.map (vc w)))
  refine va_mabs hx hb (by rw [hml]; exact hl.1.symm) hown (hts _ hn.1) (hts _ hn.2.1) (hts _ hn.2.2.1) (hts _ hn.2.2.2) h2 (by rw [cats_sum]; show _ ≤ 40 * _; omega) (Nat.le_refl _) (Nat.le_refl _) hd ?_
  rw [show (if 0 ≤ Int32.ofInt a then Int32.ofInt a else 0 - Int32.ofInt a) = Int32.ofInt (if 0 ≤ a then a else wr (0 - a)) by
    by_cases q : 0 ≤ a
    · rw [if_pos (show (0 : Int32) ≤ Int32.ofInt a from (oi_le oi_0 fa).mpr q), if_pos q]
    · rw [if_neg (fun z : (0 : Int32) ≤ Int32.ofInt a => q ((oi_le oi_0 fa).mp z)), if_neg q]; exact oi_sub 0 a]
  exact k'
theorem g_acopy {w : WD} {C : CX} {pc : Nat} {lo : List (Option V)} {st : List V} {X : XS} {Q : Int → XS → Prop} {n dp sp : Int} {c1 c2 i1 i2 k : Nat} (hd : decode C.1.2.1 pc = .ok (.invokestatic k, 3)) (hn : Cond.methodLink C.1.1.cls k arraycopyName ∈ TB ∧ Cond.native arraycopyName ∈ TB ∧ Cond.static arraycopyName ∈ TB ∧ Cond.initialized "java/lang/System" ∈ TB) (ha1 : isA c1 = true) (ha2 : isA c2 = true) (h1 : cats st ≤ 8) (h2 : 1 ≤ C.1.2.2.2.2.1) (s1 : 0 ≤ sp) (s2 : 0 ≤ dp) (s3 : 0 ≤ n) (s4 : sp + n ≤ (ln c1 i1 : Int)) (s5 : dp + n ≤ (ln c2 i2 : Int)) (kk : Go w C (pc + 3) lo st (cpy X.1 i1 sp.toNat i2 dp.toNat n.toNat, X.2) Q) : Go w C pc lo (.inl n :: .inl dp :: .inr (.inr (c2, i2)) :: .inl sp :: .inr (.inr (c1, i1)) :: st) X Q := by
  intro hst hlo hX p e s m args below meth cd H locs ls hM hP hS hl
  obtain ⟨hx, hb, hml, hr, hlk, hown, hts, hK⟩ := id hM
  have fn : inR n := vk_hd hst
  have fd : inR dp := vk_hd (vk_tl hst)
  obtain ⟨b1, b2, b3, b4⟩ := tok_arr (show tok c2 i2 from vk_hd (vk_tl (vk_tl hst))) ha2
  have fs : inR sp := vk_hd (vk_tl (vk_tl (vk_tl hst)))
  obtain ⟨a1, a2, a3, a4⟩ := tok_arr (show tok c1 i1 from vk_hd (vk_tl (vk_tl (vk_tl (vk_tl hst))))) ha1
  have he1 := wsX_get w X a1 a2
  rw [ent_int w X a3] at he1
  have he2 := wsX_get w X b1 b2
  rw [ent_int w X b3] at he2
  show W p w.1 e _ s m args below meth cd H locs 0 0 _ (F0 m pc ls (.int (Int32.ofInt n) :: .int (Int32.ofInt dp) :: .ref (wAd w i2) :: .int (Int32.ofInt sp) :: .ref (wAd w i1) :: st.map (vc w)))
  refine va_copyi hx hb (by rw [hml]; exact hl.1.symm) hown (hts _ hn.1) (hts _ hn.2.1) (hts _ hn.2.2.1) (hts _ hn.2.2.2) hK.1 hP (wsX_D X hK.2.2.2.2) hS (i1 - 1) (i2 - 1) 0 0 he1 he2 rfl rfl rfl (fun q => absurd ((oi_lt fs oi_0).mp q) (by omega)) (fun q => absurd ((oi_lt fd oi_0).mp q) (by omega)) (fun q => absurd ((oi_lt fn oi_0).mp q) (by omega)) (by rw [oi_cn fs s1, oi_cn fn s3, a4]; omega) (by rw [oi_cn fd s2, oi_cn fn s3, b4]; omega) (fun _ _ => rfl) h2 (by rw [cats_sum]; show _ + (7 + 11) ≤ 40 * _; omega) hd (fun H1 locs1 hP1 _ hS1 => ?_)
  have hR : RX (cpy X.1 i1 sp.toNat i2 dp.toNat n.toNat, X.2) := by
    refine ⟨fun a b => ?_, hX.2⟩
    show inR (cpy X.1 i1 sp.toNat i2 dp.toNat n.toNat a b)
    unfold cpy
    split
    · show inR (if _ then _ else _)
      split
      · exact hX.1 _ _
      · exact hX.1 _ _
    · exact hX.1 _ _
  rw [oi_cn fs s1, oi_cn fd s2, oi_cn fn s3, wsX_set w X (cpy X.1 i1 sp.toNat i2 dp.toNat n.toNat, X.2) b1 b2 (by
    rw [ent_int w _ b3]
    congr 3
    congr 1
    funext j
    show Int32.ofInt (cpy X.1 i1 sp.toNat i2 dp.toNat n.toNat i2 j) = _
    unfold cpy va_cpy
    rw [if_pos rfl]
    split <;> rfl) (fun j _ _ hj => ent_row w _ _ (by show cpy _ _ _ _ _ _ j = _; unfold cpy; rw [if_neg hj]) rfl)] at hP1
  exact kk (vk_tl (vk_tl (vk_tl (vk_tl (vk_tl hst))))) hlo hR p e s m args below meth cd H1 locs1 ls hM hP1 hS1 hl
