/-! ===== the law's own walk ===== -/
def fwAd (s : State) : Nat → Prop := fun q => s.heap.size ≤ q
def KKL (w : WD) (s : State) : Prop := va_K w.2.1 vwCl (wTy w) s ∧ (∀ x ∈ NWl, va_Nw x s) ∧ va_Z "ToothField" "LETTERS" "[I" (.ref (wAd w 0)) (fwAd s) s s.heap ∧ va_T .int (wAd w 0) 3 LTv (fwAd s) s s.heap ∧ (∀ i j, 1 ≤ i → i ≤ NN → 1 ≤ j → j ≤ NN → wAd w i = wAd w j → i = j) ∧ ∀ i, 1 ≤ i → i ≤ NN → s.heap.size ≤ wAd w i
theorem KKL.sub {w : WD} {s : State} (h : KKL w s) : ∀ q, wA w q → fwAd s q := by
  intro q hq
  obtain ⟨i, h1, h2, rfl⟩ := hq
  exact h.2.2.2.2.2 i h1 h2
theorem KKL.warm {w : WD} {s U : State} {H : Heap} {locs : List Loc} (h : KKL w s) (hS : va_S (fwAd s) s.heap H locs) (hU : U.heap = H) (hW : s.WarmedH U.vm) : KK w U U.heap := by
  have hsub := h.sub
  obtain ⟨h1, h2, h3, h4, h5, h6⟩ := h
  refine ⟨va_K.moved hW.alike h1, fun x hx => nw_warm (List.all_eq_true.mp nwl_nest x hx) hW (h2 x hx), ?_, ?_, h5⟩
  · rw [hU]
    exact ((va_Z.moved hW.alike h3).kept hS.2.1).narrow hsub
  · rw [hU]
    exact ((va_T.moved hW.alike h4).kept hS.2.1).narrow hsub
def LGo (w : WD) (p : Program) (e : Env) (s : State) (m : MethodId) (below : List Frame) (meth : Method) (c : Code) (b i pc : Nat) (st : List V) (X : XS) : Prop :=
  (∀ v ∈ st, vok v) → RX X → ∀ (H : Heap) (locs : List Loc) (ls : Array Slot), va_P w.2.1 vwCl (wsX w X) H → va_S (fwAd s) s.heap H locs → lv_has ls 4 [(3, .int (nI i)), (2, .ref (wAd w 43)), (1, .ref (wAd w 1)), (0, .ref b)] →
    W p w.1 e room_1 s m #[Value.ref b] below meth c H locs 600000 7302250 (lw_Z below #[Value.ref b] s) (F0 m pc ls (st.map (vc w)))
/-- the law's surroundings -/
def LA (w : WD) (p : Program) (s : State) (m : MethodId) (meth : Method) (c : Code) (b L : Nat) (xs : Nat → Int32) : Prop := lw_At p s m meth c b L xs ∧ KKL w s ∧ L ≤ 384
section LAW
variable {w : WD} {p : Program} {e : Env} {s : State} {m : MethodId} {below : List Frame} {meth : Method} {c : Code} {b L : Nat} {xs : Nat → Int32} {i pc : Nat} {st : List V} {X : XS}
theorem l_arg (h : LA w p s m meth c b L xs) (k : Nat) (hk : k ≤ 5) (hi : i + k < L) (d1 : decode code pc = .ok (.aload_n 0, 1)) (d2 : decode code (pc + 1) = .ok (.iload_n 3, 1)) (d3 : decode code (pc + 2) = .ok (.iconst (k : Int), 1)) (d4 : decode code (pc + 3) = .ok (.iadd, 1)) (d5 : decode code (pc + 4) = .ok (.iaload, 1)) (kk : LGo w p e s m below meth c b i (pc + 5) (.inl (xs (i + k)).toInt :: st) X) : LGo w p e s m below meth c b i pc st X := by
  obtain ⟨⟨hx, hb, hr, hml, hown, hts, hX, hbl, hlocks, hgv⟩, hK, hL⟩ := h
  intro hst hR H locs ls hP hS hl
  have hbA : ¬ fwAd s b := Nat.not_le.mpr hbl
  refine lv_aload_n hx hb d1 rfl (lv_at hl 3 rfl) ?_
  refine lv_iload_n hx hb d2 rfl (lv_at hl 0 rfl) ?_
  refine lv_iconst (v := nI k) hx hb d3 (oi_nat k) ?_
  refine lv_iadd hx hb d4 ?_
  rw [nI_add]
  refine va_sld hx hb hX hbl hbA hS (vp_in_nI hi (by omega)) d5 ?_
  rw [nI_clamp (show i + k < 2 ^ 31 by omega)]
  have G := kk (vk_cons (oi_inR (xs (i + k))) hst) hR H locs ls hP hS hl
  rw [List.map_cons, show vc w (.inl (xs (i + k)).toInt) = .int (xs (i + k)) by show Value.int (Int32.ofInt (xs (i + k)).toInt) = _; rw [Int32.ofInt_toInt]] at G
  exact G
theorem l_x (h : LA w p s m meth c b L xs) (d : decode code pc = .ok (.aload_n 1, 1)) (kk : LGo w p e s m below meth c b i (pc + 1) (.inr (.inr (6, 1)) :: st) X) : LGo w p e s m below meth c b i pc st X := by
  obtain ⟨⟨hx, hb, -⟩, -, -⟩ := h
  intro hst hR H locs ls hP hS hl
  refine lv_aload_n hx hb d rfl (lv_at hl 2 rfl) ?_
  exact kk (vk_cons (show tok 6 1 from Or.inr ⟨by decide, by decide, Or.inr ⟨by decide, by decide⟩⟩) hst) hR H locs ls hP hS hl
theorem l_m (h : LA w p s m meth c b L xs) (d : decode code pc = .ok (.aload_n 2, 1)) (kk : LGo w p e s m below meth c b i (pc + 1) (.inr (.inr (7, 43)) :: st) X) : LGo w p e s m below meth c b i pc st X := by
  obtain ⟨⟨hx, hb, -⟩, -, -⟩ := h
  intro hst hR H locs ls hP hS hl
  refine lv_aload_n hx hb d rfl (lv_at hl 1 rfl) ?_
  exact kk (vk_cons (show tok 7 43 from Or.inr ⟨by decide, by decide, Or.inr ⟨by decide, by decide⟩⟩) hst) hR H locs ls hP hS hl
theorem g_coreL {R : Room} {args : Array Value} {H : Heap} {locs : List Loc} {Q : State → Prop} {ls : Array Slot} {st0 rest : List Value} {ret : Option FieldType} {Qr : Int → XS → Prop} {a : Array Value} {A : Nat → Prop} {cells slots : Nat} (hAA : ∀ q, wA w q → A q)
    (hr : va_Run p w.1 e R s m args below meth c H locs cells slots 0 0 (F0 m pc ls st0) rest (QcO w ret Qr a) (wA w)) (hS : va_S A s.heap H locs)
    (kk : ∀ (z : Int) (X' : XS) (H1 : Heap) (locs1 : List Loc), Qr z X' → RX X' → zin ret z → va_P w.2.1 vwCl (wsX w X') H1 → va_S A s.heap H1 locs1 → W p w.1 e R s m args below meth c H1 locs1 cells slots Q (F0 m (pc + 3) ls ((rty ret z).toList ++ rest))) : W p w.1 e R s m args below meth c H locs cells slots Q (F0 m pc ls st0) := by
  intro T hT X
  obtain ⟨v, st₀, t, T', L, h0, X', hL, e1, e2, ⟨⟨z, Y, hv, hq, hR, hz, hPt⟩, hz1, hk⟩, st⟩ := hr T hT X
  cases hv
  rw [h0] at hz1 hk
  obtain ⟨t2, a1, b1⟩ := kk z Y T'.heap (locs ++ L) hq hR hz (by rw [e1]; exact hPt)
    ⟨Nat.le_trans hS.1 (by rw [e1]; exact hz1), fun q h1 h2 => by rw [e1, hk q (Nat.lt_of_lt_of_le h1 hS.1) (fun z => h2 (hAA q z))]; exact hS.2.1 q h1 h2, fun q hq => by
      rcases List.mem_append.mp hq with h | h
      · exact hS.2.2 q h
      · exact hAA _ (hL q h)⟩ T' rfl X'
  exact ⟨t2, st t2 a1, b1⟩
theorem l_call (h : LA w p s m meth c b L xs) {k : Nat} {f : MI} (hlink : Cond.methodLink R_law k f.1 ∈ TB) (hok : MiOk f) {id : Nat} {as' r : List V} {Qr : Int → XS → Prop} (hMS : MS w f (.inr (.inr (f.2.2.2.2.2.2, id)) :: as') X Qr) (hc : (Nat.ble f.2.2.2.2.1 10 && Nat.ble (cats r) 8 && Nat.blt f.2.2.2.2.2.2 8 && Nat.beq as'.length f.2.2.2.2.2.1) = true) (d : decode code pc = .ok (.invokevirtual k, 3)) (hst0 : st = as'.reverse ++ .inr (.inr (f.2.2.2.2.2.2, id)) :: r) (kk : ∀ z X', Qr z X' → LGo w p e s m below meth c b i (pc + 3) (pres f.2.2.2.1 z r) X') : LGo w p e s m below meth c b i pc st X := by
  obtain ⟨⟨hx, hb, hr, hml, hown, hts, hX, hbl, hlocks, hgv⟩, hK, hL⟩ := h
  intro hst hR H locs ls hP hS hl
  simp only [Bool.and_eq_true, Nat.ble_eq] at hc
  obtain ⟨⟨⟨h10, hcat⟩, h8⟩, hlen⟩ := hc
  have h8 : f.2.2.2.2.2.2 < 8 := Nat.ble_eq.mp h8
  have hlen : as'.length = f.2.2.2.2.2.1 := Nat.eq_of_beq_eq_true hlen
  have htsB : ∀ x ∈ TB, x.before #[Value.ref b] s = true := fun x hx => hts x (List.mem_filter.mp hx).1
  obtain ⟨hcode, hini, ⟨hmh, hpn, hpar, hml2⟩, hkind⟩ := hok
  obtain ⟨T, N, hvw, hinst, hsel⟩ : ∃ (T : u_T) (N : Nat), vwCl[f.2.2.2.2.2.2]? = some (f.1.cls, T, N) ∧ Cond.instanceMethod f.1 ∈ TB ∧ Cond.selects f.1.cls f.1 f.1 ∈ TB := by
    rcases hkind with ⟨h, -⟩ | h
    · omega
    · exact h
  have hv : ∀ v ∈ (.inr (.inr (f.2.2.2.2.2.2, id)) :: as' : List V), vok v := fun v hv => hst v (by
    rw [hst0]
    rcases List.mem_cons.mp hv with rfl | hv
    · exact List.mem_append_right _ List.mem_cons_self
    · exact List.mem_append_left _ (List.mem_reverse.mpr hv))
  have hrk : ∀ v ∈ r, vok v := fun v hv => hst v (by rw [hst0]; exact List.mem_append_right _ (List.mem_cons_of_mem _ hv))
  have htok : tok f.2.2.2.2.2.2 id := vk_hd hv
  have hMet := hMS hv hR
  have hPc : ∀ U : State, U.heap = H → s.WarmedH U.vm → va_Pc ((.inr (.inr (f.2.2.2.2.2.2, id)) :: as' : List V).map (vc w)) (fun U => KK w U U.heap ∧ va_P w.2.1 vwCl (wsX w X) U.heap) ((.inr (.inr (f.2.2.2.2.2.2, id)) :: as' : List V).map (vc w)).toArray U := fun U hU hW => ⟨rfl, hK.warm hS hU hW, by rw [hU]; exact hP⟩
  have hml2 : f.2.2.1 ≤ 21 := hml2
  have hroom : 8 + (f.2.2.1 + 11) + (rmd f.2.2.2.2.1).locals ≤ room_1.locals := by show 8 + (f.2.2.1 + 11) + 40 * f.2.2.2.2.1 ≤ 456; omega
  have hfr : (rmd f.2.2.2.2.1).frames + 1 ≤ room_1.frames := by show f.2.2.2.2.1 + 1 ≤ 12; omega
  have hpl : ∀ sig, parseMethodDescriptor f.1.desc = some sig → f.2.2.2.2.2.1 = sig.parameters.length := fun sig h => by
    rw [h] at hpar
    exact (Option.some.inj hpar).symm
  have hcats : 2 * (F0 m pc ls (st.map (vc w))).monitorRoom + ((r.map (vc w)).map fun v => v.category).sum ≤ 8 := lv_room (by rw [cats_sum]; exact hcat)
  have hrec := va_recv hK.1 hP hvw (wsX_obj (w := w) (X := X) htok h8)
  have hstk : st.map (vc w) = (as'.map (vc w)).reverse ++ .ref (wAd w id) :: r.map (vc w) := by rw [hst0, List.map_append, List.map_reverse, List.map_cons]; rfl
  have hln : (as'.map (vc w)).length = f.2.2.2.2.2.1 := by rw [List.length_map]; exact hlen
  have hfin : ∀ (z : Int) (X' : XS) (H1 : Heap) (locs1 : List Loc), Qr z X' → RX X' → zin f.2.2.2.1 z → va_P w.2.1 vwCl (wsX w X') H1 → va_S (fwAd s) s.heap H1 locs1 → W p w.1 e room_1 s m #[Value.ref b] below meth c H1 locs1 600000 7302250 (lw_Z below #[Value.ref b] s) (F0 m (pc + 3) ls ((rty f.2.2.2.1 z).toList ++ r.map (vc w))) := by
    intro z X' H1 locs1 hq hR hz hP1 hS1
    rw [pres_map]
    exact kk z X' hq (pres_ok hz hrk) hR H1 locs1 ls hP1 hS1 hl
  exact g_coreL hK.sub (va_runV (As := as'.map (vc w)) (rest := r.map (vc w)) (b := wAd w id) (C := f.1.cls) ⟨hx, hb, hml, hown, htsB⟩ hMet (n := f.2.2.2.2.2.1) ⟨⟨rfl, rfl, hfr, hroom, tb_good htsB hcode, List.mem_cons_self, htsB _ hcode, htsB _ hini, hmh, hpl, htsB _ hlink⟩, htsB _ hinst, htsB _ hsel⟩ ⟨pc_blind w X _, hrec, hPc⟩ rfl hln hl.1 hstk hcats d ⟨Nat.le_refl _, Nat.le_refl _⟩) hS hfin
theorem l_eq (h : LA w p s m meth c b L xs) {z : Int} {off : Int} (d : decode code pc = .ok (.if_icmp .eq off, 3)) (ht : (pc : Int) + off = ((1295 : Nat) : Int)) (kk : LGo w p e s m below meth c b i 1295 [] X) : LGo w p e s m below meth c b i pc [.inl z, .inl z] X := by
  obtain ⟨⟨hx, hb, -⟩, -, -⟩ := h
  intro hst hR H locs ls hP hS hl
  refine lv_icmp_eq (tgt := 1295) hx hb d ht (fun _ => ?_) (fun q => absurd rfl q)
  exact kk (fun v hv => by cases hv) hR H locs ls hP hS hl
theorem l_leq (h : LA w p s m meth c b L xs) {z : Int} {off : Int} (d1 : decode code pc = .ok (.lcmp, 1)) (d : decode code (pc + 1) = .ok (.ifCond .eq off, 3)) (ht : ((pc + 1 : Nat) : Int) + off = ((1295 : Nat) : Int)) (kk : LGo w p e s m below meth c b i 1295 [] X) : LGo w p e s m below meth c b i pc [.inr (.inl z), .inr (.inl z)] X := by
  obtain ⟨⟨hx, hb, -⟩, -, -⟩ := h
  intro hst hR H locs ls hP hS hl
  have hz : inL z := vk_hd hst
  refine W.lcmp hx hb d1 ?_
  rw [oi_cmp hz hz, if_neg (Int.lt_irrefl z), if_pos rfl]
  refine lv_if_eq (tgt := 1295) hx hb d ht (fun _ => ?_) (fun q => absurd rfl q)
  exact kk (fun v hv => by cases hv) hR H locs ls hP hS hl
/-- a number told as a boolean -/
theorem l_nz (h : LA w p s m meth c b L xs) {z : Int} (d1 : decode code pc = .ok (.ifCond .eq 7, 3)) (d2 : decode code (pc + 3) = .ok (.iconst 1, 1)) (d3 : decode code (pc + 4) = .ok (.goto 4, 3)) (d4 : decode code (pc + 7) = .ok (.iconst 0, 1)) (kk : LGo w p e s m below meth c b i (pc + 8) (.inl (if z = 0 then 0 else 1) :: st) X) : LGo w p e s m below meth c b i pc (.inl z :: st) X := by
  obtain ⟨⟨hx, hb, -⟩, -, -⟩ := h
  intro hst hR H locs ls hP hS hl
  have hz : inR z := vk_hd hst
  have hs2 : ∀ v ∈ st, vok v := fun v hv => hst v (List.mem_cons_of_mem _ hv)
  refine lv_if_eq (tgt := pc + 7) hx hb d1 (by omega) (fun q => ?_) (fun q => ?_)
  · have e0 : z = 0 := (oi_e hz oi_0).mp q
    rw [if_pos e0] at kk
    refine lv_iconst (v := 0) hx hb d4 (by decide) ?_
    exact kk (vk_cons oi_0 hs2) hR H locs ls hP hS hl
  · have e0 : ¬ z = 0 := fun g => q (by rw [g]; rfl)
    rw [if_neg e0] at kk
    refine lv_iconst (v := 1) hx hb d2 (by decide) ?_
    refine lv_goto (tgt := pc + 8) hx hb d3 (by omega) ?_
    exact kk (vk_cons (show inR 1 by decide) hs2) hR H locs ls hP hS hl
end LAW
