/-! ===== calls and ends; the machine goes as the abstract machine says ===== -/
def isNest (x : Cond) : Bool := match x with | .fieldLinkNest .. => true | .methodLinkNest .. => true | _ => false
theorem nwl_nest : NWl.all isNest = true := by decide +kernel
theorem nw_warm {x : Cond} (hn : isNest x = true) {s U : State} (hW : s.WarmedH U.vm) (h : va_Nw x s) : va_Nw x U := by
  cases x <;> first | exact va_Nw.warmF hW h | exact va_Nw.warmM hW h | cases hn
theorem nw_on {x : Cond} (hn : isNest x = true) : x.onTables = true := by
  cases x <;> first | rfl | cases hn
theorem KK_warm {w : WD} {s U : State} {H : Heap} {locs : List Loc} (h : KK w s s.heap) (hS : va_S (wA w) s.heap H locs) (hU : U.heap = H) (hW : s.WarmedH U.vm) : KK w U U.heap := by
  obtain ⟨h1, h2, h3, h4, h5⟩ := h
  refine ⟨va_K.moved hW.alike h1, fun x hx => nw_warm (List.all_eq_true.mp nwl_nest x hx) hW (h2 x hx), ?_, ?_, h5⟩
  · rw [hU]
    exact (va_Z.moved hW.alike h3).kept hS.2.1
  · rw [hU]
    exact (va_T.moved hW.alike h4).kept hS.2.1
theorem KK_blind {w : WD} {U : State} (h : KK w U U.heap) (g : JFrame) (mk : MethodId) (a : Array Value) : KK w (U.calling g mk a) (U.calling g mk a).heap := by
  obtain ⟨h1, h2, h3, h4, h5⟩ := h
  exact ⟨va_K.moved (Vm.Alike.refl U.vm) h1, fun x hx => va_Nw.same (u := U) (U := U.calling g mk a) (nw_on (List.all_eq_true.mp nwl_nest x hx)) rfl (h2 x hx), va_Z.moved (Vm.Alike.refl U.vm) h3, va_T.moved (Vm.Alike.refl U.vm) h4, h5⟩
def zin (ret : Option FieldType) (z : Int) : Prop := match ret with | some .long => inL z | _ => inR z
def pres (ret : Option FieldType) (z : Int) (r : List V) : List V := match ret with | none => r | some .long => .inr (.inl z) :: r | some _ => .inl z :: r
theorem pres_map (w : WD) (ret : Option FieldType) (z : Int) (r : List V) : (rty ret z).toList ++ r.map (vc w) = (pres ret z r).map (vc w) := by
  unfold rty pres
  match ret with
  | none => rfl
  | some t => cases t <;> rfl
theorem pres_ok {ret : Option FieldType} {z : Int} {r : List V} (hz : zin ret z) (hr : ∀ v ∈ r, vok v) : ∀ v ∈ pres ret z r, vok v := by
  unfold zin at hz
  unfold pres
  match ret, hz with
  | none, _ => exact hr
  | some t, hz => cases t <;> exact vk_cons hz hr
theorem g_core {p : Program} {e : Env} {R : Room} {s : State} {m : MethodId} {args : Array Value} {below : List Frame} {meth : Method} {c : Code} {H : Heap} {locs : List Loc} {Q : State → Prop} {pc : Nat} {ls : Array Slot} {st0 rest : List Value} {w : WD} {ret : Option FieldType} {Qr : Int → XS → Prop} {a : Array Value}
    (hr : va_Run p w.1 e R s m args below meth c H locs 0 0 0 0 (F0 m pc ls st0) rest (QcO w ret Qr a) (wA w)) (hS : va_S (wA w) s.heap H locs)
    (kk : ∀ (z : Int) (X' : XS) (H1 : Heap) (locs1 : List Loc), Qr z X' → RX X' → zin ret z → va_P w.2.1 vwCl (wsX w X') H1 → va_S (wA w) s.heap H1 locs1 → W p w.1 e R s m args below meth c H1 locs1 0 0 Q (F0 m (pc + 3) ls ((rty ret z).toList ++ rest))) : W p w.1 e R s m args below meth c H locs 0 0 Q (F0 m pc ls st0) := by
  intro T hT X
  obtain ⟨v, st₀, t, T', L, h0, X', hL, e1, e2, ⟨⟨z, Y, hv, hq, hR, hz, hPt⟩, hz1, hk⟩, st⟩ := hr T hT X
  cases hv
  rw [h0] at hz1 hk
  obtain ⟨t2, a1, b1⟩ := kk z Y T'.heap (locs ++ L) hq hR hz (by rw [e1]; exact hPt)
    ⟨Nat.le_trans hS.1 (by rw [e1]; exact hz1), fun q h1 h2 => by rw [e1, hk q (Nat.lt_of_lt_of_le h1 hS.1) h2]; exact hS.2.1 q h1 h2, fun q hq => by
      rcases List.mem_append.mp hq with h | h
      · exact hS.2.2 q h
      · exact hL q h⟩ T' rfl X'
  exact ⟨t2, st t2 a1, b1⟩
theorem popN_spec : ∀ {n : Nat} {st as r : List V}, popN n st = some (as, r) → st = as.reverse ++ r ∧ as.length = n
  | 0, st, as, r, h => by
    cases h
    exact ⟨rfl, rfl⟩
  | n + 1, [], as, r, h => by cases h
  | n + 1, v :: st, as, r, h => by
    unfold popN at h
    split at h
    · rename_i as' r' he
      cases h
      obtain ⟨h1, h2⟩ := popN_spec he
      exact ⟨by rw [h1]; simp, by simp [h2]⟩
    · cases h
theorem tb_good {args : Array Value} {s : State} (hts : ∀ x ∈ TB, x.before args s = true) {y : MethodName} {b : ByteArray} {n : Nat} {rt : Option FieldType} (hc : Cond.code y b n rt ∈ TB) : ∀ w ∈ (Cond.code y b n rt :: TB), ∀ (a' : Array Value) (U : State), s.WarmedH U.vm → w.before a' U = true := by
  intro w hw a' U hW
  have hm : w ∈ TB := by
    rcases List.mem_cons.mp hw with rfl | h
    · exact hc
    · exact h
  exact word_at hW (good_of_word (List.mem_filter.mp hm).2) (hts w hm)
theorem pc_blind (w : WD) (X : XS) (as : List V) : FrameBlind (va_Pc (as.map (vc w)) (fun U => KK w U U.heap ∧ va_P w.2.1 vwCl (wsX w X) U.heap)) := by
  intro a U g mk h
  obtain ⟨q0, q1, q2⟩ := h
  exact ⟨q0, KK_blind q1 g mk a, q2⟩
theorem g_call {w : WD} {C : CX} {pc : Nat} {lo : List (Option V)} {st : List V} {X : XS} {Q : Int → XS → Prop} {k : Nat} {i : MI} (hl0 : LnkOk C.1.1.cls (k, i))
    (hd : (i.2.2.2.2.2.2 = 100 ∧ decode C.1.2.1 pc = .ok (.invokestatic k, 3)) ∨ (i.2.2.2.2.2.2 ≠ 100 ∧ decode C.1.2.1 pc = .ok (.invokevirtual k, 3)))
    (kk : callX w C pc lo st X Q i (if i.2.2.2.2.2.2 = 100 then i.2.2.2.2.2.1 else i.2.2.2.2.2.1 + 1)) : Go w C pc lo st X Q := by
  unfold callX at kk
  split at kk
  case h_2 => exact kk.elim
  rename_i as r hpop
  obtain ⟨hchk, Qr, hMS, kk⟩ := kk
  have hb3 : (Nat.blt i.2.2.2.2.1 C.1.2.2.2.2.1 && Nat.ble (cats r) 8 && rcv as i.2.2.2.2.2.2) = true := by
    cases hq : (Nat.blt i.2.2.2.2.1 C.1.2.2.2.2.1 && Nat.ble (cats r) 8 && rcv as i.2.2.2.2.2.2) with
    | true => rfl
    | false => rw [hq] at hchk; exact hchk.elim
  simp only [Bool.and_eq_true, Nat.ble_eq] at hb3
  obtain ⟨⟨hlt, hcat⟩, hrcv⟩ := hb3
  have hlt : i.2.2.2.2.1 + 1 ≤ C.1.2.2.2.2.1 := Nat.ble_eq.mp hlt
  obtain ⟨hst0, hlen⟩ := popN_spec hpop
  intro hst hlo hX p e s m args below meth cd H locs ls hM hP hS hl
  obtain ⟨hx, hb, hml, hr, hlk, hown, hts, hK⟩ := id hM
  obtain ⟨hlink, hcode, hini, ⟨hmh, hpn, hpar, hml2⟩, hkind⟩ := hl0
  have has : ∀ v ∈ as, vok v := fun v hv => hst v (by rw [hst0]; exact List.mem_append_left _ (List.mem_reverse.mpr hv))
  have hrk : ∀ v ∈ r, vok v := fun v hv => hst v (by rw [hst0]; exact List.mem_append_right _ hv)
  have hMet := hMS has hX
  have hPc : ∀ U : State, U.heap = H → s.WarmedH U.vm → va_Pc (as.map (vc w)) (fun U => KK w U U.heap ∧ va_P w.2.1 vwCl (wsX w X) U.heap) (as.map (vc w)).toArray U := fun U hU hW => ⟨rfl, KK_warm hK hS hU hW, by rw [hU]; exact hP⟩
  have hml2 : i.2.2.1 ≤ 21 := hml2
  have hroom : 8 + (i.2.2.1 + 11) + (rmd i.2.2.2.2.1).locals ≤ (rmd C.1.2.2.2.2.1).locals := by show 8 + (i.2.2.1 + 11) + 40 * i.2.2.2.2.1 ≤ 40 * C.1.2.2.2.2.1; omega
  have hpl : ∀ sig, parseMethodDescriptor i.1.desc = some sig → i.2.2.2.2.2.1 = sig.parameters.length := fun sig h => by
    rw [h] at hpar
    exact (Option.some.inj hpar).symm
  have hcats : 2 * (F0 m pc ls (st.map (vc w))).monitorRoom + ((r.map (vc w)).map fun v => v.category).sum ≤ 8 := lv_room (by rw [cats_sum]; exact hcat)
  have hfin : ∀ (z : Int) (X' : XS) (H1 : Heap) (locs1 : List Loc), Qr z X' → RX X' → zin i.2.2.2.1 z → va_P w.2.1 vwCl (wsX w X') H1 → va_S (wA w) s.heap H1 locs1 → W p w.1 e (rmd C.1.2.2.2.2.1) s m args below meth cd H1 locs1 0 0 (MQ below (QcO w C.1.2.2.2.1 Q) args s 0 0 (wA w)) (F0 m (pc + 3) ls ((rty i.2.2.2.1 z).toList ++ r.map (vc w))) := by
    intro z X' H1 locs1 hq hR hz hP1 hS1
    rw [pres_map]
    exact kk z X' hq (pres_ok hz hrk) hlo hR p e s m args below meth cd H1 locs1 ls hM hP1 hS1 hl
  rcases hd with ⟨h100, hd⟩ | ⟨h100, hd⟩
  · rw [if_pos h100] at hpop hlen
    have hstat : (Cond.static i.1).before args s = true := by
      rcases hkind with ⟨-, h⟩ | ⟨T, N, h, -⟩
      · exact hts _ h
      · rw [h100] at h; cases h
    have hstk : st.map (vc w) = (as.map (vc w)).reverse ++ r.map (vc w) := by rw [hst0, List.map_append, List.map_reverse]
    rcases hlink with hlink | ⟨host, hlink⟩
    · exact g_core (va_runS (As := as.map (vc w)) (rest := r.map (vc w)) ⟨hx, hb, hml, hown, hts⟩ hMet (n := i.2.2.2.2.2.1) ⟨⟨rfl, rfl, hlt, hroom, tb_good hts hcode, List.mem_cons_self, hts _ hcode, hts _ hini, hmh, hpl, hts _ hlink⟩, hstat⟩ ⟨pc_blind w X as, hPc⟩ rfl (by rw [List.length_map]; exact hlen) hl.1 hstk hcats hd ⟨Nat.le_refl _, Nat.le_refl _⟩) hS hfin
    · exact g_core (va_runSN (As := as.map (vc w)) (rest := r.map (vc w)) (host := host) ⟨hx, hb, hml, hown, hts⟩ hMet (n := i.2.2.2.2.2.1) ⟨⟨⟨rfl, rfl, hlt, hroom, tb_good hts hcode, List.mem_cons_self⟩, hts _ hcode, hts _ hini, hmh, hpl, kk_nw hK hlink rfl args⟩, hstat, trivial⟩ ⟨pc_blind w X as, hPc⟩ rfl (by rw [List.length_map]; exact hlen) hl.1 hstk hcats hd ⟨Nat.le_refl _, Nat.le_refl _⟩) hS hfin
  · rw [if_neg h100] at hpop hlen
    obtain ⟨T, N, hvw, hinst, hsel⟩ : ∃ (T : u_T) (N : Nat), vwCl[i.2.2.2.2.2.2]? = some (i.1.cls, T, N) ∧ Cond.instanceMethod i.1 ∈ TB ∧ Cond.selects i.1.cls i.1 i.1 ∈ TB := by
      rcases hkind with ⟨h, -⟩ | h
      · exact absurd h h100
      · exact h
    unfold rcv at hrcv
    rw [show Nat.beq i.2.2.2.2.2.2 100 = false from by rw [Bool.eq_false_iff]; exact fun q => h100 (Nat.eq_of_beq_eq_true q)] at hrcv
    obtain ⟨id, as', rfl⟩ : ∃ (id : Nat) (as' : List V), as = .inr (.inr (i.2.2.2.2.2.2, id)) :: as' := by
      match as, hrcv with
      | .inr (.inr (c, id)) :: as', h => exact ⟨id, as', by rw [show c = i.2.2.2.2.2.2 from Nat.eq_of_beq_eq_true h]⟩
    have htok : tok i.2.2.2.2.2.2 id := vk_hd has
    have hrec := va_recv hK.1 hP hvw (wsX_obj (w := w) (X := X) htok (cl_lt hvw))
    have hstk : st.map (vc w) = (as'.map (vc w)).reverse ++ .ref (wAd w id) :: r.map (vc w) := by rw [hst0, List.map_append, List.map_reverse, List.map_cons, List.reverse_cons, List.append_assoc]; rfl
    have hln : (as'.map (vc w)).length = i.2.2.2.2.2.1 := by rw [List.length_map]; simpa using hlen
    rcases hlink with hlink | ⟨host, hlink⟩
    · exact g_core (va_runV (As := as'.map (vc w)) (rest := r.map (vc w)) (b := wAd w id) (C := i.1.cls) ⟨hx, hb, hml, hown, hts⟩ hMet (n := i.2.2.2.2.2.1) ⟨⟨rfl, rfl, hlt, hroom, tb_good hts hcode, List.mem_cons_self, hts _ hcode, hts _ hini, hmh, hpl, hts _ hlink⟩, hts _ hinst, hts _ hsel⟩ ⟨pc_blind w X _, hrec, hPc⟩ rfl hln hl.1 hstk hcats hd ⟨Nat.le_refl _, Nat.le_refl _⟩) hS hfin
    · exact g_core (va_runVN (As := as'.map (vc w)) (rest := r.map (vc w)) (b := wAd w id) (C := i.1.cls) (host := host) ⟨hx, hb, hml, hown, hts⟩ hMet (n := i.2.2.2.2.2.1) ⟨⟨⟨rfl, rfl, hlt, hroom, tb_good hts hcode, List.mem_cons_self⟩, hts _ hcode, hts _ hini, hmh, hpl, kk_nw hK hlink rfl args⟩, hts _ hinst, hts _ hsel⟩ ⟨pc_blind w X _, hrec, hPc⟩ rfl hln hl.1 hstk hcats hd ⟨Nat.le_refl _, Nat.le_refl _⟩) hS hfin
theorem g_ireturn {w : WD} {C : CX} {pc : Nat} {lo : List (Option V)} {X : XS} {Q : Int → XS → Prop} {z : Int} (hd : decode C.1.2.1 pc = .ok (.ireturn, 1)) (h : ret1 C.1.2.2.2.1 z) (hq : Q z X) : Go w C pc lo [.inl z] X Q := by
  intro hst hlo hX p e s m args below meth cd H locs ls hM hP hS hl
  obtain ⟨hx, hb, hml, hr, hlk, hown, hts, hK⟩ := id hM
  have fz : inR z := vk_hd hst
  unfold ret1 at h
  split at h
  · rename_i hrt
    exact W.iret hx hb (by rw [hr, hrt]) (fun t ht hW => ⟨⟨z, X, by rw [hrt]; rfl, hq, hX, by rw [hrt]; exact fz, by rw [ht]; exact hP⟩, hS.F ht⟩) hS.2.2 hd hlk
  · rename_i hrt
    exact W.zret hx hb (by rw [hr, hrt]) (zo_narrow h).1 (fun t ht hW => ⟨⟨z, X, by rw [hrt]; rfl, hq, hX, by rw [hrt]; exact fz, by rw [ht]; exact hP⟩, hS.F ht⟩) hS.2.2 hd hlk
  · exact h.elim
theorem g_lreturn {w : WD} {C : CX} {pc : Nat} {lo : List (Option V)} {X : XS} {Q : Int → XS → Prop} {z : Int} (hd : decode C.1.2.1 pc = .ok (.lreturn, 1)) (hrt : C.1.2.2.2.1 = some .long) (hq : Q z X) : Go w C pc lo [.inr (.inl z)] X Q := by
  intro hst hlo hX p e s m args below meth cd H locs ls hM hP hS hl
  obtain ⟨hx, hb, hml, hr, hlk, hown, hts, hK⟩ := id hM
  have fz : inL z := vk_hd hst
  exact W.lret hx hb (by rw [hr, hrt]) (fun t ht hW => ⟨⟨z, X, by rw [hrt]; rfl, hq, hX, by rw [hrt]; exact fz, by rw [ht]; exact hP⟩, hS.F ht⟩) hS.2.2 hd hlk
theorem g_return {w : WD} {C : CX} {pc : Nat} {lo : List (Option V)} {X : XS} {Q : Int → XS → Prop} (hd : decode C.1.2.1 pc = .ok (.return_, 1)) (hrt : C.1.2.2.2.1 = none) (hq : Q 0 X) : Go w C pc lo [] X Q := by
  intro hst hlo hX p e s m args below meth cd H locs ls hM hP hS hl
  obtain ⟨hx, hb, hml, hr, hlk, hown, hts, hK⟩ := id hM
  exact W.vret hx hb (by rw [hr, hrt]) (fun t ht hW => ⟨⟨0, X, by rw [hrt]; rfl, hq, hX, by rw [hrt]; exact oi_0, by rw [ht]; exact hP⟩, hS.F ht⟩) hS.2.2 hd hlk
