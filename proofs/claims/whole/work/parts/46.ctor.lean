theorem ofn_nn {N : Nat} (h : N < 100) : ¬ Int32.ofNat N < 0 := fun q => by
  revert q
  exact (show ∀ N : Nat, N < 100 → ¬ Int32.ofNat N < 0 by decide +kernel) N h
theorem ofn_cl {N : Nat} (h : N < 100) : (Int32.ofNat N).toNatClampNeg = N := (show ∀ N : Nat, N < 100 → (Int32.ofNat N).toNatClampNeg = N by decide +kernel) N h
theorem ofn_max {N : Nat} (h : N < 100) : (if (0 : Int32) < Int32.ofNat N then Int32.ofNat N else 0) = Int32.ofNat N := (show ∀ N : Nat, N < 100 → (if (0 : Int32) < Int32.ofNat N then Int32.ofNat N else 0) = Int32.ofNat N by decide +kernel) N h
theorem pl_of {d : String} {n : Nat} (h : (parseMethodDescriptor d).map (fun d => d.parameters.length) = some n) : ∀ sig, parseMethodDescriptor d = some sig → n = sig.parameters.length := fun sig q => by
  rw [q] at h
  exact (Option.some.inj h).symm
theorem df0 : ∀ j, j < 7 → defaultValue (tyX0 j) = vp_V [.null, .null, .null, .null, .null, .int 0, .int 0] j := by
  intro j hj
  match j, hj with
  | 0, _ => rfl
  | 1, _ => rfl
  | 2, _ => rfl
  | 3, _ => rfl
  | 4, _ => rfl
  | 5, _ => rfl
  | 6, _ => rfl
  | j + 7, h => omega
theorem df1 : ∀ j, j < 10 → defaultValue (tyX1 j) = vp_V [.null, .null, .null, .null, .null, .null, .null, .int 0, .int 0, .int 0] j := by
  intro j hj
  match j, hj with
  | 0, _ => rfl
  | 1, _ => rfl
  | 2, _ => rfl
  | 3, _ => rfl
  | 4, _ => rfl
  | 5, _ => rfl
  | 6, _ => rfl
  | 7, _ => rfl
  | 8, _ => rfl
  | 9, _ => rfl
  | j + 10, h => omega
theorem df2 : ∀ j, j < 4 → defaultValue (tyX2 j) = vp_V [.null, .null, .null, .int 0] j := by
  intro j hj
  match j, hj with
  | 0, _ => rfl
  | 1, _ => rfl
  | 2, _ => rfl
  | 3, _ => rfl
  | j + 4, h => omega
theorem df3 : ∀ j, j < 4 → defaultValue (tyX3 j) = vp_V [.null, .int 0, .int 0, .int 0] j := by
  intro j hj
  match j, hj with
  | 0, _ => rfl
  | 1, _ => rfl
  | 2, _ => rfl
  | 3, _ => rfl
  | j + 4, h => omega
theorem df4 : ∀ j, j < 3 → defaultValue (tyX4 j) = vp_V [.null, .null, .int 0] j := by
  intro j hj
  match j, hj with
  | 0, _ => rfl
  | 1, _ => rfl
  | 2, _ => rfl
  | j + 3, h => omega
theorem df5 : ∀ j, j < 3 → defaultValue (tyX5 j) = vp_V [.null, .int 0, .int 0] j := by
  intro j hj
  match j, hj with
  | 0, _ => rfl
  | 1, _ => rfl
  | 2, _ => rfl
  | j + 3, h => omega
theorem df6 : ∀ j, j < 12 → defaultValue (tyX6 j) = vp_V [.null, .null, .null, .null, .null, .null, .null, .null, .int 0, .int 0, .int 0, .int 0] j := by
  intro j hj
  match j, hj with
  | 0, _ => rfl
  | 1, _ => rfl
  | 2, _ => rfl
  | 3, _ => rfl
  | 4, _ => rfl
  | 5, _ => rfl
  | 6, _ => rfl
  | 7, _ => rfl
  | 8, _ => rfl
  | 9, _ => rfl
  | 10, _ => rfl
  | 11, _ => rfl
  | j + 12, h => omega
theorem df7 : ∀ j, j < 35 → defaultValue (tyX7 j) = vp_V [.int 0, .int 0, .null, .null, .null, .int 0, .int 0, .int 0, .null, .null, .null, .null, .null, .int 0, .int 0, .int 0, .int 0, .int 0, .null, .int 0, .null, .null, .int 0, .int 0, .null, .null, .null, .null, .null, .int 0, .null, .null, .null, .null, .null] j := by
  intro j hj
  match j, hj with
  | 0, _ => rfl
  | 1, _ => rfl
  | 2, _ => rfl
  | 3, _ => rfl
  | 4, _ => rfl
  | 5, _ => rfl
  | 6, _ => rfl
  | 7, _ => rfl
  | 8, _ => rfl
  | 9, _ => rfl
  | 10, _ => rfl
  | 11, _ => rfl
  | 12, _ => rfl
  | 13, _ => rfl
  | 14, _ => rfl
  | 15, _ => rfl
  | 16, _ => rfl
  | 17, _ => rfl
  | 18, _ => rfl
  | 19, _ => rfl
  | 20, _ => rfl
  | 21, _ => rfl
  | 22, _ => rfl
  | 23, _ => rfl
  | 24, _ => rfl
  | 25, _ => rfl
  | 26, _ => rfl
  | 27, _ => rfl
  | 28, _ => rfl
  | 29, _ => rfl
  | 30, _ => rfl
  | 31, _ => rfl
  | 32, _ => rfl
  | 33, _ => rfl
  | 34, _ => rfl
  | j + 35, h => omega
theorem dI_Sh_0 : decode cX3_init 0 = .ok (.aload_n 0, 1) := by decide +kernel
theorem dI_Sh_1 : decode cX3_init 1 = .ok (.invokespecial 3, 3) := by decide +kernel
theorem dI_Sh_4 : decode cX3_init 4 = .ok (.aload_n 0, 1) := by decide +kernel
theorem dI_Sh_5 : decode cX3_init 5 = .ok (.bipush 60, 2) := by decide +kernel
theorem dI_Sh_7 : decode cX3_init 7 = .ok (.newarray .int, 2) := by decide +kernel
theorem dI_Sh_9 : decode cX3_init 9 = .ok (.putfield 9, 3) := by decide +kernel
theorem dI_Sh_12 : decode cX3_init 12 = .ok (.return_, 1) := by decide +kernel
set_option maxHeartbeats 4000000 in
set_option maxRecDepth 100000 in
theorem k_Sh (l : Launch) (D : va_G) (cI cB cS : ClassId) (h0 sz : Nat) : Met l yX3_init (.code yX3_init cX3_init 1 none :: TB) { frames := 1, cells := 1, slots := 60, locals := 40 } (va_Pc [.ref h0] (mkPc D cI cB cS sz [(h0, .inr (3, [.null, .int 0, .int 0, .int 0]))])) (va_Qv (fun _ : Unit => True) (fun _ t => ∃ q1 : Nat, mkQ D cI cB cS (va_A [(h0, .inr (3, [.null, .int 0, .int 0, .int 0]))] sz) [(h0, .inr (3, [.ref q1, .int 0, .int 0, .int 0])), (q1, arI cI 60)] t) (va_A [(h0, .inr (3, [.null, .int 0, .int 0, .int 0]))] sz)) (1) (60) (va_A [(h0, .inr (3, [.null, .int 0, .int 0, .int 0]))] sz) := by
  refine Met.ofW (cc := cX3_init) (maxL := 1) (ret := none) (by decide) rfl ?_
  intro p e s m args below meth c s₁ B hml hv
  obtain ⟨rfl, hsz, hP, hK, hD0⟩ := hv
  have hx := B.exec
  have hb := B.bytes
  have hr := B.returns
  have hts0 := atoms_spec (ws := .code yX3_init cX3_init 1 none :: TB) B.pre
  have hts : ∀ w ∈ TB, w.before ([.ref h0] : List Value).toArray s = true := fun w hw => hts0 w (List.mem_cons_of_mem _ hw)
  have hown : s.vm.findClass RX3 = some m.cls := findClass_of_methodNamed B.named
  have hlocks := B.notSynchronized
  have hin : meth.name = "<init>" := (name_of_methodNamed B.named B.method).1
  subst hsz
  have hD := hD0.self (sz := s.heap.size)
  generalize hAe : va_A [(h0, .inr (3, [.null, .int 0, .int 0, .int 0]))] s.heap.size = A at hD ⊢
  have hA : ∀ q : Nat, s.heap.size ≤ q → A q := fun q h => by rw [← hAe]; exact Or.inr h
  have hS : va_S A s.heap s.heap [] := va_S.rf
  have hl := lv_entry ([.ref h0]) (n := 1) (Nat.le_of_ble_eq_true rfl)
  rw [lg_entry_eq]
  generalize (lg_sl ([.ref h0]) ++ List.replicate (1 - (lg_sl ([.ref h0])).length) Slot.unset).toArray = ls at hl ⊢
  have hl : lv_has ls 1 [(0, .ref h0)] := hl
  refine lv_aload_n hx hb dI_Sh_0 rfl (lv_at hl 0 rfl) ?_
  refine W.objInit hx hb hown (hts (.methodLink RX3 3 objectInit) (tbm 103 (by decide +kernel) rfl)) (hts (.instanceMethod objectInit) (tbm 95 (by decide +kernel) rfl)) (hts (.code objectInit ⟨#[0xb1]⟩ 1 none) (tbm 96 (by decide +kernel) rfl)) rfl (by rw [hml]; exact hl.1) rfl dI_Sh_1 (Nat.le_of_ble_eq_true rfl) (Nat.le_of_ble_eq_true rfl) ?_
  refine W.eq (g2 := F0 m 4 ls []) rfl ?_
  refine lv_aload_n hx hb dI_Sh_4 rfl (lv_at hl 0 rfl) ?_
  refine lv_bipush (v := 60) hx hb dI_Sh_5 (by decide) ?_
  refine va_nwI hx hb (hts _ (tbm 121 (by decide +kernel) rfl)) hK hP hD hS hA (n := 60) (N' := 60) (by decide) (by decide) (by decide) (Nat.le_of_ble_eq_true rfl) (Nat.le_of_ble_eq_true rfl) dI_Sh_7 (fun q1 H hP hD hS => ?_)
  have hP : va_P D vwCl [(h0, .inr (3, [.null, .int 0, .int 0, .int 0])), (q1, arI cI 60)] H := hP
  have hD : va_D A [(h0, .inr (3, [.null, .int 0, .int 0, .int 0])), (q1, arI cI 60)] := hD
  refine va_putF (D := D) (ci := 3) (v := .ref q1) (ty := .array .int) (C := RX3) (T := TX3) (N := 4) hx hb hts hin3 tyX3 tyX3_ok nmX3 hown hK hP hD hS 0 rfl rfl 0 (by decide) (hts (.fieldLink RX3 9 "ToothField$Sheet" "cells" "[I") (tbm 104 (by decide +kernel) rfl)) (fun _ h9 => h9) rfl hin rfl (by decide +kernel) rfl rfl (Nat.le_of_ble_eq_true rfl) dI_Sh_9 (fun H locs hP hD hS => ?_)
  have hP : va_P D vwCl [(h0, .inr (3, [.ref q1, .int 0, .int 0, .int 0])), (q1, arI cI 60)] H := hP
  have hD : va_D A [(h0, .inr (3, [.ref q1, .int 0, .int 0, .int 0])), (q1, arI cI 60)] := hD
  refine W.vret hx hb hr (fun t ht hW => ⟨⟨(), rfl, trivial, q1, by rw [ht]; exact hP, va_K.moved hW.alike hK, hD⟩, hS.F ht⟩) hS.2.2 dI_Sh_12
theorem dI_Tr_0 : decode cX5_init 0 = .ok (.aload_n 0, 1) := by decide +kernel
theorem dI_Tr_1 : decode cX5_init 1 = .ok (.invokespecial 3, 3) := by decide +kernel
theorem dI_Tr_4 : decode cX5_init 4 = .ok (.return_, 1) := by decide +kernel
set_option maxHeartbeats 4000000 in
set_option maxRecDepth 100000 in
theorem k_Tr (l : Launch) (D : va_G) (cI cB cS : ClassId) (h0 sz : Nat) : Met l yX5_init (.code yX5_init cX5_init 1 none :: TB) { frames := 1, cells := 0, slots := 0, locals := 40 } (va_Pc [.ref h0] (mkPc D cI cB cS sz [(h0, .inr (5, [.null, .int 0, .int 0]))])) (va_Qv (fun _ : Unit => True) (fun _ t => mkQ D cI cB cS (va_A [(h0, .inr (5, [.null, .int 0, .int 0]))] sz) [(h0, .inr (5, [.null, .int 0, .int 0]))] t) (va_A [(h0, .inr (5, [.null, .int 0, .int 0]))] sz)) (0) (0) (va_A [(h0, .inr (5, [.null, .int 0, .int 0]))] sz) := by
  refine Met.ofW (cc := cX5_init) (maxL := 1) (ret := none) (by decide) rfl ?_
  intro p e s m args below meth c s₁ B hml hv
  obtain ⟨rfl, hsz, hP, hK, hD0⟩ := hv
  have hx := B.exec
  have hb := B.bytes
  have hr := B.returns
  have hts0 := atoms_spec (ws := .code yX5_init cX5_init 1 none :: TB) B.pre
  have hts : ∀ w ∈ TB, w.before ([.ref h0] : List Value).toArray s = true := fun w hw => hts0 w (List.mem_cons_of_mem _ hw)
  have hown : s.vm.findClass RX5 = some m.cls := findClass_of_methodNamed B.named
  have hlocks := B.notSynchronized
  have hin : meth.name = "<init>" := (name_of_methodNamed B.named B.method).1
  subst hsz
  have hD := hD0.self (sz := s.heap.size)
  generalize hAe : va_A [(h0, .inr (5, [.null, .int 0, .int 0]))] s.heap.size = A at hD ⊢
  have hA : ∀ q : Nat, s.heap.size ≤ q → A q := fun q h => by rw [← hAe]; exact Or.inr h
  have hS : va_S A s.heap s.heap [] := va_S.rf
  have hl := lv_entry ([.ref h0]) (n := 1) (Nat.le_of_ble_eq_true rfl)
  rw [lg_entry_eq]
  generalize (lg_sl ([.ref h0]) ++ List.replicate (1 - (lg_sl ([.ref h0])).length) Slot.unset).toArray = ls at hl ⊢
  have hl : lv_has ls 1 [(0, .ref h0)] := hl
  refine lv_aload_n hx hb dI_Tr_0 rfl (lv_at hl 0 rfl) ?_
  refine W.objInit hx hb hown (hts (.methodLink RX5 3 objectInit) (tbm 127 (by decide +kernel) rfl)) (hts (.instanceMethod objectInit) (tbm 95 (by decide +kernel) rfl)) (hts (.code objectInit ⟨#[0xb1]⟩ 1 none) (tbm 96 (by decide +kernel) rfl)) rfl (by rw [hml]; exact hl.1) rfl dI_Tr_1 (Nat.le_of_ble_eq_true rfl) (Nat.le_of_ble_eq_true rfl) ?_
  refine W.eq (g2 := F0 m 4 ls []) rfl ?_
  refine W.vret hx hb hr (fun t ht hW => ⟨⟨(), rfl, trivial, by rw [ht]; exact hP, va_K.moved hW.alike hK, hD⟩, hS.F ht⟩) hS.2.2 dI_Tr_4
theorem dI_Fi_0 : decode cX0_init 0 = .ok (.aload_n 0, 1) := by decide +kernel
theorem dI_Fi_1 : decode cX0_init 1 = .ok (.invokespecial 3, 3) := by decide +kernel
theorem dI_Fi_4 : decode cX0_init 4 = .ok (.aload_n 0, 1) := by decide +kernel
theorem dI_Fi_5 : decode cX0_init 5 = .ok (.bipush 9, 2) := by decide +kernel
theorem dI_Fi_7 : decode cX0_init 7 = .ok (.newarray .int, 2) := by decide +kernel
theorem dI_Fi_9 : decode cX0_init 9 = .ok (.putfield 9, 3) := by decide +kernel
theorem dI_Fi_12 : decode cX0_init 12 = .ok (.aload_n 0, 1) := by decide +kernel
theorem dI_Fi_13 : decode cX0_init 13 = .ok (.bipush 9, 2) := by decide +kernel
theorem dI_Fi_15 : decode cX0_init 15 = .ok (.newarray .int, 2) := by decide +kernel
theorem dI_Fi_17 : decode cX0_init 17 = .ok (.putfield 15, 3) := by decide +kernel
theorem dI_Fi_20 : decode cX0_init 20 = .ok (.aload_n 0, 1) := by decide +kernel
theorem dI_Fi_21 : decode cX0_init 21 = .ok (.bipush 9, 2) := by decide +kernel
theorem dI_Fi_23 : decode cX0_init 23 = .ok (.newarray .int, 2) := by decide +kernel
theorem dI_Fi_25 : decode cX0_init 25 = .ok (.putfield 18, 3) := by decide +kernel
theorem dI_Fi_28 : decode cX0_init 28 = .ok (.aload_n 0, 1) := by decide +kernel
theorem dI_Fi_29 : decode cX0_init 29 = .ok (.bipush 9, 2) := by decide +kernel
theorem dI_Fi_31 : decode cX0_init 31 = .ok (.newarray .int, 2) := by decide +kernel
theorem dI_Fi_33 : decode cX0_init 33 = .ok (.putfield 21, 3) := by decide +kernel
theorem dI_Fi_36 : decode cX0_init 36 = .ok (.return_, 1) := by decide +kernel
set_option maxHeartbeats 4000000 in
set_option maxRecDepth 100000 in
theorem k_Fi (l : Launch) (D : va_G) (cI cB cS : ClassId) (h0 sz : Nat) : Met l yX0_init (.code yX0_init cX0_init 1 none :: TB) { frames := 1, cells := 4, slots := 36, locals := 40 } (va_Pc [.ref h0] (mkPc D cI cB cS sz [(h0, .inr (0, [.null, .null, .null, .null, .null, .int 0, .int 0]))])) (va_Qv (fun _ : Unit => True) (fun _ t => ∃ q1 q2 q3 q4 : Nat, mkQ D cI cB cS (va_A [(h0, .inr (0, [.null, .null, .null, .null, .null, .int 0, .int 0]))] sz) [(h0, .inr (0, [.ref q1, .ref q2, .ref q3, .ref q4, .null, .int 0, .int 0])), (q1, arI cI 9), (q2, arI cI 9), (q3, arI cI 9), (q4, arI cI 9)] t) (va_A [(h0, .inr (0, [.null, .null, .null, .null, .null, .int 0, .int 0]))] sz)) (4) (36) (va_A [(h0, .inr (0, [.null, .null, .null, .null, .null, .int 0, .int 0]))] sz) := by
  refine Met.ofW (cc := cX0_init) (maxL := 1) (ret := none) (by decide) rfl ?_
  intro p e s m args below meth c s₁ B hml hv
  obtain ⟨rfl, hsz, hP, hK, hD0⟩ := hv
  have hx := B.exec
  have hb := B.bytes
  have hr := B.returns
  have hts0 := atoms_spec (ws := .code yX0_init cX0_init 1 none :: TB) B.pre
  have hts : ∀ w ∈ TB, w.before ([.ref h0] : List Value).toArray s = true := fun w hw => hts0 w (List.mem_cons_of_mem _ hw)
  have hown : s.vm.findClass RX0 = some m.cls := findClass_of_methodNamed B.named
  have hlocks := B.notSynchronized
  have hin : meth.name = "<init>" := (name_of_methodNamed B.named B.method).1
  subst hsz
  have hD := hD0.self (sz := s.heap.size)
  generalize hAe : va_A [(h0, .inr (0, [.null, .null, .null, .null, .null, .int 0, .int 0]))] s.heap.size = A at hD ⊢
  have hA : ∀ q : Nat, s.heap.size ≤ q → A q := fun q h => by rw [← hAe]; exact Or.inr h
  have hS : va_S A s.heap s.heap [] := va_S.rf
  have hl := lv_entry ([.ref h0]) (n := 1) (Nat.le_of_ble_eq_true rfl)
  rw [lg_entry_eq]
  generalize (lg_sl ([.ref h0]) ++ List.replicate (1 - (lg_sl ([.ref h0])).length) Slot.unset).toArray = ls at hl ⊢
  have hl : lv_has ls 1 [(0, .ref h0)] := hl
  refine lv_aload_n hx hb dI_Fi_0 rfl (lv_at hl 0 rfl) ?_
  refine W.objInit hx hb hown (hts (.methodLink RX0 3 objectInit) (tbm 144 (by decide +kernel) rfl)) (hts (.instanceMethod objectInit) (tbm 95 (by decide +kernel) rfl)) (hts (.code objectInit ⟨#[0xb1]⟩ 1 none) (tbm 96 (by decide +kernel) rfl)) rfl (by rw [hml]; exact hl.1) rfl dI_Fi_1 (Nat.le_of_ble_eq_true rfl) (Nat.le_of_ble_eq_true rfl) ?_
  refine W.eq (g2 := F0 m 4 ls []) rfl ?_
  refine lv_aload_n hx hb dI_Fi_4 rfl (lv_at hl 0 rfl) ?_
  refine lv_bipush (v := 9) hx hb dI_Fi_5 (by decide) ?_
  refine va_nwI hx hb (hts _ (tbm 121 (by decide +kernel) rfl)) hK hP hD hS hA (n := 9) (N' := 9) (by decide) (by decide) (by decide) (Nat.le_of_ble_eq_true rfl) (Nat.le_of_ble_eq_true rfl) dI_Fi_7 (fun q1 H hP hD hS => ?_)
  have hP : va_P D vwCl [(h0, .inr (0, [.null, .null, .null, .null, .null, .int 0, .int 0])), (q1, arI cI 9)] H := hP
  have hD : va_D A [(h0, .inr (0, [.null, .null, .null, .null, .null, .int 0, .int 0])), (q1, arI cI 9)] := hD
  refine va_putF (D := D) (ci := 0) (v := .ref q1) (ty := .array .int) (C := RX0) (T := TX0) (N := 7) hx hb hts hin0 tyX0 tyX0_ok nmX0 hown hK hP hD hS 0 rfl rfl 0 (by decide) (hts (.fieldLink RX0 9 "ToothField$Fight" "foeOf" "[I") (tbm 145 (by decide +kernel) rfl)) (fun _ h9 => h9) rfl hin rfl (by decide +kernel) rfl rfl (Nat.le_of_ble_eq_true rfl) dI_Fi_9 (fun H locs hP hD hS => ?_)
  have hP : va_P D vwCl [(h0, .inr (0, [.ref q1, .null, .null, .null, .null, .int 0, .int 0])), (q1, arI cI 9)] H := hP
  have hD : va_D A [(h0, .inr (0, [.ref q1, .null, .null, .null, .null, .int 0, .int 0])), (q1, arI cI 9)] := hD
  refine lv_aload_n hx hb dI_Fi_12 rfl (lv_at hl 0 rfl) ?_
  refine lv_bipush (v := 9) hx hb dI_Fi_13 (by decide) ?_
  refine va_nwI hx hb (hts _ (tbm 121 (by decide +kernel) rfl)) hK hP hD hS hA (n := 9) (N' := 9) (by decide) (by decide) (by decide) (Nat.le_of_ble_eq_true rfl) (Nat.le_of_ble_eq_true rfl) dI_Fi_15 (fun q2 H hP hD hS => ?_)
  have hP : va_P D vwCl [(h0, .inr (0, [.ref q1, .null, .null, .null, .null, .int 0, .int 0])), (q1, arI cI 9), (q2, arI cI 9)] H := hP
  have hD : va_D A [(h0, .inr (0, [.ref q1, .null, .null, .null, .null, .int 0, .int 0])), (q1, arI cI 9), (q2, arI cI 9)] := hD
  refine va_putF (D := D) (ci := 0) (v := .ref q2) (ty := .array .int) (C := RX0) (T := TX0) (N := 7) hx hb hts hin0 tyX0 tyX0_ok nmX0 hown hK hP hD hS 0 rfl rfl 1 (by decide) (hts (.fieldLink RX0 15 "ToothField$Fight" "armourOf" "[I") (tbm 147 (by decide +kernel) rfl)) (fun _ h9 => h9) rfl hin rfl (by decide +kernel) rfl rfl (Nat.le_of_ble_eq_true rfl) dI_Fi_17 (fun H locs hP hD hS => ?_)
  have hP : va_P D vwCl [(h0, .inr (0, [.ref q1, .ref q2, .null, .null, .null, .int 0, .int 0])), (q1, arI cI 9), (q2, arI cI 9)] H := hP
  have hD : va_D A [(h0, .inr (0, [.ref q1, .ref q2, .null, .null, .null, .int 0, .int 0])), (q1, arI cI 9), (q2, arI cI 9)] := hD
  refine lv_aload_n hx hb dI_Fi_20 rfl (lv_at hl 0 rfl) ?_
  refine lv_bipush (v := 9) hx hb dI_Fi_21 (by decide) ?_
  refine va_nwI hx hb (hts _ (tbm 121 (by decide +kernel) rfl)) hK hP hD hS hA (n := 9) (N' := 9) (by decide) (by decide) (by decide) (Nat.le_of_ble_eq_true rfl) (Nat.le_of_ble_eq_true rfl) dI_Fi_23 (fun q3 H hP hD hS => ?_)
  have hP : va_P D vwCl [(h0, .inr (0, [.ref q1, .ref q2, .null, .null, .null, .int 0, .int 0])), (q1, arI cI 9), (q2, arI cI 9), (q3, arI cI 9)] H := hP
  have hD : va_D A [(h0, .inr (0, [.ref q1, .ref q2, .null, .null, .null, .int 0, .int 0])), (q1, arI cI 9), (q2, arI cI 9), (q3, arI cI 9)] := hD
  refine va_putF (D := D) (ci := 0) (v := .ref q3) (ty := .array .int) (C := RX0) (T := TX0) (N := 7) hx hb hts hin0 tyX0 tyX0_ok nmX0 hown hK hP hD hS 0 rfl rfl 2 (by decide) (hts (.fieldLink RX0 18 "ToothField$Fight" "fellIn" "[I") (tbm 149 (by decide +kernel) rfl)) (fun _ h9 => h9) rfl hin rfl (by decide +kernel) rfl rfl (Nat.le_of_ble_eq_true rfl) dI_Fi_25 (fun H locs hP hD hS => ?_)
  have hP : va_P D vwCl [(h0, .inr (0, [.ref q1, .ref q2, .ref q3, .null, .null, .int 0, .int 0])), (q1, arI cI 9), (q2, arI cI 9), (q3, arI cI 9)] H := hP
  have hD : va_D A [(h0, .inr (0, [.ref q1, .ref q2, .ref q3, .null, .null, .int 0, .int 0])), (q1, arI cI 9), (q2, arI cI 9), (q3, arI cI 9)] := hD
  refine lv_aload_n hx hb dI_Fi_28 rfl (lv_at hl 0 rfl) ?_
  refine lv_bipush (v := 9) hx hb dI_Fi_29 (by decide) ?_
  refine va_nwI hx hb (hts _ (tbm 121 (by decide +kernel) rfl)) hK hP hD hS hA (n := 9) (N' := 9) (by decide) (by decide) (by decide) (Nat.le_of_ble_eq_true rfl) (Nat.le_of_ble_eq_true rfl) dI_Fi_31 (fun q4 H hP hD hS => ?_)
  have hP : va_P D vwCl [(h0, .inr (0, [.ref q1, .ref q2, .ref q3, .null, .null, .int 0, .int 0])), (q1, arI cI 9), (q2, arI cI 9), (q3, arI cI 9), (q4, arI cI 9)] H := hP
  have hD : va_D A [(h0, .inr (0, [.ref q1, .ref q2, .ref q3, .null, .null, .int 0, .int 0])), (q1, arI cI 9), (q2, arI cI 9), (q3, arI cI 9), (q4, arI cI 9)] := hD
  refine va_putF (D := D) (ci := 0) (v := .ref q4) (ty := .array .int) (C := RX0) (T := TX0) (N := 7) hx hb hts hin0 tyX0 tyX0_ok nmX0 hown hK hP hD hS 0 rfl rfl 3 (by decide) (hts (.fieldLink RX0 21 "ToothField$Fight" "strikers" "[I") (tbm 152 (by decide +kernel) rfl)) (fun _ h9 => h9) rfl hin rfl (by decide +kernel) rfl rfl (Nat.le_of_ble_eq_true rfl) dI_Fi_33 (fun H locs hP hD hS => ?_)
  have hP : va_P D vwCl [(h0, .inr (0, [.ref q1, .ref q2, .ref q3, .ref q4, .null, .int 0, .int 0])), (q1, arI cI 9), (q2, arI cI 9), (q3, arI cI 9), (q4, arI cI 9)] H := hP
  have hD : va_D A [(h0, .inr (0, [.ref q1, .ref q2, .ref q3, .ref q4, .null, .int 0, .int 0])), (q1, arI cI 9), (q2, arI cI 9), (q3, arI cI 9), (q4, arI cI 9)] := hD
  refine W.vret hx hb hr (fun t ht hW => ⟨⟨(), rfl, trivial, q1, q2, q3, q4, by rw [ht]; exact hP, va_K.moved hW.alike hK, hD⟩, hS.F ht⟩) hS.2.2 dI_Fi_36
theorem dI_St_0 : decode cX4_init 0 = .ok (.aload_n 0, 1) := by decide +kernel
theorem dI_St_1 : decode cX4_init 1 = .ok (.invokespecial 1, 3) := by decide +kernel
theorem dI_St_4 : decode cX4_init 4 = .ok (.aload_n 0, 1) := by decide +kernel
theorem dI_St_5 : decode cX4_init 5 = .ok (.iconst 0, 1) := by decide +kernel
theorem dI_St_6 : decode cX4_init 6 = .ok (.iload_n 1, 1) := by decide +kernel
theorem dI_St_7 : decode cX4_init 7 = .ok (.invokestatic 7, 3) := by decide +kernel
theorem dI_St_10 : decode cX4_init 10 = .ok (.newarray .int, 2) := by decide +kernel
theorem dI_St_12 : decode cX4_init 12 = .ok (.putfield 13, 3) := by decide +kernel
theorem dI_St_15 : decode cX4_init 15 = .ok (.aload_n 0, 1) := by decide +kernel
theorem dI_St_16 : decode cX4_init 16 = .ok (.iconst 0, 1) := by decide +kernel
theorem dI_St_17 : decode cX4_init 17 = .ok (.iload_n 1, 1) := by decide +kernel
theorem dI_St_18 : decode cX4_init 18 = .ok (.invokestatic 7, 3) := by decide +kernel
theorem dI_St_21 : decode cX4_init 21 = .ok (.newarray .int, 2) := by decide +kernel
theorem dI_St_23 : decode cX4_init 23 = .ok (.putfield 19, 3) := by decide +kernel
theorem dI_St_26 : decode cX4_init 26 = .ok (.aload_n 0, 1) := by decide +kernel
theorem dI_St_27 : decode cX4_init 27 = .ok (.iconst 0, 1) := by decide +kernel
theorem dI_St_28 : decode cX4_init 28 = .ok (.putfield 22, 3) := by decide +kernel
theorem dI_St_31 : decode cX4_init 31 = .ok (.return_, 1) := by decide +kernel
set_option maxHeartbeats 4000000 in
set_option maxRecDepth 100000 in
theorem k_St (l : Launch) (D : va_G) (cI cB cS : ClassId) (h0 sz : Nat) (N : Nat) (hN : N < 100) : Met l yX4_init (.code yX4_init cX4_init 2 none :: TB) { frames := 1, cells := 2, slots := N + N, locals := 40 } (va_Pc [.ref h0, .int (Int32.ofNat N)] (mkPc D cI cB cS sz [(h0, .inr (4, [.null, .null, .int 0]))])) (va_Qv (fun _ : Unit => True) (fun _ t => ∃ q1 q2 : Nat, mkQ D cI cB cS (va_A [(h0, .inr (4, [.null, .null, .int 0]))] sz) [(h0, .inr (4, [.ref q1, .ref q2, .int 0])), (q1, arI cI N), (q2, arI cI N)] t) (va_A [(h0, .inr (4, [.null, .null, .int 0]))] sz)) (2) (N + N) (va_A [(h0, .inr (4, [.null, .null, .int 0]))] sz) := by
  refine Met.ofW (cc := cX4_init) (maxL := 2) (ret := none) (by decide) rfl ?_
  intro p e s m args below meth c s₁ B hml hv
  obtain ⟨rfl, hsz, hP, hK, hD0⟩ := hv
  have hx := B.exec
  have hb := B.bytes
  have hr := B.returns
  have hts0 := atoms_spec (ws := .code yX4_init cX4_init 2 none :: TB) B.pre
  have hts : ∀ w ∈ TB, w.before ([.ref h0, .int (Int32.ofNat N)] : List Value).toArray s = true := fun w hw => hts0 w (List.mem_cons_of_mem _ hw)
  have hown : s.vm.findClass RX4 = some m.cls := findClass_of_methodNamed B.named
  have hlocks := B.notSynchronized
  have hin : meth.name = "<init>" := (name_of_methodNamed B.named B.method).1
  subst hsz
  have hD := hD0.self (sz := s.heap.size)
  generalize hAe : va_A [(h0, .inr (4, [.null, .null, .int 0]))] s.heap.size = A at hD ⊢
  have hA : ∀ q : Nat, s.heap.size ≤ q → A q := fun q h => by rw [← hAe]; exact Or.inr h
  have hS : va_S A s.heap s.heap [] := va_S.rf
  have hl := lv_entry ([.ref h0, .int (Int32.ofNat N)]) (n := 2) (Nat.le_of_ble_eq_true rfl)
  rw [lg_entry_eq]
  generalize (lg_sl ([.ref h0, .int (Int32.ofNat N)]) ++ List.replicate (2 - (lg_sl ([.ref h0, .int (Int32.ofNat N)])).length) Slot.unset).toArray = ls at hl ⊢
  have hl : lv_has ls 2 [(0, .ref h0), (1, .int (Int32.ofNat N))] := hl
  refine lv_aload_n hx hb dI_St_0 rfl (lv_at hl 0 rfl) ?_
  refine W.objInit hx hb hown (hts (.methodLink RX4 1 objectInit) (tbm 176 (by decide +kernel) rfl)) (hts (.instanceMethod objectInit) (tbm 95 (by decide +kernel) rfl)) (hts (.code objectInit ⟨#[0xb1]⟩ 1 none) (tbm 96 (by decide +kernel) rfl)) rfl (by rw [hml]; exact hl.1) rfl dI_St_1 (Nat.le_of_ble_eq_true rfl) (Nat.le_of_ble_eq_true rfl) ?_
  refine W.eq (g2 := F0 m 4 ls []) rfl ?_
  refine lv_aload_n hx hb dI_St_4 rfl (lv_at hl 0 rfl) ?_
  refine lv_iconst (v := 0) hx hb dI_St_5 (by decide) ?_
  refine lv_iload_n hx hb dI_St_6 rfl (lv_at hl 1 rfl) ?_
  refine va_mmax hx hb (by rw [hml]; exact hl.1.symm) hown (hts (.methodLink RX4 7 Lib.Math.max.name) (tbm 177 (by decide +kernel) rfl)) (hts (.static Lib.Math.max.name) (tbm 178 (by decide +kernel) rfl)) (hts (.initialized "java/lang/Math") (tbm 83 (by decide +kernel) rfl)) (hts (.code Lib.Math.max.name Lib.Math.max.code 2 (some .int)) (tbm 179 (by decide +kernel) rfl)) (Nat.le_of_ble_eq_true rfl) (Nat.le_of_ble_eq_true rfl) (Nat.le_of_ble_eq_true rfl) (by show _ ≤ N + N; omega) dI_St_7 ?_
  rw [ofn_max hN]
  refine va_nwI hx hb (hts _ (tbm 121 (by decide +kernel) rfl)) hK hP hD hS hA (n := Int32.ofNat N) (N' := N) (ofn_nn hN) (ofn_cl hN) (by omega) (Nat.le_of_ble_eq_true rfl) (by show _ + N ≤ N + N; omega) dI_St_10 (fun q1 H hP hD hS => ?_)
  have hP : va_P D vwCl [(h0, .inr (4, [.null, .null, .int 0])), (q1, arI cI N)] H := hP
  have hD : va_D A [(h0, .inr (4, [.null, .null, .int 0])), (q1, arI cI N)] := hD
  refine va_putF (D := D) (ci := 4) (v := .ref q1) (ty := .array .int) (C := RX4) (T := TX4) (N := 3) hx hb hts hin4 tyX4 tyX4_ok nmX4 hown hK hP hD hS 0 rfl rfl 0 (by decide) (hts (.fieldLink RX4 13 "ToothField$Stones" "man" "[I") (tbm 180 (by decide +kernel) rfl)) (fun _ h9 => h9) rfl hin rfl (by decide +kernel) rfl rfl (Nat.le_of_ble_eq_true rfl) dI_St_12 (fun H locs hP hD hS => ?_)
  have hP : va_P D vwCl [(h0, .inr (4, [.ref q1, .null, .int 0])), (q1, arI cI N)] H := hP
  have hD : va_D A [(h0, .inr (4, [.ref q1, .null, .int 0])), (q1, arI cI N)] := hD
  refine lv_aload_n hx hb dI_St_15 rfl (lv_at hl 0 rfl) ?_
  refine lv_iconst (v := 0) hx hb dI_St_16 (by decide) ?_
  refine lv_iload_n hx hb dI_St_17 rfl (lv_at hl 1 rfl) ?_
  refine va_mmax hx hb (by rw [hml]; exact hl.1.symm) hown (hts (.methodLink RX4 7 Lib.Math.max.name) (tbm 177 (by decide +kernel) rfl)) (hts (.static Lib.Math.max.name) (tbm 178 (by decide +kernel) rfl)) (hts (.initialized "java/lang/Math") (tbm 83 (by decide +kernel) rfl)) (hts (.code Lib.Math.max.name Lib.Math.max.code 2 (some .int)) (tbm 179 (by decide +kernel) rfl)) (Nat.le_of_ble_eq_true rfl) (Nat.le_of_ble_eq_true rfl) (Nat.le_of_ble_eq_true rfl) (by show _ ≤ N + N; omega) dI_St_18 ?_
  rw [ofn_max hN]
  refine va_nwI hx hb (hts _ (tbm 121 (by decide +kernel) rfl)) hK hP hD hS hA (n := Int32.ofNat N) (N' := N) (ofn_nn hN) (ofn_cl hN) (by omega) (Nat.le_of_ble_eq_true rfl) (by show _ + N ≤ N + N; omega) dI_St_21 (fun q2 H hP hD hS => ?_)
  have hP : va_P D vwCl [(h0, .inr (4, [.ref q1, .null, .int 0])), (q1, arI cI N), (q2, arI cI N)] H := hP
  have hD : va_D A [(h0, .inr (4, [.ref q1, .null, .int 0])), (q1, arI cI N), (q2, arI cI N)] := hD
  refine va_putF (D := D) (ci := 4) (v := .ref q2) (ty := .array .int) (C := RX4) (T := TX4) (N := 3) hx hb hts hin4 tyX4 tyX4_ok nmX4 hown hK hP hD hS 0 rfl rfl 1 (by decide) (hts (.fieldLink RX4 19 "ToothField$Stones" "minute" "[I") (tbm 183 (by decide +kernel) rfl)) (fun _ h9 => h9) rfl hin rfl (by decide +kernel) rfl rfl (Nat.le_of_ble_eq_true rfl) dI_St_23 (fun H locs hP hD hS => ?_)
  have hP : va_P D vwCl [(h0, .inr (4, [.ref q1, .ref q2, .int 0])), (q1, arI cI N), (q2, arI cI N)] H := hP
  have hD : va_D A [(h0, .inr (4, [.ref q1, .ref q2, .int 0])), (q1, arI cI N), (q2, arI cI N)] := hD
  refine lv_aload_n hx hb dI_St_26 rfl (lv_at hl 0 rfl) ?_
  refine lv_iconst (v := 0) hx hb dI_St_27 (by decide) ?_
  refine va_put (D := D) (ci := 4) (v := .int 0) (ty := .int) (C := RX4) (T := TX4) (N := 3) hx hb hts hin4 tyX4 tyX4_ok nmX4 hown hK hP hD hS 0 rfl rfl 2 (by decide) (hts (.fieldLink RX4 22 "ToothField$Stones" "count" "I") (tbm 186 (by decide +kernel) rfl)) (fun _ h9 => h9) rfl (by decide +kernel) rfl rfl (Nat.le_of_ble_eq_true rfl) dI_St_28 (fun H locs hP hD hS => ?_)
  have hP : va_P D vwCl [(h0, .inr (4, [.ref q1, .ref q2, .int 0])), (q1, arI cI N), (q2, arI cI N)] H := hP
  have hD : va_D A [(h0, .inr (4, [.ref q1, .ref q2, .int 0])), (q1, arI cI N), (q2, arI cI N)] := hD
  refine W.widen (k := 2) (n := N + N) (by omega) (by omega) ?_
  refine W.vret hx hb hr (fun t ht hW => ⟨⟨(), rfl, trivial, q1, q2, by rw [ht]; exact hP, va_K.moved hW.alike hK, hD⟩, hS.F ht⟩) hS.2.2 dI_St_31
theorem dI_Re_0 : decode cX2_init 0 = .ok (.aload_n 0, 1) := by decide +kernel
theorem dI_Re_1 : decode cX2_init 1 = .ok (.invokespecial 3, 3) := by decide +kernel
theorem dI_Re_4 : decode cX2_init 4 = .ok (.aload_n 0, 1) := by decide +kernel
theorem dI_Re_5 : decode cX2_init 5 = .ok (.bipush 8, 2) := by decide +kernel
theorem dI_Re_7 : decode cX2_init 7 = .ok (.newarray .int, 2) := by decide +kernel
theorem dI_Re_9 : decode cX2_init 9 = .ok (.putfield 9, 3) := by decide +kernel
theorem dI_Re_12 : decode cX2_init 12 = .ok (.aload_n 0, 1) := by decide +kernel
theorem dI_Re_13 : decode cX2_init 13 = .ok (.bipush 8, 2) := by decide +kernel
theorem dI_Re_15 : decode cX2_init 15 = .ok (.newarray .int, 2) := by decide +kernel
theorem dI_Re_17 : decode cX2_init 17 = .ok (.putfield 15, 3) := by decide +kernel
theorem dI_Re_20 : decode cX2_init 20 = .ok (.aload_n 0, 1) := by decide +kernel
theorem dI_Re_21 : decode cX2_init 21 = .ok (.bipush 8, 2) := by decide +kernel
theorem dI_Re_23 : decode cX2_init 23 = .ok (.newarray .boolean, 2) := by decide +kernel
theorem dI_Re_25 : decode cX2_init 25 = .ok (.putfield 18, 3) := by decide +kernel
theorem dI_Re_28 : decode cX2_init 28 = .ok (.return_, 1) := by decide +kernel
set_option maxHeartbeats 4000000 in
set_option maxRecDepth 100000 in
theorem k_Re (l : Launch) (D : va_G) (cI cB cS : ClassId) (h0 sz : Nat) : Met l yX2_init (.code yX2_init cX2_init 1 none :: TB) { frames := 1, cells := 3, slots := 24, locals := 40 } (va_Pc [.ref h0] (mkPc D cI cB cS sz [(h0, .inr (2, [.null, .null, .null, .int 0]))])) (va_Qv (fun _ : Unit => True) (fun _ t => ∃ q1 q2 q3 : Nat, mkQ D cI cB cS (va_A [(h0, .inr (2, [.null, .null, .null, .int 0]))] sz) [(h0, .inr (2, [.ref q1, .ref q2, .ref q3, .int 0])), (q1, arI cI 8), (q2, arI cI 8), (q3, arI cB 8)] t) (va_A [(h0, .inr (2, [.null, .null, .null, .int 0]))] sz)) (3) (24) (va_A [(h0, .inr (2, [.null, .null, .null, .int 0]))] sz) := by
  refine Met.ofW (cc := cX2_init) (maxL := 1) (ret := none) (by decide) rfl ?_
  intro p e s m args below meth c s₁ B hml hv
  obtain ⟨rfl, hsz, hP, hK, hD0⟩ := hv
  have hx := B.exec
  have hb := B.bytes
  have hr := B.returns
  have hts0 := atoms_spec (ws := .code yX2_init cX2_init 1 none :: TB) B.pre
  have hts : ∀ w ∈ TB, w.before ([.ref h0] : List Value).toArray s = true := fun w hw => hts0 w (List.mem_cons_of_mem _ hw)
  have hown : s.vm.findClass RX2 = some m.cls := findClass_of_methodNamed B.named
  have hlocks := B.notSynchronized
  have hin : meth.name = "<init>" := (name_of_methodNamed B.named B.method).1
  subst hsz
  have hD := hD0.self (sz := s.heap.size)
  generalize hAe : va_A [(h0, .inr (2, [.null, .null, .null, .int 0]))] s.heap.size = A at hD ⊢
  have hA : ∀ q : Nat, s.heap.size ≤ q → A q := fun q h => by rw [← hAe]; exact Or.inr h
  have hS : va_S A s.heap s.heap [] := va_S.rf
  have hl := lv_entry ([.ref h0]) (n := 1) (Nat.le_of_ble_eq_true rfl)
  rw [lg_entry_eq]
  generalize (lg_sl ([.ref h0]) ++ List.replicate (1 - (lg_sl ([.ref h0])).length) Slot.unset).toArray = ls at hl ⊢
  have hl : lv_has ls 1 [(0, .ref h0)] := hl
  refine lv_aload_n hx hb dI_Re_0 rfl (lv_at hl 0 rfl) ?_
  refine W.objInit hx hb hown (hts (.methodLink RX2 3 objectInit) (tbm 201 (by decide +kernel) rfl)) (hts (.instanceMethod objectInit) (tbm 95 (by decide +kernel) rfl)) (hts (.code objectInit ⟨#[0xb1]⟩ 1 none) (tbm 96 (by decide +kernel) rfl)) rfl (by rw [hml]; exact hl.1) rfl dI_Re_1 (Nat.le_of_ble_eq_true rfl) (Nat.le_of_ble_eq_true rfl) ?_
  refine W.eq (g2 := F0 m 4 ls []) rfl ?_
  refine lv_aload_n hx hb dI_Re_4 rfl (lv_at hl 0 rfl) ?_
  refine lv_bipush (v := 8) hx hb dI_Re_5 (by decide) ?_
  refine va_nwI hx hb (hts _ (tbm 121 (by decide +kernel) rfl)) hK hP hD hS hA (n := 8) (N' := 8) (by decide) (by decide) (by decide) (Nat.le_of_ble_eq_true rfl) (Nat.le_of_ble_eq_true rfl) dI_Re_7 (fun q1 H hP hD hS => ?_)
  have hP : va_P D vwCl [(h0, .inr (2, [.null, .null, .null, .int 0])), (q1, arI cI 8)] H := hP
  have hD : va_D A [(h0, .inr (2, [.null, .null, .null, .int 0])), (q1, arI cI 8)] := hD
  refine va_putF (D := D) (ci := 2) (v := .ref q1) (ty := .array .int) (C := RX2) (T := TX2) (N := 4) hx hb hts hin2 tyX2 tyX2_ok nmX2 hown hK hP hD hS 0 rfl rfl 0 (by decide) (hts (.fieldLink RX2 9 "ToothField$Readings" "man" "[I") (tbm 202 (by decide +kernel) rfl)) (fun _ h9 => h9) rfl hin rfl (by decide +kernel) rfl rfl (Nat.le_of_ble_eq_true rfl) dI_Re_9 (fun H locs hP hD hS => ?_)
  have hP : va_P D vwCl [(h0, .inr (2, [.ref q1, .null, .null, .int 0])), (q1, arI cI 8)] H := hP
  have hD : va_D A [(h0, .inr (2, [.ref q1, .null, .null, .int 0])), (q1, arI cI 8)] := hD
  refine lv_aload_n hx hb dI_Re_12 rfl (lv_at hl 0 rfl) ?_
  refine lv_bipush (v := 8) hx hb dI_Re_13 (by decide) ?_
  refine va_nwI hx hb (hts _ (tbm 121 (by decide +kernel) rfl)) hK hP hD hS hA (n := 8) (N' := 8) (by decide) (by decide) (by decide) (Nat.le_of_ble_eq_true rfl) (Nat.le_of_ble_eq_true rfl) dI_Re_15 (fun q2 H hP hD hS => ?_)
  have hP : va_P D vwCl [(h0, .inr (2, [.ref q1, .null, .null, .int 0])), (q1, arI cI 8), (q2, arI cI 8)] H := hP
  have hD : va_D A [(h0, .inr (2, [.ref q1, .null, .null, .int 0])), (q1, arI cI 8), (q2, arI cI 8)] := hD
  refine va_putF (D := D) (ci := 2) (v := .ref q2) (ty := .array .int) (C := RX2) (T := TX2) (N := 4) hx hb hts hin2 tyX2 tyX2_ok nmX2 hown hK hP hD hS 0 rfl rfl 1 (by decide) (hts (.fieldLink RX2 15 "ToothField$Readings" "minute" "[I") (tbm 203 (by decide +kernel) rfl)) (fun _ h9 => h9) rfl hin rfl (by decide +kernel) rfl rfl (Nat.le_of_ble_eq_true rfl) dI_Re_17 (fun H locs hP hD hS => ?_)
  have hP : va_P D vwCl [(h0, .inr (2, [.ref q1, .ref q2, .null, .int 0])), (q1, arI cI 8), (q2, arI cI 8)] H := hP
  have hD : va_D A [(h0, .inr (2, [.ref q1, .ref q2, .null, .int 0])), (q1, arI cI 8), (q2, arI cI 8)] := hD
  refine lv_aload_n hx hb dI_Re_20 rfl (lv_at hl 0 rfl) ?_
  refine lv_bipush (v := 8) hx hb dI_Re_21 (by decide) ?_
  refine va_nwB hx hb (hts _ (tbm 216 (by decide +kernel) rfl)) hK hP hD hS hA (n := 8) (N' := 8) (by decide) (by decide) (by decide) (Nat.le_of_ble_eq_true rfl) (Nat.le_of_ble_eq_true rfl) dI_Re_23 (fun q3 H hP hD hS => ?_)
  have hP : va_P D vwCl [(h0, .inr (2, [.ref q1, .ref q2, .null, .int 0])), (q1, arI cI 8), (q2, arI cI 8), (q3, arI cB 8)] H := hP
  have hD : va_D A [(h0, .inr (2, [.ref q1, .ref q2, .null, .int 0])), (q1, arI cI 8), (q2, arI cI 8), (q3, arI cB 8)] := hD
  refine va_putF (D := D) (ci := 2) (v := .ref q3) (ty := .array .boolean) (C := RX2) (T := TX2) (N := 4) hx hb hts hin2 tyX2 tyX2_ok nmX2 hown hK hP hD hS 0 rfl rfl 2 (by decide) (hts (.fieldLink RX2 18 "ToothField$Readings" "stood" "[Z") (tbm 204 (by decide +kernel) rfl)) (fun _ h9 => h9) rfl hin rfl (by decide +kernel) rfl rfl (Nat.le_of_ble_eq_true rfl) dI_Re_25 (fun H locs hP hD hS => ?_)
  have hP : va_P D vwCl [(h0, .inr (2, [.ref q1, .ref q2, .ref q3, .int 0])), (q1, arI cI 8), (q2, arI cI 8), (q3, arI cB 8)] H := hP
  have hD : va_D A [(h0, .inr (2, [.ref q1, .ref q2, .ref q3, .int 0])), (q1, arI cI 8), (q2, arI cI 8), (q3, arI cB 8)] := hD
  refine W.vret hx hb hr (fun t ht hW => ⟨⟨(), rfl, trivial, q1, q2, q3, by rw [ht]; exact hP, va_K.moved hW.alike hK, hD⟩, hS.F ht⟩) hS.2.2 dI_Re_28
theorem dI_Ho_0 : decode cX1_init 0 = .ok (.aload_n 0, 1) := by decide +kernel
theorem dI_Ho_1 : decode cX1_init 1 = .ok (.invokespecial 3, 3) := by decide +kernel
theorem dI_Ho_4 : decode cX1_init 4 = .ok (.aload_n 0, 1) := by decide +kernel
theorem dI_Ho_5 : decode cX1_init 5 = .ok (.bipush 9, 2) := by decide +kernel
theorem dI_Ho_7 : decode cX1_init 7 = .ok (.newarray .int, 2) := by decide +kernel
theorem dI_Ho_9 : decode cX1_init 9 = .ok (.putfield 9, 3) := by decide +kernel
theorem dI_Ho_12 : decode cX1_init 12 = .ok (.aload_n 0, 1) := by decide +kernel
theorem dI_Ho_13 : decode cX1_init 13 = .ok (.bipush 9, 2) := by decide +kernel
theorem dI_Ho_15 : decode cX1_init 15 = .ok (.newarray .int, 2) := by decide +kernel
theorem dI_Ho_17 : decode cX1_init 17 = .ok (.putfield 15, 3) := by decide +kernel
theorem dI_Ho_20 : decode cX1_init 20 = .ok (.aload_n 0, 1) := by decide +kernel
theorem dI_Ho_21 : decode cX1_init 21 = .ok (.bipush 9, 2) := by decide +kernel
theorem dI_Ho_23 : decode cX1_init 23 = .ok (.newarray .int, 2) := by decide +kernel
theorem dI_Ho_25 : decode cX1_init 25 = .ok (.putfield 18, 3) := by decide +kernel
theorem dI_Ho_28 : decode cX1_init 28 = .ok (.aload_n 0, 1) := by decide +kernel
theorem dI_Ho_29 : decode cX1_init 29 = .ok (.bipush 9, 2) := by decide +kernel
theorem dI_Ho_31 : decode cX1_init 31 = .ok (.newarray .int, 2) := by decide +kernel
theorem dI_Ho_33 : decode cX1_init 33 = .ok (.putfield 21, 3) := by decide +kernel
theorem dI_Ho_36 : decode cX1_init 36 = .ok (.aload_n 0, 1) := by decide +kernel
theorem dI_Ho_37 : decode cX1_init 37 = .ok (.bipush 9, 2) := by decide +kernel
theorem dI_Ho_39 : decode cX1_init 39 = .ok (.newarray .int, 2) := by decide +kernel
theorem dI_Ho_41 : decode cX1_init 41 = .ok (.putfield 24, 3) := by decide +kernel
theorem dI_Ho_44 : decode cX1_init 44 = .ok (.aload_n 0, 1) := by decide +kernel
theorem dI_Ho_45 : decode cX1_init 45 = .ok (.bipush 81, 2) := by decide +kernel
theorem dI_Ho_47 : decode cX1_init 47 = .ok (.newarray .int, 2) := by decide +kernel
theorem dI_Ho_49 : decode cX1_init 49 = .ok (.putfield 27, 3) := by decide +kernel
theorem dI_Ho_52 : decode cX1_init 52 = .ok (.aload_n 0, 1) := by decide +kernel
theorem dI_Ho_53 : decode cX1_init 53 = .ok (.bipush 20, 2) := by decide +kernel
theorem dI_Ho_55 : decode cX1_init 55 = .ok (.newarray .int, 2) := by decide +kernel
theorem dI_Ho_57 : decode cX1_init 57 = .ok (.putfield 30, 3) := by decide +kernel
theorem dI_Ho_60 : decode cX1_init 60 = .ok (.return_, 1) := by decide +kernel
set_option maxHeartbeats 4000000 in
set_option maxRecDepth 100000 in
theorem k_Ho (l : Launch) (D : va_G) (cI cB cS : ClassId) (h0 sz : Nat) : Met l yX1_init (.code yX1_init cX1_init 1 none :: TB) { frames := 1, cells := 7, slots := 146, locals := 40 } (va_Pc [.ref h0] (mkPc D cI cB cS sz [(h0, .inr (1, [.null, .null, .null, .null, .null, .null, .null, .int 0, .int 0, .int 0]))])) (va_Qv (fun _ : Unit => True) (fun _ t => ∃ q1 q2 q3 q4 q5 q6 q7 : Nat, mkQ D cI cB cS (va_A [(h0, .inr (1, [.null, .null, .null, .null, .null, .null, .null, .int 0, .int 0, .int 0]))] sz) [(h0, .inr (1, [.ref q1, .ref q2, .ref q3, .ref q4, .ref q5, .ref q6, .ref q7, .int 0, .int 0, .int 0])), (q1, arI cI 9), (q2, arI cI 9), (q3, arI cI 9), (q4, arI cI 9), (q5, arI cI 9), (q6, arI cI 81), (q7, arI cI 20)] t) (va_A [(h0, .inr (1, [.null, .null, .null, .null, .null, .null, .null, .int 0, .int 0, .int 0]))] sz)) (7) (146) (va_A [(h0, .inr (1, [.null, .null, .null, .null, .null, .null, .null, .int 0, .int 0, .int 0]))] sz) := by
  refine Met.ofW (cc := cX1_init) (maxL := 1) (ret := none) (by decide) rfl ?_
  intro p e s m args below meth c s₁ B hml hv
  obtain ⟨rfl, hsz, hP, hK, hD0⟩ := hv
  have hx := B.exec
  have hb := B.bytes
  have hr := B.returns
  have hts0 := atoms_spec (ws := .code yX1_init cX1_init 1 none :: TB) B.pre
  have hts : ∀ w ∈ TB, w.before ([.ref h0] : List Value).toArray s = true := fun w hw => hts0 w (List.mem_cons_of_mem _ hw)
  have hown : s.vm.findClass RX1 = some m.cls := findClass_of_methodNamed B.named
  have hlocks := B.notSynchronized
  have hin : meth.name = "<init>" := (name_of_methodNamed B.named B.method).1
  subst hsz
  have hD := hD0.self (sz := s.heap.size)
  generalize hAe : va_A [(h0, .inr (1, [.null, .null, .null, .null, .null, .null, .null, .int 0, .int 0, .int 0]))] s.heap.size = A at hD ⊢
  have hA : ∀ q : Nat, s.heap.size ≤ q → A q := fun q h => by rw [← hAe]; exact Or.inr h
  have hS : va_S A s.heap s.heap [] := va_S.rf
  have hl := lv_entry ([.ref h0]) (n := 1) (Nat.le_of_ble_eq_true rfl)
  rw [lg_entry_eq]
  generalize (lg_sl ([.ref h0]) ++ List.replicate (1 - (lg_sl ([.ref h0])).length) Slot.unset).toArray = ls at hl ⊢
  have hl : lv_has ls 1 [(0, .ref h0)] := hl
  refine lv_aload_n hx hb dI_Ho_0 rfl (lv_at hl 0 rfl) ?_
  refine W.objInit hx hb hown (hts (.methodLink RX1 3 objectInit) (tbm 222 (by decide +kernel) rfl)) (hts (.instanceMethod objectInit) (tbm 95 (by decide +kernel) rfl)) (hts (.code objectInit ⟨#[0xb1]⟩ 1 none) (tbm 96 (by decide +kernel) rfl)) rfl (by rw [hml]; exact hl.1) rfl dI_Ho_1 (Nat.le_of_ble_eq_true rfl) (Nat.le_of_ble_eq_true rfl) ?_
  refine W.eq (g2 := F0 m 4 ls []) rfl ?_
  refine lv_aload_n hx hb dI_Ho_4 rfl (lv_at hl 0 rfl) ?_
  refine lv_bipush (v := 9) hx hb dI_Ho_5 (by decide) ?_
  refine va_nwI hx hb (hts _ (tbm 121 (by decide +kernel) rfl)) hK hP hD hS hA (n := 9) (N' := 9) (by decide) (by decide) (by decide) (Nat.le_of_ble_eq_true rfl) (Nat.le_of_ble_eq_true rfl) dI_Ho_7 (fun q1 H hP hD hS => ?_)
  have hP : va_P D vwCl [(h0, .inr (1, [.null, .null, .null, .null, .null, .null, .null, .int 0, .int 0, .int 0])), (q1, arI cI 9)] H := hP
  have hD : va_D A [(h0, .inr (1, [.null, .null, .null, .null, .null, .null, .null, .int 0, .int 0, .int 0])), (q1, arI cI 9)] := hD
  refine va_putF (D := D) (ci := 1) (v := .ref q1) (ty := .array .int) (C := RX1) (T := TX1) (N := 10) hx hb hts hin1 tyX1 tyX1_ok nmX1 hown hK hP hD hS 0 rfl rfl 0 (by decide) (hts (.fieldLink RX1 9 "ToothField$Host" "kind" "[I") (tbm 223 (by decide +kernel) rfl)) (fun _ h9 => h9) rfl hin rfl (by decide +kernel) rfl rfl (Nat.le_of_ble_eq_true rfl) dI_Ho_9 (fun H locs hP hD hS => ?_)
  have hP : va_P D vwCl [(h0, .inr (1, [.ref q1, .null, .null, .null, .null, .null, .null, .int 0, .int 0, .int 0])), (q1, arI cI 9)] H := hP
  have hD : va_D A [(h0, .inr (1, [.ref q1, .null, .null, .null, .null, .null, .null, .int 0, .int 0, .int 0])), (q1, arI cI 9)] := hD
  refine lv_aload_n hx hb dI_Ho_12 rfl (lv_at hl 0 rfl) ?_
  refine lv_bipush (v := 9) hx hb dI_Ho_13 (by decide) ?_
  refine va_nwI hx hb (hts _ (tbm 121 (by decide +kernel) rfl)) hK hP hD hS hA (n := 9) (N' := 9) (by decide) (by decide) (by decide) (Nat.le_of_ble_eq_true rfl) (Nat.le_of_ble_eq_true rfl) dI_Ho_15 (fun q2 H hP hD hS => ?_)
  have hP : va_P D vwCl [(h0, .inr (1, [.ref q1, .null, .null, .null, .null, .null, .null, .int 0, .int 0, .int 0])), (q1, arI cI 9), (q2, arI cI 9)] H := hP
  have hD : va_D A [(h0, .inr (1, [.ref q1, .null, .null, .null, .null, .null, .null, .int 0, .int 0, .int 0])), (q1, arI cI 9), (q2, arI cI 9)] := hD
  refine va_putF (D := D) (ci := 1) (v := .ref q2) (ty := .array .int) (C := RX1) (T := TX1) (N := 10) hx hb hts hin1 tyX1 tyX1_ok nmX1 hown hK hP hD hS 0 rfl rfl 1 (by decide) (hts (.fieldLink RX1 15 "ToothField$Host" "dragon" "[I") (tbm 225 (by decide +kernel) rfl)) (fun _ h9 => h9) rfl hin rfl (by decide +kernel) rfl rfl (Nat.le_of_ble_eq_true rfl) dI_Ho_17 (fun H locs hP hD hS => ?_)
  have hP : va_P D vwCl [(h0, .inr (1, [.ref q1, .ref q2, .null, .null, .null, .null, .null, .int 0, .int 0, .int 0])), (q1, arI cI 9), (q2, arI cI 9)] H := hP
  have hD : va_D A [(h0, .inr (1, [.ref q1, .ref q2, .null, .null, .null, .null, .null, .int 0, .int 0, .int 0])), (q1, arI cI 9), (q2, arI cI 9)] := hD
  refine lv_aload_n hx hb dI_Ho_20 rfl (lv_at hl 0 rfl) ?_
  refine lv_bipush (v := 9) hx hb dI_Ho_21 (by decide) ?_
  refine va_nwI hx hb (hts _ (tbm 121 (by decide +kernel) rfl)) hK hP hD hS hA (n := 9) (N' := 9) (by decide) (by decide) (by decide) (Nat.le_of_ble_eq_true rfl) (Nat.le_of_ble_eq_true rfl) dI_Ho_23 (fun q3 H hP hD hS => ?_)
  have hP : va_P D vwCl [(h0, .inr (1, [.ref q1, .ref q2, .null, .null, .null, .null, .null, .int 0, .int 0, .int 0])), (q1, arI cI 9), (q2, arI cI 9), (q3, arI cI 9)] H := hP
  have hD : va_D A [(h0, .inr (1, [.ref q1, .ref q2, .null, .null, .null, .null, .null, .int 0, .int 0, .int 0])), (q1, arI cI 9), (q2, arI cI 9), (q3, arI cI 9)] := hD
  refine va_putF (D := D) (ci := 1) (v := .ref q3) (ty := .array .int) (C := RX1) (T := TX1) (N := 10) hx hb hts hin1 tyX1 tyX1_ok nmX1 hown hK hP hD hS 0 rfl rfl 2 (by decide) (hts (.fieldLink RX1 18 "ToothField$Host" "strength" "[I") (tbm 228 (by decide +kernel) rfl)) (fun _ h9 => h9) rfl hin rfl (by decide +kernel) rfl rfl (Nat.le_of_ble_eq_true rfl) dI_Ho_25 (fun H locs hP hD hS => ?_)
  have hP : va_P D vwCl [(h0, .inr (1, [.ref q1, .ref q2, .ref q3, .null, .null, .null, .null, .int 0, .int 0, .int 0])), (q1, arI cI 9), (q2, arI cI 9), (q3, arI cI 9)] H := hP
  have hD : va_D A [(h0, .inr (1, [.ref q1, .ref q2, .ref q3, .null, .null, .null, .null, .int 0, .int 0, .int 0])), (q1, arI cI 9), (q2, arI cI 9), (q3, arI cI 9)] := hD
  refine lv_aload_n hx hb dI_Ho_28 rfl (lv_at hl 0 rfl) ?_
  refine lv_bipush (v := 9) hx hb dI_Ho_29 (by decide) ?_
  refine va_nwI hx hb (hts _ (tbm 121 (by decide +kernel) rfl)) hK hP hD hS hA (n := 9) (N' := 9) (by decide) (by decide) (by decide) (Nat.le_of_ble_eq_true rfl) (Nat.le_of_ble_eq_true rfl) dI_Ho_31 (fun q4 H hP hD hS => ?_)
  have hP : va_P D vwCl [(h0, .inr (1, [.ref q1, .ref q2, .ref q3, .null, .null, .null, .null, .int 0, .int 0, .int 0])), (q1, arI cI 9), (q2, arI cI 9), (q3, arI cI 9), (q4, arI cI 9)] H := hP
  have hD : va_D A [(h0, .inr (1, [.ref q1, .ref q2, .ref q3, .null, .null, .null, .null, .int 0, .int 0, .int 0])), (q1, arI cI 9), (q2, arI cI 9), (q3, arI cI 9), (q4, arI cI 9)] := hD
  refine va_putF (D := D) (ci := 1) (v := .ref q4) (ty := .array .int) (C := RX1) (T := TX1) (N := 10) hx hb hts hin1 tyX1 tyX1_ok nmX1 hown hK hP hD hS 0 rfl rfl 3 (by decide) (hts (.fieldLink RX1 21 "ToothField$Host" "shield" "[I") (tbm 230 (by decide +kernel) rfl)) (fun _ h9 => h9) rfl hin rfl (by decide +kernel) rfl rfl (Nat.le_of_ble_eq_true rfl) dI_Ho_33 (fun H locs hP hD hS => ?_)
  have hP : va_P D vwCl [(h0, .inr (1, [.ref q1, .ref q2, .ref q3, .ref q4, .null, .null, .null, .int 0, .int 0, .int 0])), (q1, arI cI 9), (q2, arI cI 9), (q3, arI cI 9), (q4, arI cI 9)] H := hP
  have hD : va_D A [(h0, .inr (1, [.ref q1, .ref q2, .ref q3, .ref q4, .null, .null, .null, .int 0, .int 0, .int 0])), (q1, arI cI 9), (q2, arI cI 9), (q3, arI cI 9), (q4, arI cI 9)] := hD
  refine lv_aload_n hx hb dI_Ho_36 rfl (lv_at hl 0 rfl) ?_
  refine lv_bipush (v := 9) hx hb dI_Ho_37 (by decide) ?_
  refine va_nwI hx hb (hts _ (tbm 121 (by decide +kernel) rfl)) hK hP hD hS hA (n := 9) (N' := 9) (by decide) (by decide) (by decide) (Nat.le_of_ble_eq_true rfl) (Nat.le_of_ble_eq_true rfl) dI_Ho_39 (fun q5 H hP hD hS => ?_)
  have hP : va_P D vwCl [(h0, .inr (1, [.ref q1, .ref q2, .ref q3, .ref q4, .null, .null, .null, .int 0, .int 0, .int 0])), (q1, arI cI 9), (q2, arI cI 9), (q3, arI cI 9), (q4, arI cI 9), (q5, arI cI 9)] H := hP
  have hD : va_D A [(h0, .inr (1, [.ref q1, .ref q2, .ref q3, .ref q4, .null, .null, .null, .int 0, .int 0, .int 0])), (q1, arI cI 9), (q2, arI cI 9), (q3, arI cI 9), (q4, arI cI 9), (q5, arI cI 9)] := hD
  refine va_putF (D := D) (ci := 1) (v := .ref q5) (ty := .array .int) (C := RX1) (T := TX1) (N := 10) hx hb hts hin1 tyX1 tyX1_ok nmX1 hown hK hP hD hS 0 rfl rfl 4 (by decide) (hts (.fieldLink RX1 24 "ToothField$Host" "place" "[I") (tbm 233 (by decide +kernel) rfl)) (fun _ h9 => h9) rfl hin rfl (by decide +kernel) rfl rfl (Nat.le_of_ble_eq_true rfl) dI_Ho_41 (fun H locs hP hD hS => ?_)
  have hP : va_P D vwCl [(h0, .inr (1, [.ref q1, .ref q2, .ref q3, .ref q4, .ref q5, .null, .null, .int 0, .int 0, .int 0])), (q1, arI cI 9), (q2, arI cI 9), (q3, arI cI 9), (q4, arI cI 9), (q5, arI cI 9)] H := hP
  have hD : va_D A [(h0, .inr (1, [.ref q1, .ref q2, .ref q3, .ref q4, .ref q5, .null, .null, .int 0, .int 0, .int 0])), (q1, arI cI 9), (q2, arI cI 9), (q3, arI cI 9), (q4, arI cI 9), (q5, arI cI 9)] := hD
  refine lv_aload_n hx hb dI_Ho_44 rfl (lv_at hl 0 rfl) ?_
  refine lv_bipush (v := 81) hx hb dI_Ho_45 (by decide) ?_
  refine va_nwI hx hb (hts _ (tbm 121 (by decide +kernel) rfl)) hK hP hD hS hA (n := 81) (N' := 81) (by decide) (by decide) (by decide) (Nat.le_of_ble_eq_true rfl) (Nat.le_of_ble_eq_true rfl) dI_Ho_47 (fun q6 H hP hD hS => ?_)
  have hP : va_P D vwCl [(h0, .inr (1, [.ref q1, .ref q2, .ref q3, .ref q4, .ref q5, .null, .null, .int 0, .int 0, .int 0])), (q1, arI cI 9), (q2, arI cI 9), (q3, arI cI 9), (q4, arI cI 9), (q5, arI cI 9), (q6, arI cI 81)] H := hP
  have hD : va_D A [(h0, .inr (1, [.ref q1, .ref q2, .ref q3, .ref q4, .ref q5, .null, .null, .int 0, .int 0, .int 0])), (q1, arI cI 9), (q2, arI cI 9), (q3, arI cI 9), (q4, arI cI 9), (q5, arI cI 9), (q6, arI cI 81)] := hD
  refine va_putF (D := D) (ci := 1) (v := .ref q6) (ty := .array .int) (C := RX1) (T := TX1) (N := 10) hx hb hts hin1 tyX1 tyX1_ok nmX1 hown hK hP hD hS 0 rfl rfl 5 (by decide) (hts (.fieldLink RX1 27 "ToothField$Host" "apart" "[I") (tbm 235 (by decide +kernel) rfl)) (fun _ h9 => h9) rfl hin rfl (by decide +kernel) rfl rfl (Nat.le_of_ble_eq_true rfl) dI_Ho_49 (fun H locs hP hD hS => ?_)
  have hP : va_P D vwCl [(h0, .inr (1, [.ref q1, .ref q2, .ref q3, .ref q4, .ref q5, .ref q6, .null, .int 0, .int 0, .int 0])), (q1, arI cI 9), (q2, arI cI 9), (q3, arI cI 9), (q4, arI cI 9), (q5, arI cI 9), (q6, arI cI 81)] H := hP
  have hD : va_D A [(h0, .inr (1, [.ref q1, .ref q2, .ref q3, .ref q4, .ref q5, .ref q6, .null, .int 0, .int 0, .int 0])), (q1, arI cI 9), (q2, arI cI 9), (q3, arI cI 9), (q4, arI cI 9), (q5, arI cI 9), (q6, arI cI 81)] := hD
  refine lv_aload_n hx hb dI_Ho_52 rfl (lv_at hl 0 rfl) ?_
  refine lv_bipush (v := 20) hx hb dI_Ho_53 (by decide) ?_
  refine va_nwI hx hb (hts _ (tbm 121 (by decide +kernel) rfl)) hK hP hD hS hA (n := 20) (N' := 20) (by decide) (by decide) (by decide) (Nat.le_of_ble_eq_true rfl) (Nat.le_of_ble_eq_true rfl) dI_Ho_55 (fun q7 H hP hD hS => ?_)
  have hP : va_P D vwCl [(h0, .inr (1, [.ref q1, .ref q2, .ref q3, .ref q4, .ref q5, .ref q6, .null, .int 0, .int 0, .int 0])), (q1, arI cI 9), (q2, arI cI 9), (q3, arI cI 9), (q4, arI cI 9), (q5, arI cI 9), (q6, arI cI 81), (q7, arI cI 20)] H := hP
  have hD : va_D A [(h0, .inr (1, [.ref q1, .ref q2, .ref q3, .ref q4, .ref q5, .ref q6, .null, .int 0, .int 0, .int 0])), (q1, arI cI 9), (q2, arI cI 9), (q3, arI cI 9), (q4, arI cI 9), (q5, arI cI 9), (q6, arI cI 81), (q7, arI cI 20)] := hD
  refine va_putF (D := D) (ci := 1) (v := .ref q7) (ty := .array .int) (C := RX1) (T := TX1) (N := 10) hx hb hts hin1 tyX1 tyX1_ok nmX1 hown hK hP hD hS 0 rfl rfl 6 (by decide) (hts (.fieldLink RX1 30 "ToothField$Host" "manIn" "[I") (tbm 236 (by decide +kernel) rfl)) (fun _ h9 => h9) rfl hin rfl (by decide +kernel) rfl rfl (Nat.le_of_ble_eq_true rfl) dI_Ho_57 (fun H locs hP hD hS => ?_)
  have hP : va_P D vwCl [(h0, .inr (1, [.ref q1, .ref q2, .ref q3, .ref q4, .ref q5, .ref q6, .ref q7, .int 0, .int 0, .int 0])), (q1, arI cI 9), (q2, arI cI 9), (q3, arI cI 9), (q4, arI cI 9), (q5, arI cI 9), (q6, arI cI 81), (q7, arI cI 20)] H := hP
  have hD : va_D A [(h0, .inr (1, [.ref q1, .ref q2, .ref q3, .ref q4, .ref q5, .ref q6, .ref q7, .int 0, .int 0, .int 0])), (q1, arI cI 9), (q2, arI cI 9), (q3, arI cI 9), (q4, arI cI 9), (q5, arI cI 9), (q6, arI cI 81), (q7, arI cI 20)] := hD
  refine W.vret hx hb hr (fun t ht hW => ⟨⟨(), rfl, trivial, q1, q2, q3, q4, q5, q6, q7, by rw [ht]; exact hP, va_K.moved hW.alike hK, hD⟩, hS.F ht⟩) hS.2.2 dI_Ho_60
