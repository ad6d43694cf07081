/-! ===== the words, the world, the abstract machine ===== -/
def TB : List Cond := lw_tbl.filter goodWord
theorem tbm {w : Cond} (i : Nat) (h : lw_tbl[i]? = some w) (g : goodWord w = true) : w ∈ TB := List.mem_filter.mpr ⟨List.mem_of_getElem? h, g⟩
theorem nwm {w : Cond} (i : Nat) (h : NWl[i]? = some w) : w ∈ NWl := List.mem_of_getElem? h
/-- an int, a long, a reference (class code, id) -/
abbrev V : Type := Int ⊕ Int ⊕ (Nat × Nat)
/-- numbers by id and place; the four references that change, by register (0: null) -/
abbrev XS : Type := (Nat → Nat → Int) × (Nat → Nat)
/-- a method: name, code, locals, answer, height, parameters, its class's code (100: static) -/
abbrev MI : Type := MethodName × ByteArray × Nat × Option FieldType × Nat × Nat × Nat
/-- a method's walk: itself, its instructions, its fields, its callees, its constants, arraycopy, statics -/
abbrev CX : Type := MI × List (Instr × Nat) × List (Nat × Nat × Nat) × List (Nat × MI) × List (Nat × Int) × List (Nat × Nat) × List Nat
abbrev inR (z : Int) : Prop := -2147483648 ≤ z ∧ z < 2147483648
abbrev inL (z : Int) : Prop := -9223372036854775808 ≤ z ∧ z < 9223372036854775808
def wr (z : Int) : Int := (z + 2147483648) % 4294967296 - 2147483648
theorem wr_id {z : Int} (h : -2147483648 ≤ z) (h2 : z < 2147483648) : wr z = z := by unfold wr; omega
theorem wr_in (z : Int) : inR (wr z) := by unfold inR wr; omega
def cls (i : Nat) : Nat := (SH.getD i (99, 0)).1
def len (i : Nat) : Nat := (SH.getD i (99, 0)).2
def ln (c i : Nat) : Nat := bif Nat.ble 100 c then c - 100 else len i
def tok (c i : Nat) : Prop := (c = 70 ∧ i = 0) ∨ (1 ≤ i ∧ i ≤ NN ∧ ((100 ≤ c ∧ cls i = 8 ∧ len i = c - 100) ∨ (c < 100 ∧ cls i = c)))
def vok (v : V) : Prop := match v with
  | .inl z => inR z
  | .inr (.inl z) => inL z
  | .inr (.inr r) => tok r.1 r.2
def up (h : Nat → Nat → Int) (i k : Nat) (z : Int) : Nat → Nat → Int := fun j => if j = i then (fun q => if q = k then z else h i q) else h j
def upr (r : Nat → Nat) (j i : Nat) : Nat → Nat := fun q => if q = j then i else r q
/-- numbers are of 32 bits; registers hold ids of their class, or null -/
def rcl (j : Nat) : Nat := if j = 2 then 3 else 1
def RX (X : XS) : Prop := (∀ i k, inR (X.1 i k)) ∧ ∀ j, X.2 j = 0 ∨ tok (rcl j) (X.2 j)
/-- the places of a sheet's id in the row of sheets -/
def shid (j : Nat) : Nat := 3 + 2 * j
/-- launch, class numbers, addresses of ids (of 0: LETTERS), classes of int[], boolean[], Sheet[] -/
abbrev WD : Type := Launch × va_G × (Nat → Nat) × ClassId × ClassId × ClassId
def wAd (w : WD) : Nat → Nat := w.2.2.1
def wA (w : WD) : Nat → Prop := fun q => ∃ i, 1 ≤ i ∧ i ≤ NN ∧ wAd w i = q
def wTy (w : WD) : List (ClassId × FieldType) := [(w.2.2.2.1, .int), (w.2.2.2.2.1, .boolean), (w.2.2.2.2.2, .object "ToothField$Sheet")]
def vc (w : WD) (v : V) : Value := match v with
  | .inl z => .int (Int32.ofInt z)
  | .inr (.inl z) => .long (Int64.ofInt z)
  | .inr (.inr r) => .ref (wAd w r.2)
def ft (c k : Nat) : Nat × Nat × Nat := (FTL c).getD k (9, 0, 0)
def fv (w : WD) (X : XS) (i c k : Nat) : Value := match ft c k with
  | (2, off, _) => .ref (wAd w (i + off))
  | (4, a, _) => .ref (wAd w a)
  | (3, j, _) => if X.2 j = 0 then .null else .ref (wAd w (X.2 j))
  | _ => .int (Int32.ofInt (X.1 i k))
def ent (w : WD) (X : XS) (i : Nat) : va_E :=
  if cls i < 8 then .inr (cls i, (List.range (FTL (cls i)).length).map (fv w X i (cls i)))
  else if cls i = 8 then .inl (w.2.2.2.1, len i, .inl (fun j => Int32.ofInt (X.1 i j)))
  else if cls i = 9 then .inl (w.2.2.2.2.1, len i, .inl (fun j => Int32.ofInt (X.1 i j)))
  else .inl (w.2.2.2.2.2, len i, .inr (.inr (.inr (.inr (fun j => some (wAd w (shid j)))))))
def wsX (w : WD) (X : XS) : va_W := (List.range NN).map (fun q => (wAd w (q + 1), ent w X (q + 1)))
def LTv : Nat → Value := fun j => .int (if j = 0 then 109 else if j = 1 then 108 else 97)
/-- what stays: the classes, the nest's links, LETTERS, the addresses apart -/
def KK (w : WD) (s : State) (H : Heap) : Prop := va_K w.2.1 vwCl (wTy w) s ∧ (∀ x ∈ NWl, va_Nw x s) ∧ va_Z "ToothField" "LETTERS" "[I" (.ref (wAd w 0)) (wA w) s H ∧ va_T .int (wAd w 0) 3 LTv (wA w) s H ∧ ∀ i j, 1 ≤ i → i ≤ NN → 1 ≤ j → j ≤ NN → wAd w i = wAd w j → i = j
def rmd (h : Nat) : Room := { frames := h, cells := 0, slots := 0, locals := 40 * h }
def lol (w : WD) : Nat → List (Option V) → List (Nat × Value)
  | _, [] => []
  | i, none :: t => lol w (i + 1) t
  | i, some v :: t => (i, vc w v) :: lol w (i + 1) t
def rty (ret : Option FieldType) (z : Int) : Option Value := match ret with
  | none => none
  | some .long => some (.long (Int64.ofInt z))
  | some _ => some (.int (Int32.ofInt z))
def QcO (w : WD) (ret : Option FieldType) (Q : Int → XS → Prop) : Array Value → State → Outcome → State → Prop := fun _ st o t =>
  (∃ (z : Int) (X : XS), o = .returned (rty ret z) ∧ Q z X ∧ RX X ∧ (match ret with | some .long => inL z | _ => inR z) ∧ va_P w.2.1 vwCl (wsX w X) t.heap) ∧ va_F (wA w) st t
/-- a method meets: from X with these arguments it returns, and Q -/
def MS (w : WD) (i : MI) (args : List V) (X : XS) (Q : Int → XS → Prop) : Prop :=
  (∀ v ∈ args, vok v) → RX X → Met w.1 i.1 (.code i.1 i.2.1 i.2.2.1 i.2.2.2.1 :: TB) (rmd i.2.2.2.2.1) (va_Pc (args.map (vc w)) (fun U => KK w U U.heap ∧ va_P w.2.1 vwCl (wsX w X) U.heap)) (QcO w i.2.2.2.1 Q) 0 0 (wA w)
def MC (w : WD) (C : CX) (p : Program) (s : State) (m : MethodId) (args : Array Value) (meth : Method) (c : Code) : Prop :=
  p.tables.exec = Jvm.exec ∧ c.code = C.1.2.1 ∧ c.maxLocals = C.1.2.2.1 ∧ meth.sig.returnType = C.1.2.2.2.1 ∧ meth.locks = false ∧ s.vm.findClass C.1.1.cls = some m.cls ∧ (∀ x ∈ TB, x.before args s = true) ∧ KK w s s.heap
def Go (w : WD) (C : CX) (pc : Nat) (lo : List (Option V)) (st : List V) (X : XS) (Q : Int → XS → Prop) : Prop :=
  (∀ v ∈ st, vok v) → (∀ v, some v ∈ lo → vok v) → RX X → ∀ (p : Program) (e : Env) (s : State) (m : MethodId) (args : Array Value) (below : List Frame) (meth : Method) (c : Code) (H : Heap) (locs : List Loc) (ls : Array Slot),
    MC w C p s m args meth c → va_P w.2.1 vwCl (wsX w X) H → va_S (wA w) s.heap H locs → lv_has ls C.1.2.2.1 (lol w 0 lo) →
    W p w.1 e (rmd C.1.2.2.2.2.1) s m args below meth c H locs 0 0 (MQ below (QcO w C.1.2.2.2.1 Q) args s 0 0 (wA w)) (F0 m pc ls (st.map (vc w)))
/-! the static facts -/
def FldOk (own : String) (e : Nat × Nat × Nat) : Prop := ∃ (C : String) (T : u_T) (N : Nat), vwCl[e.2.1]? = some (C, T, N) ∧ e.2.2 < N ∧
  (Cond.fieldLink own e.1 (T e.2.2).1 (T e.2.2).2.1 (T e.2.2).2.2.1 ∈ TB ∨ ∃ host, Cond.fieldLinkNest own e.1 (T e.2.2).1 (T e.2.2).2.1 (T e.2.2).2.2.1 host ∈ NWl)
def MiOk (i : MI) : Prop := Cond.code i.1 i.2.1 i.2.2.1 i.2.2.2.1 ∈ TB ∧ Cond.initialized i.1.cls ∈ TB ∧
  ((i.1.cls ≠ "java/lang/invoke/MethodHandle" ∧ i.1.cls ≠ "java/lang/invoke/VarHandle") ∧ plainName i.1.cls = true ∧ (parseMethodDescriptor i.1.desc).map (fun d => d.parameters.length) = some i.2.2.2.2.2.1 ∧ i.2.2.1 ≤ 21) ∧
  ((i.2.2.2.2.2.2 = 100 ∧ Cond.static i.1 ∈ TB) ∨ (∃ (T : u_T) (N : Nat), vwCl[i.2.2.2.2.2.2]? = some (i.1.cls, T, N) ∧ Cond.instanceMethod i.1 ∈ TB ∧ Cond.selects i.1.cls i.1 i.1 ∈ TB))
def LnkOk (own : String) (e : Nat × MI) : Prop := (Cond.methodLink own e.1 e.2.1 ∈ TB ∨ ∃ host, Cond.methodLinkNest own e.1 e.2.1 host ∈ NWl) ∧ MiOk e.2
def ilen (i : Instr) : Nat := match i with
  | .bipush _ | .iload _ | .lload _ | .aload _ | .istore _ | .lstore _ | .astore _ => 2
  | .sipush _ | .ldc_w _ | .ldc2_w _ | .iinc _ _ | .ifCond _ _ | .if_icmp _ _ | .goto _ | .ifnonnull _ | .getfield _ | .putfield _ | .getstatic _ | .invokevirtual _ | .invokestatic _ => 3
  | _ => 1
def nonneg (pc : Nat) (off : Int) : Bool := decide (0 ≤ (pc : Int) + off)
def insOk (pc : Nat) (i : Instr) (n : Nat) : Bool := match i with
  | .iconst z => Nat.beq n 1 && (decide (-128 ≤ z) && decide (z < 128))
  | .bipush z => Nat.beq n 2 && (decide (-128 ≤ z) && decide (z < 128))
  | .sipush z => Nat.beq n 3 && (decide (-32768 ≤ z) && decide (z < 32768))
  | .ifCond _ o => Nat.beq n 3 && nonneg pc o
  | .if_icmp _ o => Nat.beq n 3 && nonneg pc o
  | .goto o => Nat.beq n 3 && nonneg pc o
  | .ifnonnull o => Nat.beq n 3 && nonneg pc o
  | .tableswitch d lo hi offs => nonneg pc d && offs.toList.all (nonneg pc) && decide (hi = lo + (offs.toList.length : Int) - 1)
  | .lookupswitch d ps => nonneg pc d && ps.toList.all (fun q => nonneg pc q.2) && (ps.toList.zip (ps.toList.drop 1)).all (fun (a, next) => a.1 < next.1)
  | i => Nat.beq n (ilen i)
def dec (cc : ByteArray) : Nat → List (Instr × Nat) → Bool
  | _, [] => true
  | pc, q :: t => (match decode cc pc with | .ok x => decide (x = q) | .error _ => false) && insOk pc q.1 q.2 && dec cc (pc + q.2) t
def CXok (C : CX) : Prop := dec C.1.2.1 0 C.2.1 = true ∧ MiOk C.1 ∧ (∀ e ∈ C.2.2.1, FldOk C.1.1.cls e) ∧ (∀ e ∈ C.2.2.2.1, LnkOk C.1.1.cls e) ∧
  (∀ e ∈ C.2.2.2.2.1, (Cond.constant C.1.1.cls e.1 (Int32.ofInt e.2) ∈ TB ∧ inR e.2) ∨ (Cond.constantLong C.1.1.cls e.1 (Int64.ofInt e.2) ∈ TB ∧ inL e.2)) ∧
  (∀ e ∈ C.2.2.2.2.2.1, (e.2 = 0 ∧ Cond.methodLink C.1.1.cls e.1 arraycopyName ∈ TB ∧ Cond.native arraycopyName ∈ TB ∧ Cond.static arraycopyName ∈ TB ∧ Cond.initialized "java/lang/System" ∈ TB)
    ∨ (e.2 = 1 ∧ Cond.methodLink C.1.1.cls e.1 Lib.Math.max.name ∈ TB ∧ Cond.static Lib.Math.max.name ∈ TB ∧ Cond.initialized "java/lang/Math" ∈ TB ∧ Cond.code Lib.Math.max.name Lib.Math.max.code 2 (some .int) ∈ TB)
    ∨ (e.2 = 2 ∧ Cond.methodLink C.1.1.cls e.1 Lib.Math.min.name ∈ TB ∧ Cond.static Lib.Math.min.name ∈ TB ∧ Cond.initialized "java/lang/Math" ∈ TB ∧ Cond.code Lib.Math.min.name Lib.Math.min.code 2 (some .int) ∈ TB)
    ∨ (e.2 = 3 ∧ Cond.methodLink C.1.1.cls e.1 Lib.Math.abs.name ∈ TB ∧ Cond.static Lib.Math.abs.name ∈ TB ∧ Cond.initialized "java/lang/Math" ∈ TB ∧ Cond.code Lib.Math.abs.name Lib.Math.abs.code 1 (some .int) ∈ TB)) ∧
  (∀ e ∈ C.2.2.2.2.2.2, ∃ host, Cond.fieldLinkNest C.1.1.cls e "ToothField" "LETTERS" "[I" host ∈ NWl)
/-! the abstract machine: one instruction, goal first -/
def pI (st : List V) (F : Int → List V → Prop) : Prop := match st with | .inl a :: t => F a t | _ => False
def pII (st : List V) (F : Int → Int → List V → Prop) : Prop := match st with | .inl b :: .inl a :: t => F a b t | _ => False
def pL (st : List V) (F : Int → List V → Prop) : Prop := match st with | .inr (.inl a) :: t => F a t | _ => False
def pLL (st : List V) (F : Int → Int → List V → Prop) : Prop := match st with | .inr (.inl b) :: .inr (.inl a) :: t => F a b t | _ => False
def pR (st : List V) (F : Nat → Nat → List V → Prop) : Prop := match st with | .inr (.inr (c, i)) :: t => F c i t | _ => False
def pIR (st : List V) (F : Int → Nat → Nat → List V → Prop) : Prop := match st with | .inl z :: .inr (.inr (c, i)) :: t => F z c i t | _ => False
def pIIR (st : List V) (F : Int → Int → Nat → Nat → List V → Prop) : Prop := match st with | .inl y :: .inl z :: .inr (.inr (c, i)) :: t => F y z c i t | _ => False
def pRR (st : List V) (F : Nat → Nat → Nat → Nat → List V → Prop) : Prop := match st with | .inr (.inr (c', i')) :: .inr (.inr (c, i)) :: t => F c' i' c i t | _ => False
def gI (lo : List (Option V)) (k : Nat) (F : Int → Prop) : Prop := match lo[k]? with | some (some (.inl z)) => F z | _ => False
def gL (lo : List (Option V)) (k : Nat) (F : Int → Prop) : Prop := match lo[k]? with | some (some (.inr (.inl z))) => F z | _ => False
def gR (lo : List (Option V)) (k : Nat) (F : Nat → Nat → Prop) : Prop := match lo[k]? with | some (some (.inr (.inr (c, i)))) => F c i | _ => False
def clr (lo : List (Option V)) (i : Nat) : List (Option V) := match i with
  | 0 => lo
  | i + 1 => match lo[i]? with | some (some (.inr (.inl _))) => lo.set i none | _ => lo
def sto1 (lo : List (Option V)) (i : Nat) (v : V) : List (Option V) := (clr lo i).set i (some v)
def sto2 (lo : List (Option V)) (i : Nat) (v : V) : List (Option V) := ((clr lo i).set i (some v)).set (i + 1) none
def tgt (pc : Nat) (off : Int) : Nat := ((pc : Int) + off).toNat
def fnd {α : Type} (l : List (Nat × α)) (k : Nat) : Option α := match l with
  | [] => none
  | q :: t => bif Nat.beq q.1 k then some q.2 else fnd t k
def isA (c : Nat) : Bool := Nat.ble 100 c || Nat.beq c 8
def cat (v : V) : Nat := match v with | .inr (.inl _) => 2 | _ => 1
def cats (st : List V) : Nat := match st with | [] => 0 | v :: t => cat v + cats t
def ia (a b : Int) : Int := (Int32.ofInt a &&& Int32.ofInt b).toInt
def io (a b : Int) : Int := (Int32.ofInt a ||| Int32.ofInt b).toInt
def ix (a b : Int) : Int := (Int32.ofInt a ^^^ Int32.ofInt b).toInt
def iu (a b : Int) : Int := (((Int32.ofInt a).toUInt32 >>> ((Int32.ofInt b).toUInt32 &&& Int32.toUInt32 31)).toInt32).toInt
def nb (a : Int) : Int := (a + 128) % 256 - 128
def ns (a : Int) : Int := (a + 32768) % 65536 - 32768
/-- System.arraycopy on one world -/
def cpy (h : Nat → Nat → Int) (i sp j dp n : Nat) : Nat → Nat → Int := fun q => if q = j then (fun k => if dp ≤ k ∧ k < dp + n then h i (sp + (k - dp)) else h j k) else h q
def popN : Nat → List V → Option (List V × List V)
  | 0, st => some ([], st)
  | n + 1, v :: st => match popN n st with | some (as, r) => some (as ++ [v], r) | none => none
  | _ + 1, [] => none
def swT (G : Nat → Prop) (pc : Nat) (x : Int) : Int → List Int → Prop
  | _, [] => True
  | k, o :: t => (x = k → G (tgt pc o)) ∧ swT G pc x (k + 1) t
def swL (G : Nat → Prop) (pc : Nat) (x : Int) (d : Int) : List (Int × Int) → Prop
  | [] => G (tgt pc d)
  | o :: t => (x = o.1 → G (tgt pc o.2)) ∧ (x ≠ o.1 → swL G pc x d t)
def ret1 (rt : Option FieldType) (z : Int) : Prop := match rt with
  | some .int => True
  | some .boolean => z = 0 ∨ z = 1
  | _ => False
def rcv (as : List V) (c : Nat) : Bool := bif Nat.beq c 100 then true else (match as with | .inr (.inr r) :: _ => Nat.beq r.1 c | _ => false)
def callX (w : WD) (C : CX) (pc : Nat) (lo : List (Option V)) (st : List V) (X : XS) (Q : Int → XS → Prop) (i : MI) (n : Nat) : Prop :=
  match popN n st with
  | some (as, r) => (bif Nat.blt i.2.2.2.2.1 C.1.2.2.2.2.1 && Nat.ble (cats r) 8 && rcv as i.2.2.2.2.2.2 then True else False) ∧ ∃ Qr : Int → XS → Prop, MS w i as X Qr ∧ ∀ z X', Qr z X' → Go w C (pc + 3) lo (match i.2.2.2.1 with | none => r | some .long => .inr (.inl z) :: r | some _ => .inl z :: r) X' Q
  | none => False
def ex1 (w : WD) (C : CX) (i : Instr) (n pc : Nat) (lo : List (Option V)) (st : List V) (X : XS) (Q : Int → XS → Prop) (K : List (Option V) → List V → XS → Prop) : Prop :=
  match i with
  | .iconst z => K lo (.inl z :: st) X
  | .bipush z => K lo (.inl z :: st) X
  | .sipush z => K lo (.inl z :: st) X
  | .lconst z => K lo (.inr (.inl (z.val : Int)) :: st) X
  | .ldc_w k => match fnd C.2.2.2.2.1 k with | some z => (Cond.constant C.1.1.cls k (Int32.ofInt z) ∈ TB ∧ inR z) ∧ K lo (.inl z :: st) X | none => False
  | .ldc2_w k => match fnd C.2.2.2.2.1 k with | some z => (Cond.constantLong C.1.1.cls k (Int64.ofInt z) ∈ TB ∧ inL z) ∧ K lo (.inr (.inl z) :: st) X | none => False
  | .iload k => gI lo k (fun z => K lo (.inl z :: st) X)
  | .iload_n k => gI lo k (fun z => K lo (.inl z :: st) X)
  | .lload k => gL lo k (fun z => K lo (.inr (.inl z) :: st) X)
  | .lload_n k => gL lo k (fun z => K lo (.inr (.inl z) :: st) X)
  | .aload k => gR lo k (fun c i => K lo (.inr (.inr (c, i)) :: st) X)
  | .aload_n k => gR lo k (fun c i => K lo (.inr (.inr (c, i)) :: st) X)
  | .istore k => pI st (fun z t => (bif Nat.blt k C.1.2.2.1 then K (sto1 lo k (.inl z)) t X else False))
  | .istore_n k => pI st (fun z t => (bif Nat.blt k C.1.2.2.1 then K (sto1 lo k (.inl z)) t X else False))
  | .lstore k => pL st (fun z t => (bif Nat.blt (k + 1) C.1.2.2.1 then K (sto2 lo k (.inr (.inl z))) t X else False))
  | .lstore_n k => pL st (fun z t => (bif Nat.blt (k + 1) C.1.2.2.1 then K (sto2 lo k (.inr (.inl z))) t X else False))
  | .astore k => pR st (fun c i t => (bif Nat.blt k C.1.2.2.1 then K (sto1 lo k (.inr (.inr (c, i)))) t X else False))
  | .astore_n k => pR st (fun c i t => (bif Nat.blt k C.1.2.2.1 then K (sto1 lo k (.inr (.inr (c, i)))) t X else False))
  | .iinc k d => gI lo k (fun z => (bif Nat.blt k C.1.2.2.1 then K (sto1 lo k (.inl (wr (z + d)))) st X else False))
  | .iadd => pII st (fun a b t => K lo (.inl (wr (a + b)) :: t) X)
  | .isub => pII st (fun a b t => K lo (.inl (wr (a - b)) :: t) X)
  | .imul => pII st (fun a b t => K lo (.inl (wr (a * b)) :: t) X)
  | .idiv => pII st (fun a b t => 0 ≤ a ∧ 0 < b ∧ K lo (.inl (a / b) :: t) X)
  | .irem => pII st (fun a b t => 0 ≤ a ∧ 0 < b ∧ K lo (.inl (a % b) :: t) X)
  | .ineg => pI st (fun a t => K lo (.inl (wr (-a)) :: t) X)
  | .iand => pII st (fun a b t => K lo (.inl (ia a b) :: t) X)
  | .ior => pII st (fun a b t => K lo (.inl (io a b) :: t) X)
  | .ixor => pII st (fun a b t => K lo (.inl (ix a b) :: t) X)
  | .ishl => pII st (fun a b t => 0 ≤ b ∧ b < 32 ∧ K lo (.inl (wr (a * 2 ^ b.toNat)) :: t) X)
  | .ishr => pII st (fun a b t => 0 ≤ b ∧ b < 32 ∧ K lo (.inl (a / 2 ^ b.toNat) :: t) X)
  | .iushr => pII st (fun a b t => K lo (.inl (iu a b) :: t) X)
  | .i2l => pI st (fun a t => K lo (.inr (.inl a) :: t) X)
  | .i2b => pI st (fun a t => K lo (.inl (nb a) :: t) X)
  | .i2s => pI st (fun a t => K lo (.inl (ns a) :: t) X)
  | .lcmp => pLL st (fun a b t => K lo (.inl (if a < b then -1 else if a = b then 0 else 1) :: t) X)
  | .ldiv => pLL st (fun a b t => 0 ≤ a ∧ 0 < b ∧ K lo (.inr (.inl (a / b)) :: t) X)
  | .lrem => pLL st (fun a b t => 0 ≤ a ∧ 0 < b ∧ K lo (.inr (.inl (a % b)) :: t) X)
  | .lshl => match st with | .inl b :: .inr (.inl a) :: t => 0 ≤ b ∧ b < 31 ∧ a = 1 ∧ K lo (.inr (.inl (2 ^ b.toNat)) :: t) X | _ => False
  | .dup => match st with | v :: t => (bif Nat.beq (cat v) 1 then K lo (v :: v :: t) X else False) | _ => False
  | .dup2 => match st with | v :: u :: t => (bif Nat.beq (cat v) 1 && Nat.beq (cat u) 1 then K lo (v :: u :: v :: u :: t) X else False) | _ => False
  | .pop => match st with | v :: t => (bif Nat.beq (cat v) 1 then K lo t X else False) | _ => False
  | .getfield k => match fnd C.2.2.1 k with
    | some (c, f) => pR st (fun c' i t => bif Nat.beq c' c then (match ft c f with
      | (2, off, tc) => K lo (.inr (.inr (tc, i + off)) :: t) X
      | (4, a, tc) => K lo (.inr (.inr (tc, a)) :: t) X
      | (3, j, tc) => X.2 j ≠ 0 ∧ K lo (.inr (.inr (tc, X.2 j)) :: t) X
      | (0, _, _) => K lo (.inl (X.1 i f) :: t) X
      | (1, _, _) => K lo (.inl (X.1 i f) :: t) X
      | _ => False) else False)
    | none => False
  | .putfield k => match fnd C.2.2.1 k with
    | some (c, f) => (match ft c f with
      | (0, _, _) => pIR st (fun z c' i t => bif Nat.beq c' c then K lo t (up X.1 i f z, X.2) else False)
      | (1, _, _) => pIR st (fun z c' i t => bif Nat.beq c' c then (z = 0 ∨ z = 1) ∧ K lo t (up X.1 i f z, X.2) else False)
      | (3, j, tc) => pRR st (fun c2 i2 c' _ t => bif Nat.beq c' c && Nat.beq c2 tc then K lo t (X.1, upr X.2 j i2) else False)
      | _ => False)
    | none => False
  | .iaload => pIR st (fun z c i t => bif isA c then (0 ≤ z ∧ z < (ln c i : Int) ∧ K lo (.inl (X.1 i z.toNat) :: t) X) else (bif Nat.beq c 70 then (0 ≤ z ∧ z < 3 ∧ K lo (.inl (if z = 0 then 109 else if z = 1 then 108 else 97) :: t) X) else False))
  | .baload => pIR st (fun z c i t => bif Nat.beq c 9 then (0 ≤ z ∧ z < (len i : Int) ∧ K lo (.inl (X.1 i z.toNat) :: t) X) else False)
  | .iastore => pIIR st (fun y z c i t => bif isA c then (0 ≤ z ∧ z < (ln c i : Int) ∧ K lo t (up X.1 i z.toNat y, X.2)) else False)
  | .bastore => pIIR st (fun y z c i t => bif Nat.beq c 9 then (0 ≤ z ∧ z < (len i : Int) ∧ (y = 0 ∨ y = 1) ∧ K lo t (up X.1 i z.toNat y, X.2)) else False)
  | .aaload => pIR st (fun z c i t => bif Nat.beq c 10 && Nat.beq i 2 then (0 ≤ z ∧ z < 4 ∧ K lo (.inr (.inr (3, 3 + 2 * z.toNat)) :: t) X) else False)
  | .arraylength => pR st (fun c i t => bif isA c then K lo (.inl (ln c i : Int) :: t) X else False)
  | .goto off => Go w C (tgt pc off) lo st X Q
  | .ifCond .eq off => pI st (fun a t => (a = 0 → Go w C (tgt pc off) lo t X Q) ∧ (a ≠ 0 → K lo t X))
  | .ifCond .ne off => pI st (fun a t => (a ≠ 0 → Go w C (tgt pc off) lo t X Q) ∧ (a = 0 → K lo t X))
  | .ifCond .lt off => pI st (fun a t => (a < 0 → Go w C (tgt pc off) lo t X Q) ∧ (0 ≤ a → K lo t X))
  | .ifCond .ge off => pI st (fun a t => (0 ≤ a → Go w C (tgt pc off) lo t X Q) ∧ (a < 0 → K lo t X))
  | .ifCond .gt off => pI st (fun a t => (0 < a → Go w C (tgt pc off) lo t X Q) ∧ (a ≤ 0 → K lo t X))
  | .ifCond .le off => pI st (fun a t => (a ≤ 0 → Go w C (tgt pc off) lo t X Q) ∧ (0 < a → K lo t X))
  | .if_icmp .eq off => pII st (fun a b t => (a = b → Go w C (tgt pc off) lo t X Q) ∧ (a ≠ b → K lo t X))
  | .if_icmp .ne off => pII st (fun a b t => (a ≠ b → Go w C (tgt pc off) lo t X Q) ∧ (a = b → K lo t X))
  | .if_icmp .lt off => pII st (fun a b t => (a < b → Go w C (tgt pc off) lo t X Q) ∧ (b ≤ a → K lo t X))
  | .if_icmp .ge off => pII st (fun a b t => (b ≤ a → Go w C (tgt pc off) lo t X Q) ∧ (a < b → K lo t X))
  | .if_icmp .gt off => pII st (fun a b t => (b < a → Go w C (tgt pc off) lo t X Q) ∧ (a ≤ b → K lo t X))
  | .if_icmp .le off => pII st (fun a b t => (a ≤ b → Go w C (tgt pc off) lo t X Q) ∧ (b < a → K lo t X))
  | .ifnonnull off => pR st (fun _ _ t => Go w C (tgt pc off) lo t X Q)
  | .tableswitch d lo' hi offs => pI st (fun x t => swT (fun q => Go w C q lo t X Q) pc x lo' offs.toList ∧ ((x < lo' ∨ hi < x) → Go w C (tgt pc d) lo t X Q))
  | .lookupswitch d ps => pI st (fun x t => swL (fun q => Go w C q lo t X Q) pc x d ps.toList)
  | .getstatic k => bif C.2.2.2.2.2.2.contains k then K lo (.inr (.inr (70, 0)) :: st) X else False
  | .invokevirtual k => match fnd C.2.2.2.1 k with
    | some i => bif Nat.beq i.2.2.2.2.2.2 100 then False else callX w C pc lo st X Q i (i.2.2.2.2.2.1 + 1)
    | none => False
  | .invokestatic k => match fnd C.2.2.2.2.2.1 k with
    | some 0 => (match st with
      | .inl n :: .inl dp :: .inr (.inr (c2, i2)) :: .inl sp :: .inr (.inr (c1, i1)) :: t => (bif isA c1 && isA c2 && Nat.ble (cats t) 8 && Nat.ble 1 C.1.2.2.2.2.1 then True else False) ∧ 0 ≤ sp ∧ 0 ≤ dp ∧ 0 ≤ n ∧ sp + n ≤ (ln c1 i1 : Int) ∧ dp + n ≤ (ln c2 i2 : Int) ∧ K lo t (cpy X.1 i1 sp.toNat i2 dp.toNat n.toNat, X.2)
      | _ => False)
    | some 1 => pII st (fun a b t => bif Nat.ble (cats t) 8 && Nat.ble 1 C.1.2.2.2.2.1 then K lo (.inl (max a b) :: t) X else False)
    | some 2 => pII st (fun a b t => bif Nat.ble (cats t) 8 && Nat.ble 1 C.1.2.2.2.2.1 then K lo (.inl (min a b) :: t) X else False)
    | some 3 => pI st (fun a t => bif Nat.ble (cats t) 8 && Nat.ble 1 C.1.2.2.2.2.1 then K lo (.inl (if 0 ≤ a then a else wr (0 - a)) :: t) X else False)
    | some _ => False
    | none => (match fnd C.2.2.2.1 k with
      | some i => bif Nat.beq i.2.2.2.2.2.2 100 then callX w C pc lo st X Q i i.2.2.2.2.2.1 else False
      | none => False)
  | .ireturn => match st with | [.inl z] => ret1 C.1.2.2.2.1 z ∧ Q z X | _ => False
  | .lreturn => match st with | [.inr (.inl z)] => (match C.1.2.2.2.1 with | some .long => Q z X | _ => False) | _ => False
  | .return_ => match st with | [] => (match C.1.2.2.2.1 with | none => Q 0 X | _ => False) | _ => False
  | _ => False
def ex (w : WD) (C : CX) : List (Instr × Nat) → Nat → List (Option V) → List V → XS → (Int → XS → Prop) → Prop
  | [], pc, lo, st, X, Q => Go w C pc lo st X Q
  | q :: t, pc, lo, st, X, Q => ex1 w C q.1 q.2 pc lo st X Q (fun lo' st' X' => ex w C t (pc + q.2) lo' st' X' Q)
def suf : Nat → List (Instr × Nat) → List (Instr × Nat)
  | _, [] => []
  | pc, q :: t => bif Nat.beq pc 0 then q :: t else (bif Nat.ble q.2 pc then suf (pc - q.2) t else [])
