/-! ===== numbers of 32 and 64 bits as integers ===== -/
theorem oi_t {z : Int} (h : inR z) : (Int32.ofInt z).toInt = z := Int32.toInt_ofInt_of_le h.1 h.2
theorem oi_tL {z : Int} (h : inL z) : (Int64.ofInt z).toInt = z := Int64.toInt_ofInt_of_le h.1 h.2
theorem oi_eq {x : Int32} {z : Int} (h : x.toInt = z) : x = Int32.ofInt z := by subst h; exact (Int32.ofInt_toInt x).symm
theorem oi_eqL {x : Int64} {z : Int} (h : x.toInt = z) : x = Int64.ofInt z := by subst h; exact (Int64.ofInt_toInt x).symm
theorem oi_inR (x : Int32) : inR x.toInt := ⟨Int32.le_toInt x, Int32.toInt_lt x⟩
theorem oi_inL (x : Int64) : inL x.toInt := ⟨Int64.le_toInt x, Int64.toInt_lt x⟩
theorem oi_wr (z : Int) : Int32.ofInt (wr z) = Int32.ofInt z := by
  apply Int32.toInt_inj.mp
  rw [Int32.toInt_ofInt, Int32.toInt_ofInt]
  unfold wr
  simp only [Int.bmod, Int32.size]
  omega
theorem oi_add (a b : Int) : Int32.ofInt a + Int32.ofInt b = Int32.ofInt (wr (a + b)) := by rw [oi_wr, Int32.ofInt_add]
theorem oi_sub (a b : Int) : Int32.ofInt a - Int32.ofInt b = Int32.ofInt (wr (a - b)) := by rw [oi_wr, Int32.ofInt_sub]
theorem oi_mul (a b : Int) : Int32.ofInt a * Int32.ofInt b = Int32.ofInt (wr (a * b)) := by rw [oi_wr, Int32.ofInt_mul]
theorem oi_neg (a : Int) : -Int32.ofInt a = Int32.ofInt (wr (-a)) := by rw [oi_wr, Int32.ofInt_neg]
theorem oi_nat (n : Nat) : Int32.ofInt (n : Int) = nI n := by unfold nI; exact Int32.ofInt_eq_ofNat
theorem oi_natL (n : Nat) : Int64.ofInt (n : Int) = lN n := by unfold lN; exact Int64.ofInt_eq_ofNat
theorem oi_div {a b : Int} (ha : inR a) (hb : inR b) (h0 : 0 ≤ a) (h1 : 0 < b) : Int32.ofInt a / Int32.ofInt b = Int32.ofInt (a / b) ∧ Int32.ofInt a - Int32.ofInt a / Int32.ofInt b * Int32.ofInt b = Int32.ofInt (a % b) := by
  obtain ⟨x, rfl⟩ := Int.eq_ofNat_of_zero_le h0
  obtain ⟨y, rfl⟩ := Int.eq_ofNat_of_zero_le (Int.le_of_lt h1)
  obtain ⟨_, ha⟩ := ha
  obtain ⟨_, hb⟩ := hb
  rw [oi_nat, oi_nat, pk_rem (by omega) (by omega) (by omega), pk_div (by omega) (by omega) (by omega), ← Int.natCast_ediv, ← Int.natCast_emod, oi_nat, oi_nat]
  exact ⟨rfl, rfl⟩
theorem oi_divL {a b : Int} (ha : inL a) (hb : inL b) (h0 : 0 ≤ a) (h1 : 0 < b) : Int64.ofInt a / Int64.ofInt b = Int64.ofInt (a / b) ∧ Int64.ofInt a - Int64.ofInt a / Int64.ofInt b * Int64.ofInt b = Int64.ofInt (a % b) := by
  obtain ⟨x, rfl⟩ := Int.eq_ofNat_of_zero_le h0
  obtain ⟨y, rfl⟩ := Int.eq_ofNat_of_zero_le (Int.le_of_lt h1)
  obtain ⟨_, ha⟩ := ha
  obtain ⟨_, hb⟩ := hb
  rw [oi_natL, oi_natL, pk_lRem (by omega) (by omega) (by omega), pk_lDiv (by omega) (by omega) (by omega), ← Int.natCast_ediv, ← Int.natCast_emod, oi_natL, oi_natL]
  exact ⟨rfl, rfl⟩
theorem oi_31 : ∀ k : Nat, k < 32 → ((Int32.ofInt (k : Int) &&& 31).toBitVec.smod 32).toNat = k := by decide +kernel
theorem oi_shl {a b : Int} (h0 : 0 ≤ b) (h1 : b < 32) : Int32.ofInt a <<< (Int32.ofInt b &&& 31) = Int32.ofInt (wr (a * 2 ^ b.toNat)) := by
  obtain ⟨k, rfl⟩ := Int.eq_ofNat_of_zero_le h0
  have e := pk_shl (Int32.ofInt a) (Int32.ofInt (k : Int) &&& 31) k (oi_31 k (by omega))
  have e2 : (Int32.ofInt (wr (a * 2 ^ k))) = Int32.ofInt a * Int32.ofInt (2 ^ k) := by rw [oi_mul]
  rw [Int.toNat_natCast, e2]
  apply Int32.toBitVec_inj.mp
  apply BitVec.eq_of_toNat_eq
  rw [e, Int32.toBitVec_mul, BitVec.toNat_mul]
  have e3 : (Int32.ofInt ((2 : Int) ^ k)).toBitVec.toNat = 2 ^ k := by
    have h2 : k < 32 := by omega
    have : ∀ k : Nat, k < 32 → (Int32.ofInt ((2 : Int) ^ k)).toBitVec.toNat = 2 ^ k := by decide +kernel
    exact this k h2
  rw [e3]
theorem oi_shr {a b : Int} (ha : inR a) (h0 : 0 ≤ b) (h1 : b < 32) : Int32.ofInt a >>> (Int32.ofInt b &&& 31) = Int32.ofInt (a / 2 ^ b.toNat) ∧ inR (a / 2 ^ b.toNat) := by
  obtain ⟨k, rfl⟩ := Int.eq_ofNat_of_zero_le h0
  have e := pk_shr (Int32.ofInt a) (Int32.ofInt (k : Int) &&& 31) k (oi_31 k (by omega))
  rw [oi_t ha, Int.shiftRight_eq_div_pow] at e
  have e2 : (((2 : Nat) ^ k : Nat) : Int) = (2 : Int) ^ k := by simp
  rw [e2] at e
  rw [Int.toNat_natCast]
  exact ⟨oi_eq e, e ▸ oi_inR _⟩
theorem oi_i2l {a : Int} (ha : inR a) : (Int32.ofInt a).toInt64 = Int64.ofInt a := oi_eqL (by rw [Int32.toInt_toInt64, oi_t ha])
theorem oi_i2b (a : Int) : (Int32.ofInt a).toInt8.toInt32 = Int32.ofInt (nb a) := by
  apply oi_eq
  rw [Int8.toInt_toInt32, Int32.toInt_toInt8, Int32.toInt_ofInt]
  unfold nb
  simp only [Int.bmod, Int32.size]
  omega
theorem oi_i2s (a : Int) : (Int32.ofInt a).toInt16.toInt32 = Int32.ofInt (ns a) := by
  apply oi_eq
  rw [Int16.toInt_toInt32, Int32.toInt_toInt16, Int32.toInt_ofInt]
  unfold ns
  simp only [Int.bmod, Int32.size]
  omega
theorem oi_lt {a b : Int} (ha : inR a) (hb : inR b) : Int32.ofInt a < Int32.ofInt b ↔ a < b := by rw [Int32.lt_iff_toInt_lt, oi_t ha, oi_t hb]
theorem oi_le {a b : Int} (ha : inR a) (hb : inR b) : Int32.ofInt a ≤ Int32.ofInt b ↔ a ≤ b := by rw [Int32.le_iff_toInt_le, oi_t ha, oi_t hb]
theorem oi_e {a b : Int} (ha : inR a) (hb : inR b) : Int32.ofInt a = Int32.ofInt b ↔ a = b := by rw [← Int32.toInt_inj, oi_t ha, oi_t hb]
theorem oi_0 : inR 0 := by decide
theorem oi_cmp {a b : Int} (ha : inL a) (hb : inL b) : lg_cmp (Int64.ofInt a) (Int64.ofInt b) = Int32.ofInt (if a < b then -1 else if a = b then 0 else 1) := by
  have h1 : Int64.ofInt a < Int64.ofInt b ↔ a < b := by rw [Int64.lt_iff_toInt_lt, oi_tL ha, oi_tL hb]
  have h2 : Int64.ofInt a = Int64.ofInt b ↔ a = b := by rw [← Int64.toInt_inj, oi_tL ha, oi_tL hb]
  unfold lg_cmp
  have h3 : Int64.ofInt a > Int64.ofInt b ↔ b < a := by rw [gt_iff_lt, Int64.lt_iff_toInt_lt, oi_tL ha, oi_tL hb]
  simp only [h3, h2]
  split
  · rename_i h
    rw [if_neg (by omega), if_neg (by omega)]; rfl
  · split
    · rename_i h h'
      rw [if_neg (by omega)]; rfl
    · rename_i h h'
      rw [if_pos (by omega)]; rfl
theorem oi_lshl {b : Int} (h0 : 0 ≤ b) (h1 : b < 31) : Int64.ofInt 1 <<< ((Int32.ofInt b).toInt64 &&& 63) = Int64.ofInt (2 ^ b.toNat) := by
  obtain ⟨k, rfl⟩ := Int.eq_ofNat_of_zero_le h0
  have : ∀ k : Nat, k < 31 → Int64.ofInt 1 <<< ((Int32.ofInt (k : Int)).toInt64 &&& 63) = Int64.ofInt (2 ^ k) := by decide +kernel
  rw [Int.toNat_natCast]
  exact this k (by omega)
theorem oi_cn {z : Int} (h : inR z) (h0 : 0 ≤ z) : (Int32.ofInt z).toNatClampNeg = z.toNat := by
  obtain ⟨k, rfl⟩ := Int.eq_ofNat_of_zero_le h0
  rw [oi_nat, nI_clamp (by unfold inR at h; omega)]; rfl
theorem oi_vin {z : Int} {n : Nat} (h : inR z) (h0 : 0 ≤ z) (h1 : z < (n : Int)) : vp_in (Int32.ofInt z) n := vp_in_iff.mpr (by rw [oi_t h]; exact ⟨h0, h1⟩)
theorem ia_in (a b : Int) : inR (ia a b) := oi_inR _
theorem io_in (a b : Int) : inR (io a b) := oi_inR _
theorem ix_in (a b : Int) : inR (ix a b) := oi_inR _
theorem iu_in (a b : Int) : inR (iu a b) := oi_inR _
theorem oi_ia (a b : Int) : Int32.ofInt a &&& Int32.ofInt b = Int32.ofInt (ia a b) := oi_eq rfl
theorem oi_io (a b : Int) : Int32.ofInt a ||| Int32.ofInt b = Int32.ofInt (io a b) := oi_eq rfl
theorem oi_ix (a b : Int) : Int32.ofInt a ^^^ Int32.ofInt b = Int32.ofInt (ix a b) := oi_eq rfl
theorem oi_iu (a b : Int) : ((Int32.ofInt a).toUInt32 >>> ((Int32.ofInt b).toUInt32 &&& Int32.toUInt32 31)).toInt32 = Int32.ofInt (iu a b) := oi_eq rfl
theorem nb_in (a : Int) : inR (nb a) := by unfold inR nb; omega
theorem ns_in (a : Int) : inR (ns a) := by unfold inR ns; omega
