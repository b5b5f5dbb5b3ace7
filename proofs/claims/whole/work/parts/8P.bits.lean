/-! PURE: bits, and how many there are -/
theorem smod31F : ∀ n : Fin 31, ((nI n.val &&& 31).toBitVec.smod 32).toNat = n.val := by decide +kernel
theorem shl31F : ∀ n : Fin 31, (1 : Int32) <<< (nI n.val &&& 31) = nI (2 ^ n.val) := by decide +kernel
theorem shl_nI {i : Nat} (hi : i < 31) : (1 : Int32) <<< (nI i &&& 31) = nI (2 ^ i) := shl31F ⟨i, hi⟩
theorem shr_bt {b i : Nat} (hb : b < 2 ^ 31) (hi : i < 31) : (nI b >>> (nI i &&& 31)) &&& 1 = bI (b.testBit i) := by
  have h3 : b / 2 ^ i ≤ b := Nat.div_le_self _ _
  rw [pk_shrN hb _ i (smod31F ⟨i, hi⟩), pk_andN (by omega) 1 rfl, Nat.pow_one, ← Nat.toNat_testBit]
  cases b.testBit i <;> rfl
theorem or_nI {a b : Nat} (ha : a < 2 ^ 31) (hb : b < 2 ^ 31) : nI a ||| nI b = nI (a ||| b) := by
  have h : a ||| b < 2 ^ 31 := Nat.or_lt_two_pow ha hb
  apply Int32.toBitVec_inj.mp
  apply BitVec.eq_of_toNat_eq
  rw [Int32.toBitVec_or, BitVec.toNat_or, pk_tn (by omega), pk_tn (by omega), pk_tn (by omega)]
theorem and_nI {a b : Nat} (ha : a < 2 ^ 31) (hb : b < 2 ^ 31) : nI a &&& nI b = nI (a &&& b) := by
  have h : a &&& b ≤ a := Nat.and_le_left
  apply Int32.toBitVec_inj.mp
  apply BitVec.eq_of_toNat_eq
  rw [Int32.toBitVec_and, BitVec.toNat_and, pk_tn (by omega), pk_tn (by omega), pk_tn (by omega)]
def bc3 (v : Nat) : Nat := (v &&& 858993459) + (v / 4 &&& 858993459)
def bc5 (v : Nat) : Nat := (v + v / 16) &&& 252645135
def bc7 (v : Nat) : Nat := v + v / 256
def bc9 (v : Nat) : Nat := (v + v / 65536) &&& 63
def bc1 (b : Nat) : Nat := b - (b / 2 &&& 1431655765)
def bcN (b : Nat) : Nat := bc9 (bc7 (bc5 (bc3 (bc1 b))))
set_option maxRecDepth 100000 in
theorem bc_F : ∀ i, i < 256 → ∀ j, j < 256 → Nat.beq (bcN (256 * i + j)) (bcN ((256 * i + j) / 2) + (256 * i + j) % 2) = true := by decide +kernel
