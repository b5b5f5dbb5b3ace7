/-! PURE: the number of bits -/
def xb1 (x : Int32) : Int32 := x - ((x.toUInt32 >>> ((1 : Int32).toUInt32 &&& Int32.toUInt32 31)).toInt32 &&& (1431655765 : Int32))
def xb3 (x : Int32) : Int32 := (x &&& (858993459 : Int32)) + ((x.toUInt32 >>> ((2 : Int32).toUInt32 &&& Int32.toUInt32 31)).toInt32 &&& (858993459 : Int32))
def xb5 (x : Int32) : Int32 := (x + (x.toUInt32 >>> ((4 : Int32).toUInt32 &&& Int32.toUInt32 31)).toInt32) &&& (252645135 : Int32)
def xb7 (x : Int32) : Int32 := x + (x.toUInt32 >>> ((8 : Int32).toUInt32 &&& Int32.toUInt32 31)).toInt32
def xb9 (x : Int32) : Int32 := (x + (x.toUInt32 >>> ((16 : Int32).toUInt32 &&& Int32.toUInt32 31)).toInt32) &&& (63 : Int32)
theorem xb_e (x : Int32) : fJ6_bitCount_0f7a4 x = xb9 (xb7 (xb5 (xb3 (xb1 x)))) := rfl
theorem xb1_e {b : Nat} (hb : b < 2 ^ 29) : xb1 (nI b) = nI (bc1 b) := by
  have a1 : b / 2 &&& 1431655765 ≤ b / 2 := Nat.and_le_left
  unfold xb1
  rw [pk_ushrN (by omega) 1 1 (by decide), Nat.pow_one, show (1431655765 : Int32) = nI 1431655765 from rfl, and_nI (by omega) (by decide), pk_sub (by omega)]
  rfl
theorem xb3_e {v : Nat} (hb : v < 2 ^ 29) : xb3 (nI v) = nI (bc3 v) := by
  unfold xb3
  rw [pk_ushrN (by omega) 2 2 (by decide), show (858993459 : Int32) = nI 858993459 from rfl, and_nI (by omega) (by decide), and_nI (by omega) (by decide), nI_add]
  rfl
theorem xb5_e {v : Nat} (hb : v < 2 ^ 29) : xb5 (nI v) = nI (bc5 v) := by
  unfold xb5
  rw [pk_ushrN (by omega) 4 4 (by decide), nI_add, show (252645135 : Int32) = nI 252645135 from rfl, and_nI (by omega) (by decide)]
  rfl
theorem xb7_e {v : Nat} (hb : v < 2 ^ 29) : xb7 (nI v) = nI (bc7 v) := by
  unfold xb7
  rw [pk_ushrN (by omega) 8 8 (by decide), nI_add]
  rfl
theorem xb9_e {v : Nat} (hb : v < 2 ^ 29) : xb9 (nI v) = nI (bc9 v) := by
  unfold xb9
  rw [pk_ushrN (by omega) 16 16 (by decide), nI_add, show (63 : Int32) = nI 63 from rfl, and_nI (by omega) (by decide)]
  rfl
theorem bc_x {b : Nat} (hb : b < 65536) : fJ6_bitCount_0f7a4 (nI b) = nI (bcN b) := by
  have b1 : bc1 b ≤ b := by unfold bc1; omega
  have b2 : bc3 (bc1 b) ≤ 2 * b := by
    have a2 : bc1 b &&& 858993459 ≤ bc1 b := Nat.and_le_left
    have a3 : bc1 b / 4 &&& 858993459 ≤ bc1 b / 4 := Nat.and_le_left
    unfold bc3; omega
  have b3 : bc5 (bc3 (bc1 b)) ≤ 4 * b := by
    have a4 : (bc3 (bc1 b) + bc3 (bc1 b) / 16) &&& 252645135 ≤ bc3 (bc1 b) + bc3 (bc1 b) / 16 := Nat.and_le_left
    unfold bc5; omega
  have b4 : bc7 (bc5 (bc3 (bc1 b))) ≤ 8 * b := by unfold bc7; omega
  rw [xb_e, xb1_e (by omega), xb3_e (by omega), xb5_e (by omega), xb7_e (by omega), xb9_e (by omega)]
  rfl
theorem cntB_sh {P : Nat → Bool} : ∀ n, cntB P (n + 1) = (if P 0 then 1 else 0) + cntB (fun j => P (j + 1)) n
  | 0 => Nat.zero_add _
  | n + 1 => by
    have h := cntB_sh (P := P) n
    rw [show cntB P (n + 1 + 1) = cntB P (n + 1) + (if P (n + 1) then 1 else 0) from rfl, h, show cntB (fun j => P (j + 1)) (n + 1) = cntB (fun j => P (j + 1)) n + (if P (n + 1) then 1 else 0) from rfl]
    omega
theorem bc_pc : ∀ n b, n ≤ 16 → b < 2 ^ n → bcN b = cntB (fun j => b.testBit j) n
  | 0, b, _, hb => by
    have : b = 0 := by omega
    subst this
    rfl
  | n + 1, b, hn, hb => by
    have h16 : 2 ^ (n + 1) ≤ 2 ^ 16 := Nat.pow_le_pow_right (by decide) hn
    have h1 := bc_F (b / 256) (by omega) (b % 256) (by omega)
    rw [show 256 * (b / 256) + b % 256 = b by omega] at h1
    have h1 := Nat.eq_of_beq_eq_true h1
    rw [Nat.pow_succ] at hb
    have h2 := bc_pc n (b / 2) (by omega) (by omega)
    rw [h1, h2, cntB_sh, Nat.add_comm]
    have e0 : (if b.testBit 0 = true then 1 else 0) = b % 2 := by
      have := Nat.toNat_testBit b 0
      rw [Nat.pow_zero, Nat.div_one] at this
      rw [← this]
      cases b.testBit 0 <;> rfl
    rw [e0]
    have e1 : (fun j => b.testBit (j + 1)) = fun j => (b / 2).testBit j := by funext j; exact Nat.testBit_succ b j
    rw [e1]
